/-! ===== the RUNS and the statements that set a NAME: the model ===== -/
/-- how many nodes of RULE 2 -/
def cn2 (N : Nat → Nd) : List Fl → Nat
  | [] => 0
  | x :: L => (if ndR (N x.1) = 2 then 1 else 0) + cn2 N L
/-- their list -/
def st2 (N : Nat → Nd) : List Fl → List Nat
  | [] => []
  | x :: L => if ndR (N x.1) = 2 then x.1 :: st2 N L else st2 N L
theorem st2_len {N : Nat → Nd} : ∀ {L : List Fl}, (st2 N L).length = cn2 N L
  | [] => rfl
  | x :: L => by
    show (if ndR (N x.1) = 2 then x.1 :: st2 N L else st2 N L).length = (if ndR (N x.1) = 2 then 1 else 0) + cn2 N L
    by_cases u : ndR (N x.1) = 2
    · rw [if_pos u, if_pos u, List.length_cons, st2_len, Nat.add_comm]
    · rw [if_neg u, if_neg u, st2_len, Nat.zero_add]
theorem st2_mem {N : Nat → Nd} : ∀ {L : List Fl} {c : Nat}, c ∈ st2 N L → ∃ x ∈ L, x.1 = c ∧ ndR (N c) = 2
  | [], _, h => by cases h
  | x :: L, c, h => by
    have h' : c ∈ (if ndR (N x.1) = 2 then x.1 :: st2 N L else st2 N L) := h
    by_cases u : ndR (N x.1) = 2
    · rw [if_pos u] at h'
      rcases List.mem_cons.mp h' with rfl | h'
      · exact ⟨x, List.mem_cons_self .., rfl, u⟩
      · obtain ⟨y, y1, y2⟩ := st2_mem h'
        exact ⟨y, List.mem_cons_of_mem _ y1, y2⟩
    · rw [if_neg u] at h'
      obtain ⟨y, y1, y2⟩ := st2_mem h'
      exact ⟨y, List.mem_cons_of_mem _ y1, y2⟩
/-- TOKENS, but none of a token itself -/
def wt2 (N : Nat → Nd) (c : Nat) : Nat := if ndR (N c) < 0 then 0 else ndT (N c)
def wtW (N : Nat → Nd) (w : List (Nat × Nat × Nat)) : Nat := (w.map (fun x => wt2 N x.1)).sum
theorem wtW_cons {N : Nat → Nd} {x : Nat × Nat × Nat} {w : List (Nat × Nat × Nat)} : wtW N (x :: w) = wt2 N x.1 + wtW N w := by
  unfold wtW
  rw [List.map_cons, List.sum_cons]
theorem wtW_ch {N : Nat → Nd} {p d : Nat} {w : List (Nat × Nat × Nat)} : ∀ {l : List Nat}, wtW N (l.map (fun c => (c, p, d)) ++ w) = (l.map (wt2 N)).sum + wtW N w
  | [] => (Nat.zero_add _).symm
  | c :: l => by
    rw [List.map_cons, List.cons_append, wtW_cons, wtW_ch, List.map_cons, List.sum_cons, Nat.add_assoc]
theorem wt2_le {N : Nat → Nd} {c : Nat} : wt2 N c ≤ ndT (N c) := by
  unfold wt2
  split <;> omega
theorem wt2_sum {N : Nat → Nd} : ∀ {l : List Nat}, (l.map (wt2 N)).sum ≤ tkS N l
  | [] => Nat.le_refl _
  | c :: l => by
    rw [List.map_cons, List.sum_cons, tkS_cons]
    have := wt2_le (N := N) (c := c)
    have := wt2_sum (N := N) (l := l)
    omega
/-- one of the CHILDREN of a node of RULE 2 is a token -/
theorem wt2_two {m c : Nat} {N : Nat → Nd} (h : NdOk m N) (hc : c < m) (h2 : ndR (N c) = 2) : ((ndC (N c)).map (wt2 N)).sum + 1 ≤ ndT (N c) := by
  rcases h c hc with ⟨e1, -⟩ | ⟨r, s, hr, -, e3, -, -, e6, e7, e8⟩
  · omega
  · have hr2 : r = 2 := by omega
    subst hr2
    have e6' : (ndC (N c)).map (fun c => ndM (N c)) = [5, 7, 2, 8] := e6.trans (by decide +kernel)
    cases hl : ndC (N c) with
    | nil =>
      rw [hl] at e6'
      cases e6'
    | cons z l =>
      rw [hl] at e6' e8
      have hz : ndM (N z) = 5 := (List.cons.inj e6').1
      have hzc : z < c := e7 z (by rw [hl]; exact List.mem_cons_self ..)
      have hzt : ndR (N z) < 0 ∧ ndT (N z) = 1 := by
        rcases h z (by omega) with ⟨f1, -, -, f4, -⟩ | ⟨r', s', f1, -, f3, -⟩
        · exact ⟨by omega, f4⟩
        · have : ndM (N z) = syN r' := by
            unfold ndM
            rw [f3, if_neg (by omega)]
            rfl
          have h5 := (sy_fin r' f1).2
          change syN r' < 5 at h5
          omega
      rw [e8, tkS_cons, List.map_cons, List.sum_cons]
      have hw : wt2 N z = 0 := if_pos hzt.1
      have := wt2_sum (N := N) (l := l)
      omega
theorem cn2_le {m : Nat} {N : Nat → Nd} {F : List Fl} (h : NdOk m N) : ∀ (d p t : Nat) (w : List (Nat × Nat × Nat)), F.length ≤ p + d → (∀ y ∈ w, y.1 < m) → F.drop p = flS N w p t → cn2 N (F.drop p) ≤ wtW N w
  | 0, p, t, w, hd, _, _ => by
    rw [List.drop_of_length_le (by omega)]
    exact Nat.zero_le _
  | d + 1, p, t, w, hd, hw, hdr => by
    by_cases hp : F.length ≤ p
    · rw [List.drop_of_length_le hp]
      exact Nat.zero_le _
    · have hx : F[p]? = some (F[p]'(by omega)) := List.getElem?_eq_getElem (by omega)
      obtain ⟨c, q, dd, w', rfl, hc, hxe, h1, h2⟩ := flS_hd h hw hdr hx
      have i1 := cn2_le h d (p + 1) _ _ (by omega) (fun y hy => by
        rcases List.mem_append.mp hy with hy | hy
        · obtain ⟨z, hz, rfl⟩ := List.mem_map.mp hy
          have := h.lt hc hz
          show z < m
          omega
        · exact hw y (List.mem_cons_of_mem _ hy)) h1
      rw [wtW_ch] at i1
      rw [List.drop_eq_getElem_cons (by omega), hxe, wtW_cons]
      show (if ndR (N c) = 2 then 1 else 0) + cn2 N (F.drop (p + 1)) ≤ wt2 N c + wtW N w'
      by_cases u : ndR (N c) = 2
      · rw [if_pos u]
        have i2 := wt2_two h hc u
        have i3 : wt2 N c = ndT (N c) := if_neg (by omega)
        omega
      · rw [if_neg u]
        rcases h c hc with ⟨e1, e2, -⟩ | ⟨r, s, -, -, e3, -, -, -, -, e8⟩
        · rw [e2] at i1
          change _ ≤ 0 + wtW N w' at i1
          omega
        · have i3 : wt2 N c = ndT (N c) := if_neg (by omega)
          have := wt2_sum (N := N) (l := ndC (N c))
          omega
def setsOf (N : Nat → Nd) (R : Nat) : List Nat := st2 N (flR N R)
theorem st2_app {N : Nat → Nd} : ∀ {L M : List Fl}, st2 N (L ++ M) = st2 N L ++ st2 N M
  | [], _ => rfl
  | x :: L, M => by
    show (if ndR (N x.1) = 2 then x.1 :: st2 N (L ++ M) else st2 N (L ++ M)) = (if ndR (N x.1) = 2 then x.1 :: st2 N L else st2 N L) ++ st2 N M
    rw [st2_app]
    by_cases u : ndR (N x.1) = 2
    · rw [if_pos u, if_pos u, List.cons_append]
    · rw [if_neg u, if_neg u]
theorem sy_run : ∀ r, r < 11 → (syN r = 1 ↔ (r = 2 ∨ r = 3)) := by decide +kernel
def RnM (I : zI) (rs ss : List Nat) : Prop := I.1 491 51 = zi rs.length ∧ I.1 491 53 = zi ss.length ∧ (∀ i r, rs[i]? = some r → I.1 528 i = zi r) ∧ ∀ i r, ss[i]? = some r → I.1 529 i = zi r
def Qrn (a j : Nat) : Prop := (a = 491 ∧ (j = 51 ∨ j = 53)) ∨ a = 528 ∨ a = 529
theorem s_fillsRuns {m R : Nat} {N : Nat → Nd} {I : zI} {K : zI → Prop} (rep : RepNM I m N) (hN : NdOk m N) (hm : m ≤ 3700) (hR : R < m) (hlen : (flR N R).length ≤ 399) (hTk : ndT (N R) ≤ 99) (hF : I.1 491 43 = zi (flR N R).length) (h521 : ∀ (p : Nat) (x : Fl), (flR N R)[p]? = some x → x.1 < m ∧ I.1 521 p = zi x.1 ∧ I.1 522 p = zi (p + x.2.2.2.2) ∧ 1 ≤ x.2.2.2.2 ∧ x.2.2.2.2 ≤ 399)
    (hK : ∀ J, eqQ Qrn I J → RnM J (runsOf N R) (setsOf N R) → K J) : w_M_fillsRuns I K := by
  intro I1 e1 I2 e2
  have hstart : (flR N R).drop 0 = flS N [(R, 0, 1)] 0 0 := by
    rw [List.drop_zero]
    show fl N R 0 0 0 1 = fl N R 0 0 0 1 ++ []
    rw [List.append_nil]
  have hw0 : ∀ y ∈ [(R, 0, 1)], y.1 < m := fun y hy => by cases List.mem_singleton.mp hy; exact hR
  have htot : (runsOf N R).length ≤ 99 := by
    have := rnL_len (F := flR N R) hN 400 0 0 [(R, 0, 1)] hw0 hstart
    rw [tkW_cons] at this
    change (runsOf N R).length ≤ ndT (N R) + 0 at this
    omega
  have hst : (setsOf N R).length ≤ 99 := by
    have := cn2_le (F := flR N R) hN 400 0 0 [(R, 0, 1)] (by omega) hw0 hstart
    rw [List.drop_zero, wtW_cons] at this
    change _ ≤ wt2 N R + 0 at this
    have h2 : (setsOf N R).length = cn2 N (flR N R) := st2_len
    have h3 := wt2_le (N := N) (c := R)
    omega
  intro P14 h14
  have main : ∀ (d i q f : Nat) (rs ss : List Nat) (J : zI), i + d = (flR N R).length → i ≤ (if i < q then q else i) → q ≤ 1000 → (flR N R).length < (if i < q then q else i) + f → eqQ Qrn I J → RnM J rs ss → rs ++ rnL N (flR N R) f (if i < q then q else i) = runsOf N R → ss ++ st2 N ((flR N R).drop i) = setsOf N R → P14 (zi q) (zi i) J := by
    intro d
    induction d with
    | zero =>
      intro i q f rs ss J hi hq hq2 hf qJ rJ her hes
      refine h14 _ _ _ ?_
      rw [qJ.1 491 43 (by unfold Qrn; omega), hF, if_pos ((zi_le (by omega) (by omega)).mpr (by omega))]
      rw [rnL_no (by omega), List.append_nil] at her
      rw [List.drop_of_length_le (by omega)] at hes
      have hes' : ss = setsOf N R := by rw [← hes]; exact (List.append_nil _).symm
      refine hK J qJ ?_
      rw [← her, ← hes']
      exact rJ
    | succ d ih =>
      intro i q f rs ss J hi hq hq2 hf qJ rJ her hes
      refine h14 _ _ _ ?_
      rw [qJ.1 491 43 (by unfold Qrn; omega), hF, if_neg (fun u => by have := (zi_le (by omega) (by omega)).mp u; omega), zi_tn (show i < 2147483648 by omega)]
      have hx : (flR N R)[i]? = some ((flR N R)[i]'(by omega)) := List.getElem?_eq_getElem (by omega)
      have hdr : (flR N R).drop i = (flR N R)[i]'(by omega) :: (flR N R).drop (i + 1) := List.drop_eq_getElem_cons (by omega)
      generalize (flR N R)[i]'(by omega) = x at hx hdr
      obtain ⟨x1, x2, x3, x4, x5⟩ := h521 i x hx
      have hin : vp_in (zi i) 700 := (zin_iff (by omega)).mpr (by omega)
      refine ⟨hin, fun v3 ev3 => ?_⟩
      rw [qJ.1 521 i (by unfold Qrn; omega), x2] at ev3
      subst ev3
      have hcin : vp_in (zi x.1) 3700 := (zin_iff (by omega)).mpr (by omega)
      rw [zi_tn (show x.1 < 2147483648 by omega)]
      refine ⟨hcin, ?_⟩
      have hrule : ∀ A : zI, eqQ Qrn I A → A.1 509 x.1 = Int32.ofInt (ndR (N x.1)) := fun A qA => by
        rw [qA.1 509 _ (by unfold Qrn; omega)]
        exact (rep.2 x.1 x1).1
      have hR2 : Int32.ofInt (ndR (N x.1)) = 2 ↔ ndR (N x.1) = 2 := by
        rcases hN x.1 x1 with ⟨f1, -⟩ | ⟨r, s, f1, -, f3, -⟩
        · rw [f1]
          decide
        · rw [f3, zi_int r]
          constructor
          · intro u
            have := (zi_eq (b := 2) (by omega) (by decide)).mp u
            omega
          · intro u
            rw [show r = 2 by omega]
            rfl
      have hR3 : Int32.ofInt (ndR (N x.1)) = 3 ↔ ndR (N x.1) = 3 := by
        rcases hN x.1 x1 with ⟨f1, -⟩ | ⟨r, s, f1, -, f3, -⟩
        · rw [f1]
          decide
        · rw [f3, zi_int r]
          constructor
          · intro u
            have := (zi_eq (b := 3) (by omega) (by decide)).mp u
            omega
          · intro u
            rw [show r = 3 by omega]
            rfl
      have hM : ndM (N x.1) = 1 ↔ (ndR (N x.1) = 2 ∨ ndR (N x.1) = 3) := by
        rcases hN x.1 x1 with ⟨f1, -⟩ | ⟨r, s, f1, -, f3, -⟩
        · unfold ndM
          rw [f1, if_pos (by decide)]
          omega
        · have h1 := sy_run r f1
          unfold ndM
          rw [f3, if_neg (by omega)]
          show syN ((r : Int).toNat) = 1 ↔ _
          rw [Int.toNat_natCast, h1]
          omega
      intro P59 h59
      -- behind the list of sets
      have part : ∀ (ss2 : List Nat) (A : zI), eqQ Qrn I A → RnM A rs ss2 → ss2 ++ st2 N ((flR N R).drop (i + 1)) = setsOf N R → P59 A := by
        intro ss2 A qA rA hes2
        refine h59 _ ?_
        intro P114 h114
        by_cases hiq : i < q
        · rw [if_pos ((zi_lt (by omega) (by omega)).mpr hiq)]
          refine h114 _ _ (fun v ev => ?_)
          rw [ev, zi_succ]
          rw [if_pos hiq] at her hf hq
          have hmx : (if i + 1 < q then q else i + 1) = q := by
            by_cases u : i + 1 < q
            · rw [if_pos u]
            · rw [if_neg u]
              omega
          exact ih (i + 1) q f rs ss2 A (by omega) (by rw [hmx]; omega) hq2 (by rw [hmx]; omega) qA rA (by rw [hmx]; exact her) hes2
        · rw [if_neg (fun u => hiq ((zi_lt (by omega) (by omega)).mp u))]
          refine ⟨hcin, ?_⟩
          rw [if_neg hiq] at her hf hq
          obtain ⟨f', rfl⟩ : ∃ f', f = f' + 1 := ⟨f - 1, by omega⟩
          rw [rnL_at hx] at her
          intro P87 h87
          have yes : ndM (N x.1) = 1 → P87 := by
            intro hy
            rw [if_pos hy] at her
            have hrs : rs.length < 99 := by
              have := congrArg List.length her
              rw [List.length_append, List.length_cons] at this
              omega
            refine h87 ?_
            rw [rA.1, zi_tn (show rs.length < 2147483648 by omega)]
            refine ⟨(zin_iff (by omega)).mpr (by omega), fun I11 e11 I12 e12 => ⟨hin, fun v ev => ?_⟩⟩
            rw [show I11.1 491 51 = zi rs.length by rw [e11, zu_oo (by decide)]; exact rA.1, zi_succ] at e12
            have q12 : eqQ Qrn I I12 := by
              rw [e12, e11]
              exact (qA.zu (Or.inr (Or.inl rfl))).zu (Or.inl ⟨rfl, Or.inl rfl⟩)
            rw [q12.1 522 i (by unfold Qrn; omega), x3] at ev
            subst ev
            refine h114 _ _ (fun v ev => ?_)
            rw [ev, zi_succ]
            have hmx : (if i + 1 < i + x.2.2.2.2 then i + x.2.2.2.2 else i + 1) = i + x.2.2.2.2 := by
              by_cases u : i + 1 < i + x.2.2.2.2
              · rw [if_pos u]
              · rw [if_neg u]
                omega
            refine ih (i + 1) (i + x.2.2.2.2) f' (rs ++ [x.1]) ss2 I12 (by omega) (by rw [hmx]; omega) (by omega) (by rw [hmx]; omega) q12 ⟨?_, ?_, fun j r hj => ?_, fun j r hj => ?_⟩ (by rw [hmx, List.append_assoc]; exact her) hes2
            · rw [e12, zu_self, List.length_append]
              rfl
            · rw [e12, zu_at, if_neg (by decide), e11, zu_oo (by decide)]
              exact rA.2.1
            · rw [e12, zu_oo (by decide)]
              rcases snoc_at hj with hj | ⟨rfl, rfl⟩
              · have hjl := (List.getElem?_eq_some_iff.mp hj).1
                rw [e11, zu_at, if_neg (by omega)]
                exact rA.2.2.1 j r hj
              · rw [e11, zu_self]
            · rw [e12, zu_oo (by decide), e11, zu_oo (by decide)]
              exact rA.2.2.2 j r hj
          have no : ndM (N x.1) ≠ 1 → P114 (zi q) A := by
            intro hy
            rw [if_neg hy] at her
            refine h114 _ _ (fun v ev => ?_)
            rw [ev, zi_succ]
            have hmx : (if i + 1 < q then q else i + 1) = i + 1 := if_neg (by omega)
            exact ih (i + 1) q f' rs ss2 A (by omega) (by rw [hmx]; omega) hq2 (by rw [hmx]; omega) qA rA (by rw [hmx]; exact her) hes2
          rw [hrule A qA]
          by_cases c2 : ndR (N x.1) = 2
          · rw [if_pos (hR2.mpr c2)]
            exact yes (hM.mpr (Or.inl c2))
          · rw [if_neg (fun u => c2 (hR2.mp u))]
            refine ⟨hcin, ?_⟩
            by_cases c3 : ndR (N x.1) = 3
            · rw [if_pos (hR3.mpr c3)]
              exact yes (hM.mpr (Or.inr c3))
            · rw [if_neg (fun u => c3 (hR3.mp u))]
              exact no (fun u => by rcases hM.mp u with w | w <;> omega)
      rw [hdr] at hes
      have hes' : ss ++ (if ndR (N x.1) = 2 then x.1 :: st2 N ((flR N R).drop (i + 1)) else st2 N ((flR N R).drop (i + 1))) = setsOf N R := hes
      rw [hrule J qJ]
      by_cases c2 : ndR (N x.1) = 2
      · rw [if_pos (hR2.mpr c2)]
        rw [if_pos c2] at hes'
        have hss : ss.length < 99 := by
          have := congrArg List.length hes'
          rw [List.length_append, List.length_cons] at this
          omega
        rw [rJ.2.1, zi_tn (show ss.length < 2147483648 by omega)]
        refine ⟨(zin_iff (by omega)).mpr (by omega), fun I17 e17 I18 e18 => ?_⟩
        rw [show I17.1 491 53 = zi ss.length by rw [e17, zu_oo (by decide)]; exact rJ.2.1, zi_succ] at e18
        refine part (ss ++ [x.1]) I18 ?_ ⟨?_, ?_, fun j r hj => ?_, fun j r hj => ?_⟩ (by rw [List.append_assoc]; exact hes')
        · rw [e18, e17]
          exact (qJ.zu (Or.inr (Or.inr rfl))).zu (Or.inl ⟨rfl, Or.inr rfl⟩)
        · rw [e18, zu_at, if_neg (by decide), e17, zu_oo (by decide)]
          exact rJ.1
        · rw [e18, zu_self, List.length_append]
          rfl
        · rw [e18, zu_oo (by decide), e17, zu_oo (by decide)]
          exact rJ.2.2.1 j r hj
        · rw [e18, zu_oo (by decide)]
          rcases snoc_at hj with hj | ⟨rfl, rfl⟩
          · have hjl := (List.getElem?_eq_some_iff.mp hj).1
            rw [e17, zu_at, if_neg (by omega)]
            exact rJ.2.2.2 j r hj
          · rw [e17, zu_self]
      · rw [if_neg (fun u => c2 (hR2.mp u))]
        rw [if_neg c2] at hes'
        exact part ss J qJ rJ hes'
  refine main (flR N R).length 0 0 400 [] [] I2 (by omega) (by omega) (by omega) (by rw [if_neg (by omega)]; omega) ?_ ⟨?_, ?_, (fun i r hi => by cases hi), (fun i r hi => by cases hi)⟩ (by rw [if_neg (by omega)]; rfl) ?_
  · rw [e2, e1]
    exact (eqQ.rf.zu (Or.inl ⟨rfl, Or.inl rfl⟩)).zu (Or.inl ⟨rfl, Or.inr rfl⟩)
  · rw [e2, zu_at, if_neg (by decide), e1, zu_self]
    rfl
  · rw [e2, zu_self]
    rfl
  · rw [List.drop_zero]
    rfl
/-- what the model sees of a TREE -/
def ViM (I : zI) (N : Nat → Nd) (R n : Nat) : Prop :=
  I.1 491 37 = zi R ∧ LdM I (flR N R) (n - 1) (flR N R).length ∧ (∀ (i : Nat) (x : Fl), (flR N R)[i]? = some x → I.1 522 i = zi (i + x.2.2.2.2) ∧ PaM I N (flR N R) i x) ∧ RnM I (runsOf N R) (setsOf N R)
theorem sz_inR {m R p : Nat} {N : Nat → Nd} {x : Fl} (hN : NdOk m N) (hR : R < m) (hx : (flR N R)[p]? = some x) : x.2.2.2.2 = sz N x.1 ∧ 1 ≤ sz N x.1 ∧ p + sz N x.1 ≤ (flR N R).length := by
  obtain ⟨b1, -, o, -, e4, -, e6⟩ := fl_in hN R hR _ _ _ _ _ _ hx
  have hxm : x.1 < m := by omega
  have hp := sz_pos hN hxm
  refine ⟨by rw [e4]; rfl, hp, ?_⟩
  have h6 := e6 (sz N x.1 - 1) (by omega)
  have h7 : (fl N x.1 x.2.1 (0 + p) (0 + o) x.2.2.2.1)[sz N x.1 - 1]? = some ((fl N x.1 x.2.1 (0 + p) (0 + o) x.2.2.2.1)[sz N x.1 - 1]'(by rw [fl_len hN _ hxm]; omega)) := List.getElem?_eq_getElem _
  rw [h7] at h6
  have h8 := (List.getElem?_eq_some_iff.mp h6).1
  have h9 : (flR N R).length = (fl N R 0 0 0 1).length := rfl
  omega
theorem s_Mtree {m R n : Nat} {og : Nat → Nat} {N : Nat → Nd} {I : zI} {K : zI → Prop} (rep : RepNM I m N) (hN : NdOk m N) (hu : UqE m N) (hm : m ≤ 3700) (t : TreeI m N R n og) (hT : I.1 491 37 = zi R)
    (hK : ∀ J, eqQ Qft I J → ViM J N R n → K J) : w_M_fillsTree I K := by
  have hl : (flR N R).length ≤ 399 := by
    have h1 := t.few hN
    have h2 : (flR N R).length = sz N R := fl_len hN R t.1 _ _ _ _
    omega
  have fg := t.flG hN hu
  refine s_fillsTree rep hN hu hm t hT (fun J qJ ld hpa => ?_)
  refine s_fillsRuns (rep.kp hN.ch (qJ.1 _ _ (by unfold Qft; omega)) (fun a j h1 h2 => qJ.1 a j (by unfold Qft; omega)) (fun j => qJ.2 511 j (by unfold Qft; omega))) hN hm t.1 hl (by have := t.tk hN; have := t.2.2.2.2.2.2.2; omega) ld.1 (fun p x hx => ?_) (fun J2 q2 rn => ?_)
  · obtain ⟨s1, s2, s3⟩ := sz_inR hN t.1 hx
    exact ⟨(fg.1.2 p x hx).1, (ld.2.1 p x (List.getElem?_eq_some_iff.mp hx).1 hx).1, (hpa p x hx).1, by omega, by omega⟩
  · refine hK J2 (qJ.tr (q2.mono (fun a j h => by unfold Qrn at h; unfold Qft; omega))) ⟨by rw [q2.1 _ _ (by unfold Qrn; omega), qJ.1 _ _ (by unfold Qft; omega)]; exact hT, ⟨by rw [q2.1 _ _ (by unfold Qrn; omega)]; exact ld.1, fun i x hi hx => ?_, fun c hc hno => by rw [q2.1 _ _ (by unfold Qrn; omega)]; exact ld.2.2 c hc hno⟩, fun i x hx => ?_, rn⟩
    · obtain ⟨b1, b2, o, b3, b4, b5⟩ := ld.2.1 i x hi hx
      rw [q2.1 521 _ (by unfold Qrn; omega), q2.1 523 _ (by unfold Qrn; omega)]
      exact ⟨b1, b2, o, b3, by rw [q2.1 526 _ (by unfold Qrn; omega)]; exact b4, b5⟩
    · obtain ⟨b1, b2, b3⟩ := hpa i x hx
      rw [q2.1 522 _ (by unfold Qrn; omega)]
      refine ⟨b1, fun u => by rw [q2.1 524 _ (by unfold Qrn; omega)]; exact b2 u, fun u => ?_⟩
      obtain ⟨y, j, c1, c2, c3, c4⟩ := b3 u
      exact ⟨y, j, c1, c2, by rw [q2.1 524 _ (by unfold Qrn; omega)]; exact c3, by rw [q2.1 525 _ (by unfold Qrn; omega)]; exact c4⟩
