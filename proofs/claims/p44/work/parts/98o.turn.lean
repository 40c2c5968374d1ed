/-! ===== a turn's end ===== -/
def Turn (x x2 : Sg) (is : Int32) : Prop := (is = -2 ∧ sgE x2 = sgE x) ∨ (is = -1 ∧ x2.2 = x.2) ∨ ∃ (xT : Sg) (d tp : List Int32), xT.2 = x.2 ∧ Iv xT ∧ txOk d ∧ x2 = chg xT d tp ∧ (is = 0 ∧ regB xT d ∨ is = 1 ∧ ¬ regB xT d)
def Nxt (x : Sg) (S : List zC) (c0 u0 : Nat) (x2 : Sg) (is : Int32) (S2 : List zC) (c2 u2 : Nat) (J : zI) : Prop := Lsv x2 ∧ RX J x2 ∧ sgT x2 = [] ∧ Pb x2 ∧ Turn x x2 is ∧ zZ J S2.length ∧ S.length ≤ S2.length ∧ S2.length ≤ S.length + 600 ∧ c2 ≤ c0 + 600 ∧ u2 ≤ u0 + 16000
theorem sg_same {x x2 : Sg} (h : x2.2 = x.2) : sgE x2 = sgE x ∧ sgC x2 = sgC x ∧ sgA x2 = sgA x ∧ sgZ x2 = sgZ x ∧ sgM x2 = sgM x ∧ sgN x2 = sgN x ∧ sgP x2 = sgP x := by
  have e : x2 = (x2.1, x.2) := Prod.ext rfl h
  rw [e]
  exact ⟨rfl, rfl, rfl, rfl, rfl, rfl, rfl⟩
theorem doc_turn {x y : Sg} {d : List Int32} {bt : Bool} (hy : y.2 = x.2) (hv : Iv y) (hd : BtL d) : Turn x (doC y d bt).2 (doC y d bt).1 := by
  by_cases hr : refu y d
  · rw [doC_ref hr]
    exact Or.inr (Or.inl ⟨rfl, hy⟩)
  · have hok : txOk d := by
      have hr' : ¬ (300 < d.length ∨ 3000 ≤ sgM y ∨ 3900 ≤ (sgP y).length ∨ 100 < (lexL d).length) := hr
      exact ⟨by omega, hd.at, by omega⟩
    refine Or.inr (Or.inr ⟨y, d, _, hy, hv, hok, doC_do hr, ?_⟩)
    unfold doC
    rw [if_neg (show ¬ (300 < d.length ∨ 3000 ≤ sgM y ∨ 3900 ≤ (sgP y).length ∨ 100 < (lexL d).length) from hr)]
    by_cases hg : regB y d
    · refine Or.inl ⟨?_, hg⟩
      show (if (regY y d).1 + 1 = (lexL d).length ∧ topS (regY y d).2.2.2.1 = 1 then (0 : Int32) else 1) = 0
      exact if_pos hg
    · refine Or.inr ⟨?_, hg⟩
      show (if (regY y d).1 + 1 = (lexL d).length ∧ topS (regY y d).2.2.2.1 = 1 then (0 : Int32) else 1) = 1
      exact if_neg hg
theorem s_1592 {x : Sg} {S : List zC} {I : zI} {c0 u0 k : Nat} {P44 : Int32 → Int32 → List zC → Nat → Nat → zI → Prop} (hs : Lsv x) (hR : RX I x) (hz : zZ I S.length) (h491 : 491 ≤ S.length) (hc : c0 + 500 ≤ 600000) (hu : u0 + 3000 ≤ 7302250) (hP : ∀ S2 J, Nw S I S2 J 500 → P44 1 (zi (k + 1)) S2 (c0 + 500) (u0 + 3000) J) : w_law_1592 1 (zi k) P44 c0 u0 S I := by
  intro P1608 h1608 P1607 _
  rw [if_neg (show ¬ (1 : Int32) = 0 by decide)]
  refine ⟨⟨hc, hu⟩, s_stands hs hR hz h491 (fun S2 J n => ?_)⟩
  rw [if_neg (show ¬ (1 : Int32) = 0 by decide)]
  refine h1608 _ _ _ _ _ ?_
  intro v4 e4
  subst e4
  rw [zi_succ]
  exact hP S2 J n
theorem s_1422 {x x2 : Sg} {S : List zC} {I : zI} {c0 u0 k : Nat} {is : Int32} {P44 : Int32 → Int32 → List zC → Nat → Nat → zI → Prop} (hv : Iv x) (hs : Lsv x2) (hR : RX I x2) (hz : zZ I S.length) (h491 : 491 ≤ S.length) (hT : Turn x x2 is) (hc : c0 + 500 ≤ 600000) (hu : u0 + 3000 ≤ 7302250) (hP : ∀ S2 J, Nw S I S2 J 500 → P44 1 (zi (k + 1)) S2 (c0 + 500) (u0 + 3000) J) :
    w_law_1422 1 (zi k) (zi (moT (sgC x)).length) (zi (sgE x)) (zi (sgA x).length) (zi (moR (sgC x))) (zi (sgM x)) is P44 c0 u0 S I := by
  intro P1539 h1539
  have fin : ∀ P1592 : Int32 → Prop, (∀ v3_288 : Int32, w_law_1592 v3_288 (zi k) P44 c0 u0 S I → P1592 v3_288) → P1592 1 := fun P h => h 1 (s_1592 hs hR hz h491 hc hu hP)
  have hE := hv.2.2.2.2.2.2.1.1
  have hAZ := hv.2.2.2.2.2.2.2.2.2.2
  rcases hT with ⟨rfl, eE⟩ | ⟨rfl, hx2⟩ | ⟨xT, d, tp, hxT, hvT, hd, rfl, hg⟩
  · rw [if_pos (show (-2 : Int32) < 0 by decide)]
    refine h1539 1 (fun P1592 h1592 => ?_)
    rw [if_neg (show ¬ (0 : Int32) ≤ -2 by decide), if_pos (show (-2 : Int32) ≤ -2 by decide)]
    exact fin P1592 h1592
  · obtain ⟨a1, a2, -⟩ := sg_same hx2
    rw [if_pos (show (-1 : Int32) < 0 by decide)]
    refine h1539 1 (fun P1592 h1592 => ?_)
    rw [if_neg (show ¬ (0 : Int32) ≤ -1 by decide), if_neg (show ¬ (-1 : Int32) ≤ -2 by decide)]
    intro P1591 h1591 P1590 _
    rw [if_neg (show ¬ (1 : Int32) = 0 by decide)]
    refine k_6 hR ?_
    rw [a1, if_pos rfl]
    refine k_0 hR ?_
    rw [a2, if_pos rfl]
    refine k_4 hR ?_
    rw [a2, if_pos rfl]
    exact h1591 1 (fin P1592 h1592)
  · obtain ⟨b1, b2, b3, b4, b5, -⟩ := sg_same hxT
    obtain ⟨-, g2, g3, g4, g5⟩ := chg_cnt (x := xT) (d := d) (tp := tp)
    have i0 : ¬ is < 0 ∧ 0 ≤ is := by
      rcases hg with ⟨rfl, -⟩ | ⟨rfl, -⟩
      · exact ⟨by decide, by decide⟩
      · exact ⟨by decide, by decide⟩
    rw [if_neg i0.1]
    intro P1538 h1538 P1537 _
    have done : P1538 1 := h1538 1 (h1539 1 (fun P1592 h1592 => by
      rw [if_pos i0.2]
      exact fin P1592 h1592))
    rw [if_neg (show ¬ (1 : Int32) = 0 by decide)]
    refine k_6 hR ?_
    rw [if_pos (show zi (sgE (chg xT d tp)) = zi (sgE x) + 1 by rw [g2, b1, zi_succ])]
    refine k_9 hR ?_
    rw [if_pos (show zi (sgZ (chg xT d tp)).length = 0 by rw [g3]; rfl)]
    refine k_8 hR ?_
    have e8 : zi (sgA (chg xT d tp)).length = (if (zi (sgA x).length + 1) < 20 then (zi (sgA x).length + 1) else 20) := by
      rw [g4, b3, zi_succ]
      by_cases u : (sgA x).length + 1 < 20
      · rw [if_pos (show zi ((sgA x).length + 1) < 20 from (zi_lt (b := 20) (by omega) (by decide)).mpr u), Nat.min_eq_right (by omega)]
      · rw [if_neg (show ¬ zi ((sgA x).length + 1) < 20 from fun q => u ((zi_lt (b := 20) (by omega) (by decide)).mp q)), Nat.min_eq_left (by omega)]
        rfl
    rw [if_pos e8]
    refine k_2 hR ?_
    rw [g5]
    intro P1485 h1485
    rcases hg with ⟨rfl, hg⟩ | ⟨rfl, hg⟩
    · have hb : moB (newC xT d) = true := (chg_good (tp := tp) hg).2.2.1
      rw [hb, if_pos b01_t]
      refine h1485 1 ?_
      intro P1495 h1495
      rw [if_pos rfl]
      refine h1495 1 ?_
      rw [if_pos rfl]
      intro P1533 h1533
      rw [if_neg (show ¬ (0 : Int32) = 1 by decide)]
      obtain ⟨l1, l2⟩ := lastv_good (tp := tp) hvT hd hg
      refine t_last hR (t_last hR ?_)
      rw [if_neg (show ¬ vLast (chg xT d tp) 5 < vLast (chg xT d tp) 2 from Int32.not_lt.mpr l1)]
      refine k_5 hR (t_last hR ?_)
      rw [if_pos (show zi (sgM (chg xT d tp)) = zi (sgM x) + vLast (chg xT d tp) 3 by rw [← b5]; exact l2)]
      exact h1533 done
    · have hb : moB (newC xT d) = false := (chg_bad (tp := tp) hg).2.2.1
      rw [hb, if_neg (show ¬ b01 false = 1 by decide)]
      refine h1485 0 ?_
      intro P1495 h1495
      rw [if_neg (show ¬ (1 : Int32) = 0 by decide)]
      refine h1495 0 ?_
      rw [if_pos rfl]
      intro P1533 h1533
      rw [if_pos rfl]
      exact h1533 done
/-! ===== undone, done again ===== -/
theorem cl_id {S : List zC} {I J : zI} {c0 u0 : Nat} {x x2 : Sg} {is : Int32} (h491 : 491 ≤ S.length) (hz : zZ I S.length) (q : eqQ Qcl I J) (hs : Lsv x2) (hR : RX J x2) (hT : sgT x2 = []) (hp : Pb x2) (ht : Turn x x2 is) : Nxt x S c0 u0 x2 is S c0 u0 J := ⟨hs, hR, hT, hp, ht, cl_zZ hz h491 q, Nat.le_refl _, by omega, by omega, by omega⟩
theorem s_196 {x : Sg} {S : List zC} {I : zI} {c0 u0 k kw : Nat} {P1422 : Int32 → Int32 → List zC → Nat → Nat → zI → Prop} (hs : Lsv x) (hR : RX I x) (hz : zZ I S.length) (h491 : 491 ≤ S.length) (hk : k < 44) (hT : sgT x = []) (hp : Pb x) (hA : AtL S I kw (moT (sgC x))) (hkw : 491 ≤ kw)
    (hP : ∀ x2 is S2 c2 u2 J, Nxt x S c0 u0 x2 is S2 c2 u2 J → P1422 1 is S2 c2 u2 J) : w_law_196 (zi k) (zi (moT (sgC x)).length) (zi (sgE x)) (zi (sgA x).length) (zi (sgZ x).length) (b01 (moB (sgC x))) (zi (moR (sgC x))) (zi (sgM x)) kw (moT (sgC x)).length (-2) P1422 c0 u0 S I := by
  have z300 := (sz_300 hs.1).1
  have hAZ := hs.1.2.2.2.2.2.2.2.2.2.2
  refine s_undo hs.1 hR (fun J q r => ?_)
  intro P214 h214
  by_cases a0 : (sgA x).length = 0
  · rw [undo_no a0] at r h214
    rw [if_pos (show zi (sgA x).length ≤ 0 by rw [a0]; decide)]
    refine h214 0 ?_
    intro P266 h266 P265 _
    rw [if_pos rfl]
    refine k_8 r ?_
    intro P235 h235
    rw [if_pos rfl]
    refine h235 0 ?_
    rw [if_pos (show zi (sgA x).length = zi (sgA x).length - 0 by rw [show (0 : Int32) = zi 0 from rfl, zi_sub (Nat.zero_le _), Nat.sub_zero])]
    refine k_9 r ?_
    intro P257 h257
    rw [if_pos rfl]
    refine h257 0 ?_
    rw [if_pos (show zi (sgZ x).length = zi (sgZ x).length + 0 from (zi_add _ 0).symm)]
    refine h266 1 ?_
    rw [if_pos rfl]
    exact hP _ _ _ _ _ _ (cl_id h491 hz q hs r hT hp (Or.inl ⟨rfl, rfl⟩))
  · obtain ⟨b1, b2, b3, b4⟩ := undo_red (x := x) (by omega)
    obtain ⟨us, uE⟩ := undo_ls hs
    have uT : sgT (undoR x).2 = [] := by
      have e : sgT (undoR x).2 = sgT x := by
        unfold undoR
        cases sgA x <;> rfl
      rw [e, hT]
    have uE2 := (undo_iv hs.1).2
    rw [b1] at h214
    rw [if_neg (show ¬ zi (sgA x).length ≤ 0 from fun u => by have := (zi_le (b := 0) (by omega) (by decide)).mp u; omega)]
    refine h214 1 ?_
    intro P266 h266 P265 _
    rw [if_pos rfl]
    refine k_8 r ?_
    intro P235 h235
    rw [if_neg (show ¬ (1 : Int32) = 0 by decide)]
    refine h235 1 ?_
    rw [if_pos (show zi (sgA (undoR x).2).length = zi (sgA x).length - 1 by rw [show (1 : Int32) = zi 1 from rfl, zi_sub (by omega), show (sgA x).length - 1 = (sgA (undoR x).2).length by omega])]
    refine k_9 r ?_
    intro P257 h257
    rw [if_neg (show ¬ (1 : Int32) = 0 by decide)]
    refine h257 1 ?_
    rw [if_pos (show zi (sgZ (undoR x).2).length = zi (sgZ x).length + 1 by rw [b3, zi_succ])]
    refine h266 1 ?_
    rw [if_neg (show ¬ (1 : Int32) = 0 by decide)]
    refine ⟨(zin_iff (by omega)).mpr hk, fun v344 => ?_⟩
    split
    · intro P338 h338 P337 _
      rw [if_neg (show ¬ (1 : Int32) = 0 by decide)]
      refine s_redo us.1 r (fun L q2 r2 => ?_)
      rw [b4] at r2 ⊢
      have qq := q.tr q2
      rw [if_neg (show ¬ (1 : Int32) = 0 by decide)]
      refine k_4 r2 ?_
      rw [if_pos rfl]
      refine k_0 r2 ?_
      rw [if_pos rfl]
      refine k_2 r2 ?_
      have go : P338 1 L := by
        refine h338 1 L ?_
        intro P342 h342
        have hA2 := cl_at hA hkw qq
        have lp : ∀ d i : Nat, d + i = (moT (sgC x)).length → P342 1 (zi i) := by
          intro d
          induction d with
          | zero =>
            intro i hi
            refine h342 _ _ ?_
            rw [if_pos (show zi (moT (sgC x)).length ≤ zi i from (zi_le (by omega) (by omega)).mpr (by omega))]
            exact hP _ _ _ _ _ _ (cl_id h491 hz qq hs r2 hT hp (Or.inl ⟨rfl, rfl⟩))
          | succ d ih =>
            intro i hi
            refine h342 _ _ ?_
            rw [if_neg (show ¬ zi (moT (sgC x)).length ≤ zi i from nle_zi (by omega) (by omega))]
            intro P372 h372 P371 _
            rw [if_neg (show ¬ (1 : Int32) = 0 by decide)]
            refine t_text hs.1 r2 ⟨⟨hA2.1, (zin_iff (by omega)).mpr (by omega)⟩, ?_⟩
            rw [vText_at hs.1 (by omega), zi_tn (by omega), hA2.2 i (by omega), if_pos rfl]
            refine h372 1 (fun v17 e17 => ?_)
            subst e17
            rw [zi_succ]
            exact ih (i + 1) (by omega)
        exact lp _ 0 rfl
      intro P328 h328
      cases hb : moB (sgC x) with
      | true =>
        rw [if_pos b01_t]
        refine h328 1 ?_
        rw [hb, if_pos b01_t.symm]
        exact go
      | false =>
        rw [if_neg (show ¬ b01 false = 1 by decide)]
        refine h328 0 ?_
        rw [hb, if_pos b01_f.symm]
        exact go
    · exact hP _ _ _ _ _ _ (cl_id h491 hz q us r uT (undo_pb hp) (Or.inl ⟨rfl, uE2⟩))
theorem redo_same {x : Sg} (hs : Lsv x) : sgT (redoR x).2 = sgT x ∧ sgE (redoR x).2 = sgE x := by
  unfold redoR
  cases sgZ x <;> exact ⟨rfl, rfl⟩
theorem s_382 {x : Sg} {S : List zC} {I : zI} {c0 u0 k : Nat} {v6 v7 v10 v11 v5 : Int32} {P1422 : Int32 → Int32 → List zC → Nat → Nat → zI → Prop} (hs : Lsv x) (hR : RX I x) (hz : zZ I S.length) (h491 : 491 ≤ S.length) (hT : sgT x = []) (hp : Pb x)
    (hP : ∀ x2 is S2 c2 u2 J, Nxt x S c0 u0 x2 is S2 c2 u2 J → P1422 1 is S2 c2 u2 J) : w_law_382 (zi k) v5 v6 v7 (zi (sgZ x).length) v10 v11 (-2) P1422 c0 u0 S I := by
  have hAZ := hs.1.2.2.2.2.2.2.2.2.2.2
  refine s_redo hs.1 hR (fun J q r => ?_)
  obtain ⟨rT, rE⟩ := redo_same hs
  obtain ⟨rs, -⟩ := redo_ls hs
  have nx := hP _ _ _ _ _ _ (cl_id (c0 := c0) (u0 := u0) h491 hz q rs r (rT.trans hT) (redo_pb hp) (Or.inl ⟨rfl, rE⟩))
  intro P400 h400
  by_cases a0 : (sgZ x).length = 0
  · rw [redo_no a0] at r h400
    rw [if_pos (show zi (sgZ x).length ≤ 0 by rw [a0]; decide)]
    refine h400 0 ?_
    intro P430 h430 P429 _
    rw [if_pos rfl]
    refine k_9 r ?_
    intro P421 h421
    rw [if_pos rfl]
    refine h421 0 ?_
    rw [if_pos (show zi (sgZ x).length = zi (sgZ x).length - 0 by rw [show (0 : Int32) = zi 0 from rfl, zi_sub (Nat.zero_le _), Nat.sub_zero])]
    exact h430 1 nx
  · obtain ⟨b1, b2, b3⟩ := redo_red (x := x) (by omega)
    rw [b1] at h400
    rw [if_neg (show ¬ zi (sgZ x).length ≤ 0 from fun u => by have := (zi_le (b := 0) (by omega) (by decide)).mp u; omega)]
    refine h400 1 ?_
    intro P430 h430 P429 _
    rw [if_pos rfl]
    refine k_9 r ?_
    intro P421 h421
    rw [if_neg (show ¬ (1 : Int32) = 0 by decide)]
    refine h421 1 ?_
    rw [if_pos (show zi (sgZ (redoR x).2).length = zi (sgZ x).length - 1 by rw [show (1 : Int32) = zi 1 from rfl, zi_sub (by omega), show (sgZ x).length - 1 = (sgZ (redoR x).2).length by omega])]
    exact h430 1 nx
