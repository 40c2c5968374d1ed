/-! ===== each node of the TREE is as its RULE tells ===== -/
theorem Nw.zu {S S2 : List zC} {I J : zI} {m k j : Nat} {v : Int32} (h : Nw S I S2 J m) (h1 : S.length ≤ k) (h2 : k < S2.length) : Nw S I S2 (zu J k j v) m := ⟨h.1, h.2.1, h.2.2.1.zu h1, h.2.2.2.zu h2⟩
theorem Nw.rx {x : Sg} {S S2 : List zC} {I J : zI} {m : Nat} (h : Nw S I S2 J m) (h491 : 491 ≤ S.length) (hv : Iv x) (hR : RX I x) : RX J x := RX_fr hv hR h.2.2.1 (fun a j q => by unfold Qfr at q; omega)
theorem qa_node {x : Sg} {a b v : Int32} {J : zI} {K : Int32 → Prop} (hs : Lsv x) (hR : RX J x) (e : vNode x a b = v) (h : K v) : w_Desk_node a b J K := t_node hs.1 hs.2.2.2.1 hR (by rw [e]; exact h)
theorem qa_good {x : Sg} {a v : Int32} {J : zI} {K : Int32 → Prop} (hs : Lsv x) (hR : RX J x) (e : vGood x a = v) (h : K v) : w_Desk_good a J K := t_good hs.1 hR (by rw [e]; exact h)
theorem qa_child {x : Sg} {a b v : Int32} {J : zI} {K : Int32 → Prop} (hs : Lsv x) (hR : RX J x) (e : vChild x a b = v) (h : K v) : w_Desk_child a b J K := t_child hs.1 hR (by rw [e]; exact h)
theorem qa_beside {x : Sg} {a v : Int32} {J : zI} {K : Int32 → Prop} (hs : Lsv x) (hR : RX J x) (e : vBes x a true = v) (h : K v) : w_Desk_beside a J K := t_beside hs.1 hR (by rw [e]; exact h)
theorem qa_before {x : Sg} {a v : Int32} {J : zI} {K : Int32 → Prop} (hs : Lsv x) (hR : RX J x) (e : vBes x a false = v) (h : K v) : w_Desk_before a J K := t_before hs.1 hR (by rw [e]; exact h)
/-- the pile: top last -/
def PilX (J : zI) (k : Nat) (w : List (Nat × Nat × Nat)) : Prop := ∀ j e, w[j]? = some e → J.1 k (w.length - 1 - j) = zi e.1
theorem PilX.pop {J : zI} {k : Nat} {e : Nat × Nat × Nat} {w : List (Nat × Nat × Nat)} (h : PilX J k (e :: w)) : J.1 k w.length = zi e.1 ∧ PilX J k w := by
  refine ⟨?_, fun j f hj => ?_⟩
  · have := h 0 e rfl
    rw [List.length_cons, show w.length + 1 - 1 - 0 = w.length by omega] at this
    exact this
  · have := h (j + 1) f (by rw [List.getElem?_cons_succ]; exact hj)
    rw [List.length_cons, show w.length + 1 - 1 - (j + 1) = w.length - 1 - j by omega] at this
    exact this
theorem PilX.push {J : zI} {k : Nat} {e : Nat × Nat × Nat} {w : List (Nat × Nat × Nat)} (h : PilX J k w) : PilX (zu J k w.length (zi e.1)) k (e :: w) := by
  intro j f hj
  rw [List.length_cons]
  cases j with
  | zero =>
    cases hj
    rw [show w.length + 1 - 1 - 0 = w.length by omega, zu_self]
  | succ j =>
    rw [List.getElem?_cons_succ] at hj
    have hl := (List.getElem?_eq_some_iff.mp hj).1
    rw [show w.length + 1 - 1 - (j + 1) = w.length - 1 - j by omega, zu_i (by omega)]
    exact h j f hj
theorem PilX.kp {I J : zI} {k : Nat} {w : List (Nat × Nat × Nat)} (h : PilX I k w) (e : J.1 k = I.1 k) : PilX J k w := fun j f hj => by
  rw [e]
  exact h j f hj
theorem tr_rt {x : Sg} (hv : Iv x) : tkS (sgN x) [moR (sgC x)] = nG x - 1 ∧ moR (sgC x) < sgM x ∧ 1 ≤ nG x ∧ nG x ≤ 100 := by
  have t := hv.tr
  refine ⟨?_, t.1, t.2.2.2.2.2.2.1, t.2.2.2.2.2.2.2⟩
  rw [tkS_cons, TreeI.tk hv.2.1 t]
  rfl
theorem syN_is {r : Nat} {P : Int32 → Prop} (hr : r < 11) (h : P (zi (syN r))) : (if (2 : Int32) ≤ zi r then (if (4 : Int32) ≤ zi r then (if (6 : Int32) ≤ zi r then (if (8 : Int32) ≤ zi r then P 4 else P 3) else P 2) else P 1) else P 0) := by
  rcases (by omega : r = 0 ∨ r = 1 ∨ r = 2 ∨ r = 3 ∨ r = 4 ∨ r = 5 ∨ r = 6 ∨ r = 7 ∨ r = 8 ∨ r = 9 ∨ r = 10) with rfl | rfl | rfl | rfl | rfl | rfl | rfl | rfl | rfl | rfl | rfl
  · rw [if_neg (by decide)]
    exact h
  · rw [if_neg (by decide)]
    exact h
  · rw [if_pos (by decide), if_neg (by decide)]
    exact h
  · rw [if_pos (by decide), if_neg (by decide)]
    exact h
  · rw [if_pos (by decide), if_pos (by decide), if_neg (by decide)]
    exact h
  · rw [if_pos (by decide), if_pos (by decide), if_neg (by decide)]
    exact h
  · rw [if_pos (by decide), if_pos (by decide), if_pos (by decide), if_neg (by decide)]
    exact h
  · rw [if_pos (by decide), if_pos (by decide), if_pos (by decide), if_neg (by decide)]
    exact h
  · rw [if_pos (by decide), if_pos (by decide), if_pos (by decide), if_pos (by decide)]
    exact h
  · rw [if_pos (by decide), if_pos (by decide), if_pos (by decide), if_pos (by decide)]
    exact h
  · rw [if_pos (by decide), if_pos (by decide), if_pos (by decide), if_pos (by decide)]
    exact h
theorem zi_mn1 (m : Nat) : zi m + (-1) = zi m - 1 := (Int32.sub_eq_add_neg ..).symm
theorem dr_at {l : List Nat} {m : Nat} (h : m < l.length) : l.drop m = l.getD m 0 :: l.drop (m + 1) := by
  rw [List.drop_eq_getElem_cons h, List.getD_eq_getElem?_getD, List.getElem?_eq_getElem h]
  rfl
theorem s_stands {x : Sg} {S : List zC} {I : zI} {K : Int32 → List zC → zI → Prop} (hs : Lsv x) (hR : RX I x) (hz : zZ I S.length) (h491 : 491 ≤ S.length) (hK : ∀ S2 J, Nw S I S2 J 500 → K 1 S2 J) : w_Law_stands S I K := by
  have hv := hs.1
  have hw := hs.2.2.2.1
  have hN := hv.2.1
  have hm := hv.2.2.2.1
  obtain ⟨rt, rM, n1, n100⟩ := tr_rt hv
  obtain ⟨f0, f1, f2, f3⟩ := st_root hv hw
  have f248 := hv.f248
  refine k_4 hR ⟨⟨hz, by decide, by decide, by decide, by decide⟩, fun S2 k n eS eK eN => ?_⟩
  have eN : n = 800 := eN.trans (show Int32.toNatClampNeg 800 = 800 from zi_tn (a := 800) (by decide))
  subst eN
  subst eS
  subst eK
  refine ⟨⟨zAt_new, (zin_iff (i := 0) (by decide)).mpr (by decide)⟩, fun I6 e6 => ?_⟩
  have l2 : (S ++ [(.inr (.inl (0, 800)) : zC)]).length = S.length + 1 := by rw [List.length_append]; rfl
  have nw6 : Nw S I (S ++ [.inr (.inl (0, 800))]) I6 1 := by
    rw [e6]
    have h0 : Nw S I (S ++ [.inr (.inl (0, 800))]) I 1 := ⟨⟨_, rfl⟩, by omega, eqQ.rf, by rw [l2]; exact hz.up (Nat.le_succ _)⟩
    exact h0.zu (Nat.le_refl _) (by omega)
  have p6 : PilX I6 S.length [(moR (sgC x), 0, 1)] := by
    rw [e6]
    exact PilX.push (w := []) (fun j e hj => by cases hj)
  have r6 := nw6.rx h491 hv hR
  refine qa_node hs r6 f1 ?_
  intro P51 h51 P50 _
  rw [if_pos rfl]
  refine qa_node hs r6 f2 ?_
  rw [if_pos rfl]
  refine h51 1 ?_
  intro P53 h53
  have key : ∀ (d i t c u : Nat) (w : List (Nat × Nat × Nat)) (S13 : List zC) (J : zI), d + i = (FF x).length → (FF x).drop i = flS (sgN x) w i t → (∀ e ∈ w, e.1 < sgM x) → t + tkS (sgN x) (w.map (fun e => e.1)) = nG x - 1 → w.length ≤ 1 + 3 * i → PilX J S.length w → Nw S I S13 J (1 + i) → zAt S13 S.length 800 → c ≤ 1 + i → u ≤ 800 + 4 * i → P53 (zi i) (zi t) (zi w.length) 1 S13 c u J := by
    intro d
    induction d with
    | zero =>
      intro i t c u w S13 J hd hF hM ht hl hp hn hat hc hu
      have hRJ := hn.rx h491 hv hR
      have hw0 : w = [] := by
        cases w with
        | nil => rfl
        | cons e w' =>
          obtain ⟨ec, eq, ed⟩ := e
          have h := (st_at hv (hM _ (List.mem_cons_self ..)) hF).1
          have := (List.getElem?_eq_some_iff.mp h).1
          omega
      subst hw0
      refine h53 _ _ _ _ _ _ _ _ ?_
      intro P494 h494
      rw [if_pos (show zi ([] : List (Nat × Nat × Nat)).length ≤ 0 from by decide)]
      refine h494 ?_
      rw [if_neg (show ¬ (1 : Int32) = 0 by decide)]
      refine k_10 hRJ ?_
      rw [if_pos (show zi i = zi (FF x).length by rw [show i = (FF x).length by omega])]
      refine k_3 hRJ ?_
      have ht2 : t = nG x - 1 := by
        have e0 : tkS (sgN x) (([] : List (Nat × Nat × Nat)).map (fun e => e.1)) = 0 := rfl
        omega
      rw [if_pos (show zi t = zi (nG x) - 1 by rw [ht2]; exact (zi_sub n1).symm)]
      have f3t : vGood x (zi t) = 0 := by
        rw [ht2]
        exact f3
      refine qa_good hs hRJ f3t ?_
      rw [if_pos rfl]
      exact hK _ _ (hn.mono (by omega))
    | succ d ih =>
      intro i t c u w S13 J hd hF hM ht hl hp hn hat hc hu
      have hRJ := hn.rx h491 hv hR
      have hne : (FF x).drop i ≠ [] := fun e => by
        have := congrArg List.length e
        rw [List.length_drop] at this
        have e0 : ([] : List Fl).length = 0 := rfl
        omega
      cases w with
      | nil => exact absurd hF hne
      | cons e w' =>
        obtain ⟨c0, q0, d0⟩ := e
        have hc0 : c0 < sgM x := hM _ (List.mem_cons_self ..)
        have hM' : ∀ e ∈ w', e.1 < sgM x := fun e he => hM e (List.mem_cons_of_mem _ he)
        obtain ⟨hat0, hF'⟩ := st_at hv hc0 hF
        obtain ⟨pt, pp⟩ := hp.pop
        have hl : w'.length + 1 ≤ 1 + 3 * i := hl
        have ht : t + tkS (sgN x) (c0 :: w'.map (fun e => e.1)) = nG x - 1 := ht
        rw [tkS_cons] at ht
        refine h53 _ _ _ _ _ _ _ _ ?_
        intro P494 _
        rw [show ((c0, q0, d0) :: w').length = w'.length + 1 from rfl]
        rw [if_neg (show ¬ zi (w'.length + 1) ≤ 0 from fun q => by have := (zi_le (b := 0) (by omega) (by decide)).mp q; omega), if_neg (show ¬ (1 : Int32) = 0 by decide)]
        intro v5 e5
        rw [zi_pred (by omega), Nat.add_sub_cancel] at e5
        subst e5
        refine ⟨⟨hat, (zin_iff (by omega)).mpr (by omega)⟩, fun v7 e7 => ?_⟩
        rw [zi_tn (by omega), pt] at e7
        have e7 : v7 = zi c0 := e7
        subst e7
        obtain ⟨i6, s3, s21, i3⟩ := st_in hv hc0 hat0
        rcases hN c0 hc0 with ⟨hr, hC, -, hT, -⟩ | ⟨r, s', hr11, -, hr, -, -, hmp, -, hT⟩
        · -- a token
          have hr0 : ndR (sgN x c0) < 0 := by rw [hr]; decide
          obtain ⟨a1, a2, a3, a4, a5, a6, a7⟩ := st_tok hv hw hc0 hat0 hr0
          refine qa_node hs hRJ a1 (qa_node hs hRJ a2 ?_)
          intro v2 e2
          rw [zi_succ] at e2
          subst e2
          refine qa_node hs hRJ i6 ?_
          intro P124 h124 P123 _
          rw [if_pos rfl]
          refine qa_node hs hRJ i3 ?_
          rw [if_neg (zi_pos (by omega))]
          refine h124 1 ?_
          rw [if_neg (show ¬ (0 : Int32) ≤ -2 by decide)]
          intro P189 h189 P188 _
          rw [if_neg (show ¬ (1 : Int32) = 0 by decide)]
          refine qa_good hs hRJ a3 ?_
          rw [if_pos rfl, if_pos rfl]
          refine qa_node hs hRJ a4 ?_
          rw [if_pos rfl]
          refine qa_node hs hRJ a5 ?_
          rw [if_pos rfl]
          refine t_span hv hRJ ?_
          rw [if_neg (show ¬ vSpan x (zi c0) 1 ≤ 0 from Int32.not_le.mpr a6)]
          refine h189 1 ?_
          intro v3 e3
          rw [zi_succ] at e3
          subst e3
          rw [hC, List.map_nil, List.nil_append, if_pos hr0] at hF'
          exact ih (i + 1) (t + 1) c u w' S13 J (by omega) hF' hM' (by omega) (by omega) pp (hn.mono (by omega)) hat (by omega) (by omega)
        · -- by a RULE
          have hr0 : ¬ ndR (sgN x c0) < 0 := by rw [hr]; omega
          obtain ⟨-, b2, b3, b4, b5, b6, b7, b8, b9⟩ := st_rul hv hw hc0 hat0 hr
          have ch4 := hN.ch c0 hc0
          refine qa_node hs hRJ b3 (qa_node hs hRJ b4 ?_)
          intro v2 e2
          rw [zi_succ] at e2
          subst e2
          refine qa_node hs hRJ i6 ?_
          intro P124 h124 P123 _
          rw [if_pos rfl]
          refine qa_node hs hRJ i3 ?_
          rw [if_neg (zi_pos (by omega))]
          refine h124 1 ?_
          rw [if_pos (zi_ge (by omega))]
          refine ⟨⟨by omega, by omega⟩, ?_⟩
          refine s_symbols hr11 hn.2.2.2 (fun S34 I35 n2 a34 => ?_)
          have n35 := hn.tr n2
          have hR35 := n35.rx h491 hv hR
          have kp13 : S.length < S13.length := (List.getElem?_eq_some_iff.mp hat).1
          have h34 := n2.len
          have hat34 : zAt S34 S.length 800 := zAt_up hat n2.1
          have p35 : PilX I35 S.length w' := pp.kp (n2.cell kp13)
          have hat34s : zAt S34 S13.length (rhS r).length := by
            have := a34.1
            rw [List.length_map] at this
            exact this
          intro P302 h302 P301 _
          have done : P302 1 := by
            refine h302 1 ?_
            intro v12 e12 P310 h310
            -- the CHILDREN, from the last
            have kids : ∀ (m : Nat) (L : zI), m ≤ (ndC (sgN x c0)).length → PilX L S.length (((ndC (sgN x c0)).drop m).map (fun z => (z, i, d0 + 1)) ++ w') → Nw S I S34 L (1 + i + 1) → L.1 S13.length = I35.1 S13.length → P310 (zi ((((ndC (sgN x c0)).drop m).map (fun z => (z, i, d0 + 1)) ++ w').length)) 1 (zi (tkS (sgN x) ((ndC (sgN x c0)).drop m))) (zi m - 1) L := by
              intro m
              induction m with
              | zero =>
                intro L _ pL nL _
                have hRL := nL.rx h491 hv hR
                refine h310 _ _ _ _ _ ?_
                rw [if_pos (show zi 0 - 1 < 0 by decide)]
                intro P489 h489 P488 _
                rw [if_neg (show ¬ (1 : Int32) = 0 by decide)]
                refine qa_node hs hRL b6 ?_
                rw [List.drop_zero, if_pos (show zi (tkS (sgN x) (ndC (sgN x c0))) = zi (ndT (sgN x c0)) by rw [b9])]
                refine qa_child hs hRL b8 ?_
                rw [if_pos rfl]
                refine h489 1 ?_
                rw [List.drop_zero]
                rw [List.drop_zero] at pL
                rw [if_neg hr0, Nat.add_zero] at hF'
                have hll : ((ndC (sgN x c0)).map (fun z => (z, i, d0 + 1)) ++ w').length = (ndC (sgN x c0)).length + w'.length := by rw [List.length_append, List.length_map]
                refine ih (i + 1) t (c + 1) (u + 4) ((ndC (sgN x c0)).map (fun z => (z, i, d0 + 1)) ++ w') S34 L (by omega) hF' (fun e he => ?_) ?_ (by omega) pL (nL.mono (by omega)) hat34 (by omega) (by omega)
                · rcases List.mem_append.mp he with he | he
                  · obtain ⟨z, hz2, rfl⟩ := List.mem_map.mp he
                    have := hN.lt hc0 hz2
                    show z < sgM x
                    omega
                  · exact hM' e he
                · have e1 : (((ndC (sgN x c0)).map (fun z => (z, i, d0 + 1)) ++ w').map (fun e => e.1)) = ndC (sgN x c0) ++ w'.map (fun e => e.1) := by
                    rw [List.map_append, List.map_map]
                    congr 1
                    exact (List.map_congr_left (fun _ _ => rfl)).trans (List.map_id _)
                  have e2 : tkS (sgN x) (ndC (sgN x c0) ++ w'.map (fun e => e.1)) = tkS (sgN x) (ndC (sgN x c0)) + tkS (sgN x) (w'.map (fun e => e.1)) := by
                    unfold tkS
                    rw [List.map_append, List.sum_append]
                  rw [e1, e2, ← b9]
                  omega
              | succ m ihm =>
                intro L hm1 pL nL eL
                have hRL := nL.rx h491 hv hR
                have hml : m < (ndC (sgN x c0)).length := by omega
                have hk : (ndC (sgN x c0))[m]? = some ((ndC (sgN x c0)).getD m 0) := by
                  rw [List.getD_eq_getElem?_getD, List.getElem?_eq_getElem hml]
                  rfl
                have hdr := dr_at hml
                generalize hz0 : (ndC (sgN x c0)).getD m 0 = z at hk hdr
                obtain ⟨z1, z2, z3, z4, z5, z6, z7⟩ := st_kid hv hc0 hat0 hk
                have hll : (((ndC (sgN x c0)).drop (m + 1)).map (fun z => (z, i, d0 + 1)) ++ w').length = (ndC (sgN x c0)).length - (m + 1) + w'.length := by rw [List.length_append, List.length_map, List.length_drop]
                refine h310 _ _ _ _ _ ?_
                rw [show zi (m + 1) - 1 = zi m from zi_sub (b := 1) (by omega), if_neg (zi_pos (by omega))]
                refine qa_child hs hRL z2 (qa_node hs hRL z5 ?_)
                intro v10 e10
                rw [zi_add, Nat.add_comm, ← tkS_cons, ← hdr] at e10
                subst e10
                intro P437 h437 P436 _
                rw [if_neg (show ¬ (1 : Int32) = 0 by decide)]
                refine qa_node hs hRL z3 ?_
                rw [if_pos rfl]
                refine qa_node hs hRL z4 ?_
                have hsy : L.1 S13.length (zi m).toNatClampNeg = zi (ndM (sgN x z)) := by
                  rw [zi_tn (by omega), eL, a34.2 m (by rw [List.length_map]; omega), gd_map (by omega), ← hmp, List.getD_eq_getElem?_getD, List.getElem?_map, hk]
                  rfl
                refine ⟨⟨hat34s, (zin_iff (by omega)).mpr (by omega)⟩, ?_⟩
                rw [hsy, if_pos rfl]
                refine qa_beside hs hRL z6 ?_
                intro P400 h400
                have fin : P437 1 := by
                  refine h437 1 ?_
                  intro v5 e5
                  rw [zi_succ] at e5
                  subst e5
                  refine ⟨⟨hat34, (zin_iff (by omega)).mpr (by omega)⟩, fun I55 e55 => ?_⟩
                  rw [zi_tn (by omega)] at e55
                  subst e55
                  intro v12' e12'
                  rw [zi_mn1] at e12'
                  subst e12'
                  have hw2 : ((ndC (sgN x c0)).drop m).map (fun z => (z, i, d0 + 1)) ++ w' = (z, i, d0 + 1) :: (((ndC (sgN x c0)).drop (m + 1)).map (fun z => (z, i, d0 + 1)) ++ w') := by
                    rw [hdr]
                    rfl
                  have h := ihm (zu L S.length ((((ndC (sgN x c0)).drop (m + 1)).map (fun z => (z, i, d0 + 1)) ++ w').length) (zi z)) (by omega) (by rw [hw2]; exact PilX.push (e := (z, i, d0 + 1)) pL) (nL.zu (Nat.le_refl _) (by omega)) (by rw [zu_o (by omega)]; exact eL)
                  rw [hw2] at h
                  exact h
                have bes : ∀ v, v = (if m + 1 < (ndC (sgN x c0)).length then zi ((ndC (sgN x c0)).getD (m + 1) 0) else -2) → P400 v := fun v ev => by
                  refine h400 v ?_
                  rw [if_pos ev.symm]
                  refine qa_before hs hRL z7 ?_
                  intro P429 h429
                  have bef : ∀ v, v = (if 1 ≤ m then zi ((ndC (sgN x c0)).getD (m - 1) 0) else -2) → P429 v := fun v ev => by
                    refine h429 v ?_
                    rw [if_pos ev.symm]
                    exact fin
                  by_cases m0 : m = 0
                  · rw [if_pos (show zi m ≤ 0 by rw [m0]; decide)]
                    exact bef _ (by rw [if_neg (by omega)])
                  · rw [if_neg (show ¬ zi m ≤ 0 from fun q => by have := (zi_le (b := 0) (by omega) (by decide)).mp q; omega)]
                    rw [show zi m - 1 = zi (m - 1) from zi_sub (b := 1) (by omega)]
                    have hk2 : (ndC (sgN x c0))[m - 1]? = some ((ndC (sgN x c0)).getD (m - 1) 0) := by
                      rw [List.getD_eq_getElem?_getD, List.getElem?_eq_getElem (show m - 1 < (ndC (sgN x c0)).length by omega)]
                      rfl
                    refine qa_child hs hRL (st_kid hv hc0 hat0 hk2).2.1 ?_
                    exact bef _ (by rw [if_pos (by omega)])
                rw [zi_succ]
                by_cases mm : m + 1 < (ndC (sgN x c0)).length
                · rw [if_neg (show ¬ zi (rhS r).length ≤ zi (m + 1) from nle_zi (by omega) (by omega))]
                  have hk2 : (ndC (sgN x c0))[m + 1]? = some ((ndC (sgN x c0)).getD (m + 1) 0) := by
                    rw [List.getD_eq_getElem?_getD, List.getElem?_eq_getElem mm]
                    rfl
                  refine qa_child hs hRL (st_kid hv hc0 hat0 hk2).2.1 ?_
                  exact bes _ (by rw [if_pos mm])
                · rw [if_pos (show zi (rhS r).length ≤ zi (m + 1) from (zi_le (by omega) (by omega)).mpr (by omega))]
                  exact bes _ (by rw [if_neg mm])
            have h := kids (ndC (sgN x c0)).length I35 (Nat.le_refl _) (by rw [List.drop_length]; exact p35) n35 rfl
            rw [List.drop_length] at h
            rw [← b2] at e12
            rw [e12]
            exact h
          rw [if_neg (show ¬ (1 : Int32) = 0 by decide)]
          refine ⟨hat34s, ?_⟩
          rw [if_pos rfl]
          refine qa_node hs hR35 b5 ?_
          intro P267 h267
          refine syN_is (P := P267) hr11 (h267 _ ?_)
          rw [if_pos rfl]
          refine qa_node hs hR35 b7 (qa_node hs hR35 b6 ?_)
          intro P294 h294
          by_cases t0 : ndT (sgN x c0) = 0
          · rw [if_pos (show zi (ndT (sgN x c0)) = 0 by rw [t0]; rfl)]
            refine h294 _ ?_
            rw [if_pos t0, if_pos rfl]
            exact done
          · have t100 := hv.2.2.2.2.1 c0 hc0
            rw [if_neg (show ¬ zi (ndT (sgN x c0)) = 0 from zi_ne (b := 0) (by omega) (by decide) t0)]
            refine h294 _ ?_
            rw [if_neg t0, if_pos rfl]
            exact done
  exact key (FF x).length 0 0 _ _ [(moR (sgC x), 0, 1)] _ I6 rfl f0 (fun e he => by
    rw [List.mem_singleton.mp he]
    exact rM) (by rw [Nat.zero_add]; exact rt) (Nat.le_refl _) p6 nw6 zAt_new (by omega) (by decide)
