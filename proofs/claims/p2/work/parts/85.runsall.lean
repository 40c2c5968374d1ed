/-! ===== all statements RUN, the model: it returns ===== -/
theorem RepNM.kp2 {I J : zI} {m : Nat} {N : Nat → Nd} (rep : RepNM I m N) (e1 : J.1 491 25 = I.1 491 25) (e : ∀ a j, 509 ≤ a → a ≤ 516 → J.1 a j = I.1 a j) (e2 : ∀ j, J.2 511 j = I.2 511 j) : RepNM J m N :=
  ⟨e1.trans rep.1, fun k hk => by
    obtain ⟨n1, n2, n3, n4, n5, n6, n7⟩ := rep.2 k hk
    refine ⟨by rw [e _ _ (by decide) (by decide)]; exact n1, by rw [e _ _ (by decide) (by decide)]; exact n2, by rw [e _ _ (by decide) (by decide)]; exact n3, by rw [e _ _ (by decide) (by decide)]; exact n4, by rw [e _ _ (by decide) (by decide)]; exact n5, fun i c hi => by rw [e _ _ (by decide) (by decide)]; exact n6 i c hi, fun q => ?_⟩
    obtain ⟨w1, w2⟩ := n7 q
    exact ⟨by rw [e _ _ (by decide) (by decide)]; exact w1, by rw [e2]; exact w2⟩⟩
def TvM (I : zI) (N : Nat → Nd) (R : Nat) : Prop := ∀ (i : Nat) (x : Fl), (flR N R)[i]? = some x → I.1 521 i = zi x.1 ∧ I.1 523 x.1 = zi i ∧ I.1 522 i = zi (i + x.2.2.2.2)
theorem TvM.kp {I J : zI} {N : Nat → Nd} {R : Nat} (h : TvM I N R) (e : ∀ a j, 521 ≤ a → a ≤ 523 → J.1 a j = I.1 a j) : TvM J N R := fun i x hx => by
  obtain ⟨h1, h2, h3⟩ := h i x hx
  rw [e 521 _ (by decide) (by decide), e 523 _ (by decide) (by decide), e 522 _ (by decide) (by decide)]
  exact ⟨h1, h2, h3⟩
theorem ViM.tv {I : zI} {N : Nat → Nd} {R n : Nat} (h : ViM I N R n) : TvM I N R := fun i x hx => by
  obtain ⟨b1, b2, -⟩ := h.2.1.2.1 i x (List.getElem?_eq_some_iff.mp hx).1 hx
  exact ⟨b1, b2, (h.2.2.1 i x hx).1⟩
theorem NmM.kp {I J : zI} {S : List Int64} (h : NmM I S) (e1 : J.1 491 55 = I.1 491 55) (e2 : ∀ j, J.2 530 j = I.2 530 j) : NmM J S := by
  obtain ⟨nm, n1, n2, n3, n4⟩ := h
  exact ⟨nm, e1.trans n1, fun i v hi => by rw [e2]; exact n2 i v hi, n3, n4⟩
theorem fl_po {m R i : Nat} {N : Nat → Nd} {x : Fl} (h : NdOk m N) (hR : R < m) (hx : (flR N R)[i]? = some x) : x.1 ∈ po N R := by
  rw [← fl_map h R hR 0 0 0 1]
  exact List.mem_map.mpr ⟨x, List.mem_of_getElem? hx, rfl⟩
def Qrk (a j : Nat) : Prop := Qna a j ∨ a = 532
theorem r_reckons {m R n p : Nat} {og : Nat → Nat} {N : Nat → Nd} {x : Fl} {I : zI} {K : zI → Prop} (rep : RepNM I m N) (hN : NdOk m N) (hm : m ≤ 3700) (t : TreeI m N R n og) (hx : (flR N R)[p]? = some x) (tv : TvM I N R) (nm : NmM I (nmL N R)) (hK : ∀ J, eqQ Qrk I J → NmM J (nmL N R) → K J) : w_M_reckons (zi p) I K := by
  have hR := t.1
  have hlen : (flR N R).length ≤ 248 := by
    have h1 := t.few hN
    have h2 : (flR N R).length = sz N R := fl_len hN R hR _ _ _ _
    omega
  obtain ⟨s1, s2, s3⟩ := sz_inR hN hR hx
  unfold w_M_reckons
  rw [zi_tn (show p < 2147483648 by omega), (tv p x hx).2.2, s1]
  refine ⟨(zin_iff (by omega)).mpr (by omega), fun v2 ev2 => ?_⟩
  subst ev2
  intro P9 h9
  have ch := hN.ch
  have hS := nmL_len hN t
  have main : ∀ (d k : Nat) (J : zI), p + d = k → k ≤ p + sz N x.1 → eqQ Qrk I J → NmM J (nmL N R) → P9 (zi k - 1) J := by
    intro d
    induction d with
    | zero =>
      intro k J hk hk2 q nJ
      refine h9 _ _ ?_
      rw [if_pos (show zi k - 1 < zi p by
        rw [show p = k by omega]
        by_cases u : k = 0
        · rw [u]
          decide
        · rw [show zi k - 1 = zi (k - 1) from zi_sub (b := 1) (by omega)]
          exact (zi_lt (by omega) (by omega)).mpr (by omega))]
      exact hK J q nJ
    | succ d ih =>
      intro k J hk hk2 q nJ
      obtain ⟨q', rfl⟩ : ∃ q', k = q' + 1 := ⟨k - 1, by omega⟩
      refine h9 _ _ ?_
      rw [show zi (q' + 1) - 1 = zi q' from zi_sub (b := 1) (by omega), if_neg (fun u => by have := (zi_lt (by omega) (by omega)).mp u; omega), zi_tn (show q' < 2147483648 by omega)]
      have hy : (flR N R)[q']? = some ((flR N R)[q']'(by omega)) := List.getElem?_eq_getElem (by omega)
      generalize (flR N R)[q']'(by omega) = y at hy
      have hyp := fl_po hN hR hy
      have hym := po_le hN R hR _ hyp
      have hym : y.1 < m := by omega
      have repJ : RepNM J m N := rep.kp ch (q.1 _ _ (by unfold Qrk Qna; omega)) (fun a j u1 u2 => q.1 a j (by unfold Qrk Qna; omega)) (fun j => q.2 511 j (by unfold Qrk Qna; omega))
      refine ⟨(zin_iff (by omega)).mpr (by omega), fun v3 ev3 => ?_⟩
      rw [q.1 521 q' (by unfold Qrk Qna; omega), (tv q' y hy).1] at ev3
      subst ev3
      have hyin : vp_in (zi y.1) 3700 := (zin_iff (by omega)).mpr (by omega)
      rw [zi_tn (show y.1 < 2147483648 by omega)]
      refine ⟨hyin, fun x5 ex5 => ?_⟩
      rw [show J.1 509 y.1 = Int32.ofInt (ndR (N y.1)) from (repJ.2 _ hym).1] at ex5
      intro P222 h222
      have nx : ∀ L, eqQ Qrk I L → NmM L (nmL N R) → P222 L := fun L qL nL => h222 L (fun v ev => by
        have e5 : v = zi q' - 1 := by
          rw [ev, Int32.sub_eq_add_neg]
        rw [e5]
        exact ih q' L (by omega) (by omega) qL nL)
      -- a value put
      have put : ∀ (A : zI) (v : Int32), eqQ Qrk I A → NmM A (nmL N R) → vp_in (zi y.1) 3700 ∧ ∀ I_9, I_9 = zu A 532 y.1 v → P222 I_9 := fun A v qA nA => ⟨hyin, fun I9 e9 => nx I9 (by rw [e9]; exact qA.zu (Or.inr rfl)) (nA.kp (by rw [e9, zu_oo (by decide)]) (fun j => by rw [e9, zu_2]))⟩
      have zin : ∀ z, z < y.1 → vp_in (zi z) 3700 := fun z hz => (zin_iff (by omega)).mpr (by omega)
      -- a CHILD
      have child : ∀ (r k w : Nat) (H : Int32 → Prop), ndR (N y.1) = (r : Int) → (rhS r)[k]? = some w → (∀ z, z < y.1 → z ∈ ndC (N y.1) → ndM (N z) = w → H (zi z)) → w_M_childOf (zi y.1) (zi k) J H := fun r k w H hr hk hH => by
        obtain ⟨z, z1, z2, z3⟩ := hN.child hym hr hk
        exact s_MchildOf repJ hm hym (ch _ hym) z1 (hH z z3 (List.mem_of_getElem? z1) z2)
      intro P132 h132
      have one : ∀ (r w : Nat), ndR (N y.1) = (r : Int) → (rhS r)[0]? = some w → P132 := fun r w hr hk => h132 (child r 0 w _ hr hk (fun z hz _ _ => ⟨zin z hz, put J _ q nJ⟩))
      rcases hN y.1 hym with ⟨e1, -⟩ | ⟨r, s, hr11, -, e3, -⟩
      · rw [e1] at ex5
        subst ex5
        rw [if_neg (by decide), if_neg (by decide), if_neg (by decide), if_neg (by decide), if_neg (by decide), if_neg (by decide), if_neg (by decide)]
        exact nx J q nJ
      · rw [e3, zi_int r] at ex5
        subst ex5
        rcases (show r ≤ 3 ∨ r = 4 ∨ r = 5 ∨ r = 6 ∨ r = 7 ∨ r = 8 ∨ r = 9 ∨ r = 10 by omega) with u | rfl | rfl | rfl | rfl | rfl | rfl | rfl
        · have ne : ∀ b : Nat, 4 ≤ b → b ≤ 10 → ¬ zi r = zi b := fun b u1 u2 w => by
            have := (zi_eq (by omega) (by omega)).mp w
            omega
          rw [if_neg (show ¬ zi r = 4 from ne 4 (by decide) (by decide)), if_neg (show ¬ zi r = 5 from ne 5 (by decide) (by decide)), if_neg (show ¬ zi r = 6 from ne 6 (by decide) (by decide)), if_neg (show ¬ zi r = 7 from ne 7 (by decide) (by decide)), if_neg (show ¬ zi r = 8 from ne 8 (by decide) (by decide)), if_neg (show ¬ zi r = 9 from ne 9 (by decide) (by decide)), if_neg (show ¬ zi r = 10 from ne 10 (by decide) (by decide))]
          exact nx J q nJ
        · rw [if_pos (show zi 4 = 4 from rfl)]
          exact child 4 0 2 _ e3 rfl (fun z hz _ _ => ⟨zin z hz, child 4 2 3 _ e3 rfl (fun z2 hz2 _ _ => ⟨zin z2 hz2, put J _ q nJ⟩)⟩)
        · rw [if_neg (show ¬ zi 5 = 4 by decide), if_pos (show zi 5 = 5 from rfl)]
          exact one 5 3 e3 rfl
        · rw [if_neg (show ¬ zi 6 = 4 by decide), if_neg (show ¬ zi 6 = 5 by decide), if_pos (show zi 6 = 6 from rfl)]
          exact child 6 0 3 _ e3 rfl (fun z hz _ _ => ⟨zin z hz, child 6 2 4 _ e3 rfl (fun z2 hz2 _ _ => ⟨zin z2 hz2, put J _ q nJ⟩)⟩)
        · rw [if_neg (show ¬ zi 7 = 4 by decide), if_neg (show ¬ zi 7 = 5 by decide), if_neg (show ¬ zi 7 = 6 by decide), if_pos (show zi 7 = 7 from rfl)]
          exact one 7 4 e3 rfl
        · rw [if_neg (show ¬ zi 8 = 4 by decide), if_neg (show ¬ zi 8 = 5 by decide), if_neg (show ¬ zi 8 = 6 by decide), if_neg (show ¬ zi 8 = 7 by decide), if_pos (show zi 8 = 8 from rfl)]
          refine child 8 0 5 _ e3 rfl (fun z hz hzc hzM => ⟨zin z hz, ?_⟩)
          obtain ⟨w1, w2⟩ := nm_child hN t hyp hzc hzM
          rw [zi_tn (show z < 2147483648 by omega), show J.2 511 z = nmV N z from ((repJ.2 z (by omega)).2.2.2.2.2.2 (by omega)).2]
          refine s_nameOf hS w1 nJ (fun r A hr qA nA => ⟨(zin_iff (by omega)).mpr (by omega), ?_⟩)
          exact put A _ (q.tr (qA.mono (fun a j h => Or.inl h))) nA
        · rw [if_neg (show ¬ zi 9 = 4 by decide), if_neg (show ¬ zi 9 = 5 by decide), if_neg (show ¬ zi 9 = 6 by decide), if_neg (show ¬ zi 9 = 7 by decide), if_neg (show ¬ zi 9 = 8 by decide), if_pos (show zi 9 = 9 from rfl)]
          exact child 9 0 6 _ e3 rfl (fun z hz _ _ => ⟨zin z hz, put J _ q nJ⟩)
        · rw [if_neg (show ¬ zi 10 = 4 by decide), if_neg (show ¬ zi 10 = 5 by decide), if_neg (show ¬ zi 10 = 6 by decide), if_neg (show ¬ zi 10 = 7 by decide), if_neg (show ¬ zi 10 = 8 by decide), if_neg (show ¬ zi 10 = 9 by decide), if_pos (show zi 10 = 10 from rfl)]
          exact child 10 1 2 _ e3 rfl (fun z hz _ _ => ⟨zin z hz, put J _ q nJ⟩)
  exact main (sz N x.1) (p + sz N x.1) I rfl (Nat.le_refl _) eqQ.rf nm
/-- how many nodes of RULE 8 -/
def cn8 (N : Nat → Nd) (L : List Fl) : Nat := (L.map (fun x => isR8 N x.1)).sum
theorem cn8_R {m R n : Nat} {og : Nat → Nat} {N : Nat → Nd} (hN : NdOk m N) (t : TreeI m N R n og) : cn8 N (flR N R) ≤ 49 := by
  have h1 := (names_le hN t).2
  unfold poW at h1
  rw [← fl_map hN R t.1 0 0 0 1, List.map_map] at h1
  exact h1
theorem cn8_drop {N : Nat → Nd} {L : List Fl} (k : Nat) : cn8 N (L.drop k) ≤ cn8 N L := by
  have : cn8 N L = cn8 N (L.take k) + cn8 N (L.drop k) := by
    unfold cn8
    rw [← List.sum_append, ← List.map_append, List.take_append_drop]
  omega
def Qra (a j : Nat) : Prop := Qrk a j ∨ a = 517 ∨ a = 518
theorem r_reads {m R n s p : Nat} {og : Nat → Nat} {N : Nat → Nd} {x : Fl} {I : zI} {K : Int32 → zI → Prop} (rep : RepNM I m N) (hN : NdOk m N) (hm : m ≤ 3700) (t : TreeI m N R n og) (hx : (flR N R)[p]? = some x) (hs : x.1 = s) (h2 : ndR (N s) = 2) (tv : TvM I N R) (nm : NmM I (nmL N R)) (hK : ∀ v J, eqQ Qra I J → NmM J (nmL N R) → K v J) : w_M_reads (zi s) I K := by
  have hR := t.1
  have hlen : (flR N R).length ≤ 248 := by
    have h1 := t.few hN
    have h2 : (flR N R).length = sz N R := fl_len hN R hR _ _ _ _
    omega
  have ch := hN.ch
  have hS := nmL_len hN t
  have hsp := fl_po hN hR hx
  rw [hs] at hsp
  have hsm : s < m := by
    have := po_le hN R hR _ hsp
    omega
  obtain ⟨e, c1, -, c3⟩ := hN.child (k := 2) (y := 2) hsm (show ndR (N s) = ((2 : Nat) : Int) from h2) rfl
  obtain ⟨i', y, -, y2, y3, -⟩ := fl_ch hN hR hx (by rw [hs]; exact c1)
  have y2' : (flR N R)[i']? = some y := y2
  obtain ⟨t1, t2, t3⟩ := tv i' y y2'
  obtain ⟨z1, z2, z3⟩ := sz_inR hN hR y2'
  refine s_MchildOf (k := 2) rep hm hsm (ch _ hsm) c1 ?_
  have hsin : vp_in (zi s) 3700 := (zin_iff (by omega)).mpr (by omega)
  refine ⟨(zin_iff (by omega)).mpr (by omega), fun v2 ev2 => ?_⟩
  rw [zi_tn (show e < 2147483648 by omega), ← y3, t2] at ev2
  subst ev2
  refine ⟨hsin, ?_⟩
  intro P29 h29
  have rest : ∀ t3' : Int32, P29 t3' := by
    intro t3'
    refine h29 t3' ?_
    intro P34 h34
    have main : ∀ (d q c : Nat) (v4 : Int32) (J : zI), i' ≤ q → q + d = i' + sz N y.1 → c + cn8 N ((flR N R).drop q) ≤ 49 → eqQ Qra I J → NmM J (nmL N R) → P34 (zi c) v4 (zi q) J := by
      intro d
      induction d with
      | zero =>
        intro q c v4 J hq hqd hc qJ nJ
        refine h34 _ _ _ _ ⟨(zin_iff (by omega)).mpr (by omega), ?_⟩
        rw [zi_tn (show i' < 2147483648 by omega), qJ.1 522 i' (by unfold Qra Qrk Qna; omega), t3, z1, if_pos ((zi_le (by omega) (by omega)).mpr (by omega))]
        refine ⟨hsin, fun I8 e8 => hK _ I8 (by rw [e8]; exact qJ.zu (Or.inr (Or.inl rfl))) (nJ.kp (by rw [e8, zu_oo (by decide)]) (fun j => by rw [e8, zu_2]))⟩
      | succ d ih =>
        intro q c v4 J hq hqd hc qJ nJ
        refine h34 _ _ _ _ ⟨(zin_iff (by omega)).mpr (by omega), ?_⟩
        rw [zi_tn (show i' < 2147483648 by omega), qJ.1 522 i' (by unfold Qra Qrk Qna; omega), t3, z1, if_neg (fun u => by have := (zi_le (by omega) (by omega)).mp u; omega)]
        have hw : (flR N R)[q]? = some ((flR N R)[q]'(by omega)) := List.getElem?_eq_getElem (by omega)
        have hdq : (flR N R).drop q = (flR N R)[q]'(by omega) :: (flR N R).drop (q + 1) := List.drop_eq_getElem_cons (by omega)
        generalize (flR N R)[q]'(by omega) = w at hw hdq
        have hwp := fl_po hN hR hw
        have hwm : w.1 < m := by
          have := po_le hN R hR _ hwp
          omega
        have hcn : cn8 N ((flR N R).drop q) = isR8 N w.1 + cn8 N ((flR N R).drop (q + 1)) := by
          rw [hdq]
          unfold cn8
          rw [List.map_cons, List.sum_cons]
        have repJ : RepNM J m N := rep.kp2 (qJ.1 _ _ (by unfold Qra Qrk Qna; omega)) (fun a j u1 u2 => qJ.1 a j (by unfold Qra Qrk Qna; omega)) (fun j => qJ.2 511 j (by unfold Qra Qrk Qna; omega))
        refine ⟨(zin_iff (by omega)).mpr (by omega), fun v6 ev6 => ?_⟩
        rw [zi_tn (show q < 2147483648 by omega), qJ.1 521 q (by unfold Qra Qrk Qna; omega), (tv q w hw).1] at ev6
        subst ev6
        refine ⟨(zin_iff (by omega)).mpr (by omega), ?_⟩
        rw [zi_tn (show w.1 < 2147483648 by omega), show J.1 509 w.1 = Int32.ofInt (ndR (N w.1)) from (repJ.2 _ hwm).1]
        intro P137 h137
        have nx : ∀ (c' : Nat) (v : Int32) (L : zI), c' + cn8 N ((flR N R).drop (q + 1)) ≤ 49 → eqQ Qra I L → NmM L (nmL N R) → P137 (zi c') v L := fun c' v L hc' qL nL => h137 _ _ _ (fun v' ev => by
          rw [ev, zi_succ]
          exact ih (q + 1) c' v L (by omega) (by omega) hc' qL nL)
        by_cases u8 : ndR (N w.1) = 8
        · have hi8 : isR8 N w.1 = 1 := if_pos u8
          rw [if_pos (show Int32.ofInt (ndR (N w.1)) = 8 by rw [u8]; rfl)]
          obtain ⟨z, d1, d2, d3⟩ := hN.child (k := 0) (y := 5) hwm (show ndR (N w.1) = ((8 : Nat) : Int) from u8) rfl
          refine s_MchildOf (k := 0) repJ hm hwm (ch _ hwm) d1 ⟨(zin_iff (by omega)).mpr (by omega), ?_⟩
          obtain ⟨w1, w2⟩ := nm_child hN t hwp (List.mem_of_getElem? d1) d2
          rw [zi_tn (show z < 2147483648 by omega), show J.2 511 z = nmV N z from ((repJ.2 z (by omega)).2.2.2.2.2.2 (by omega)).2]
          refine s_nameOf hS w1 nJ (fun r A hr qA nA => ⟨(zin_iff (by omega)).mpr (by omega), fun v7 ev7 => ⟨hsin, ?_⟩⟩)
          have qA' : eqQ Qra I A := qJ.tr (qA.mono (fun a j h => Or.inl (Or.inl h)))
          have hix : vp_in (50 * zi s + zi c) 185000 := by
            rw [show (50 : Int32) = zi 50 from rfl, zi_mul, zi_add]
            exact (zin_iff (by omega)).mpr (by omega)
          intro P121 h121
          have put : ∀ v : Int32, P121 v := fun v => h121 v ⟨hix, fun I19 e19 v3' ev3' => by
            rw [ev3', zi_succ]
            exact nx (c + 1) v I19 (by omega) (by rw [e19]; exact qA'.zu (Or.inr (Or.inr rfl))) (nA.kp (by rw [e19, zu_oo (by decide)]) (fun j => by rw [e19, zu_2]))⟩
          split
          · exact put _
          · refine ⟨hix, ?_⟩
            split
            · exact put _
            · exact put _
        · rw [if_neg (show ¬ Int32.ofInt (ndR (N w.1)) = 8 from fun v => u8 (by
            rcases hN w.1 hwm with ⟨f1, -⟩ | ⟨r, s', f1, -, f3, -⟩
            · rw [f1] at v
              exact absurd v (by decide)
            · rw [f3, zi_int r] at v
              have := (zi_eq (b := 8) (by omega) (by decide)).mp v
              omega))]
          exact nx c v4 J (by omega) qJ nJ
    exact main (sz N y.1) i' 0 t3' I (Nat.le_refl _) rfl (by have := cn8_R hN t; have := cn8_drop (N := N) (L := flR N R) i'; omega) eqQ.rf nm
  split
  · exact rest 1
  · exact rest 0
/-- all of them -/
theorem r_runsAllN {m R n : Nat} {og : Nat → Nat} {N : Nat → Nd} {e : Bool} {I : zI} {K : Int32 → zI → Prop} (rep : RepNM I m N) (hN : NdOk m N) (hm : m ≤ 3700) (t : TreeI m N R n og) (vi : ViM I N R n) (hK : ∀ v J, eqQ Qra I J → NmM J (nmL N R) → K v J) : w_M_runsAll (b01 e) I K := by
  have hR := t.1
  have ch := hN.ch
  have hS := nmL_len hN t
  have tv := vi.tv
  intro I1 e1
  have q1 : eqQ Qra I I1 := by
    rw [e1]
    exact eqQ.rf.zu (Or.inl (Or.inl (Or.inl ⟨rfl, rfl⟩)))
  have n1 : NmM I1 (nmL N R) := ⟨[], by rw [e1, zu_self]; rfl, fun i v hi => (by cases hi), List.nodup_nil, fun v hv => (by cases hv)⟩
  obtain ⟨-, g53, -, g529⟩ := vi.2.2.2
  have hsl : (setsOf N R).length ≤ 99 := by
    have h1 := cn2_le (F := flR N R) hN 400 0 0 [(R, 0, 1)] (by have := t.few hN; have h2 : (flR N R).length = sz N R := fl_len hN R hR _ _ _ _; omega) (fun y hy => by cases List.mem_singleton.mp hy; exact hR) (by
      rw [List.drop_zero]
      show fl N R 0 0 0 1 = fl N R 0 0 0 1 ++ []
      rw [List.append_nil])
    rw [List.drop_zero, wtW_cons] at h1
    change _ ≤ wt2 N R + 0 at h1
    have h2 : (setsOf N R).length = cn2 N (flR N R) := st2_len
    have h3 := wt2_le (N := N) (c := R)
    have h4 := t.tk hN
    have h5 := t.2.2.2.2.2.2.2
    omega
  intro P9 h9
  have main : ∀ (d k : Nat) (v2 : Int32) (J : zI), k + d = (setsOf N R).length → eqQ Qra I J → NmM J (nmL N R) → P9 v2 (zi k) J := by
    intro d
    induction d with
    | zero =>
      intro k v2 J hk q nJ
      refine h9 _ _ _ ?_
      rw [q.1 491 53 (by unfold Qra Qrk Qna; omega), g53, if_pos ((zi_le (by omega) (by omega)).mpr (by omega))]
      exact hK _ J q nJ
    | succ d ih =>
      intro k v2 J hk q nJ
      refine h9 _ _ _ ?_
      rw [q.1 491 53 (by unfold Qra Qrk Qna; omega), g53, if_neg (fun u => by have := (zi_le (by omega) (by omega)).mp u; omega), zi_tn (show k < 2147483648 by omega)]
      refine ⟨(zin_iff (by omega)).mpr (by omega), fun v4 ev4 => ?_⟩
      have hs : (setsOf N R)[k]? = some ((setsOf N R)[k]'(by omega)) := List.getElem?_eq_getElem (by omega)
      generalize (setsOf N R)[k]'(by omega) = s at hs
      rw [q.1 529 k (by unfold Qra Qrk Qna; omega), g529 k s hs] at ev4
      subst ev4
      obtain ⟨x, x1, x2, x3⟩ := st2_mem (List.mem_of_getElem? hs)
      obtain ⟨p, hp⟩ := List.mem_iff_getElem?.mp x1
      have hsp := fl_po hN hR hp
      rw [x2] at hsp
      have hsm : s < m := by
        have := po_le hN R hR _ hsp
        omega
      have hsin : vp_in (zi s) 3700 := (zin_iff (by omega)).mpr (by omega)
      have rp : ∀ A, eqQ Qra I A → RepNM A m N := fun A qA => rep.kp2 (qA.1 _ _ (by unfold Qra Qrk Qna; omega)) (fun a j u1 u2 => qA.1 a j (by unfold Qra Qrk Qna; omega)) (fun j => qA.2 511 j (by unfold Qra Qrk Qna; omega))
      have tvA : ∀ A, eqQ Qra I A → TvM A N R := fun A qA => tv.kp (fun a j u1 u2 => qA.1 a j (by unfold Qra Qrk Qna; omega))
      obtain ⟨ex, c1, -, c3⟩ := hN.child (k := 2) (y := 2) hsm (show ndR (N s) = ((2 : Nat) : Int) from x3) rfl
      obtain ⟨z, d1, d2, d3⟩ := hN.child (k := 0) (y := 5) hsm (show ndR (N s) = ((2 : Nat) : Int) from x3) rfl
      obtain ⟨w1, w2⟩ := nm_child hN t hsp (List.mem_of_getElem? d1) d2
      obtain ⟨i', y, -, y2, y3, -⟩ := fl_ch hN hR hp (by rw [x2]; exact c1)
      have y2' : (flR N R)[i']? = some y := y2
      intro P39 h39
      have rest : ∀ (t6 : Int32) (A : zI), eqQ Qra I A → NmM A (nmL N R) → P39 t6 A := by
        intro t6 A qA nA
        refine h39 t6 A ?_
        intro P66 h66
        have st : ∀ t8 : Int32, P66 t8 := by
          intro t8
          refine h66 t8 ?_
          intro v2' ev2'
          refine s_MchildOf (k := 2) (rp A qA) hm hsm (ch _ hsm) c1 ⟨(zin_iff (by omega)).mpr (by omega), ?_⟩
          rw [zi_tn (show ex < 2147483648 by omega), ← y3, ((tvA A qA) i' y y2').2.1, y3]
          refine r_reckons (rp A qA) hN hm t y2' (tvA A qA) nA (fun B qB nB => ?_)
          have qB' : eqQ Qra I B := qA.tr (qB.mono (fun a j h => Or.inl h))
          refine s_MchildOf (k := 0) (rp B qB') hm hsm (ch _ hsm) d1 ⟨(zin_iff (by omega)).mpr (by omega), ?_⟩
          rw [zi_tn (show z < 2147483648 by omega), show B.2 511 z = nmV N z from (((rp B qB').2 z (by omega)).2.2.2.2.2.2 (by omega)).2]
          refine s_nameOf hS w1 nB (fun r C hr qC nC => ⟨(zin_iff (by omega)).mpr (by omega), (zin_iff (by omega)).mpr (by omega), fun I15 e15 v3' ev3' => ?_⟩)
          rw [ev3', zi_succ]
          have qC' : eqQ Qra I C := qB'.tr (qC.mono (fun a j h => Or.inl (Or.inl h)))
          exact ih (k + 1) _ I15 (by omega) (by rw [e15]; exact qC'.zu (Or.inl (Or.inl (Or.inr (Or.inr rfl))))) (nC.kp (by rw [e15, zu_oo (by decide)]) (fun j => by rw [e15, zu_2]))
        intro P64 h64
        split
        · exact h64 (st _)
        · refine ⟨hsin, ?_⟩
          split
          · exact st _
          · exact h64 (st _)
      split
      · exact rest _ J q nJ
      · exact r_reads (rp J q) hN hm t hp x2 x3 (tvA J q) nJ (fun v A qA nA => rest v A (q.tr qA) nA)
  exact main (setsOf N R).length 0 0 I1 (by omega) q1 n1
theorem r_runsAll {m R n : Nat} {og : Nat → Nat} {N : Nat → Nd} {e : Bool} {I : zI} {K : Int32 → zI → Prop} (rep : RepNM I m N) (hN : NdOk m N) (hm : m ≤ 3700) (t : TreeI m N R n og) (vi : ViM I N R n) (hK : ∀ v J, eqQ Qra I J → K v J) : w_M_runsAll (b01 e) I K :=
  r_runsAllN rep hN hm t vi (fun v J q _ => hK v J q)
