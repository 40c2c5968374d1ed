/-! ===== edit, cut, twin, swap: the model ===== -/
theorem RM.kp {I J : zI} {x : Sg} (hv : Iv x) {tp : List Int32} (h : RM I (tp, x.2)) (e : ∀ a j, ((a = 491 ∧ (j = 0 ∨ j = 5 ∨ j = 7 ∨ j = 8 ∨ j = 15 ∨ j = 19 ∨ j = 25 ∨ j = 36 ∨ j = 37 ∨ j = 43 ∨ j = 51 ∨ j = 53 ∨ j = 59 ∨ j = 75 ∨ j = 76)) ∨ a = 492 ∨ (494 ≤ a ∧ a ≤ 495) ∨ (501 ≤ a ∧ a ≤ 516) ∨ (521 ≤ a ∧ a ≤ 526) ∨ a = 528 ∨ a = 529 ∨ a = 533 ∨ a = 534 ∨ a = 542) → J.1 a j = I.1 a j) (e2 : ∀ a j, a = 507 ∨ a = 511 → J.2 a j = I.2 a j) : RM J (tp, x.2) := by
  obtain ⟨r1, r2, r3, r4, r5, r6, r7, nw, sC, sA, sZ⟩ := h
  obtain ⟨hTp, hN, hu, hm, hTk, hP, hE, hC, hA, hZ, hAZ⟩ := hv
  exact ⟨r1.kp (e _ _ (by omega)) (fun j => e _ _ (by omega)), r2.kp2 (e _ _ (by omega)) (fun a j u1 u2 => e a j (by omega)) (fun j => e2 511 j (Or.inr rfl)), r3.kp (fun a j u => e a j (by omega)), r4.kp (fun a j u => e a j (by omega)), by rw [e _ _ (by omega)]; exact r5, by rw [e _ _ (by omega)]; exact r6, by rw [e _ _ (by omega)]; exact r7, nw.kp (fun a j u => e a j (by omega)) (fun j => e2 507 j (Or.inl rfl)), sC.kp hC.1 hC.2.1 (fun j _ _ => e _ _ (by omega)), fun k y hy => (sA k y hy).kp (hA y (List.mem_of_getElem? hy)).1 (hA y (List.mem_of_getElem? hy)).2.1 (fun j _ _ => e _ _ (by omega)), fun k y hy => (sZ k y hy).kp (hZ y (List.mem_of_getElem? hy)).1 (hZ y (List.mem_of_getElem? hy)).2.1 (fun j _ _ => e _ _ (by omega))⟩
/-- new bytes and new tokens: what a text that is tried may touch -/
def Qnw (a j : Nat) : Prop := (a = 491 ∧ (j = 3 ∨ j = 9)) ∨ a = 493 ∨ (496 ≤ a ∧ a ≤ 499)
theorem RM.nw {I J : zI} {x : Sg} (hv : Iv x) {tp : List Int32} (h : RM I (tp, x.2)) (q : eqQ Qnw I J) : RM J (tp, x.2) := h.kp hv (fun a j u => q.1 a j (by unfold Qnw; omega)) (fun a j u => q.2 a j (by unfold Qnw; omega))
theorem Qnw_mo {I J : zI} (q : eqQ Qnw I J) : eqQ Qmo I J := q.mono (fun a j h => by unfold Qnw at h; unfold Qmo; omega)
theorem s_isRefused {x : Sg} {tp d : List Int32} {I : zI} {K : Int32 → zI → Prop} (hv : Iv x) (hR : RM I (tp, x.2)) (hd : d.length ≤ 700) (hD : NwM I d) (h0 : refu x d → ∀ J, eqQ Qnw I J → K 1 J) (h1 : ¬ refu x d → ∀ J, eqQ Qnw I J → NewT J d → K 0 J) : w_M_isRefused (zi d.length) I K := by
  obtain ⟨r1, r2, r3, r4, -⟩ := hR
  change RepNM I (sgM x) (sgN x) at r2
  change PrM I (sgP x) at r4
  obtain ⟨hTp, hN, hu, hm, hTk, ⟨hP1, hP2⟩, -⟩ := hv
  unfold w_M_isRefused
  rw [r2.1, r4.1]
  by_cases c1 : 300 < d.length
  · rw [if_pos (show (300 : Int32) < zi d.length from (zi_lt (a := 300) (by decide) (by omega)).mpr c1)]
    exact h0 (Or.inl c1) I eqQ.rf
  rw [if_neg (show ¬ (300 : Int32) < zi d.length from fun u => c1 ((zi_lt (a := 300) (by decide) (by omega)).mp u))]
  by_cases c2 : 3000 ≤ sgM x
  · rw [if_pos (show (3000 : Int32) ≤ zi (sgM x) from (zi_le (a := 3000) (by decide) (by omega)).mpr c2)]
    exact h0 (Or.inr (Or.inl c2)) I eqQ.rf
  rw [if_neg (show ¬ (3000 : Int32) ≤ zi (sgM x) from fun u => c2 ((zi_le (a := 3000) (by decide) (by omega)).mp u))]
  by_cases c3 : 3900 ≤ (sgP x).length
  · rw [if_neg (show ¬ zi (sgP x).length < 3900 from fun u => by have := (zi_lt (b := 3900) (by omega) (by decide)).mp u; omega)]
    exact h0 (Or.inr (Or.inr (Or.inl c3))) I eqQ.rf
  rw [if_pos (show zi (sgP x).length < 3900 from (zi_lt (b := 3900) (by omega) (by decide)).mpr (by omega))]
  refine s_cutsUp (t := txF d) (by omega) hD (fun J qJ hn hu' => ?_)
  have qJ' : eqQ Qnw I J := qJ.mono (fun a j h => by unfold Qcut at h; unfold Qnw; omega)
  have hl : (lexL d).length ≤ 700 := by
    have h1 : (lexL d).length = (lexF (txF d) d.length d.length 0).length + 1 := by
      show (lexF (txF d) d.length d.length 0 ++ [(10, d.length, 0)]).length = _
      rw [List.length_append]
      rfl
    have h2 := lexF_cnt (t := txF d) (n := d.length) d.length 0
    omega
  rw [show J.1 491 9 = zi (lexL d).length from hu'.1]
  by_cases c4 : 100 < (lexL d).length
  · rw [if_neg (show ¬ zi (lexL d).length ≤ 100 from fun u => by have := (zi_le (b := 100) (by omega) (by decide)).mp u; omega)]
    exact h0 (Or.inr (Or.inr (Or.inr c4))) J qJ'
  · rw [if_pos (show zi (lexL d).length ≤ 100 from (zi_le (b := 100) (by omega) (by decide)).mpr (by omega))]
    refine h1 ?_ J qJ' ⟨hn, fun j hj => by rw [qJ.1 493 j (by unfold Qcut; omega)]; exact hD j hj, hu'⟩
    rintro (u | u | u | u)
    · exact c1 u
    · exact c2 u
    · exact c3 u
    · exact c4 u
/-- a change that takes no bytes from the tape -/
theorem s_doM {x : Sg} {d : List Int32} {I : zI} {K : Int32 → zI → Prop} (hv : Iv x) (hR : RM I x) (hd : BtL d) (hdl : d.length ≤ 700) (hD : NwM I d) (he : sgE x < 100000) (hK : ∀ J, eqQ Qmo I J → RM J (doC x d false).2 → K (doC x d false).1 J) : w_M_isRefused (zi d.length) I (fun r_8 I_9 => (if r_8 = 0 then (w_M_edited I_9 (fun r_10 I_11 => K r_10 I_11)) else (K (-1) I_9))) := by
  have hR' : RM I (sgT x, x.2) := hR
  unfold doC at hK
  refine s_isRefused hv hR' hdl hD (fun hr J q => ?_) (fun hr J q nt => ?_)
  · rw [if_pos (show 300 < d.length ∨ 3000 ≤ sgM x ∨ 3900 ≤ (sgP x).length ∨ 100 < (lexL d).length from hr)] at hK
    rw [if_neg (by decide)]
    exact hK J (Qnw_mo q) (hR'.nw hv q)
  · have hr' : ¬ (300 < d.length ∨ 3000 ≤ sgM x ∨ 3900 ≤ (sgP x).length ∨ 100 < (lexL d).length) := hr
    rw [if_neg hr'] at hK
    rw [if_pos rfl]
    exact s_edited hv (hR'.nw hv q) ⟨by omega, hd.at, by omega⟩ hr nt he (fun L qL rL => hK L ((Qnw_mo q).tr qL) rL)
/-- one that takes all bytes of the tape -/
theorem s_doMt {x : Sg} {d : List Int32} {I : zI} {K : Int32 → zI → Prop} (hv : Iv x) (hR : RM I x) (hd : BtL d) (hdl : d.length ≤ 700) (hD : NwM I d) (he : sgE x < 100000) (hK : ∀ J, eqQ Qmo I J → RM J (doC x d true).2 → K (doC x d true).1 J) : w_M_isRefused (zi d.length) I (fun r_11 I_12 => (if r_11 = 0 then (∀ I_13, I_13 = (zu I_12 491 0 0) → w_M_edited I_13 (fun r_14 I_15 => K r_14 I_15)) else (K (-1) I_12))) := by
  have hR' : RM I (sgT x, x.2) := hR
  unfold doC at hK
  refine s_isRefused hv hR' hdl hD (fun hr J q => ?_) (fun hr J q nt => ?_)
  · rw [if_pos (show 300 < d.length ∨ 3000 ≤ sgM x ∨ 3900 ≤ (sgP x).length ∨ 100 < (lexL d).length from hr)] at hK
    rw [if_neg (by decide)]
    exact hK J (Qnw_mo q) (hR'.nw hv q)
  · have hr' : ¬ (300 < d.length ∨ 3000 ≤ sgM x ∨ 3900 ≤ (sgP x).length ∨ 100 < (lexL d).length) := hr
    rw [if_neg hr'] at hK
    rw [if_pos rfl]
    intro I13 e13
    have rJ := hR'.nw hv q
    have o : ∀ a j, ¬ (a = 491 ∧ j = 0) → I13.1 a j = J.1 a j := fun a j u => by rw [e13, zu_at, if_neg u]
    have r13 : RM I13 ([], x.2) := by
      have hz : RM (zu J 491 0 (J.1 491 0)) (sgT x, x.2) := rJ.kp hv (fun a j _ => by
        rw [zu_at]
        by_cases u : a = 491 ∧ j = 0
        · rw [if_pos u, u.1, u.2]
        · rw [if_neg u]) (fun a j _ => by rw [zu_2])
      obtain ⟨r1, r2, r3, r4, r5, r6, r7, nw, sC, sA, sZ⟩ := rJ
      obtain ⟨hTp, hN, hu, hm, hTk, hP, hE, hC, hA, hZ, hAZ⟩ := hv
      exact ⟨⟨by rw [e13, zu_self]; rfl, fun j v hj => by cases hj⟩, r2.kp2 (o _ _ (by omega)) (fun a j u1 u2 => o a j (by omega)) (fun j => by rw [e13, zu_2]), r3.kp (fun a j u => o a j (by omega)), r4.kp (fun a j u => o a j (by omega)), by rw [o _ _ (by omega)]; exact r5, by rw [o _ _ (by omega)]; exact r6, by rw [o _ _ (by omega)]; exact r7, nw.kp (fun a j u => o a j (by omega)) (fun j => by rw [e13, zu_2]), sC.kp hC.1 hC.2.1 (fun j _ _ => o _ _ (by omega)), fun k y hy => (sA k y hy).kp (hA y (List.mem_of_getElem? hy)).1 (hA y (List.mem_of_getElem? hy)).2.1 (fun j _ _ => o _ _ (by omega)), fun k y hy => (sZ k y hy).kp (hZ y (List.mem_of_getElem? hy)).1 (hZ y (List.mem_of_getElem? hy)).2.1 (fun j _ _ => o _ _ (by omega))⟩
    refine s_edited hv r13 ⟨by omega, hd.at, by omega⟩ hr (nt.kp (o _ _ (by omega)) (o _ _ (by omega)) (fun a j u => o a j (by omega)) (fun j => by rw [e13, zu_2])) he (fun L qL rL => hK L (((Qnw_mo q).tr (by rw [e13]; exact eqQ.rf.zu ⟨by decide, by decide⟩)).tr qL) rL)
theorem s_in {a b c : Int32} {I : zI} {K : Int32 → Prop} (h1 : b ≤ a ∧ a ≤ c → K 1) (h0 : ¬ (b ≤ a ∧ a ≤ c) → K 0) : w_M_in a b c I K := by
  unfold w_M_in
  by_cases c1 : a < b
  · rw [if_pos c1]
    exact h0 (fun u => Int32.not_le.mpr c1 u.1)
  · rw [if_neg c1]
    by_cases c2 : c < a
    · rw [if_pos c2]
      exact h0 (fun u => Int32.not_le.mpr c2 u.2)
    · rw [if_neg c2]
      exact h1 ⟨Int32.not_lt.mp c1, Int32.not_lt.mp c2⟩
theorem NwM.snoc {I : zI} {d : List Int32} {v : Int32} (h : NwM I d) : NwM (zu I 493 d.length v) (d ++ [v]) := by
  intro j hj
  rw [List.length_append] at hj
  change j < d.length + 1 at hj
  rw [zu_at, txF_snoc]
  by_cases w : j = d.length
  · rw [if_pos ⟨rfl, w⟩, if_neg (by omega), if_pos w]
  · rw [if_neg (fun z => w z.2), if_pos (by omega)]
    exact h j (by omega)
theorem s_Medit {x : Sg} {a n : Int32} {I : zI} {K : Int32 → zI → Prop} (hv : Iv x) (hR : RM I x) (he : sgE x < 100000) (hK : ∀ J, eqQ Qmo I J → RM J (editR x a n).2 → K (editR x a n).1 J) : w_M_edit a n I K := by
  have o1 := hv.2.2.2.2.2.2.2.1.1
  have hT200 := hv.1.1
  have l300 := o1.1
  have nw := hR.2.2.2.2.2.2.2.1
  have tpr := hR.1
  unfold w_M_edit
  rw [nw.1]
  unfold editR at hK
  refine s_in (fun c1 => ?_) (fun c1 => ?_)
  rotate_left
  · rw [if_pos rfl]
    rw [if_neg (fun u => c1 ⟨u.1, u.2.2.1⟩)] at hK
    exact hK I eqQ.rf hR
  rw [if_neg (by decide)]
  refine s_in (fun c2 => ?_) (fun c2 => ?_)
  rotate_left
  · rw [if_pos rfl]
    rw [if_neg (fun u => c2 ⟨u.2.1, u.2.2.2⟩)] at hK
    exact hK I eqQ.rf hR
  rw [if_neg (by decide)]
  rw [if_pos ⟨c1.1, c2.1, c1.2, c2.2⟩] at hK
  obtain ⟨an, ha, rfl⟩ := zi_of c1.1
  obtain ⟨nn, hn, rfl⟩ := zi_of c2.1
  have la : an ≤ (moT (sgC x)).length := (zi_le ha (by omega)).mp c1.2
  have c22 := c2.2
  rw [zi_sub la] at c22
  have ln : nn ≤ (moT (sgC x)).length - an := (zi_le hn (by omega)).mp c22
  rw [zi_tn ha, zi_tn hn] at hK
  intro v3 ev3
  rw [zi_sub (by omega), tpr.1, zi_add] at ev3
  have src : ∀ A : zI, eqQ (fun a _ => a = 493) I A → ∀ j, j < (moT (sgC x)).length → A.1 494 j = txF (moT (sgC x)) j := fun A qA j hj => by
    rw [qA.1 494 j (by omega)]
    exact nw.2.1 j hj
  have sgf : seg (moT (sgC x)) 0 an ++ sgT x ++ seg (moT (sgC x)) (an + nn) (an + nn) = seg (moT (sgC x)) 0 an ++ sgT x := by rw [seg_nil, List.append_nil]
  have len1 : ∀ i, an + nn ≤ i → i ≤ (moT (sgC x)).length → (seg (moT (sgC x)) 0 an ++ sgT x ++ seg (moT (sgC x)) (an + nn) i).length = an + (sgT x).length + (i - (an + nn)) := fun i h1 h2 => by
    rw [List.length_append, List.length_append, seg_len la, seg_len h2, Nat.sub_zero]
  intro P43 h43
  have l1 : ∀ (f i : Nat) (A : zI), i + f = an → eqQ (fun a _ => a = 493) I A → NwM A (seg (moT (sgC x)) 0 i) → P43 (zi i) A := by
    intro f
    induction f with
    | succ f ih =>
      intro i A hi q dA
      refine h43 _ _ ?_
      rw [if_neg (fun u => by have := (zi_le (by omega) (by omega)).mp u; omega), zi_tn (show i < 2147483648 by omega)]
      refine ⟨(zin_iff (by omega)).mpr (by omega), (zin_iff (by omega)).mpr (by omega), fun I23 e23 v ev => ?_⟩
      rw [src A q i (by omega)] at e23
      rw [ev, zi_succ]
      refine ih (i + 1) I23 (by omega) (by rw [e23]; exact q.zu rfl) ?_
      rw [seg_succ (Nat.zero_le _) (by omega), e23]
      have hl : (seg (moT (sgC x)) 0 i).length = i := by rw [seg_len (by omega), Nat.sub_zero]
      have := dA.snoc (v := txF (moT (sgC x)) i)
      rw [hl] at this
      exact this
    | zero =>
      intro i A hi q dA
      refine h43 _ _ ?_
      have hia : i = an := by omega
      subst hia
      rw [if_pos ((zi_le (by omega) (by omega)).mpr (Nat.le_refl _))]
      intro P72 h72
      have l2 : ∀ (f2 j : Nat) (B : zI), j + f2 = (sgT x).length → eqQ (fun a _ => a = 493) I B → NwM B (seg (moT (sgC x)) 0 i ++ seg (sgT x) 0 j) → P72 (zi j) B := by
        intro f2
        induction f2 with
        | succ f2 ih2 =>
          intro j B hj q2 dB
          refine h72 _ _ ?_
          rw [q2.1 491 0 (by omega), tpr.1, if_neg (fun u => by have := (zi_le (by omega) (by omega)).mp u; omega), zi_add, zi_tn (show j < 2147483648 by omega), zi_tn (show i + j < 2147483648 by omega)]
          refine ⟨(zin_iff (by omega)).mpr (by omega), (zin_iff (by omega)).mpr (by omega), fun I20 e20 v ev => ?_⟩
          rw [q2.1 492 j (by omega), tpr.2 j (txF (sgT x) j) (by
            rw [txF_at (List.getElem?_eq_getElem (show j < (sgT x).length by omega))]
            exact List.getElem?_eq_getElem _)] at e20
          rw [ev, zi_succ]
          refine ih2 (j + 1) I20 (by omega) (by rw [e20]; exact q2.zu rfl) ?_
          rw [seg_succ (Nat.zero_le _) (by omega), e20, ← List.append_assoc]
          have hl : (seg (moT (sgC x)) 0 i ++ seg (sgT x) 0 j).length = i + j := by rw [List.length_append, seg_len (by omega), seg_len (by omega), Nat.sub_zero, Nat.sub_zero]
          have := dB.snoc (v := txF (sgT x) j)
          rw [hl] at this
          exact this
        | zero =>
          intro j B hj q2 dB
          refine h72 _ _ ?_
          have hjt : j = (sgT x).length := by omega
          subst hjt
          rw [q2.1 491 0 (by omega), tpr.1, if_pos ((zi_le (by omega) (by omega)).mpr (Nat.le_refl _))]
          have sg0 : seg (sgT x) 0 (sgT x).length = sgT x := by
            unfold seg
            rw [List.drop_zero, Nat.sub_zero, List.take_length]
          rw [sg0] at dB
          intro v4 ev4
          rw [zi_add] at ev4
          subst ev4
          intro P108 h108
          have l3 : ∀ (f3 k : Nat) (C : zI), k + f3 = (moT (sgC x)).length → i + nn ≤ k → eqQ (fun a _ => a = 493) I C → NwM C (seg (moT (sgC x)) 0 i ++ sgT x ++ seg (moT (sgC x)) (i + nn) k) → P108 (zi k) C := by
            intro f3
            induction f3 with
            | succ f3 ih3 =>
              intro k C hk hk2 q3 dC
              refine h108 _ _ ?_
              rw [q3.1 491 5 (by omega), nw.1, if_neg (fun u => by have := (zi_le (by omega) (by omega)).mp u; omega), q3.1 491 0 (by omega), tpr.1, zi_sub (show nn ≤ k by omega), zi_add, zi_tn (show k < 2147483648 by omega), zi_tn (show k - nn + (sgT x).length < 2147483648 by omega)]
              refine ⟨(zin_iff (by omega)).mpr (by omega), (zin_iff (by omega)).mpr (by omega), fun I17 e17 v ev => ?_⟩
              rw [src C q3 k (by omega)] at e17
              rw [ev, zi_succ]
              refine ih3 (k + 1) I17 (by omega) (by omega) (by rw [e17]; exact q3.zu rfl) ?_
              rw [seg_succ hk2 (by omega), e17, ← List.append_assoc]
              have := dC.snoc (v := txF (moT (sgC x)) k)
              rw [len1 k hk2 (by omega), show i + (sgT x).length + (k - (i + nn)) = k - nn + (sgT x).length by omega] at this
              exact this
            | zero =>
              intro k C hk hk2 q3 dC
              refine h108 _ _ ?_
              have hkl : k = (moT (sgC x)).length := by omega
              subst hkl
              rw [q3.1 491 5 (by omega), nw.1, if_pos ((zi_le (by omega) (by omega)).mpr (Nat.le_refl _))]
              have q3n : eqQ Qnw I C := q3.mono (fun a j h => Or.inr (Or.inl h))
              have hb : BtL (seg (moT (sgC x)) 0 i ++ sgT x ++ seg (moT (sgC x)) (i + nn) (moT (sgC x)).length) := (((BtL.of o1.2.1).sg).app hv.1.2).app ((BtL.of o1.2.1).sg)
              have hl := len1 (moT (sgC x)).length (by omega) (Nat.le_refl _)
              have e3 : v3 = zi (seg (moT (sgC x)) 0 i ++ sgT x ++ seg (moT (sgC x)) (i + nn) (moT (sgC x)).length).length := by
                rw [ev3, hl]
                congr 1
                omega
              rw [e3]
              exact s_doMt hv (RM.nw hv (tp := sgT x) hR q3n) hb (by omega) dC he (fun J qJ rJ => hK J ((Qnw_mo q3n).tr qJ) rJ)
          exact l3 ((moT (sgC x)).length - (i + nn)) (i + nn) B (by omega) (Nat.le_refl _) q2 (by rw [seg_nil, List.append_nil]; exact dB)
      exact l2 (sgT x).length 0 A (by omega) q (by rw [seg_nil, List.append_nil]; exact dA)
  exact l1 an 0 I (by omega) eqQ.rf (fun j hj => by rw [seg_nil] at hj; cases hj)
theorem s_isRun {x : Sg} {i : Int32} {I : zI} {K : Int32 → Prop} (hv : Iv x) (hR : RM I x) (h1 : 0 ≤ i ∧ i < zi (runsOf (sgN x) (moR (sgC x))).length → K 1) (h0 : ¬ (0 ≤ i ∧ i < zi (runsOf (sgN x) (moR (sgC x))).length) → K 0) : w_M_isRun i I K := by
  have rr := (runs_ok hv.2.1 hv.2.2.1 hv.2.2.2.2.2.2.2.1.2.2.2.1).2
  unfold w_M_isRun
  rw [show I.1 491 51 = zi (runsOf (sgN x) (moR (sgC x))).length from hR.2.2.1.2.2.2.1]
  have key : ∀ i : Int32, 0 ≤ i → (i ≤ zi (runsOf (sgN x) (moR (sgC x))).length - 1 ↔ i < zi (runsOf (sgN x) (moR (sgC x))).length) := fun i hi => by
    obtain ⟨k, hk, rfl⟩ := zi_of hi
    by_cases u : (runsOf (sgN x) (moR (sgC x))).length = 0
    · rw [u]
      constructor
      · intro w
        have := Int32.le_trans hi w
        exact absurd this (by decide)
      · intro w
        have := (zi_lt (b := 0) hk (by decide)).mp w
        omega
    · rw [show zi (runsOf (sgN x) (moR (sgC x))).length - 1 = zi ((runsOf (sgN x) (moR (sgC x))).length - 1) from zi_sub (b := 1) (by omega), zi_le hk (by omega), zi_lt hk (by omega)]
      omega
  refine s_in (fun c => ⟨Or.inr rfl, h1 ⟨c.1, (key i c.1).mp c.2⟩⟩) (fun c => ⟨Or.inl rfl, h0 (fun u => c ⟨u.1, (key i u.1).mpr u.2⟩)⟩)
theorem s_beginOf {x : Sg} {i r : Nat} {I : zI} {K : Int32 → Prop} (hv : Iv x) (hR : RM I x) (hr : (runsOf (sgN x) (moR (sgC x)))[i]? = some r) (hK : K (zi (rS x i))) : w_M_beginOf (zi r) I K := by
  obtain ⟨a1, a2, a3, -, ⟨p, y, b1, b2, b3⟩, -⟩ := run_ok hv hr
  have o := hv.2.2.2.2.2.2.2.1
  have h100 := o.2.1.2.2
  have hm := hv.2.2.2.1
  obtain ⟨-, -, r3, -, -, -, -, nw, -⟩ := hR
  obtain ⟨-, -, oo, c3, c4, c5⟩ := r3.2.1.2.1 p y (List.getElem?_eq_some_iff.mp b1).1 b1
  have e526 : I.1 526 r = zi (fsR x i) := by
    rw [← b2, c4]
    have := c5 (by omega)
    congr 1
    omega
  unfold w_M_beginOf
  rw [zi_tn (show r < 2147483648 by omega), e526, zi_tn (show fsR x i < 2147483648 by omega)]
  refine ⟨(zin_iff (by omega)).mpr (by omega), (zin_iff (by omega)).mpr (by omega), ?_⟩
  have hx : (lexL (moG (sgC x)))[fsR x i]? = some (tkG x (fsR x i)) := by
    unfold tkG
    rw [List.getD_eq_getElem?_getD, List.getElem?_eq_getElem (by omega)]
    rfl
  rw [show I.1 505 (fsR x i) = zi (tkG x (fsR x i)).2.1 from (nw.2.2.2.2.2.2.1.2 _ _ hx).2.1]
  exact hK
theorem s_endOf {x : Sg} {i r : Nat} {I : zI} {K : Int32 → Prop} (hv : Iv x) (hR : RM I x) (hr : (runsOf (sgN x) (moR (sgC x)))[i]? = some r) (hK : K (zi (rE x i))) : w_M_endOf (zi r) I K := by
  obtain ⟨a1, a2, a3, ag, ⟨p, y, b1, b2, b3⟩, -⟩ := run_ok hv hr
  have o := hv.2.2.2.2.2.2.2.1
  have h100 := o.2.1.2.2
  have hm := hv.2.2.2.1
  obtain ⟨-, r2, r3, -, -, -, -, nw, -⟩ := hR
  obtain ⟨-, -, oo, c3, c4, c5⟩ := r3.2.1.2.1 p y (List.getElem?_eq_some_iff.mp b1).1 b1
  have e526 : I.1 526 r = zi (fsR x i) := by
    rw [← b2, c4]
    have := c5 (by omega)
    congr 1
    omega
  have hls : fsR x i + ndT (sgN x r) - 1 = lsR x i := by
    unfold lsR
    rw [ag]
  have hl100 : lsR x i < (lexL (moG (sgC x))).length := by omega
  have hx : (lexL (moG (sgC x)))[lsR x i]? = some (tkG x (lsR x i)) := by
    unfold tkG
    rw [List.getD_eq_getElem?_getD, List.getElem?_eq_getElem hl100]
    rfl
  have hin : vp_in (zi r) 3700 := (zin_iff (by omega)).mpr (by omega)
  unfold w_M_endOf
  rw [zi_tn (show r < 2147483648 by omega), e526, show I.1 515 r = zi (ndT (sgN x r)) from (r2.2 r a1).2.2.1]
  refine ⟨hin, hin, fun v ev => ?_⟩
  rw [zi_add, show zi (fsR x i + ndT (sgN x r)) - 1 = zi (fsR x i + ndT (sgN x r) - 1) from zi_sub (b := 1) (by omega), hls] at ev
  subst ev
  have hin2 : vp_in (zi (lsR x i)) 110 := (zin_iff (by omega)).mpr (by omega)
  refine ⟨hin2, hin2, ?_⟩
  obtain ⟨-, w2, w3, -⟩ := nw.2.2.2.2.2.2.1.2 _ _ hx
  rw [zi_tn (show lsR x i < 2147483648 by omega), show I.1 505 (lsR x i) = zi (tkG x (lsR x i)).2.1 from w2, show I.1 506 (lsR x i) = zi (tkG x (lsR x i)).2.2 from w3, zi_add]
  exact hK
theorem q93_nw {I J : zI} (q : eqQ (fun a _ => a = 493) I J) : eqQ Qnw I J := q.mono (fun a j h => Or.inr (Or.inl h))
theorem RM.rn {x : Sg} {I : zI} {i r : Nat} (hR : RM I x) (hr : (runsOf (sgN x) (moR (sgC x)))[i]? = some r) : I.1 528 i = zi r := hR.2.2.1.2.2.2.2.2.1 i r hr
theorem RM.gd {x : Sg} {I : zI} (hR : RM I x) (hTG : moT (sgC x) = moG (sgC x)) : ∀ j, j < (moT (sgC x)).length → I.1 495 j = txF (moT (sgC x)) j := by
  rw [hTG]
  exact hR.2.2.2.2.2.2.2.1.2.2.2.2.2.1
theorem NwM.nil {I : zI} : NwM I [] := fun j hj => by cases hj
theorem s_Mcut {x : Sg} {i : Int32} {I : zI} {K : Int32 → zI → Prop} (hv : Iv x) (hR : RM I x) (he : sgE x < 100000) (hK : ∀ J, eqQ Qmo I J → RM J (runR cutD x i).2 → K (runR cutD x i).1 J) : w_M_cut i I K := by
  obtain ⟨o1, o2, oB, oR, oK⟩ := hv.2.2.2.2.2.2.2.1
  have l300 := o1.1
  unfold w_M_cut
  rw [hR.2.2.2.2.2.2.2.1.2.2.2.2.2.2.2.2.1]
  unfold runR at hK
  cases hb : moB (sgC x) with
  | false =>
    rw [if_pos (show b01 false = 0 by decide)]
    rw [if_neg (fun u => by rw [hb] at u; cases u.1)] at hK
    exact hK I eqQ.rf hR
  | true =>
    rw [if_neg (show ¬ b01 true = 0 by decide)]
    have hTG := oB hb
    refine s_isRun hv hR (fun hi => ?_) (fun hi => ?_)
    · rw [if_neg (by decide)]
      rw [if_pos ⟨hb, hi⟩] at hK
      obtain ⟨i', hi', rfl⟩ := zi_of hi.1
      have rr := (runs_ok hv.2.1 hv.2.2.1 oR).2
      have hil := (zi_lt hi' (by omega)).mp hi.2
      rw [zi_tn hi'] at hK ⊢
      have hr : (runsOf (sgN x) (moR (sgC x)))[i']? = some ((runsOf (sgN x) (moR (sgC x)))[i']'hil) := List.getElem?_eq_getElem hil
      obtain ⟨-, -, -, -, -, w1, w2, -⟩ := run_ok hv hr
      rw [← hTG] at w2
      have hin : vp_in (zi i') 110 := (zin_iff (by omega)).mpr (by omega)
      refine ⟨hin, ?_⟩
      rw [hR.rn hr]
      refine s_beginOf hv hR hr ?_
      refine s_copies (a := 0) (t := moT (sgC x)) (d := []) l300 (hR.gd hTG) (Nat.zero_le _) (by omega) (by show 0 + _ ≤ 700; omega) NwM.nil (fun I4 q4 D4 => ?_)
      have R4 : RM I4 x := RM.nw hv (tp := sgT x) hR (q93_nw q4)
      rw [List.nil_append] at D4 ⊢
      refine ⟨hin, ?_⟩
      rw [R4.rn hr]
      refine s_endOf hv R4 hr ?_
      rw [R4.2.2.2.2.2.2.2.1.2.2.2.2.1, ← hTG]
      refine s_copies l300 (R4.gd hTG) w2 (Nat.le_refl _) (by rw [seg_len (by omega)]; omega) D4 (fun I7 q7 D7 => ?_)
      have q7' := q4.tr q7
      exact s_doM (d := cutD x i') hv (RM.nw hv (tp := sgT x) hR (q93_nw q7')) (((BtL.of o1.2.1).sg).app ((BtL.of o1.2.1).sg)) (by unfold cutD; rw [List.length_append, seg_len (by omega), seg_len (by omega)]; omega) D7 he (fun J qJ rJ => hK J ((Qnw_mo (q93_nw q7')).tr qJ) rJ)
    · rw [if_pos rfl]
      rw [if_neg (fun u => hi u.2)] at hK
      exact hK I eqQ.rf hR
theorem s_Mtwin {x : Sg} {i : Int32} {I : zI} {K : Int32 → zI → Prop} (hv : Iv x) (hR : RM I x) (he : sgE x < 100000) (hK : ∀ J, eqQ Qmo I J → RM J (runR twinD x i).2 → K (runR twinD x i).1 J) : w_M_twin i I K := by
  obtain ⟨o1, o2, oB, oR, oK⟩ := hv.2.2.2.2.2.2.2.1
  have l300 := o1.1
  unfold w_M_twin
  rw [hR.2.2.2.2.2.2.2.1.2.2.2.2.2.2.2.2.1]
  unfold runR at hK
  cases hb : moB (sgC x) with
  | false =>
    rw [if_pos (show b01 false = 0 by decide)]
    rw [if_neg (fun u => by rw [hb] at u; cases u.1)] at hK
    exact hK I eqQ.rf hR
  | true =>
    rw [if_neg (show ¬ b01 true = 0 by decide)]
    have hTG := oB hb
    refine s_isRun hv hR (fun hi => ?_) (fun hi => ?_)
    · rw [if_neg (by decide)]
      rw [if_pos ⟨hb, hi⟩] at hK
      obtain ⟨i', hi', rfl⟩ := zi_of hi.1
      have rr := (runs_ok hv.2.1 hv.2.2.1 oR).2
      have hil := (zi_lt hi' (by omega)).mp hi.2
      rw [zi_tn hi'] at hK ⊢
      have hr : (runsOf (sgN x) (moR (sgC x)))[i']? = some ((runsOf (sgN x) (moR (sgC x)))[i']'hil) := List.getElem?_eq_getElem hil
      obtain ⟨-, -, -, -, -, w1, w2, -⟩ := run_ok hv hr
      rw [← hTG] at w2
      have hin : vp_in (zi i') 110 := (zin_iff (by omega)).mpr (by omega)
      refine ⟨hin, ?_⟩
      rw [hR.rn hr]
      refine s_endOf hv hR hr ?_
      refine s_copies (a := 0) (t := moT (sgC x)) (d := []) l300 (hR.gd hTG) (Nat.zero_le _) (by omega) (by show 0 + _ ≤ 700; omega) NwM.nil (fun I4 q4 D4 => ?_)
      have R4 : RM I4 x := RM.nw hv (tp := sgT x) hR (q93_nw q4)
      rw [List.nil_append] at D4 ⊢
      refine ⟨hin, ?_⟩
      rw [R4.rn hr]
      refine s_beginOf hv R4 hr ?_
      rw [R4.2.2.2.2.2.2.2.1.2.2.2.2.1, ← hTG]
      refine s_copies l300 (R4.gd hTG) (by omega) (Nat.le_refl _) (by rw [seg_len (by omega)]; omega) D4 (fun I7 q7 D7 => ?_)
      have q7' := q4.tr q7
      exact s_doM (d := twinD x i') hv (RM.nw hv (tp := sgT x) hR (q93_nw q7')) (((BtL.of o1.2.1).sg).app ((BtL.of o1.2.1).sg)) (by unfold twinD; rw [List.length_append, seg_len (by omega), seg_len (by omega)]; omega) D7 he (fun J qJ rJ => hK J ((Qnw_mo (q93_nw q7')).tr qJ) rJ)
    · rw [if_pos rfl]
      rw [if_neg (fun u => hi u.2)] at hK
      exact hK I eqQ.rf hR
theorem s_Mswap {x : Sg} {i : Int32} {I : zI} {K : Int32 → zI → Prop} (hv : Iv x) (hR : RM I x) (he : sgE x < 100000) (hK : ∀ J, eqQ Qmo I J → RM J (swapR x i).2 → K (swapR x i).1 J) : w_M_swap i I K := by
  obtain ⟨o1, o2, oB, oR, oK⟩ := hv.2.2.2.2.2.2.2.1
  have l300 := o1.1
  unfold w_M_swap
  rw [hR.2.2.2.2.2.2.2.1.2.2.2.2.2.2.2.2.1]
  unfold swapR at hK
  cases hb : moB (sgC x) with
  | false =>
    rw [if_pos (show b01 false = 0 by decide)]
    rw [if_neg (fun u => by rw [hb] at u; cases u.1)] at hK
    exact hK I eqQ.rf hR
  | true =>
    rw [if_neg (show ¬ b01 true = 0 by decide)]
    have hTG := oB hb
    refine s_isRun hv hR (fun hi => ?_) (fun hi => ?_)
    · rw [if_neg (by decide)]
      refine s_isRun hv hR (fun hi2 => ?_) (fun hi2 => ?_)
      · rw [if_neg (by decide)]
        rw [if_pos ⟨hb, hi, hi2⟩] at hK
        obtain ⟨i', hi', rfl⟩ := zi_of hi.1
        have rr := (runs_ok hv.2.1 hv.2.2.1 oR).2
        have hil := (zi_lt hi' (by omega)).mp hi.2
        rw [zi_succ] at hi2 ⊢
        have hil2 := (zi_lt (by omega) (by omega)).mp hi2.2
        rw [zi_tn hi'] at hK ⊢
        rw [zi_tn (show i' + 1 < 2147483648 by omega)]
        have hr : (runsOf (sgN x) (moR (sgC x)))[i']? = some ((runsOf (sgN x) (moR (sgC x)))[i']'hil) := List.getElem?_eq_getElem hil
        have hr2 : (runsOf (sgN x) (moR (sgC x)))[i' + 1]? = some ((runsOf (sgN x) (moR (sgC x)))[i' + 1]'hil2) := List.getElem?_eq_getElem hil2
        obtain ⟨-, -, -, -, -, w1, w2, w3⟩ := run_ok hv hr
        obtain ⟨-, -, -, -, -, y1, y2, -⟩ := run_ok hv hr2
        have w3 := w3 (by rw [hr2]; exact Option.some_ne_none _)
        rw [← hTG] at w2 y2
        have bt := BtL.of o1.2.1
        have hin : vp_in (zi i') 110 := (zin_iff (by omega)).mpr (by omega)
        have hin2 : vp_in (zi (i' + 1)) 110 := (zin_iff (by omega)).mpr (by omega)
        refine ⟨hin, fun v2 ev2 => ⟨hin2, fun v3 ev3 => ?_⟩⟩
        rw [hR.rn hr] at ev2
        rw [hR.rn hr2] at ev3
        subst ev2
        subst ev3
        have rA : ∀ A, eqQ (fun a _ => a = 493) I A → RM A x := fun A q => RM.nw hv (tp := sgT x) hR (q93_nw q)
        refine s_beginOf hv hR hr ?_
        refine s_copies (a := 0) (t := moT (sgC x)) (d := []) l300 (hR.gd hTG) (Nat.zero_le _) (by omega) (by show 0 + _ ≤ 700; omega) NwM.nil (fun I7 q7 D7 => ?_)
        rw [List.nil_append] at D7 ⊢
        have R7 := rA I7 q7
        refine s_beginOf hv R7 hr2 (s_endOf hv R7 hr2 ?_)
        refine s_copies l300 (R7.gd hTG) y1 y2 (by rw [seg_len (by omega)]; omega) D7 (fun I11 q11 D11 => ?_)
        have q11' := q7.tr q11
        have R11 := rA I11 q11'
        refine s_endOf hv R11 hr (s_beginOf hv R11 hr2 ?_)
        refine s_copies l300 (R11.gd hTG) w3 (by omega) (by rw [List.length_append, seg_len (by omega), seg_len (by omega)]; omega) D11 (fun I15 q15 D15 => ?_)
        have q15' := q11'.tr q15
        have R15 := rA I15 q15'
        refine s_beginOf hv R15 hr (s_endOf hv R15 hr ?_)
        refine s_copies l300 (R15.gd hTG) w1 w2 (by rw [List.length_append, List.length_append, seg_len (by omega), seg_len (by omega), seg_len (by omega)]; omega) D15 (fun I19 q19 D19 => ?_)
        have q19' := q15'.tr q19
        have R19 := rA I19 q19'
        refine s_endOf hv R19 hr2 ?_
        rw [R19.2.2.2.2.2.2.2.1.2.2.2.2.1, ← hTG]
        refine s_copies l300 (R19.gd hTG) y2 (Nat.le_refl _) (by rw [List.length_append, List.length_append, List.length_append, seg_len (by omega), seg_len (by omega), seg_len (by omega), seg_len (by omega)]; omega) D19 (fun I22 q22 D22 => ?_)
        have q22' := q19'.tr q22
        exact s_doM (d := swapD x i') hv (rA I22 q22') ((((bt.sg).app bt.sg).app bt.sg).app bt.sg |>.app bt.sg) (by unfold swapD; rw [List.length_append, List.length_append, List.length_append, List.length_append, seg_len (by omega), seg_len (by omega), seg_len (by omega), seg_len (by omega), seg_len (by omega)]; omega) D22 he (fun J qJ rJ => hK J ((Qnw_mo (q93_nw q22')).tr qJ) rJ)
      · rw [if_pos rfl]
        rw [if_neg (fun u => hi2 u.2.2)] at hK
        exact hK I eqQ.rf hR
    · rw [if_pos rfl]
      rw [if_neg (fun u => hi u.2.1)] at hK
      exact hK I eqQ.rf hR
