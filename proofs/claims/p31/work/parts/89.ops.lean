/-! ===== what each change makes; the class ===== -/
def doC (x : Sg) (d : List Int32) (bt : Bool) : Int32 × Sg := if 300 < d.length ∨ 3000 ≤ sgM x ∨ 3900 ≤ (sgP x).length ∨ 100 < (lexL d).length then (-1, x) else
  ((if (regY x d).1 + 1 = (lexL d).length ∧ topS (regY x d).2.2.2.1 = 1 then 0 else 1), chg x d (if bt = true then [] else sgT x))
def BtL (l : List Int32) : Prop := ∀ b ∈ l, byt b
theorem BtL.at {l : List Int32} (h : BtL l) : ∀ j, j < l.length → byt (txF l j) := fun j hj => by
  rw [txF_at (List.getElem?_eq_getElem hj)]
  exact h _ (List.getElem_mem hj)
theorem BtL.of {l : List Int32} (h : ∀ j, j < l.length → byt (txF l j)) : BtL l := fun b hb => by
  obtain ⟨j, hj⟩ := List.mem_iff_getElem?.mp hb
  have := h j (List.getElem?_eq_some_iff.mp hj).1
  rw [txF_at hj] at this
  exact this
theorem BtL.app {l m : List Int32} (h : BtL l) (h2 : BtL m) : BtL (l ++ m) := fun b hb => by
  rcases List.mem_append.mp hb with hb | hb
  · exact h b hb
  · exact h2 b hb
theorem BtL.sg {l : List Int32} {a b : Nat} (h : BtL l) : BtL (seg l a b) := fun c hc => h c (List.mem_of_mem_drop (List.mem_of_mem_take hc))
theorem doC_iv {x : Sg} {d : List Int32} {bt : Bool} (hv : Iv x) (hd : BtL d) (he : sgE x < 100000) : Iv (doC x d bt).2 ∧ sgE (doC x d bt).2 ≤ sgE x + 1 := by
  unfold doC
  by_cases u : 300 < d.length ∨ 3000 ≤ sgM x ∨ 3900 ≤ (sgP x).length ∨ 100 < (lexL d).length
  · rw [if_pos u]
    exact ⟨hv, Nat.le_succ _⟩
  · rw [if_neg u]
    refine ⟨chg_ok hv ⟨by omega, hd.at, by omega⟩ u ?_ he, Nat.le_refl _⟩
    by_cases ub : bt = true
    · rw [if_pos ub]
      exact ⟨Nat.zero_le _, fun b hb => by cases hb⟩
    · rw [if_neg ub]
      exact hv.1
theorem s_doX {x : Sg} {d : List Int32} {bt : Bool} {I : zI} {K : Int32 → zI → Prop} (hv : Iv x) (hR : RX I x) (hd : BtL d) (hD : DrX I d) (hdl : d.length < 100000) (he : sgE x < 100000) (hK : ∀ J, eqQ Qcl I J → RX J (doC x d bt).2 → K (doC x d bt).1 J) : w_Desk_change (b01 bt) I K := by
  unfold doC at hK
  refine s_change hv hR hd.at hD.1 (fun h300 j hj => hD.2 j hj (by omega)) hdl he (fun hr J q r => ?_) (fun hr J q r => ?_)
  · rw [if_pos (show 300 < d.length ∨ 3000 ≤ sgM x ∨ 3900 ≤ (sgP x).length ∨ 100 < (lexL d).length from hr)] at hK
    exact hK J q r
  · rw [if_neg (show ¬ (300 < d.length ∨ 3000 ≤ sgM x ∨ 3900 ≤ (sgP x).length ∨ 100 < (lexL d).length) from hr)] at hK
    exact hK J q r
/-! its moment that is now -/
def AtX (I : zI) (x : Sg) (s : Nat) : Prop := s < 21 ∧ I.1 0 4 = zi s ∧ MoX I (zmom s) (sgC x)
theorem RX.now {I : zI} {x : Sg} (h : RX I x) : ∃ s, AtX I x s := by
  obtain ⟨-, -, -, -, -, -, -, s, hs, s4, sC, -⟩ := h
  exact ⟨s, hs, s4, sC⟩
theorem RX.ap {I J : zI} {x : Sg} (hv : Iv x) (h : RX I x) (q : eqQ Qap I J) : RX J x := h.kp hv (fun a j u => q.1 a j (by unfold Qap; omega))
theorem AtX.ap {I J : zI} {x : Sg} {s : Nat} (h : AtX I x s) (q : eqQ Qap I J) : AtX J x s :=
  ⟨h.1, by rw [q.1 _ _ (by unfold Qap; omega)]; exact h.2.1, h.2.2.kp (fun a j u1 u2 => q.1 a j (by have : zmom s = 113 + 18 * s := rfl; unfold Qap; omega))⟩
theorem Qap_cl {I J : zI} (q : eqQ Qap I J) : eqQ Qcl I J := q.mono (fun a j h => by unfold Qap at h; unfold Qcl; omega)
theorem MoX.txt {I : zI} {k : Nat} {c : Mo} (h : MoX I k c) : ∀ j, j < (moT c).length → I.1 (k + 1 + 1) j = txF (moT c) j := fun j hj => h.2.1 j hj
theorem s_runStart {x : Sg} {i r s : Nat} {I : zI} {K : Int32 → Prop} (hv : Iv x) (hR : RX I x) (hA : AtX I x s) (hr : (runsOf (sgN x) (moR (sgC x)))[i]? = some r) (hK : K (zi (rS x i))) : w_Desk_runStart (zi i) I K := by
  obtain ⟨r1, r2, r3, -⟩ := hR
  obtain ⟨a1, a2, a3, -, ⟨p, y, b1, b2, b3⟩, -⟩ := run_ok hv hr
  obtain ⟨hTp, hN, hu, hm, hTk, hP, hE, hC, hA', hZ, hAZ⟩ := hv
  obtain ⟨oT, oG, oB, oR, oK⟩ := hC
  have fg := oR.flG hN hu
  have rr := (runs_ok hN hu oR).2
  have hi := (List.getElem?_eq_some_iff.mp hr).1
  have h100 := oG.2.2
  unfold w_Desk_runStart w_Desk_startOf
  refine (w_get (by decide)).mpr ?_
  rw [rg_in (by decide) (show i < 100 by omega), show I.1 (62 + 1) i = zi r from r3.2.2.2.1.2 i r hr]
  refine s_now hA.1 hA.2.1 ?_
  rw [← b2]
  refine s_firstOf r2 (by omega) r3.2.1 fg.1 b1 ?_
  rw [b3, zi_int]
  refine (w_get (by decide)).mpr ?_
  have hx : (lexL (moG (sgC x)))[fsR x i]? = some (tkG x (fsR x i)) := by
    unfold tkG
    rw [List.getD_eq_getElem?_getD, List.getElem?_eq_getElem (by omega)]
    rfl
  rw [rg_in (by decide) (show fsR x i < 100 by omega), show I.1 (zmom s + 16 + 1) (fsR x i) = zi (tkG x (fsR x i)).2.1 from hA.2.2.2.2.2.2.2.2.1 _ _ hx]
  exact hK
theorem s_runEnd {x : Sg} {i r s : Nat} {I : zI} {K : Int32 → Prop} (hv : Iv x) (hR : RX I x) (hA : AtX I x s) (hr : (runsOf (sgN x) (moR (sgC x)))[i]? = some r) (hK : K (zi (rE x i))) : w_Desk_runEnd (zi i) I K := by
  obtain ⟨r1, r2, r3, -⟩ := hR
  obtain ⟨a1, a2, a3, ag, ⟨p, y, b1, b2, b3⟩, -⟩ := run_ok hv hr
  obtain ⟨hTp, hN, hu, hm, hTk, hP, hE, hC, hA', hZ, hAZ⟩ := hv
  obtain ⟨oT, oG, oB, oR, oK⟩ := hC
  have fg := oR.flG hN hu
  have rr := (runs_ok hN hu oR).2
  have hi := (List.getElem?_eq_some_iff.mp hr).1
  have h100 := oG.2.2
  have hls : fsR x i + ndT (sgN x r) - 1 = lsR x i := by
    unfold lsR
    rw [ag]
  unfold w_Desk_runEnd w_Desk_endOf
  refine (w_get (by decide)).mpr ?_
  rw [rg_in (by decide) (show i < 100 by omega), show I.1 (62 + 1) i = zi r from r3.2.2.2.1.2 i r hr]
  refine s_now hA.1 hA.2.1 ?_
  rw [← b2]
  refine s_firstOf r2 (by omega) r3.2.1 fg.1 b1 ?_
  rw [b3, zi_int, b2]
  refine (w_get (by decide)).mpr ?_
  rw [rg_in (by decide) (show r < 3400 by omega), show I.1 (31 + 1) r = zi (ndT (sgN x r)) from (r2.2 r a1).2.2.2.1]
  intro v ev
  rw [zi_add, show zi (fsR x i + ndT (sgN x r)) - 1 = zi (fsR x i + ndT (sgN x r) - 1) from zi_sub (b := 1) (by omega), hls] at ev
  subst ev
  have hl100 : lsR x i < (lexL (moG (sgC x))).length := by omega
  have hx : (lexL (moG (sgC x)))[lsR x i]? = some (tkG x (lsR x i)) := by
    unfold tkG
    rw [List.getD_eq_getElem?_getD, List.getElem?_eq_getElem hl100]
    rfl
  refine (w_get (by decide)).mpr ?_
  rw [rg_in (by decide) (show lsR x i < 100 by omega), show I.1 (zmom s + 16 + 1) (lsR x i) = zi (tkG x (lsR x i)).2.1 from hA.2.2.2.2.2.2.2.2.1 _ _ hx]
  refine (w_get (by decide)).mpr ?_
  rw [rg_in (by decide) (show lsR x i < 100 by omega), show I.1 (zmom s + 14 + 1) (lsR x i) = zi (moO (sgC x) (lsR x i)) from hA.2.2.2.2.2.2.2.1 _ hl100]
  obtain ⟨t1, t2⟩ := oR.2.2.2.2.1 _ hl100
  obtain ⟨n1, n2, n3, n4, n5, n6, n7⟩ := r2.2 _ t1
  refine (w_get (by decide)).mpr ?_
  rw [rg_in (by decide) (show moO (sgC x) (lsR x i) < 3400 by omega), show I.1 (35 + 1) (moO (sgC x) (lsR x i)) = zi (tkG x (lsR x i)).2.2 by
    rw [show (35 + 1 : Nat) = 36 from rfl, (n7 (by omega)).1, (oK _ _ hx).2, tkBs_len], zi_add]
  exact hK
/-! edit -/
def editR (x : Sg) (a n : Int32) : Int32 × Sg := if 0 ≤ a ∧ 0 ≤ n ∧ a ≤ zi (moT (sgC x)).length ∧ n ≤ zi (moT (sgC x)).length - a then doC x (seg (moT (sgC x)) 0 a.toNatClampNeg ++ sgT x ++ seg (moT (sgC x)) (a.toNatClampNeg + n.toNatClampNeg) (moT (sgC x)).length) true else (-1, x)
theorem DrX.nil {I : zI} (h : I.1 4 1 = 0) : DrX I [] := ⟨h, fun j hj => by cases hj⟩
theorem s_edit {x : Sg} {a n : Int32} {I : zI} {K : Int32 → zI → Prop} (hv : Iv x) (hR : RX I x) (he : sgE x < 100000) (hK : ∀ J, eqQ Qcl I J → RX J (editR x a n).2 → K (editR x a n).1 J) : w_Desk_edit a n I K := by
  obtain ⟨s, hA⟩ := hR.now
  have zs : zmom s = 113 + 18 * s := rfl
  have hs := hA.1
  have o1 := hv.2.2.2.2.2.2.2.1.1
  have hT200 := hv.1.1
  unfold w_Desk_edit
  refine s_now hA.1 hA.2.1 ?_
  rw [hA.2.2.1]
  unfold editR at hK
  by_cases c1 : a < 0
  · rw [if_pos c1]
    rw [if_neg (fun u => Int32.not_le.mpr c1 u.1)] at hK
    exact hK I eqQ.rf hR
  rw [if_neg c1]
  by_cases c2 : n < 0
  · rw [if_pos c2]
    rw [if_neg (fun u => Int32.not_le.mpr c2 u.2.1)] at hK
    exact hK I eqQ.rf hR
  rw [if_neg c2]
  by_cases c3 : zi (moT (sgC x)).length < a
  · rw [if_pos c3]
    rw [if_neg (fun u => Int32.not_le.mpr c3 u.2.2.1)] at hK
    exact hK I eqQ.rf hR
  rw [if_neg c3]
  by_cases c4 : n ≤ zi (moT (sgC x)).length - a
  · rw [if_pos c4]
    rw [if_pos ⟨Int32.not_lt.mp c1, Int32.not_lt.mp c2, Int32.not_lt.mp c3, c4⟩] at hK
    obtain ⟨an, ha, rfl⟩ := zi_of (Int32.not_lt.mp c1)
    obtain ⟨nn, hn, rfl⟩ := zi_of (Int32.not_lt.mp c2)
    have l300 := o1.1
    have la : an ≤ (moT (sgC x)).length := by
      have := Int32.not_lt.mp c3
      exact (zi_le ha (by omega)).mp this
    rw [zi_sub la] at c4
    have ln : nn ≤ (moT (sgC x)).length - an := (zi_le hn (by omega)).mp c4
    rw [zi_tn ha, zi_tn hn] at hK
    intro I2 e2
    have q2 : eqQ Qap I I2 := by
      rw [e2]
      exact eqQ.rf.zu (Or.inl ⟨rfl, rfl⟩)
    have A2 := hA.ap q2
    refine s_mAppend (a := 0) (d := []) (by omega) (by decide) l300 A2.2.2.txt (Nat.zero_le _) la (by omega) (Nat.zero_le _) (DrX.nil (by rw [e2, zu_self])) (fun I3 q3 D3 => ?_)
    have q3' := q2.tr q3
    have R3 := hR.ap hv q3'
    rw [show I3.1 0 1 = zi (sgT x).length from R3.1.1]
    refine s_mAppend (a := 0) (t := sgT x) (by omega) (by decide) hT200 (fun j hj => R3.1.2 j _ (by rw [List.getElem?_eq_getElem hj, txF_at (List.getElem?_eq_getElem hj)])) (Nat.zero_le _) (Nat.le_refl _) (by omega) (by rw [List.nil_append, seg_len la]; omega) D3 (fun I4 q4 D4 => ?_)
    have q4' := q3'.tr q4
    have A4 := hA.ap q4'
    rw [show I4.1 (zmom s) 1 = zi (moT (sgC x)).length from A4.2.2.1, zi_add]
    have sg0 : seg (sgT x) 0 (sgT x).length = sgT x := by
      unfold seg
      rw [List.drop_zero, Nat.sub_zero, List.take_length]
    rw [List.nil_append, sg0] at D4
    have hl1 : (seg (moT (sgC x)) 0 an ++ sgT x).length = an + (sgT x).length := by rw [List.length_append, seg_len la, Nat.sub_zero]
    refine s_mAppend (t := moT (sgC x)) (by omega) (by decide) l300 A4.2.2.txt (by omega) (Nat.le_refl _) (by omega) (by omega) D4 (fun I5 q5 D5 => ?_)
    have q5' := q4'.tr q5
    have hb : BtL (seg (moT (sgC x)) 0 an ++ sgT x ++ seg (moT (sgC x)) (an + nn) (moT (sgC x)).length) := (((BtL.of o1.2.1).sg).app hv.1.2).app ((BtL.of o1.2.1).sg)
    exact s_doX (bt := true) hv (hR.ap hv q5') hb D5 (by rw [List.length_append, hl1, seg_len (Nat.le_refl _)]; omega) he (fun J qJ rJ => hK J ((Qap_cl q5').tr qJ) rJ)
  · rw [if_neg c4]
    rw [if_neg (fun u => c4 u.2.2.2)] at hK
    exact hK I eqQ.rf hR
/-! cut, twin, swap -/
theorem s_hasRun {x : Sg} {i : Int32} {I : zI} {K : Int32 → Prop} (hR : RX I x) (h1 : 0 ≤ i ∧ i < zi (runsOf (sgN x) (moR (sgC x))).length → K 1) (h0 : ¬ (0 ≤ i ∧ i < zi (runsOf (sgN x) (moR (sgC x))).length) → K 0) : w_TreeView_hasRun i I K := by
  unfold w_TreeView_hasRun
  rw [hR.2.2.1.2.2.2.1.1]
  by_cases c1 : i < 0
  · rw [if_pos c1]
    exact h0 (fun u => Int32.not_le.mpr c1 u.1)
  rw [if_neg c1]
  by_cases c2 : zi (runsOf (sgN x) (moR (sgC x))).length ≤ i
  · rw [if_pos c2]
    exact h0 (fun u => Int32.not_lt.mpr c2 u.2)
  · rw [if_neg c2]
    exact h1 ⟨Int32.not_lt.mp c1, Int32.not_le.mp c2⟩
def cutD (x : Sg) (i : Nat) : List Int32 := seg (moT (sgC x)) 0 (rS x i) ++ seg (moT (sgC x)) (rE x i) (moT (sgC x)).length
def twinD (x : Sg) (i : Nat) : List Int32 := seg (moT (sgC x)) 0 (rE x i) ++ seg (moT (sgC x)) (rS x i) (moT (sgC x)).length
def swapD (x : Sg) (i : Nat) : List Int32 := seg (moT (sgC x)) 0 (rS x i) ++ seg (moT (sgC x)) (rS x (i + 1)) (rE x (i + 1)) ++ seg (moT (sgC x)) (rE x i) (rS x (i + 1)) ++ seg (moT (sgC x)) (rS x i) (rE x i) ++ seg (moT (sgC x)) (rE x (i + 1)) (moT (sgC x)).length
def runR (D : Sg → Nat → List Int32) (x : Sg) (i : Int32) : Int32 × Sg := if moB (sgC x) = true ∧ 0 ≤ i ∧ i < zi (runsOf (sgN x) (moR (sgC x))).length then doC x (D x i.toNatClampNeg) false else (-1, x)
def swapR (x : Sg) (i : Int32) : Int32 × Sg := if moB (sgC x) = true ∧ (0 ≤ i ∧ i < zi (runsOf (sgN x) (moR (sgC x))).length) ∧ (0 ≤ i + 1 ∧ i + 1 < zi (runsOf (sgN x) (moR (sgC x))).length) then doC x (swapD x i.toNatClampNeg) false else (-1, x)
theorem s_cut {x : Sg} {i : Int32} {I : zI} {K : Int32 → zI → Prop} (hv : Iv x) (hR : RX I x) (he : sgE x < 100000) (hK : ∀ J, eqQ Qcl I J → RX J (runR cutD x i).2 → K (runR cutD x i).1 J) : w_Desk_cut i I K := by
  obtain ⟨s, hA⟩ := hR.now
  have zs : zmom s = 113 + 18 * s := rfl
  obtain ⟨o1, o2, oB, oR, oK⟩ := hv.2.2.2.2.2.2.2.1
  have l300 := o1.1
  unfold w_Desk_cut
  refine s_now hA.1 hA.2.1 ?_
  rw [hA.2.2.2.2.2.1]
  unfold runR at hK
  cases hb : moB (sgC x) with
  | false =>
    rw [if_pos (show b01 false = 0 by decide)]
    rw [if_neg (fun u => by rw [hb] at u; cases u.1)] at hK
    exact hK I eqQ.rf hR
  | true =>
    rw [if_neg (show ¬ b01 true = 0 by decide)]
    have hTG := oB hb
    refine s_hasRun hR (fun hi => ?_) (fun hi => ?_)
    · rw [if_neg (by decide)]
      rw [if_pos ⟨hb, hi⟩] at hK
      obtain ⟨i', hi', rfl⟩ := zi_of hi.1
      have rr := (runs_ok hv.2.1 hv.2.2.1 oR).2
      have hil := (zi_lt hi' (by omega)).mp hi.2
      rw [zi_tn hi'] at hK
      have hr : (runsOf (sgN x) (moR (sgC x)))[i']? = some ((runsOf (sgN x) (moR (sgC x)))[i']'hil) := List.getElem?_eq_getElem hil
      obtain ⟨-, -, -, -, -, w1, w2, -⟩ := run_ok hv hr
      rw [← hTG] at w2
      intro I3 e3
      have q3 : eqQ Qap I I3 := by
        rw [e3]
        exact eqQ.rf.zu (Or.inl ⟨rfl, rfl⟩)
      refine s_runStart hv (hR.ap hv q3) (hA.ap q3) hr ?_
      refine s_mAppend (a := 0) (d := []) (by omega) (by decide) l300 (hA.ap q3).2.2.txt (Nat.zero_le _) (by omega) (by omega) (Nat.zero_le _) (DrX.nil (by rw [e3, zu_self])) (fun I5 q5 D5 => ?_)
      have q5' := q3.tr q5
      refine s_runEnd hv (hR.ap hv q5') (hA.ap q5') hr ?_
      rw [(hA.ap q5').2.2.1]
      rw [List.nil_append] at D5
      refine s_mAppend (by omega) (by decide) l300 (hA.ap q5').2.2.txt w2 (Nat.le_refl _) (by omega) (by rw [seg_len (by omega)]; omega) D5 (fun I7 q7 D7 => ?_)
      have q7' := q5'.tr q7
      exact s_doX (bt := false) (d := cutD x i') hv (hR.ap hv q7') (((BtL.of o1.2.1).sg).app ((BtL.of o1.2.1).sg)) D7 (by unfold cutD; rw [List.length_append, seg_len (by omega), seg_len (by omega)]; omega) he (fun J qJ rJ => hK J ((Qap_cl q7').tr qJ) rJ)
    · rw [if_pos rfl]
      rw [if_neg (fun u => hi u.2)] at hK
      exact hK I eqQ.rf hR
theorem s_twin {x : Sg} {i : Int32} {I : zI} {K : Int32 → zI → Prop} (hv : Iv x) (hR : RX I x) (he : sgE x < 100000) (hK : ∀ J, eqQ Qcl I J → RX J (runR twinD x i).2 → K (runR twinD x i).1 J) : w_Desk_twin i I K := by
  obtain ⟨s, hA⟩ := hR.now
  have zs : zmom s = 113 + 18 * s := rfl
  obtain ⟨o1, o2, oB, oR, oK⟩ := hv.2.2.2.2.2.2.2.1
  have l300 := o1.1
  unfold w_Desk_twin
  refine s_now hA.1 hA.2.1 ?_
  rw [hA.2.2.2.2.2.1]
  unfold runR at hK
  cases hb : moB (sgC x) with
  | false =>
    rw [if_pos (show b01 false = 0 by decide)]
    rw [if_neg (fun u => by rw [hb] at u; cases u.1)] at hK
    exact hK I eqQ.rf hR
  | true =>
    rw [if_neg (show ¬ b01 true = 0 by decide)]
    have hTG := oB hb
    refine s_hasRun hR (fun hi => ?_) (fun hi => ?_)
    · rw [if_neg (by decide)]
      rw [if_pos ⟨hb, hi⟩] at hK
      obtain ⟨i', hi', rfl⟩ := zi_of hi.1
      have rr := (runs_ok hv.2.1 hv.2.2.1 oR).2
      have hil := (zi_lt hi' (by omega)).mp hi.2
      rw [zi_tn hi'] at hK
      have hr : (runsOf (sgN x) (moR (sgC x)))[i']? = some ((runsOf (sgN x) (moR (sgC x)))[i']'hil) := List.getElem?_eq_getElem hil
      obtain ⟨-, -, -, -, -, w1, w2, -⟩ := run_ok hv hr
      rw [← hTG] at w2
      intro I3 e3
      have q3 : eqQ Qap I I3 := by
        rw [e3]
        exact eqQ.rf.zu (Or.inl ⟨rfl, rfl⟩)
      refine s_runEnd hv (hR.ap hv q3) (hA.ap q3) hr ?_
      refine s_mAppend (a := 0) (d := []) (by omega) (by decide) l300 (hA.ap q3).2.2.txt (Nat.zero_le _) (by omega) (by omega) (Nat.zero_le _) (DrX.nil (by rw [e3, zu_self])) (fun I5 q5 D5 => ?_)
      have q5' := q3.tr q5
      refine s_runStart hv (hR.ap hv q5') (hA.ap q5') hr ?_
      rw [(hA.ap q5').2.2.1]
      rw [List.nil_append] at D5
      refine s_mAppend (by omega) (by decide) l300 (hA.ap q5').2.2.txt (by omega) (Nat.le_refl _) (by omega) (by rw [seg_len (by omega)]; omega) D5 (fun I7 q7 D7 => ?_)
      have q7' := q5'.tr q7
      exact s_doX (bt := false) (d := twinD x i') hv (hR.ap hv q7') (((BtL.of o1.2.1).sg).app ((BtL.of o1.2.1).sg)) D7 (by unfold twinD; rw [List.length_append, seg_len (by omega), seg_len (by omega)]; omega) he (fun J qJ rJ => hK J ((Qap_cl q7').tr qJ) rJ)
    · rw [if_pos rfl]
      rw [if_neg (fun u => hi u.2)] at hK
      exact hK I eqQ.rf hR
theorem s_swap {x : Sg} {i : Int32} {I : zI} {K : Int32 → zI → Prop} (hv : Iv x) (hR : RX I x) (he : sgE x < 100000) (hK : ∀ J, eqQ Qcl I J → RX J (swapR x i).2 → K (swapR x i).1 J) : w_Desk_swap i I K := by
  obtain ⟨s, hA⟩ := hR.now
  have zs : zmom s = 113 + 18 * s := rfl
  obtain ⟨o1, o2, oB, oR, oK⟩ := hv.2.2.2.2.2.2.2.1
  have l300 := o1.1
  unfold w_Desk_swap
  refine s_now hA.1 hA.2.1 ?_
  rw [hA.2.2.2.2.2.1]
  unfold swapR at hK
  cases hb : moB (sgC x) with
  | false =>
    rw [if_pos (show b01 false = 0 by decide)]
    rw [if_neg (fun u => by rw [hb] at u; cases u.1)] at hK
    exact hK I eqQ.rf hR
  | true =>
    rw [if_neg (show ¬ b01 true = 0 by decide)]
    have hTG := oB hb
    refine s_hasRun hR (fun hi => ?_) (fun hi => ?_)
    · rw [if_neg (by decide)]
      refine s_hasRun hR (fun hi2 => ?_) (fun hi2 => ?_)
      · rw [if_neg (by decide)]
        rw [if_pos ⟨hb, hi, hi2⟩] at hK
        obtain ⟨i', hi', rfl⟩ := zi_of hi.1
        have rr := (runs_ok hv.2.1 hv.2.2.1 oR).2
        have hil := (zi_lt hi' (by omega)).mp hi.2
        rw [zi_succ] at hi2 ⊢
        have hil2 := (zi_lt (by omega) (by omega)).mp hi2.2
        rw [zi_tn hi'] at hK
        have hr : (runsOf (sgN x) (moR (sgC x)))[i']? = some ((runsOf (sgN x) (moR (sgC x)))[i']'hil) := List.getElem?_eq_getElem hil
        have hr2 : (runsOf (sgN x) (moR (sgC x)))[i' + 1]? = some ((runsOf (sgN x) (moR (sgC x)))[i' + 1]'hil2) := List.getElem?_eq_getElem hil2
        obtain ⟨-, -, -, -, -, w1, w2, w3⟩ := run_ok hv hr
        obtain ⟨-, -, -, -, -, y1, y2, -⟩ := run_ok hv hr2
        have w3 := w3 (by rw [hr2]; exact Option.some_ne_none _)
        rw [← hTG] at w2 y2
        intro I4 e4
        have q4 : eqQ Qap I I4 := by
          rw [e4]
          exact eqQ.rf.zu (Or.inl ⟨rfl, rfl⟩)
        have bt := BtL.of o1.2.1
        refine s_runStart hv (hR.ap hv q4) (hA.ap q4) hr ?_
        refine s_mAppend (a := 0) (d := []) (by omega) (by decide) l300 (hA.ap q4).2.2.txt (Nat.zero_le _) (by omega) (by omega) (Nat.zero_le _) (DrX.nil (by rw [e4, zu_self])) (fun I6 q6 D6 => ?_)
        have q6' := q4.tr q6
        rw [List.nil_append] at D6
        refine s_runStart hv (hR.ap hv q6') (hA.ap q6') hr2 (s_runEnd hv (hR.ap hv q6') (hA.ap q6') hr2 ?_)
        refine s_mAppend (by omega) (by decide) l300 (hA.ap q6').2.2.txt y1 (by omega) (by omega) (by rw [seg_len (by omega)]; omega) D6 (fun I9 q9 D9 => ?_)
        have q9' := q6'.tr q9
        refine s_runEnd hv (hR.ap hv q9') (hA.ap q9') hr (s_runStart hv (hR.ap hv q9') (hA.ap q9') hr2 ?_)
        refine s_mAppend (by omega) (by decide) l300 (hA.ap q9').2.2.txt w3 (by omega) (by omega) (by rw [List.length_append, seg_len (by omega), seg_len (by omega)]; omega) D9 (fun I12 q12 D12 => ?_)
        have q12' := q9'.tr q12
        refine s_runStart hv (hR.ap hv q12') (hA.ap q12') hr (s_runEnd hv (hR.ap hv q12') (hA.ap q12') hr ?_)
        refine s_mAppend (by omega) (by decide) l300 (hA.ap q12').2.2.txt w1 (by omega) (by omega) (by rw [List.length_append, List.length_append, seg_len (by omega), seg_len (by omega), seg_len (by omega)]; omega) D12 (fun I15 q15 D15 => ?_)
        have q15' := q12'.tr q15
        refine s_runEnd hv (hR.ap hv q15') (hA.ap q15') hr2 ?_
        rw [(hA.ap q15').2.2.1]
        refine s_mAppend (by omega) (by decide) l300 (hA.ap q15').2.2.txt y2 (Nat.le_refl _) (by omega) (by rw [List.length_append, List.length_append, List.length_append, seg_len (by omega), seg_len (by omega), seg_len (by omega), seg_len (by omega)]; omega) D15 (fun I17 q17 D17 => ?_)
        have q17' := q15'.tr q17
        exact s_doX (bt := false) (d := swapD x i') hv (hR.ap hv q17') ((((bt.sg).app bt.sg).app bt.sg).app bt.sg |>.app bt.sg) D17 (by unfold swapD; rw [List.length_append, List.length_append, List.length_append, List.length_append, seg_len (by omega), seg_len (by omega), seg_len (by omega), seg_len (by omega), seg_len (by omega)]; omega) he (fun J qJ rJ => hK J ((Qap_cl q17').tr qJ) rJ)
      · rw [if_pos rfl]
        rw [if_neg (fun u => hi2 u.2.2)] at hK
        exact hK I eqQ.rf hR
    · rw [if_pos rfl]
      rw [if_neg (fun u => hi u.2.1)] at hK
      exact hK I eqQ.rf hR
/-! ===== edit, cut, twin, swap: the model ===== -/
theorem RM.kp {I J : zI} {x : Sg} (hv : Iv x) {tp : List Int32} (h : RM I (tp, x.2)) (e : ∀ a j, ((a = 491 ∧ (j = 0 ∨ j = 5 ∨ j = 7 ∨ j = 8 ∨ j = 15 ∨ j = 19 ∨ j = 25 ∨ j = 36 ∨ j = 37 ∨ j = 43 ∨ j = 51 ∨ j = 53 ∨ j = 59 ∨ j = 75 ∨ j = 76)) ∨ a = 492 ∨ (494 ≤ a ∧ a ≤ 495) ∨ (501 ≤ a ∧ a ≤ 516) ∨ (521 ≤ a ∧ a ≤ 526) ∨ a = 528 ∨ a = 529 ∨ a = 533 ∨ a = 534 ∨ a = 542) → J.1 a j = I.1 a j) (e2 : ∀ a j, a = 507 ∨ a = 511 → J.2 a j = I.2 a j) : RM J (tp, x.2) := by
  obtain ⟨r1, r2, r3, r4, r5, r6, r7, nw, sC, sA, sZ⟩ := h
  obtain ⟨hTp, hN, hu, hm, hTk, hP, hE, hC, hA, hZ, hAZ⟩ := hv
  exact ⟨r1.kp (e _ _ (by omega)) (fun j => e _ _ (by omega)), r2.kp2 (e _ _ (by omega)) (fun a j u1 u2 => e a j (by omega)) (fun j => e2 511 j (Or.inr rfl)), r3.kp (fun a j u => e a j (by omega)), r4.kp (fun a j u => e a j (by omega)), by rw [e _ _ (by omega)]; exact r5, by rw [e _ _ (by omega)]; exact r6, by rw [e _ _ (by omega)]; exact r7, nw.kp (fun a j u => e a j (by omega)) (fun j => e2 507 j (Or.inl rfl)), sC.kp hC.1 hC.2.1 (fun j _ _ => e _ _ (by omega)), fun k y hy => (sA k y hy).kp (hA y (List.mem_of_getElem? hy)).1 (hA y (List.mem_of_getElem? hy)).2.1 (fun j _ _ => e _ _ (by omega)), fun k y hy => (sZ k y hy).kp (hZ y (List.mem_of_getElem? hy)).1 (hZ y (List.mem_of_getElem? hy)).2.1 (fun j _ _ => e _ _ (by omega))⟩
/-- new bytes and new tokens: what a text that is tried may touch -/
def Qnw (a j : Nat) : Prop := (a = 491 ∧ (j = 3 ∨ j = 9)) ∨ a = 493 ∨ (496 ≤ a ∧ a ≤ 499)
theorem RM.nw {I J : zI} {x : Sg} (hv : Iv x) {tp : List Int32} (h : RM I (tp, x.2)) (q : eqQ Qnw I J) : RM J (tp, x.2) := h.kp hv (fun a j u => q.1 a j (by unfold Qnw; omega)) (fun a j u => q.2 a j (by unfold Qnw; omega))
theorem Qnw_mo {I J : zI} (q : eqQ Qnw I J) : eqQ Qmo I J := q.mono (fun a j h => by unfold Qnw at h; unfold Qmo; omega)
theorem s_isRefused {x : Sg} {tp d : List Int32} {I : zI} {K : Int32 → zI → Prop} (hv : Iv x) (hR : RM I (tp, x.2)) (hd : d.length ≤ 700) (hD : NwM I d) (h0 : refu x d → ∀ J, eqQ Qnw I J → K 1 J) (h1 : ¬ refu x d → ∀ J, eqQ Qnw I J → NewT J d → K 0 J) : w_M_isRefused (zi d.length) I K := by
  obtain ⟨r1, r2, r3, r4, -⟩ := hR
  change RepNM I (sgM x) (sgN x) at r2
  change PrM I (sgP x) at r4
  obtain ⟨hTp, hN, hu, hm, hTk, ⟨hP1, hP2⟩, -⟩ := hv
  unfold w_M_isRefused
  rw [r2.1, r4.1]
  by_cases c1 : 300 < d.length
  · rw [if_pos (show (300 : Int32) < zi d.length from (zi_lt (a := 300) (by decide) (by omega)).mpr c1)]
    exact h0 (Or.inl c1) I eqQ.rf
  rw [if_neg (show ¬ (300 : Int32) < zi d.length from fun u => c1 ((zi_lt (a := 300) (by decide) (by omega)).mp u))]
  by_cases c2 : 3000 ≤ sgM x
  · rw [if_pos (show (3000 : Int32) ≤ zi (sgM x) from (zi_le (a := 3000) (by decide) (by omega)).mpr c2)]
    exact h0 (Or.inr (Or.inl c2)) I eqQ.rf
  rw [if_neg (show ¬ (3000 : Int32) ≤ zi (sgM x) from fun u => c2 ((zi_le (a := 3000) (by decide) (by omega)).mp u))]
  by_cases c3 : 3900 ≤ (sgP x).length
  · rw [if_neg (show ¬ zi (sgP x).length < 3900 from fun u => by have := (zi_lt (b := 3900) (by omega) (by decide)).mp u; omega)]
    exact h0 (Or.inr (Or.inr (Or.inl c3))) I eqQ.rf
  rw [if_pos (show zi (sgP x).length < 3900 from (zi_lt (b := 3900) (by omega) (by decide)).mpr (by omega))]
  refine s_cutsUp (t := txF d) (by omega) hD (fun J qJ hn hu' => ?_)
  have qJ' : eqQ Qnw I J := qJ.mono (fun a j h => by unfold Qcut at h; unfold Qnw; omega)
  have hl : (lexL d).length ≤ 700 := by
    have h1 : (lexL d).length = (lexF (txF d) d.length d.length 0).length + 1 := by
      show (lexF (txF d) d.length d.length 0 ++ [(10, d.length, 0)]).length = _
      rw [List.length_append]
      rfl
    have h2 := lexF_cnt (t := txF d) (n := d.length) d.length 0
    omega
  rw [show J.1 491 9 = zi (lexL d).length from hu'.1]
  by_cases c4 : 100 < (lexL d).length
  · rw [if_neg (show ¬ zi (lexL d).length ≤ 100 from fun u => by have := (zi_le (b := 100) (by omega) (by decide)).mp u; omega)]
    exact h0 (Or.inr (Or.inr (Or.inr c4))) J qJ'
  · rw [if_pos (show zi (lexL d).length ≤ 100 from (zi_le (b := 100) (by omega) (by decide)).mpr (by omega))]
    refine h1 ?_ J qJ' ⟨hn, fun j hj => by rw [qJ.1 493 j (by unfold Qcut; omega)]; exact hD j hj, hu'⟩
    rintro (u | u | u | u)
    · exact c1 u
    · exact c2 u
    · exact c3 u
    · exact c4 u
/-- a change that takes no bytes from the tape -/
theorem s_doM {x : Sg} {d : List Int32} {I : zI} {K : Int32 → zI → Prop} (hv : Iv x) (hR : RM I x) (hd : BtL d) (hdl : d.length ≤ 700) (hD : NwM I d) (he : sgE x < 100000) (hK : ∀ J, eqQ Qmo I J → RM J (doC x d false).2 → K (doC x d false).1 J) : w_M_isRefused (zi d.length) I (fun r_8 I_9 => (if r_8 = 0 then (w_M_edited I_9 (fun r_10 I_11 => K r_10 I_11)) else (K (-1) I_9))) := by
  have hR' : RM I (sgT x, x.2) := hR
  unfold doC at hK
  refine s_isRefused hv hR' hdl hD (fun hr J q => ?_) (fun hr J q nt => ?_)
  · rw [if_pos (show 300 < d.length ∨ 3000 ≤ sgM x ∨ 3900 ≤ (sgP x).length ∨ 100 < (lexL d).length from hr)] at hK
    rw [if_neg (by decide)]
    exact hK J (Qnw_mo q) (hR'.nw hv q)
  · have hr' : ¬ (300 < d.length ∨ 3000 ≤ sgM x ∨ 3900 ≤ (sgP x).length ∨ 100 < (lexL d).length) := hr
    rw [if_neg hr'] at hK
    rw [if_pos rfl]
    exact s_edited hv (hR'.nw hv q) ⟨by omega, hd.at, by omega⟩ hr nt he (fun L qL rL => hK L ((Qnw_mo q).tr qL) rL)
/-- one that takes all bytes of the tape -/
theorem s_doMt {x : Sg} {d : List Int32} {I : zI} {K : Int32 → zI → Prop} (hv : Iv x) (hR : RM I x) (hd : BtL d) (hdl : d.length ≤ 700) (hD : NwM I d) (he : sgE x < 100000) (hK : ∀ J, eqQ Qmo I J → RM J (doC x d true).2 → K (doC x d true).1 J) : w_M_isRefused (zi d.length) I (fun r_11 I_12 => (if r_11 = 0 then (∀ I_13, I_13 = (zu I_12 491 0 0) → w_M_edited I_13 (fun r_14 I_15 => K r_14 I_15)) else (K (-1) I_12))) := by
  have hR' : RM I (sgT x, x.2) := hR
  unfold doC at hK
  refine s_isRefused hv hR' hdl hD (fun hr J q => ?_) (fun hr J q nt => ?_)
  · rw [if_pos (show 300 < d.length ∨ 3000 ≤ sgM x ∨ 3900 ≤ (sgP x).length ∨ 100 < (lexL d).length from hr)] at hK
    rw [if_neg (by decide)]
    exact hK J (Qnw_mo q) (hR'.nw hv q)
  · have hr' : ¬ (300 < d.length ∨ 3000 ≤ sgM x ∨ 3900 ≤ (sgP x).length ∨ 100 < (lexL d).length) := hr
    rw [if_neg hr'] at hK
    rw [if_pos rfl]
    intro I13 e13
    have rJ := hR'.nw hv q
    have o : ∀ a j, ¬ (a = 491 ∧ j = 0) → I13.1 a j = J.1 a j := fun a j u => by rw [e13, zu_at, if_neg u]
    have r13 : RM I13 ([], x.2) := by
      have hz : RM (zu J 491 0 (J.1 491 0)) (sgT x, x.2) := rJ.kp hv (fun a j _ => by
        rw [zu_at]
        by_cases u : a = 491 ∧ j = 0
        · rw [if_pos u, u.1, u.2]
        · rw [if_neg u]) (fun a j _ => by rw [zu_2])
      obtain ⟨r1, r2, r3, r4, r5, r6, r7, nw, sC, sA, sZ⟩ := rJ
      obtain ⟨hTp, hN, hu, hm, hTk, hP, hE, hC, hA, hZ, hAZ⟩ := hv
      exact ⟨⟨by rw [e13, zu_self]; rfl, fun j v hj => by cases hj⟩, r2.kp2 (o _ _ (by omega)) (fun a j u1 u2 => o a j (by omega)) (fun j => by rw [e13, zu_2]), r3.kp (fun a j u => o a j (by omega)), r4.kp (fun a j u => o a j (by omega)), by rw [o _ _ (by omega)]; exact r5, by rw [o _ _ (by omega)]; exact r6, by rw [o _ _ (by omega)]; exact r7, nw.kp (fun a j u => o a j (by omega)) (fun j => by rw [e13, zu_2]), sC.kp hC.1 hC.2.1 (fun j _ _ => o _ _ (by omega)), fun k y hy => (sA k y hy).kp (hA y (List.mem_of_getElem? hy)).1 (hA y (List.mem_of_getElem? hy)).2.1 (fun j _ _ => o _ _ (by omega)), fun k y hy => (sZ k y hy).kp (hZ y (List.mem_of_getElem? hy)).1 (hZ y (List.mem_of_getElem? hy)).2.1 (fun j _ _ => o _ _ (by omega))⟩
    refine s_edited hv r13 ⟨by omega, hd.at, by omega⟩ hr (nt.kp (o _ _ (by omega)) (o _ _ (by omega)) (fun a j u => o a j (by omega)) (fun j => by rw [e13, zu_2])) he (fun L qL rL => hK L (((Qnw_mo q).tr (by rw [e13]; exact eqQ.rf.zu ⟨by decide, by decide⟩)).tr qL) rL)
theorem s_in {a b c : Int32} {I : zI} {K : Int32 → Prop} (h1 : b ≤ a ∧ a ≤ c → K 1) (h0 : ¬ (b ≤ a ∧ a ≤ c) → K 0) : w_M_in a b c I K := by
  unfold w_M_in
  by_cases c1 : a < b
  · rw [if_pos c1]
    exact h0 (fun u => Int32.not_le.mpr c1 u.1)
  · rw [if_neg c1]
    by_cases c2 : c < a
    · rw [if_pos c2]
      exact h0 (fun u => Int32.not_le.mpr c2 u.2)
    · rw [if_neg c2]
      exact h1 ⟨Int32.not_lt.mp c1, Int32.not_lt.mp c2⟩
theorem NwM.snoc {I : zI} {d : List Int32} {v : Int32} (h : NwM I d) : NwM (zu I 493 d.length v) (d ++ [v]) := by
  intro j hj
  rw [List.length_append] at hj
  change j < d.length + 1 at hj
  rw [zu_at, txF_snoc]
  by_cases w : j = d.length
  · rw [if_pos ⟨rfl, w⟩, if_neg (by omega), if_pos w]
  · rw [if_neg (fun z => w z.2), if_pos (by omega)]
    exact h j (by omega)
theorem s_Medit {x : Sg} {a n : Int32} {I : zI} {K : Int32 → zI → Prop} (hv : Iv x) (hR : RM I x) (he : sgE x < 100000) (hK : ∀ J, eqQ Qmo I J → RM J (editR x a n).2 → K (editR x a n).1 J) : w_M_edit a n I K := by
  have o1 := hv.2.2.2.2.2.2.2.1.1
  have hT200 := hv.1.1
  have l300 := o1.1
  have nw := hR.2.2.2.2.2.2.2.1
  have tpr := hR.1
  unfold w_M_edit
  rw [nw.1]
  unfold editR at hK
  refine s_in (fun c1 => ?_) (fun c1 => ?_)
  rotate_left
  · rw [if_pos rfl]
    rw [if_neg (fun u => c1 ⟨u.1, u.2.2.1⟩)] at hK
    exact hK I eqQ.rf hR
  rw [if_neg (by decide)]
  refine s_in (fun c2 => ?_) (fun c2 => ?_)
  rotate_left
  · rw [if_pos rfl]
    rw [if_neg (fun u => c2 ⟨u.2.1, u.2.2.2⟩)] at hK
    exact hK I eqQ.rf hR
  rw [if_neg (by decide)]
  rw [if_pos ⟨c1.1, c2.1, c1.2, c2.2⟩] at hK
  obtain ⟨an, ha, rfl⟩ := zi_of c1.1
  obtain ⟨nn, hn, rfl⟩ := zi_of c2.1
  have la : an ≤ (moT (sgC x)).length := (zi_le ha (by omega)).mp c1.2
  have c22 := c2.2
  rw [zi_sub la] at c22
  have ln : nn ≤ (moT (sgC x)).length - an := (zi_le hn (by omega)).mp c22
  rw [zi_tn ha, zi_tn hn] at hK
  intro v3 ev3
  rw [zi_sub (by omega), tpr.1, zi_add] at ev3
  have src : ∀ A : zI, eqQ (fun a _ => a = 493) I A → ∀ j, j < (moT (sgC x)).length → A.1 494 j = txF (moT (sgC x)) j := fun A qA j hj => by
    rw [qA.1 494 j (by omega)]
    exact nw.2.1 j hj
  have sgf : seg (moT (sgC x)) 0 an ++ sgT x ++ seg (moT (sgC x)) (an + nn) (an + nn) = seg (moT (sgC x)) 0 an ++ sgT x := by rw [seg_nil, List.append_nil]
  have len1 : ∀ i, an + nn ≤ i → i ≤ (moT (sgC x)).length → (seg (moT (sgC x)) 0 an ++ sgT x ++ seg (moT (sgC x)) (an + nn) i).length = an + (sgT x).length + (i - (an + nn)) := fun i h1 h2 => by
    rw [List.length_append, List.length_append, seg_len la, seg_len h2, Nat.sub_zero]
  intro P43 h43
  have l1 : ∀ (f i : Nat) (A : zI), i + f = an → eqQ (fun a _ => a = 493) I A → NwM A (seg (moT (sgC x)) 0 i) → P43 (zi i) A := by
    intro f
    induction f with
    | succ f ih =>
      intro i A hi q dA
      refine h43 _ _ ?_
      rw [if_neg (fun u => by have := (zi_le (by omega) (by omega)).mp u; omega), zi_tn (show i < 2147483648 by omega)]
      refine ⟨(zin_iff (by omega)).mpr (by omega), (zin_iff (by omega)).mpr (by omega), fun I23 e23 v ev => ?_⟩
      rw [src A q i (by omega)] at e23
      rw [ev, zi_succ]
      refine ih (i + 1) I23 (by omega) (by rw [e23]; exact q.zu rfl) ?_
      rw [seg_succ (Nat.zero_le _) (by omega), e23]
      have hl : (seg (moT (sgC x)) 0 i).length = i := by rw [seg_len (by omega), Nat.sub_zero]
      have := dA.snoc (v := txF (moT (sgC x)) i)
      rw [hl] at this
      exact this
    | zero =>
      intro i A hi q dA
      refine h43 _ _ ?_
      have hia : i = an := by omega
      subst hia
      rw [if_pos ((zi_le (by omega) (by omega)).mpr (Nat.le_refl _))]
      intro P72 h72
      have l2 : ∀ (f2 j : Nat) (B : zI), j + f2 = (sgT x).length → eqQ (fun a _ => a = 493) I B → NwM B (seg (moT (sgC x)) 0 i ++ seg (sgT x) 0 j) → P72 (zi j) B := by
        intro f2
        induction f2 with
        | succ f2 ih2 =>
          intro j B hj q2 dB
          refine h72 _ _ ?_
          rw [q2.1 491 0 (by omega), tpr.1, if_neg (fun u => by have := (zi_le (by omega) (by omega)).mp u; omega), zi_add, zi_tn (show j < 2147483648 by omega), zi_tn (show i + j < 2147483648 by omega)]
          refine ⟨(zin_iff (by omega)).mpr (by omega), (zin_iff (by omega)).mpr (by omega), fun I20 e20 v ev => ?_⟩
          rw [q2.1 492 j (by omega), tpr.2 j (txF (sgT x) j) (by
            rw [txF_at (List.getElem?_eq_getElem (show j < (sgT x).length by omega))]
            exact List.getElem?_eq_getElem _)] at e20
          rw [ev, zi_succ]
          refine ih2 (j + 1) I20 (by omega) (by rw [e20]; exact q2.zu rfl) ?_
          rw [seg_succ (Nat.zero_le _) (by omega), e20, ← List.append_assoc]
          have hl : (seg (moT (sgC x)) 0 i ++ seg (sgT x) 0 j).length = i + j := by rw [List.length_append, seg_len (by omega), seg_len (by omega), Nat.sub_zero, Nat.sub_zero]
          have := dB.snoc (v := txF (sgT x) j)
          rw [hl] at this
          exact this
        | zero =>
          intro j B hj q2 dB
          refine h72 _ _ ?_
          have hjt : j = (sgT x).length := by omega
          subst hjt
          rw [q2.1 491 0 (by omega), tpr.1, if_pos ((zi_le (by omega) (by omega)).mpr (Nat.le_refl _))]
          have sg0 : seg (sgT x) 0 (sgT x).length = sgT x := by
            unfold seg
            rw [List.drop_zero, Nat.sub_zero, List.take_length]
          rw [sg0] at dB
          intro v4 ev4
          rw [zi_add] at ev4
          subst ev4
          intro P108 h108
          have l3 : ∀ (f3 k : Nat) (C : zI), k + f3 = (moT (sgC x)).length → i + nn ≤ k → eqQ (fun a _ => a = 493) I C → NwM C (seg (moT (sgC x)) 0 i ++ sgT x ++ seg (moT (sgC x)) (i + nn) k) → P108 (zi k) C := by
            intro f3
            induction f3 with
            | succ f3 ih3 =>
              intro k C hk hk2 q3 dC
              refine h108 _ _ ?_
              rw [q3.1 491 5 (by omega), nw.1, if_neg (fun u => by have := (zi_le (by omega) (by omega)).mp u; omega), q3.1 491 0 (by omega), tpr.1, zi_sub (show nn ≤ k by omega), zi_add, zi_tn (show k < 2147483648 by omega), zi_tn (show k - nn + (sgT x).length < 2147483648 by omega)]
              refine ⟨(zin_iff (by omega)).mpr (by omega), (zin_iff (by omega)).mpr (by omega), fun I17 e17 v ev => ?_⟩
              rw [src C q3 k (by omega)] at e17
              rw [ev, zi_succ]
              refine ih3 (k + 1) I17 (by omega) (by omega) (by rw [e17]; exact q3.zu rfl) ?_
              rw [seg_succ hk2 (by omega), e17, ← List.append_assoc]
              have := dC.snoc (v := txF (moT (sgC x)) k)
              rw [len1 k hk2 (by omega), show i + (sgT x).length + (k - (i + nn)) = k - nn + (sgT x).length by omega] at this
              exact this
            | zero =>
              intro k C hk hk2 q3 dC
              refine h108 _ _ ?_
              have hkl : k = (moT (sgC x)).length := by omega
              subst hkl
              rw [q3.1 491 5 (by omega), nw.1, if_pos ((zi_le (by omega) (by omega)).mpr (Nat.le_refl _))]
              have q3n : eqQ Qnw I C := q3.mono (fun a j h => Or.inr (Or.inl h))
              have hb : BtL (seg (moT (sgC x)) 0 i ++ sgT x ++ seg (moT (sgC x)) (i + nn) (moT (sgC x)).length) := (((BtL.of o1.2.1).sg).app hv.1.2).app ((BtL.of o1.2.1).sg)
              have hl := len1 (moT (sgC x)).length (by omega) (Nat.le_refl _)
              have e3 : v3 = zi (seg (moT (sgC x)) 0 i ++ sgT x ++ seg (moT (sgC x)) (i + nn) (moT (sgC x)).length).length := by
                rw [ev3, hl]
                congr 1
                omega
              rw [e3]
              exact s_doMt hv (RM.nw hv (tp := sgT x) hR q3n) hb (by omega) dC he (fun J qJ rJ => hK J ((Qnw_mo q3n).tr qJ) rJ)
          exact l3 ((moT (sgC x)).length - (i + nn)) (i + nn) B (by omega) (Nat.le_refl _) q2 (by rw [seg_nil, List.append_nil]; exact dB)
      exact l2 (sgT x).length 0 A (by omega) q (by rw [seg_nil, List.append_nil]; exact dA)
  exact l1 an 0 I (by omega) eqQ.rf (fun j hj => by rw [seg_nil] at hj; cases hj)
theorem s_isRun {x : Sg} {i : Int32} {I : zI} {K : Int32 → Prop} (hv : Iv x) (hR : RM I x) (h1 : 0 ≤ i ∧ i < zi (runsOf (sgN x) (moR (sgC x))).length → K 1) (h0 : ¬ (0 ≤ i ∧ i < zi (runsOf (sgN x) (moR (sgC x))).length) → K 0) : w_M_isRun i I K := by
  have rr := (runs_ok hv.2.1 hv.2.2.1 hv.2.2.2.2.2.2.2.1.2.2.2.1).2
  unfold w_M_isRun
  rw [show I.1 491 51 = zi (runsOf (sgN x) (moR (sgC x))).length from hR.2.2.1.2.2.2.1]
  have key : ∀ i : Int32, 0 ≤ i → (i ≤ zi (runsOf (sgN x) (moR (sgC x))).length - 1 ↔ i < zi (runsOf (sgN x) (moR (sgC x))).length) := fun i hi => by
    obtain ⟨k, hk, rfl⟩ := zi_of hi
    by_cases u : (runsOf (sgN x) (moR (sgC x))).length = 0
    · rw [u]
      constructor
      · intro w
        have := Int32.le_trans hi w
        exact absurd this (by decide)
      · intro w
        have := (zi_lt (b := 0) hk (by decide)).mp w
        omega
    · rw [show zi (runsOf (sgN x) (moR (sgC x))).length - 1 = zi ((runsOf (sgN x) (moR (sgC x))).length - 1) from zi_sub (b := 1) (by omega), zi_le hk (by omega), zi_lt hk (by omega)]
      omega
  refine s_in (fun c => ⟨Or.inr rfl, h1 ⟨c.1, (key i c.1).mp c.2⟩⟩) (fun c => ⟨Or.inl rfl, h0 (fun u => c ⟨u.1, (key i u.1).mpr u.2⟩)⟩)
theorem s_beginOf {x : Sg} {i r : Nat} {I : zI} {K : Int32 → Prop} (hv : Iv x) (hR : RM I x) (hr : (runsOf (sgN x) (moR (sgC x)))[i]? = some r) (hK : K (zi (rS x i))) : w_M_beginOf (zi r) I K := by
  obtain ⟨a1, a2, a3, -, ⟨p, y, b1, b2, b3⟩, -⟩ := run_ok hv hr
  have o := hv.2.2.2.2.2.2.2.1
  have h100 := o.2.1.2.2
  have hm := hv.2.2.2.1
  obtain ⟨-, -, r3, -, -, -, -, nw, -⟩ := hR
  obtain ⟨-, -, oo, c3, c4, c5⟩ := r3.2.1.2.1 p y (List.getElem?_eq_some_iff.mp b1).1 b1
  have e526 : I.1 526 r = zi (fsR x i) := by
    rw [← b2, c4]
    have := c5 (by omega)
    congr 1
    omega
  unfold w_M_beginOf
  rw [zi_tn (show r < 2147483648 by omega), e526, zi_tn (show fsR x i < 2147483648 by omega)]
  refine ⟨(zin_iff (by omega)).mpr (by omega), (zin_iff (by omega)).mpr (by omega), ?_⟩
  have hx : (lexL (moG (sgC x)))[fsR x i]? = some (tkG x (fsR x i)) := by
    unfold tkG
    rw [List.getD_eq_getElem?_getD, List.getElem?_eq_getElem (by omega)]
    rfl
  rw [show I.1 505 (fsR x i) = zi (tkG x (fsR x i)).2.1 from (nw.2.2.2.2.2.2.1.2 _ _ hx).2.1]
  exact hK
theorem s_endOf {x : Sg} {i r : Nat} {I : zI} {K : Int32 → Prop} (hv : Iv x) (hR : RM I x) (hr : (runsOf (sgN x) (moR (sgC x)))[i]? = some r) (hK : K (zi (rE x i))) : w_M_endOf (zi r) I K := by
  obtain ⟨a1, a2, a3, ag, ⟨p, y, b1, b2, b3⟩, -⟩ := run_ok hv hr
  have o := hv.2.2.2.2.2.2.2.1
  have h100 := o.2.1.2.2
  have hm := hv.2.2.2.1
  obtain ⟨-, r2, r3, -, -, -, -, nw, -⟩ := hR
  obtain ⟨-, -, oo, c3, c4, c5⟩ := r3.2.1.2.1 p y (List.getElem?_eq_some_iff.mp b1).1 b1
  have e526 : I.1 526 r = zi (fsR x i) := by
    rw [← b2, c4]
    have := c5 (by omega)
    congr 1
    omega
  have hls : fsR x i + ndT (sgN x r) - 1 = lsR x i := by
    unfold lsR
    rw [ag]
  have hl100 : lsR x i < (lexL (moG (sgC x))).length := by omega
  have hx : (lexL (moG (sgC x)))[lsR x i]? = some (tkG x (lsR x i)) := by
    unfold tkG
    rw [List.getD_eq_getElem?_getD, List.getElem?_eq_getElem hl100]
    rfl
  have hin : vp_in (zi r) 3700 := (zin_iff (by omega)).mpr (by omega)
  unfold w_M_endOf
  rw [zi_tn (show r < 2147483648 by omega), e526, show I.1 515 r = zi (ndT (sgN x r)) from (r2.2 r a1).2.2.1]
  refine ⟨hin, hin, fun v ev => ?_⟩
  rw [zi_add, show zi (fsR x i + ndT (sgN x r)) - 1 = zi (fsR x i + ndT (sgN x r) - 1) from zi_sub (b := 1) (by omega), hls] at ev
  subst ev
  have hin2 : vp_in (zi (lsR x i)) 110 := (zin_iff (by omega)).mpr (by omega)
  refine ⟨hin2, hin2, ?_⟩
  obtain ⟨-, w2, w3, -⟩ := nw.2.2.2.2.2.2.1.2 _ _ hx
  rw [zi_tn (show lsR x i < 2147483648 by omega), show I.1 505 (lsR x i) = zi (tkG x (lsR x i)).2.1 from w2, show I.1 506 (lsR x i) = zi (tkG x (lsR x i)).2.2 from w3, zi_add]
  exact hK
theorem q93_nw {I J : zI} (q : eqQ (fun a _ => a = 493) I J) : eqQ Qnw I J := q.mono (fun a j h => Or.inr (Or.inl h))
theorem RM.rn {x : Sg} {I : zI} {i r : Nat} (hR : RM I x) (hr : (runsOf (sgN x) (moR (sgC x)))[i]? = some r) : I.1 528 i = zi r := hR.2.2.1.2.2.2.2.2.1 i r hr
theorem RM.gd {x : Sg} {I : zI} (hR : RM I x) (hTG : moT (sgC x) = moG (sgC x)) : ∀ j, j < (moT (sgC x)).length → I.1 495 j = txF (moT (sgC x)) j := by
  rw [hTG]
  exact hR.2.2.2.2.2.2.2.1.2.2.2.2.2.1
theorem NwM.nil {I : zI} : NwM I [] := fun j hj => by cases hj
theorem s_Mcut {x : Sg} {i : Int32} {I : zI} {K : Int32 → zI → Prop} (hv : Iv x) (hR : RM I x) (he : sgE x < 100000) (hK : ∀ J, eqQ Qmo I J → RM J (runR cutD x i).2 → K (runR cutD x i).1 J) : w_M_cut i I K := by
  obtain ⟨o1, o2, oB, oR, oK⟩ := hv.2.2.2.2.2.2.2.1
  have l300 := o1.1
  unfold w_M_cut
  rw [hR.2.2.2.2.2.2.2.1.2.2.2.2.2.2.2.2.1]
  unfold runR at hK
  cases hb : moB (sgC x) with
  | false =>
    rw [if_pos (show b01 false = 0 by decide)]
    rw [if_neg (fun u => by rw [hb] at u; cases u.1)] at hK
    exact hK I eqQ.rf hR
  | true =>
    rw [if_neg (show ¬ b01 true = 0 by decide)]
    have hTG := oB hb
    refine s_isRun hv hR (fun hi => ?_) (fun hi => ?_)
    · rw [if_neg (by decide)]
      rw [if_pos ⟨hb, hi⟩] at hK
      obtain ⟨i', hi', rfl⟩ := zi_of hi.1
      have rr := (runs_ok hv.2.1 hv.2.2.1 oR).2
      have hil := (zi_lt hi' (by omega)).mp hi.2
      rw [zi_tn hi'] at hK ⊢
      have hr : (runsOf (sgN x) (moR (sgC x)))[i']? = some ((runsOf (sgN x) (moR (sgC x)))[i']'hil) := List.getElem?_eq_getElem hil
      obtain ⟨-, -, -, -, -, w1, w2, -⟩ := run_ok hv hr
      rw [← hTG] at w2
      have hin : vp_in (zi i') 110 := (zin_iff (by omega)).mpr (by omega)
      refine ⟨hin, ?_⟩
      rw [hR.rn hr]
      refine s_beginOf hv hR hr ?_
      refine s_copies (a := 0) (t := moT (sgC x)) (d := []) l300 (hR.gd hTG) (Nat.zero_le _) (by omega) (by show 0 + _ ≤ 700; omega) NwM.nil (fun I4 q4 D4 => ?_)
      have R4 : RM I4 x := RM.nw hv (tp := sgT x) hR (q93_nw q4)
      rw [List.nil_append] at D4 ⊢
      refine ⟨hin, ?_⟩
      rw [R4.rn hr]
      refine s_endOf hv R4 hr ?_
      rw [R4.2.2.2.2.2.2.2.1.2.2.2.2.1, ← hTG]
      refine s_copies l300 (R4.gd hTG) w2 (Nat.le_refl _) (by rw [seg_len (by omega)]; omega) D4 (fun I7 q7 D7 => ?_)
      have q7' := q4.tr q7
      exact s_doM (d := cutD x i') hv (RM.nw hv (tp := sgT x) hR (q93_nw q7')) (((BtL.of o1.2.1).sg).app ((BtL.of o1.2.1).sg)) (by unfold cutD; rw [List.length_append, seg_len (by omega), seg_len (by omega)]; omega) D7 he (fun J qJ rJ => hK J ((Qnw_mo (q93_nw q7')).tr qJ) rJ)
    · rw [if_pos rfl]
      rw [if_neg (fun u => hi u.2)] at hK
      exact hK I eqQ.rf hR
theorem s_Mtwin {x : Sg} {i : Int32} {I : zI} {K : Int32 → zI → Prop} (hv : Iv x) (hR : RM I x) (he : sgE x < 100000) (hK : ∀ J, eqQ Qmo I J → RM J (runR twinD x i).2 → K (runR twinD x i).1 J) : w_M_twin i I K := by
  obtain ⟨o1, o2, oB, oR, oK⟩ := hv.2.2.2.2.2.2.2.1
  have l300 := o1.1
  unfold w_M_twin
  rw [hR.2.2.2.2.2.2.2.1.2.2.2.2.2.2.2.2.1]
  unfold runR at hK
  cases hb : moB (sgC x) with
  | false =>
    rw [if_pos (show b01 false = 0 by decide)]
    rw [if_neg (fun u => by rw [hb] at u; cases u.1)] at hK
    exact hK I eqQ.rf hR
  | true =>
    rw [if_neg (show ¬ b01 true = 0 by decide)]
    have hTG := oB hb
    refine s_isRun hv hR (fun hi => ?_) (fun hi => ?_)
    · rw [if_neg (by decide)]
      rw [if_pos ⟨hb, hi⟩] at hK
      obtain ⟨i', hi', rfl⟩ := zi_of hi.1
      have rr := (runs_ok hv.2.1 hv.2.2.1 oR).2
      have hil := (zi_lt hi' (by omega)).mp hi.2
      rw [zi_tn hi'] at hK ⊢
      have hr : (runsOf (sgN x) (moR (sgC x)))[i']? = some ((runsOf (sgN x) (moR (sgC x)))[i']'hil) := List.getElem?_eq_getElem hil
      obtain ⟨-, -, -, -, -, w1, w2, -⟩ := run_ok hv hr
      rw [← hTG] at w2
      have hin : vp_in (zi i') 110 := (zin_iff (by omega)).mpr (by omega)
      refine ⟨hin, ?_⟩
      rw [hR.rn hr]
      refine s_endOf hv hR hr ?_
      refine s_copies (a := 0) (t := moT (sgC x)) (d := []) l300 (hR.gd hTG) (Nat.zero_le _) (by omega) (by show 0 + _ ≤ 700; omega) NwM.nil (fun I4 q4 D4 => ?_)
      have R4 : RM I4 x := RM.nw hv (tp := sgT x) hR (q93_nw q4)
      rw [List.nil_append] at D4 ⊢
      refine ⟨hin, ?_⟩
      rw [R4.rn hr]
      refine s_beginOf hv R4 hr ?_
      rw [R4.2.2.2.2.2.2.2.1.2.2.2.2.1, ← hTG]
      refine s_copies l300 (R4.gd hTG) (by omega) (Nat.le_refl _) (by rw [seg_len (by omega)]; omega) D4 (fun I7 q7 D7 => ?_)
      have q7' := q4.tr q7
      exact s_doM (d := twinD x i') hv (RM.nw hv (tp := sgT x) hR (q93_nw q7')) (((BtL.of o1.2.1).sg).app ((BtL.of o1.2.1).sg)) (by unfold twinD; rw [List.length_append, seg_len (by omega), seg_len (by omega)]; omega) D7 he (fun J qJ rJ => hK J ((Qnw_mo (q93_nw q7')).tr qJ) rJ)
    · rw [if_pos rfl]
      rw [if_neg (fun u => hi u.2)] at hK
      exact hK I eqQ.rf hR
theorem s_Mswap {x : Sg} {i : Int32} {I : zI} {K : Int32 → zI → Prop} (hv : Iv x) (hR : RM I x) (he : sgE x < 100000) (hK : ∀ J, eqQ Qmo I J → RM J (swapR x i).2 → K (swapR x i).1 J) : w_M_swap i I K := by
  obtain ⟨o1, o2, oB, oR, oK⟩ := hv.2.2.2.2.2.2.2.1
  have l300 := o1.1
  unfold w_M_swap
  rw [hR.2.2.2.2.2.2.2.1.2.2.2.2.2.2.2.2.1]
  unfold swapR at hK
  cases hb : moB (sgC x) with
  | false =>
    rw [if_pos (show b01 false = 0 by decide)]
    rw [if_neg (fun u => by rw [hb] at u; cases u.1)] at hK
    exact hK I eqQ.rf hR
  | true =>
    rw [if_neg (show ¬ b01 true = 0 by decide)]
    have hTG := oB hb
    refine s_isRun hv hR (fun hi => ?_) (fun hi => ?_)
    · rw [if_neg (by decide)]
      refine s_isRun hv hR (fun hi2 => ?_) (fun hi2 => ?_)
      · rw [if_neg (by decide)]
        rw [if_pos ⟨hb, hi, hi2⟩] at hK
        obtain ⟨i', hi', rfl⟩ := zi_of hi.1
        have rr := (runs_ok hv.2.1 hv.2.2.1 oR).2
        have hil := (zi_lt hi' (by omega)).mp hi.2
        rw [zi_succ] at hi2 ⊢
        have hil2 := (zi_lt (by omega) (by omega)).mp hi2.2
        rw [zi_tn hi'] at hK ⊢
        rw [zi_tn (show i' + 1 < 2147483648 by omega)]
        have hr : (runsOf (sgN x) (moR (sgC x)))[i']? = some ((runsOf (sgN x) (moR (sgC x)))[i']'hil) := List.getElem?_eq_getElem hil
        have hr2 : (runsOf (sgN x) (moR (sgC x)))[i' + 1]? = some ((runsOf (sgN x) (moR (sgC x)))[i' + 1]'hil2) := List.getElem?_eq_getElem hil2
        obtain ⟨-, -, -, -, -, w1, w2, w3⟩ := run_ok hv hr
        obtain ⟨-, -, -, -, -, y1, y2, -⟩ := run_ok hv hr2
        have w3 := w3 (by rw [hr2]; exact Option.some_ne_none _)
        rw [← hTG] at w2 y2
        have bt := BtL.of o1.2.1
        have hin : vp_in (zi i') 110 := (zin_iff (by omega)).mpr (by omega)
        have hin2 : vp_in (zi (i' + 1)) 110 := (zin_iff (by omega)).mpr (by omega)
        refine ⟨hin, fun v2 ev2 => ⟨hin2, fun v3 ev3 => ?_⟩⟩
        rw [hR.rn hr] at ev2
        rw [hR.rn hr2] at ev3
        subst ev2
        subst ev3
        have rA : ∀ A, eqQ (fun a _ => a = 493) I A → RM A x := fun A q => RM.nw hv (tp := sgT x) hR (q93_nw q)
        refine s_beginOf hv hR hr ?_
        refine s_copies (a := 0) (t := moT (sgC x)) (d := []) l300 (hR.gd hTG) (Nat.zero_le _) (by omega) (by show 0 + _ ≤ 700; omega) NwM.nil (fun I7 q7 D7 => ?_)
        rw [List.nil_append] at D7 ⊢
        have R7 := rA I7 q7
        refine s_beginOf hv R7 hr2 (s_endOf hv R7 hr2 ?_)
        refine s_copies l300 (R7.gd hTG) y1 y2 (by rw [seg_len (by omega)]; omega) D7 (fun I11 q11 D11 => ?_)
        have q11' := q7.tr q11
        have R11 := rA I11 q11'
        refine s_endOf hv R11 hr (s_beginOf hv R11 hr2 ?_)
        refine s_copies l300 (R11.gd hTG) w3 (by omega) (by rw [List.length_append, seg_len (by omega), seg_len (by omega)]; omega) D11 (fun I15 q15 D15 => ?_)
        have q15' := q11'.tr q15
        have R15 := rA I15 q15'
        refine s_beginOf hv R15 hr (s_endOf hv R15 hr ?_)
        refine s_copies l300 (R15.gd hTG) w1 w2 (by rw [List.length_append, List.length_append, seg_len (by omega), seg_len (by omega), seg_len (by omega)]; omega) D15 (fun I19 q19 D19 => ?_)
        have q19' := q15'.tr q19
        have R19 := rA I19 q19'
        refine s_endOf hv R19 hr2 ?_
        rw [R19.2.2.2.2.2.2.2.1.2.2.2.2.1, ← hTG]
        refine s_copies l300 (R19.gd hTG) y2 (Nat.le_refl _) (by rw [List.length_append, List.length_append, List.length_append, seg_len (by omega), seg_len (by omega), seg_len (by omega), seg_len (by omega)]; omega) D19 (fun I22 q22 D22 => ?_)
        have q22' := q19'.tr q22
        exact s_doM (d := swapD x i') hv (rA I22 q22') ((((bt.sg).app bt.sg).app bt.sg).app bt.sg |>.app bt.sg) (by unfold swapD; rw [List.length_append, List.length_append, List.length_append, List.length_append, seg_len (by omega), seg_len (by omega), seg_len (by omega), seg_len (by omega), seg_len (by omega)]; omega) D22 he (fun J qJ rJ => hK J ((Qnw_mo (q93_nw q22')).tr qJ) rJ)
      · rw [if_pos rfl]
        rw [if_neg (fun u => hi2 u.2.2)] at hK
        exact hK I eqQ.rf hR
    · rw [if_pos rfl]
      rw [if_neg (fun u => hi u.2.1)] at hK
      exact hK I eqQ.rf hR
/-! ===== a NAME changed ===== -/
def nmOk (tp : List Int32) : Bool := decide (1 ≤ tp.length) && (decide (tp.length ≤ 8) && tp.all isL)
/-- the text with each token that is chosen changed -/
def ren (tx tape : List Int32) (sel : Nat × Nat × Nat → Bool) : List (Nat × Nat × Nat) → Nat → List Int32
  | [], f => seg tx f tx.length
  | y :: ys, f => if sel y = true then seg tx f y.2.1 ++ tape ++ ren tx tape sel ys (y.2.1 + y.2.2) else ren tx tape sel ys f
theorem seg_app {l : List Int32} {a b c : Nat} (h1 : a ≤ b) (h2 : b ≤ c) : seg l a c = seg l a b ++ seg l b c := by
  unfold seg
  refine List.ext_getElem? (fun j => ?_)
  by_cases u : j < b - a
  · by_cases w : a + j < l.length
    · rw [List.getElem?_append_left (by rw [List.length_take, List.length_drop]; omega), List.getElem?_take, List.getElem?_take, if_pos u, if_pos (by omega)]
    · rw [List.getElem?_eq_none (by rw [List.length_take, List.length_drop]; omega), List.getElem?_eq_none (by rw [List.length_append, List.length_take, List.length_drop, List.length_take, List.length_drop]; omega)]
  · by_cases w : b ≤ l.length
    · rw [List.getElem?_append_right (by rw [List.length_take, List.length_drop]; omega), List.length_take, List.length_drop, Nat.min_eq_left (by omega)]
      by_cases z : j < c - a
      · rw [List.getElem?_take, if_pos z, List.getElem?_take, if_pos (by omega), List.getElem?_drop, List.getElem?_drop]
        congr 1
        omega
      · rw [List.getElem?_take, if_neg z, List.getElem?_take, if_neg (by omega)]
    · rw [List.getElem?_eq_none (by rw [List.length_take, List.length_drop]; omega), List.getElem?_eq_none (by rw [List.length_append, List.length_take, List.length_drop, List.length_take, List.length_drop]; omega)]
theorem ren_seg {tx tape : List Int32} {sel : Nat × Nat × Nat → Bool} : ∀ (ys : List (Nat × Nat × Nat)) (a b : Nat), a ≤ b → b ≤ tx.length → (∀ y ∈ ys, b ≤ y.2.1) → ren tx tape sel ys a = seg tx a b ++ ren tx tape sel ys b
  | [], a, b, h1, h2, _ => seg_app h1 h2
  | y :: ys, a, b, h1, h2, h3 => by
    have hy := h3 y (List.mem_cons_self ..)
    show (if sel y = true then seg tx a y.2.1 ++ tape ++ ren tx tape sel ys (y.2.1 + y.2.2) else ren tx tape sel ys a) = seg tx a b ++ (if sel y = true then seg tx b y.2.1 ++ tape ++ ren tx tape sel ys (y.2.1 + y.2.2) else ren tx tape sel ys b)
    by_cases u : sel y = true
    · rw [if_pos u, if_pos u, seg_app h1 hy, List.append_assoc, List.append_assoc, List.append_assoc]
    · rw [if_neg u, if_neg u, ren_seg ys a b h1 h2 (fun z hz => h3 z (List.mem_cons_of_mem _ hz))]
theorem ren_bt {tx tape : List Int32} {sel : Nat × Nat × Nat → Bool} (h1 : BtL tx) (h2 : BtL tape) : ∀ (ys : List (Nat × Nat × Nat)) (a : Nat), BtL (ren tx tape sel ys a)
  | [], a => h1.sg
  | y :: ys, a => by
    show BtL (if sel y = true then seg tx a y.2.1 ++ tape ++ ren tx tape sel ys (y.2.1 + y.2.2) else ren tx tape sel ys a)
    by_cases u : sel y = true
    · rw [if_pos u]
      exact ((h1.sg).app h2).app (ren_bt h1 h2 ys _)
    · rw [if_neg u]
      exact ren_bt h1 h2 ys a
/-- of the i-th token the tokens alike are chosen -/
def selN (t : List Int32) (i : Nat) (y : Nat × Nat × Nat) : Bool := alB (txF t) ((lexL t).getD i (10, 0, 0)) (txF t) y
def renD (x : Sg) (i : Nat) : List Int32 := ren (moT (sgC x)) (sgT x) (selN (moT (sgC x)) i) (lexL (moT (sgC x))) 0
def renR (x : Sg) (i : Int32) : Int32 × Sg := if moB (sgC x) = true ∧ (0 ≤ i ∧ i < zi (lexL (moT (sgC x))).length) ∧ ((lexL (moT (sgC x))).getD i.toNatClampNeg (10, 0, 0)).1 = 0 ∧ nmOk (sgT x) = true then doC x (renD x i.toNatClampNeg) true else (-1, x)
theorem s_tkSame {k i j : Nat} {t : Nat → Int32} {l : List (Nat × Nat × Nat)} {x y : Nat × Nat × Nat} {I : zI} {K : Int32 → Prop} (rep : RepT I k t l) (hi : l[i]? = some x) (hj : l[j]? = some y) (hl : l.length ≤ 100) (hx : tkOk t x) (hy : tkOk t y) (hK : K (b01 (alB t x t y))) : w_Tokens_sameBytes k (zi i) (zi j) I K := by
  have hil := (List.getElem?_eq_some_iff.mp hi).1
  have hjl := (List.getElem?_eq_some_iff.mp hj).1
  obtain ⟨r1, -, r3, r4, r5⟩ := rep.2 i x hi
  obtain ⟨q1, -, q3, q4, q5⟩ := rep.2 j y hj
  have hx1 := hx.1
  have hy1 := hy.1
  have hx2 := hx.2.1
  have hy2 := hy.2.1
  have e0 := tkA_x hx hy
  have hfalse : ¬ tkA t x t y → K 0 := fun q => by
    have : alB t x t y = false := by
      cases hq : alB t x t y with
      | false => rfl
      | true => exact absurd (alB_iff.mp hq) q
    rw [this] at hK
    exact hK
  unfold w_Tokens_sameBytes
  rw [w_get (by decide), w_get (by decide), rg_in (by decide) (show i < 100 by omega), rg_in (by decide) (show j < 100 by omega), r1, q1]
  by_cases c1 : x.1 = y.1
  · rw [if_pos (show zi x.1 = zi y.1 by rw [c1]), w_get (by decide), w_get (by decide), rg_in (by decide) (show i < 100 by omega), rg_in (by decide) (show j < 100 by omega), r3, q3]
    by_cases c2 : x.2.2 = y.2.2
    · rw [if_pos (show zi x.2.2 = zi y.2.2 by rw [c2]), w_get (by decide), w_get (by decide), rg_in (by decide) (show i < 100 by omega), rg_in (by decide) (show j < 100 by omega), r4, q4]
      by_cases c3 : hdT t x.2.1 x.2.2 = hdT t y.2.1 y.2.2
      · rw [if_pos c3, w_get (by decide), w_get (by decide), rg_in (by decide) (show i < 100 by omega), rg_in (by decide) (show j < 100 by omega), r5, q5]
        by_cases c4 : tlT t x.2.1 x.2.2 = tlT t y.2.1 y.2.2
        · rw [if_pos c4]
          rw [alB_iff.mpr (e0.mpr ⟨c1, c2, c3, c4⟩)] at hK
          exact hK
        · rw [if_neg c4]
          exact hfalse (fun r => c4 (e0.mp r).2.2.2)
      · rw [if_neg c3]
        exact hfalse (fun r => c3 (e0.mp r).2.2.1)
    · rw [if_neg (fun u => c2 ((zi_eq (by omega) (by omega)).mp u))]
      exact hfalse (fun r => c2 (e0.mp r).2.1)
  · rw [if_neg (fun u => c1 ((zi_eq (by omega) (by omega)).mp u))]
    exact hfalse (fun r => c1 (e0.mp r).1)
theorem s_tapeIsName {tp : List Int32} {I : zI} {K : Int32 → Prop} (ht : TapX I tp) (hl : tp.length ≤ 200) (hK : K (b01 (nmOk tp))) : w_Desk_tapeIsName I K := by
  intro P2 h2
  have main : ∀ (d k : Nat), k + d = tp.length → ((tp.take k).all isL = true) → P2 (zi k) := by
    intro d
    induction d with
    | zero =>
      intro k hk hall
      refine h2 _ ?_
      rw [ht.1, if_pos ((zi_le (by omega) (by omega)).mpr (by omega))]
      rw [List.take_of_length_le (by omega)] at hall
      unfold nmOk at hK
      rw [hall] at hK
      by_cases c1 : tp.length < 1
      · rw [if_pos (show zi tp.length < 1 from (zi_lt (b := 1) (by omega) (by decide)).mpr c1)]
        rw [decide_eq_false (by omega)] at hK
        exact hK
      · rw [if_neg (show ¬ zi tp.length < 1 from fun u => c1 ((zi_lt (b := 1) (by omega) (by decide)).mp u))]
        rw [decide_eq_true (show 1 ≤ tp.length by omega)] at hK
        by_cases c2 : 8 < tp.length
        · rw [if_pos (show (8 : Int32) < zi tp.length from (zi_lt (a := 8) (by decide) (by omega)).mpr c2)]
          rw [decide_eq_false (by omega)] at hK
          exact hK
        · rw [if_neg (show ¬ (8 : Int32) < zi tp.length from fun u => c2 ((zi_lt (a := 8) (by decide) (by omega)).mp u))]
          rw [decide_eq_true (show tp.length ≤ 8 by omega)] at hK
          exact hK
    | succ d ih =>
      intro k hk hall
      refine h2 _ ?_
      rw [ht.1, if_neg (fun u => by have := (zi_le (by omega) (by omega)).mp u; omega)]
      have hv : tp[k]? = some (tp[k]'(by omega)) := List.getElem?_eq_getElem (by omega)
      generalize tp[k]'(by omega) = v at hv
      refine (w_get (by decide)).mpr ?_
      rw [rg_in (by decide) (show k < 200 by omega), show I.1 (1 + 1) k = v from ht.2 k v hv]
      refine w_xL.mpr ?_
      cases hv2 : isL v with
      | false =>
        rw [if_pos (show b01 false = 0 by decide)]
        have hno : tp.all isL = false := by
          rw [Bool.eq_false_iff]
          intro ha
          have := List.all_eq_true.mp ha v (List.mem_of_getElem? hv)
          rw [hv2] at this
          cases this
        unfold nmOk at hK
        rw [hno, Bool.and_false, Bool.and_false] at hK
        exact hK
      | true =>
        rw [if_neg (show ¬ b01 true = 0 by decide)]
        intro w ew
        rw [ew, zi_succ]
        refine ih (k + 1) (by omega) ?_
        rw [List.take_add_one, hv, List.all_append, hall]
        show (true && ([v].all isL)) = true
        rw [Bool.true_and, List.all_cons, hv2, List.all_nil]
        rfl
  exact main tp.length 0 (by omega) rfl
theorem tk_has {k : Nat} {t : Nat → Int32} {l : List (Nat × Nat × Nat)} {i : Int32} {I : zI} {K : Int32 → Prop} (rep : RepT I k t l) (h1 : 0 ≤ i ∧ i < zi l.length → K 1) (h0 : ¬ (0 ≤ i ∧ i < zi l.length) → K 0) : w_Tokens_has k i I K := by
  unfold w_Tokens_has
  rw [rep.1]
  by_cases c1 : i < 0
  · rw [if_pos c1]
    exact h0 (fun u => Int32.not_le.mpr c1 u.1)
  rw [if_neg c1]
  by_cases c2 : zi l.length ≤ i
  · rw [if_pos c2]
    exact h0 (fun u => Int32.not_lt.mpr c2 u.2)
  · rw [if_neg c2]
    exact h1 ⟨Int32.not_lt.mp c1, Int32.not_le.mp c2⟩
theorem ren_len {tx tape : List Int32} {sel : Nat × Nat × Nat → Bool} (ht : tape.length ≤ 8) : ∀ (ys : List (Nat × Nat × Nat)) (a : Nat), (∀ y ∈ ys, y.2.1 ≤ tx.length) → (ren tx tape sel ys a).length ≤ (tx.length + 8) * ys.length + tx.length
  | [], a, _ => by
    show (seg tx a tx.length).length ≤ _
    unfold seg
    rw [List.length_take, List.length_drop]
    omega
  | y :: ys, a, h => by
    have hr : ∀ b, (ren tx tape sel ys b).length ≤ (tx.length + 8) * ys.length + tx.length := fun b => ren_len ht ys b (fun z hz => h z (List.mem_cons_of_mem _ hz))
    have h1 := h y (List.mem_cons_self ..)
    rw [List.length_cons, Nat.mul_succ]
    show (if sel y = true then seg tx a y.2.1 ++ tape ++ ren tx tape sel ys (y.2.1 + y.2.2) else ren tx tape sel ys a).length ≤ _
    by_cases u : sel y = true
    · rw [if_pos u, List.length_append, List.length_append, seg_len h1]
      have := hr (y.2.1 + y.2.2)
      omega
    · rw [if_neg u]
      have := hr a
      omega
theorem s_rename {x : Sg} {i : Int32} {I : zI} {K : Int32 → zI → Prop} (hv : Iv x) (hR : RX I x) (he : sgE x < 100000) (hK : ∀ J, eqQ Qcl I J → RX J (renR x i).2 → K (renR x i).1 J) : w_Desk_rename i I K := by
  obtain ⟨s, hA⟩ := hR.now
  have zs : zmom s = 113 + 18 * s := rfl
  have hs := hA.1
  obtain ⟨o1, o2, oB, oR, oK⟩ := hv.2.2.2.2.2.2.2.1
  have l300 := o1.1
  have l100 := o1.2.2
  have hT200 := hv.1.1
  have lxo := lex_lxo o1
  unfold w_Desk_rename
  refine s_now hA.1 hA.2.1 ?_
  rw [hA.2.2.2.2.2.1]
  unfold renR at hK
  cases hb : moB (sgC x) with
  | false =>
    rw [if_pos (show b01 false = 0 by decide)]
    rw [if_neg (fun u => by rw [hb] at u; cases u.1)] at hK
    exact hK I eqQ.rf hR
  | true =>
    rw [if_neg (show ¬ b01 true = 0 by decide)]
    have rep := hA.2.2.2.2.1
    refine tk_has rep (fun hi => ?_) (fun hi => ?_)
    rotate_left
    · rw [if_pos rfl]
      rw [if_neg (fun u => hi u.2.1)] at hK
      exact hK I eqQ.rf hR
    rw [if_neg (by decide)]
    obtain ⟨i', hi', rfl⟩ := zi_of hi.1
    have hil := (zi_lt hi' (by omega)).mp hi.2
    rw [zi_tn hi'] at hK
    have hx : (lexL (moT (sgC x)))[i']? = some ((lexL (moT (sgC x))).getD i' (10, 0, 0)) := by
      rw [List.getD_eq_getElem?_getD, List.getElem?_eq_getElem hil]
      rfl
    refine (w_get (by decide)).mpr ?_
    rw [rg_in (by decide) (show i' < 100 by omega), show I.1 (zmom s + 3 + 1 + 1) i' = zi ((lexL (moT (sgC x))).getD i' (10, 0, 0)).1 from (rep.2 i' _ hx).1]
    have hk12 := (lxo.1 _ (List.mem_of_getElem? hx)).1
    by_cases hk0 : ((lexL (moT (sgC x))).getD i' (10, 0, 0)).1 = 0
    rotate_left
    · rw [if_neg (show ¬ zi ((lexL (moT (sgC x))).getD i' (10, 0, 0)).1 = 0 from fun u => hk0 ((zi_eq (b := 0) (by omega) (by decide)).mp u))]
      rw [if_neg (fun u => hk0 u.2.2.1)] at hK
      exact hK I eqQ.rf hR
    rw [if_pos (show zi ((lexL (moT (sgC x))).getD i' (10, 0, 0)).1 = 0 by rw [hk0]; rfl)]
    refine s_tapeIsName hR.1 hT200 ?_
    cases hnm : nmOk (sgT x) with
    | false =>
      rw [if_pos (show b01 false = 0 by decide)]
      rw [if_neg (fun u => by rw [hnm] at u; cases u.2.2.2)] at hK
      exact hK I eqQ.rf hR
    | true =>
      rw [if_neg (show ¬ b01 true = 0 by decide)]
      rw [if_pos ⟨hb, hi, hk0, hnm⟩] at hK
      have hT8 : (sgT x).length ≤ 8 := by
        unfold nmOk at hnm
        obtain ⟨-, h2⟩ := Bool.and_eq_true_iff.mp hnm
        exact of_decide_eq_true (Bool.and_eq_true_iff.mp h2).1
      intro I5 e5
      have q5 : eqQ Qap I I5 := by
        rw [e5]
        exact eqQ.rf.zu (Or.inl ⟨rfl, rfl⟩)
      have hbt : BtL (renD x i') := ren_bt (BtL.of o1.2.1) hv.1.2 _ _
      have sg0 : seg (sgT x) 0 (sgT x).length = sgT x := by
        unfold seg
        rw [List.drop_zero, Nat.sub_zero, List.take_length]
      intro P59 h59
      have main : ∀ (dd k f : Nat) (d : List Int32) (A : zI), k + dd = (lexL (moT (sgC x))).length → f ≤ (moT (sgC x)).length → (∀ (j : Nat) (y : Nat × Nat × Nat), k ≤ j → (lexL (moT (sgC x)))[j]? = some y → f ≤ y.2.1) → eqQ Qap I A → DrX A d → d.length ≤ f + 8 * k → d ++ ren (moT (sgC x)) (sgT x) (selN (moT (sgC x)) i') ((lexL (moT (sgC x))).drop k) f = renD x i' → P59 (zi f) (zi k) A := by
        intro dd
        induction dd with
        | zero =>
          intro k f d A hk hf hfy q dA hdl hren
          refine h59 _ _ _ ?_
          have AA := hA.ap q
          rw [show A.1 (zmom s + 3) 5 = zi (lexL (moT (sgC x))).length from AA.2.2.2.2.1.1, if_pos ((zi_le (by omega) (by omega)).mpr (by omega)), AA.2.2.1]
          rw [List.drop_of_length_le (by omega)] at hren
          refine s_mAppend (t := moT (sgC x)) (by omega) (by decide) l300 AA.2.2.txt hf (Nat.le_refl _) (by omega) (by omega) dA (fun B qB dB => ?_)
          have qB' := q.tr qB
          have hren' : d ++ seg (moT (sgC x)) f (moT (sgC x)).length = renD x i' := hren
          rw [hren'] at dB
          refine s_doX (bt := true) hv (hR.ap hv qB') hbt dB ?_ he (fun J qJ rJ => hK J ((Qap_cl qB').tr qJ) rJ)
          rw [← hren', List.length_append, seg_len (Nat.le_refl _)]
          omega
        | succ dd ih =>
          intro k f d A hk hf hfy q dA hdl hren
          refine h59 _ _ _ ?_
          have AA := hA.ap q
          have repA := AA.2.2.2.2.1
          rw [show A.1 (zmom s + 3) 5 = zi (lexL (moT (sgC x))).length from repA.1, if_neg (fun u => by have := (zi_le (by omega) (by omega)).mp u; omega)]
          have hy : (lexL (moT (sgC x)))[k]? = some ((lexL (moT (sgC x)))[k]'(by omega)) := List.getElem?_eq_getElem (by omega)
          have hdk : (lexL (moT (sgC x))).drop k = (lexL (moT (sgC x)))[k]'(by omega) :: (lexL (moT (sgC x))).drop (k + 1) := List.drop_eq_getElem_cons (by omega)
          generalize (lexL (moT (sgC x)))[k]'(by omega) = y at hy hdk
          have hyin := lexL_in o1 hy
          have hfk := hfy k y (Nat.le_refl _) hy
          refine s_tkSame repA hx hy l100 (lxo.1 _ (List.mem_of_getElem? hx)) (lxo.1 _ (List.mem_of_getElem? hy)) ?_
          intro P150 h150
          rw [hdk] at hren
          have hren' : d ++ (if selN (moT (sgC x)) i' y = true then seg (moT (sgC x)) f y.2.1 ++ sgT x ++ ren (moT (sgC x)) (sgT x) (selN (moT (sgC x)) i') ((lexL (moT (sgC x))).drop (k + 1)) (y.2.1 + y.2.2) else ren (moT (sgC x)) (sgT x) (selN (moT (sgC x)) i') ((lexL (moT (sgC x))).drop (k + 1)) f) = renD x i' := hren
          have hsel : alB (txF (moT (sgC x))) ((lexL (moT (sgC x))).getD i' (10, 0, 0)) (txF (moT (sgC x))) y = selN (moT (sgC x)) i' y := rfl
          rw [hsel]
          cases hse : selN (moT (sgC x)) i' y with
          | false =>
            rw [if_pos (show b01 false = 0 by decide)]
            rw [hse, if_neg (by decide)] at hren'
            refine h150 _ _ (fun v ev => ?_)
            rw [ev, zi_succ]
            exact ih (k + 1) f d A (by omega) hf (fun j z hj hz => hfy j z (by omega) hz) q dA (by omega) hren'
          | true =>
            rw [if_neg (show ¬ b01 true = 0 by decide)]
            rw [hse, if_pos rfl, ← List.append_assoc] at hren'
            refine (w_get (by decide)).mpr ?_
            rw [rg_in (by decide) (show k < 100 by omega), show A.1 (zmom s + 3 + 3 + 1) k = zi y.2.1 from (repA.2 k y hy).2.1]
            refine s_mAppend (t := moT (sgC x)) (by omega) (by decide) l300 AA.2.2.txt hfk (by omega) (by omega) (by omega) dA (fun B qB dB => ?_)
            have qB' := q.tr qB
            have RB := hR.ap hv qB'
            rw [show B.1 0 1 = zi (sgT x).length from RB.1.1]
            have hl1 : (d ++ seg (moT (sgC x)) f y.2.1).length = d.length + (y.2.1 - f) := by rw [List.length_append, seg_len (by omega)]
            refine s_mAppend (a := 0) (t := sgT x) (by omega) (by decide) hT200 (fun j hj => RB.1.2 j _ (by rw [List.getElem?_eq_getElem hj, txF_at (List.getElem?_eq_getElem hj)])) (Nat.zero_le _) (Nat.le_refl _) (by omega) (by rw [hl1]; omega) dB (fun C qC dC => ?_)
            have qC' := qB'.tr qC
            rw [sg0] at dC
            have repC := (hA.ap qC').2.2.2.2.1
            refine (w_get (by decide)).mpr ?_
            rw [rg_in (by decide) (show k < 100 by omega), show C.1 (zmom s + 3 + 3 + 1) k = zi y.2.1 from (repC.2 k y hy).2.1]
            refine (w_get (by decide)).mpr ?_
            rw [rg_in (by decide) (show k < 100 by omega), show C.1 (zmom s + 3 + 5 + 1) k = zi y.2.2 from (repC.2 k y hy).2.2.1]
            intro v3 ev3
            rw [zi_add] at ev3
            subst ev3
            refine h150 _ _ (fun v ev => ?_)
            rw [ev, zi_succ]
            refine ih (k + 1) (y.2.1 + y.2.2) _ C (by omega) hyin (fun j z hj hz => lexL_sorted o1 (show k < j by omega) hy hz) qC' dC ?_ (by rw [← hren']; simp only [List.append_assoc])
            rw [List.length_append, hl1]
            omega
      exact main (lexL (moT (sgC x))).length 0 0 [] I5 (by omega) (Nat.zero_le _) (fun j y _ _ => Nat.zero_le _) q5 (DrX.nil (by rw [e5, zu_self])) (Nat.zero_le _) (by rw [List.drop_zero]; rfl)
/-! ===== a NAME changed: the model ===== -/
theorem sel_iff {t : Nat → Int32} {x y : Nat × Nat × Nat} (hx : tkOk t x) (hy : tkOk t y) (h0 : x.1 = 0) : (y.1 = 0 ∧ isV t y = isV t x) ↔ alB t x t y = true := by
  rw [alB_iff]
  have hxL := (hx.2.2.2.1 h0).2
  constructor
  · rintro ⟨h1, h2⟩
    have hyL := (hy.2.2.2.1 h1).2
    unfold isV at h2
    rw [if_pos h1, if_pos h0] at h2
    obtain ⟨e1, e2⟩ := (valL_iff hxL hyL hx.2.1 hy.2.1).mp h2.symm
    exact ⟨by rw [h0, h1], e1, e2⟩
  · intro h
    have h1 : y.1 = 0 := by rw [← h.1]; exact h0
    refine ⟨h1, ?_⟩
    have hyL := (hy.2.2.2.1 h1).2
    unfold isV
    rw [if_pos h1, if_pos h0]
    exact ((valL_iff hxL hyL hx.2.1 hy.2.1).mpr ⟨h.2.1, h.2.2⟩).symm
theorem s_isName {tp : List Int32} {I : zI} {K : Int32 → Prop} (ht : TapM I tp) (hl : tp.length ≤ 200) (hK : K (b01 (nmOk tp))) : w_M_isName I K := by
  unfold w_M_isName
  rw [ht.1]
  refine s_in (fun c => ?_) (fun c => ?_)
  · rw [if_neg (by decide)]
    have c1 : 1 ≤ tp.length := (zi_le (a := 1) (by decide) (by omega)).mp c.1
    have c2 : tp.length ≤ 8 := (zi_le (b := 8) (by omega) (by decide)).mp c.2
    intro P17 h17
    have main : ∀ (d k : Nat), k + d = tp.length → ((tp.take k).all isL = true) → P17 (zi k) := by
      intro d
      induction d with
      | zero =>
        intro k hk hall
        refine h17 _ ?_
        rw [if_pos ((zi_le (by omega) (by omega)).mpr (by omega))]
        rw [List.take_of_length_le (by omega)] at hall
        unfold nmOk at hK
        rw [hall, decide_eq_true c1, decide_eq_true c2] at hK
        exact hK
      | succ d ih =>
        intro k hk hall
        refine h17 _ ?_
        rw [if_neg (fun u => by have := (zi_le (by omega) (by omega)).mp u; omega), zi_tn (show k < 2147483648 by omega)]
        have hv : tp[k]? = some (tp[k]'(by omega)) := List.getElem?_eq_getElem (by omega)
        generalize tp[k]'(by omega) = v at hv
        refine ⟨(zin_iff (by omega)).mpr (by omega), ?_⟩
        rw [ht.2 k v hv]
        refine w_mL.mpr ?_
        cases hv2 : isL v with
        | false =>
          rw [if_pos (show b01 false = 0 by decide)]
          have hno : tp.all isL = false := by
            rw [Bool.eq_false_iff]
            intro ha
            have := List.all_eq_true.mp ha v (List.mem_of_getElem? hv)
            rw [hv2] at this
            cases this
          unfold nmOk at hK
          rw [hno, Bool.and_false, Bool.and_false] at hK
          exact hK
        | true =>
          rw [if_neg (show ¬ b01 true = 0 by decide)]
          intro w ew
          rw [ew, zi_succ]
          refine ih (k + 1) (by omega) ?_
          rw [List.take_add_one, hv, List.all_append, hall]
          show (true && ([v].all isL)) = true
          rw [Bool.true_and, List.all_cons, hv2, List.all_nil]
          rfl
    exact main tp.length 0 (by omega) rfl
  · rw [if_pos rfl]
    have hno : nmOk tp = false := by
      unfold nmOk
      by_cases u : 1 ≤ tp.length
      · have : ¬ tp.length ≤ 8 := fun w => c ⟨(zi_le (a := 1) (by decide) (by omega)).mpr u, (zi_le (b := 8) (by omega) (by decide)).mpr w⟩
        rw [decide_eq_false this, Bool.false_and, Bool.and_false]
      · rw [decide_eq_false u, Bool.false_and]
    rw [hno] at hK
    exact hK
theorem s_Mrename {x : Sg} {i : Int32} {I : zI} {K : Int32 → zI → Prop} (hv : Iv x) (hR : RM I x) (he : sgE x < 100000) (hK : ∀ J, eqQ Qmo I J → RM J (renR x i).2 → K (renR x i).1 J) : w_M_rename i I K := by
  obtain ⟨o1, o2, oB, oR, oK⟩ := hv.2.2.2.2.2.2.2.1
  have l300 := o1.1
  have l100 := o1.2.2
  have hT200 := hv.1.1
  have lxo := lex_lxo o1
  have nw := hR.2.2.2.2.2.2.2.1
  unfold w_M_rename
  rw [nw.2.2.2.2.2.2.2.2.1]
  unfold renR at hK
  cases hb : moB (sgC x) with
  | false =>
    rw [if_pos (show b01 false = 0 by decide)]
    rw [if_neg (fun u => by rw [hb] at u; cases u.1)] at hK
    exact hK I eqQ.rf hR
  | true =>
    rw [if_neg (show ¬ b01 true = 0 by decide)]
    have hTG := oB hb
    have old : OldU I (txF (moT (sgC x))) (lexL (moT (sgC x))) := by
      rw [hTG]
      exact nw.2.2.2.2.2.2.1
    have gd : ∀ j, j < (moT (sgC x)).length → I.1 495 j = txF (moT (sgC x)) j := hR.gd hTG
    have g7 : I.1 491 7 = zi (moT (sgC x)).length := by
      rw [hTG]
      exact nw.2.2.2.2.1
    unfold w_M_isGoodName
    rw [show I.1 491 19 = zi (lexL (moT (sgC x))).length from old.1, show zi (lexL (moT (sgC x))).length - 1 = zi ((lexL (moT (sgC x))).length - 1) from zi_sub (b := 1) (by have := lxo.2.1; omega)]
    have n1 := lxo.2.1
    have iff1 : (0 ≤ i ∧ i ≤ zi ((lexL (moT (sgC x))).length - 1)) ↔ (0 ≤ i ∧ i < zi (lexL (moT (sgC x))).length) := by
      refine and_congr_right fun h => ?_
      obtain ⟨k, hk, rfl⟩ := zi_of h
      rw [zi_le hk (by omega), zi_lt hk (by omega)]
      omega
    refine s_in (fun hi => ?_) (fun hi => ?_)
    rotate_left
    · rw [if_pos rfl]
      dsimp only
      rw [if_pos rfl]
      rw [if_neg (fun u => hi (iff1.mpr u.2.1))] at hK
      exact hK I eqQ.rf hR
    rw [if_neg (by decide)]
    have hi := iff1.mp hi
    obtain ⟨i', hi', rfl⟩ := zi_of hi.1
    have hil := (zi_lt hi' (by omega)).mp hi.2
    rw [zi_tn hi'] at hK ⊢
    have hx : (lexL (moT (sgC x)))[i']? = some ((lexL (moT (sgC x))).getD i' (10, 0, 0)) := by
      rw [List.getD_eq_getElem?_getD, List.getElem?_eq_getElem hil]
      rfl
    have hiin : vp_in (zi i') 110 := (zin_iff (by omega)).mpr (by omega)
    obtain ⟨p1, p2, p3, p4⟩ := old.2 i' _ hx
    have hk12 := (lxo.1 _ (List.mem_of_getElem? hx)).1
    refine ⟨hiin, ?_⟩
    rw [show I.1 504 i' = zi ((lexL (moT (sgC x))).getD i' (10, 0, 0)).1 from p1]
    by_cases hk0 : ((lexL (moT (sgC x))).getD i' (10, 0, 0)).1 = 0
    rotate_left
    · rw [if_neg (show ¬ zi ((lexL (moT (sgC x))).getD i' (10, 0, 0)).1 = 0 from fun u => hk0 ((zi_eq (b := 0) (by omega) (by decide)).mp u))]
      dsimp only
      rw [if_pos rfl]
      rw [if_neg (fun u => hk0 u.2.2.1)] at hK
      exact hK I eqQ.rf hR
    rw [if_pos (show zi ((lexL (moT (sgC x))).getD i' (10, 0, 0)).1 = 0 by rw [hk0]; rfl)]
    dsimp only
    rw [if_neg (by decide)]
    refine s_isName hR.1 hT200 ?_
    cases hnm : nmOk (sgT x) with
    | false =>
      rw [if_pos (show b01 false = 0 by decide)]
      rw [if_neg (fun u => by rw [hnm] at u; cases u.2.2.2)] at hK
      exact hK I eqQ.rf hR
    | true =>
      rw [if_neg (show ¬ b01 true = 0 by decide)]
      rw [if_pos ⟨hb, hi, hk0, hnm⟩] at hK
      obtain ⟨hT1, hT8⟩ : 1 ≤ (sgT x).length ∧ (sgT x).length ≤ 8 := by
        unfold nmOk at hnm
        obtain ⟨h1, h2⟩ := Bool.and_eq_true_iff.mp hnm
        exact ⟨of_decide_eq_true h1, of_decide_eq_true (Bool.and_eq_true_iff.mp h2).1⟩
      have hbt : BtL (renD x i') := ren_bt (BtL.of o1.2.1) hv.1.2 _ _
      have sg0 : seg (sgT x) 0 (sgT x).length = sgT x := by
        unfold seg
        rw [List.drop_zero, Nat.sub_zero, List.take_length]
      have c93 : ∀ (A : zI) (a j : Nat), eqQ (fun a _ => a = 493) I A → a ≠ 493 → A.1 a j = I.1 a j := fun A a j q u => q.1 a j u
      intro P31 h31
      have main : ∀ (dd k f r g : Nat) (d : List Int32) (A : zI), k + dd = (lexL (moT (sgC x))).length → f ≤ (moT (sgC x)).length → (∀ (j : Nat) (y : Nat × Nat × Nat), k ≤ j → (lexL (moT (sgC x)))[j]? = some y → f ≤ y.2.1) → eqQ (fun a _ => a = 493) I A → NwM A d → d.length ≤ f + g → g + r ≤ (sgT x).length * r → (sgT x).length * r ≤ d.length → d.length ≤ 400 → d ++ ren (moT (sgC x)) (sgT x) (selN (moT (sgC x)) i') ((lexL (moT (sgC x))).drop k) f = renD x i' → P31 (zi d.length) (zi f) (zi k) A := by
        intro dd
        induction dd with
        | zero =>
          intro k f r g d A hk hf hfy q dA hdg hgr hTr h400 hren
          have hT8r : (sgT x).length * r ≤ 8 * r := Nat.mul_le_mul_right r hT8
          refine h31 _ _ _ _ ?_
          intro P40 h40 P206 h206
          rw [c93 A 491 19 q (by decide), old.1, if_pos ((zi_le (by omega) (by omega)).mpr (by omega))]
          rw [List.drop_of_length_le (by omega)] at hren
          have hren' : d ++ seg (moT (sgC x)) f (moT (sgC x)).length = renD x i' := hren
          have tail : ∀ (d2 j : Nat) (B : zI), j + d2 = (moT (sgC x)).length → f ≤ j → eqQ (fun a _ => a = 493) I B → NwM B (d ++ seg (moT (sgC x)) f j) → P206 (zi (d ++ seg (moT (sgC x)) f j).length) (zi j) B := by
            intro d2
            induction d2 with
            | zero =>
              intro j B hj hfj qB dB
              refine h206 _ _ _ ?_
              have hje : j = (moT (sgC x)).length := by omega
              rw [c93 B 491 7 qB (by decide), g7, if_pos ((zi_le (by omega) (by omega)).mpr (by omega))]
              rw [hje, hren'] at dB ⊢
              have hl : (renD x i').length ≤ 700 := by
                rw [← hren', List.length_append, seg_len (Nat.le_refl _)]
                omega
              exact s_doMt hv (RM.nw hv (tp := sgT x) hR (q93_nw qB)) hbt hl dB he (fun J qJ rJ => hK J ((Qnw_mo (q93_nw qB)).tr qJ) rJ)
            | succ d2 ih2 =>
              intro j B hj hfj qB dB
              refine h206 _ _ _ ?_
              have hl : (d ++ seg (moT (sgC x)) f j).length = d.length + (j - f) := by rw [List.length_append, seg_len (by omega)]
              rw [c93 B 491 7 qB (by decide), g7, if_neg (fun u => by have := (zi_le (by omega) (by omega)).mp u; omega), zi_tn (show j < 2147483648 by omega), zi_tn (show (d ++ seg (moT (sgC x)) f j).length < 2147483648 by omega)]
              refine ⟨(zin_iff (by omega)).mpr (by omega), (zin_iff (by omega)).mpr (by omega), fun I39 e39 v2 ev2 v3 ev3 => ?_⟩
              rw [c93 B 495 j qB (by decide), gd j (by omega)] at e39
              rw [ev2, ev3, zi_succ, zi_succ]
              have hnx : d ++ seg (moT (sgC x)) f (j + 1) = (d ++ seg (moT (sgC x)) f j) ++ [txF (moT (sgC x)) j] := by rw [seg_succ hfj (by omega), List.append_assoc]
              have hln : (d ++ seg (moT (sgC x)) f (j + 1)).length = (d ++ seg (moT (sgC x)) f j).length + 1 := by
                rw [hnx, List.length_append]
                rfl
              have key := ih2 (j + 1) I39 (by omega) (by omega) (by rw [e39]; exact qB.zu rfl) (by rw [hnx, e39]; exact dB.snoc)
              rw [hln] at key
              exact key
          have t0 := tail ((moT (sgC x)).length - f) f A (by omega) (Nat.le_refl _) q (by rw [seg_nil, List.append_nil]; exact dA)
          rw [seg_nil, List.append_nil] at t0
          exact t0
        | succ dd ih =>
          intro k f r g d A hk hf hfy q dA hdg hgr hTr h400 hren
          have hT8r : (sgT x).length * r ≤ 8 * r := Nat.mul_le_mul_right r hT8
          refine h31 _ _ _ _ ?_
          intro P40 h40 P206 h206
          rw [c93 A 491 19 q (by decide), old.1, if_neg (fun u => by have := (zi_le (by omega) (by omega)).mp u; omega)]
          have hy : (lexL (moT (sgC x)))[k]? = some ((lexL (moT (sgC x)))[k]'(by omega)) := List.getElem?_eq_getElem (by omega)
          have hdk : (lexL (moT (sgC x))).drop k = (lexL (moT (sgC x)))[k]'(by omega) :: (lexL (moT (sgC x))).drop (k + 1) := List.drop_eq_getElem_cons (by omega)
          generalize (lexL (moT (sgC x)))[k]'(by omega) = y at hy hdk
          have hyin := lexL_in o1 hy
          have hfk := hfy k y (Nat.le_refl _) hy
          obtain ⟨y1, y2, y3, y4⟩ := old.2 k y hy
          have oky := lxo.1 _ (List.mem_of_getElem? hy)
          have okx := lxo.1 _ (List.mem_of_getElem? hx)
          have hkin : vp_in (zi k) 110 := (zin_iff (by omega)).mpr (by omega)
          have hky := oky.1
          have hwy := oky.2.1
          rw [hdk] at hren
          have hren' : d ++ (if selN (moT (sgC x)) i' y = true then seg (moT (sgC x)) f y.2.1 ++ sgT x ++ ren (moT (sgC x)) (sgT x) (selN (moT (sgC x)) i') ((lexL (moT (sgC x))).drop (k + 1)) (y.2.1 + y.2.2) else ren (moT (sgC x)) (sgT x) (selN (moT (sgC x)) i') ((lexL (moT (sgC x))).drop (k + 1)) f) = renD x i' := hren
          have aft : ∀ z ∈ (lexL (moT (sgC x))).drop (k + 1), y.2.1 + y.2.2 ≤ z.2.1 := fun z hz => by
            obtain ⟨j, hj⟩ := List.mem_iff_getElem?.mp hz
            rw [List.getElem?_drop] at hj
            exact lexL_sorted o1 (by omega) hy hj
          -- the bytes ahead of the token
          have gap : ∀ (d2 j : Nat) (B : zI), j + d2 = y.2.1 → f ≤ j → eqQ (fun a _ => a = 493) I B → NwM B (d ++ seg (moT (sgC x)) f j) → P40 (zi (d ++ seg (moT (sgC x)) f j).length) (zi j) B := by
            intro d2
            induction d2 with
            | succ d2 ih2 =>
              intro j B hj hfj qB dB
              refine h40 _ _ _ ?_
              have hl : (d ++ seg (moT (sgC x)) f j).length = d.length + (j - f) := by rw [List.length_append, seg_len (by omega)]
              rw [zi_tn (show k < 2147483648 by omega), c93 B 505 k qB (by decide), y2]
              refine ⟨hkin, ?_⟩
              rw [if_neg (fun u => by have := (zi_le (by omega) (by omega)).mp u; omega), zi_tn (show j < 2147483648 by omega), zi_tn (show (d ++ seg (moT (sgC x)) f j).length < 2147483648 by omega)]
              refine ⟨(zin_iff (by omega)).mpr (by omega), (zin_iff (by omega)).mpr (by omega), fun I26 e26 v2 ev2 v3 ev3 => ?_⟩
              rw [c93 B 495 j qB (by decide), gd j (by omega)] at e26
              rw [ev2, ev3, zi_succ, zi_succ]
              have hnx : d ++ seg (moT (sgC x)) f (j + 1) = (d ++ seg (moT (sgC x)) f j) ++ [txF (moT (sgC x)) j] := by rw [seg_succ hfj (by omega), List.append_assoc]
              have hln : (d ++ seg (moT (sgC x)) f (j + 1)).length = (d ++ seg (moT (sgC x)) f j).length + 1 := by
                rw [hnx, List.length_append]
                rfl
              have key := ih2 (j + 1) I26 (by omega) (by omega) (by rw [e26]; exact qB.zu rfl) (by rw [hnx, e26]; exact dB.snoc)
              rw [hln] at key
              exact key
            | zero =>
              intro j B hj hfj qB dB
              have hje : j = y.2.1 := by omega
              subst hje
              refine h40 _ _ _ ?_
              have hl : (d ++ seg (moT (sgC x)) f y.2.1).length = d.length + (y.2.1 - f) := by rw [List.length_append, seg_len (by omega)]
              generalize hd1 : d ++ seg (moT (sgC x)) f y.2.1 = d1 at dB hl ⊢
              rw [zi_tn (show k < 2147483648 by omega), c93 B 505 k qB (by decide), y2]
              refine ⟨hkin, ?_⟩
              rw [if_pos ((zi_le (by omega) (by omega)).mpr (Nat.le_refl _))]
              refine ⟨hkin, ?_⟩
              -- behind the token
              have behind : ∀ (r' g' : Nat) (d3 : List Int32) (C : zI), eqQ (fun a _ => a = 493) I C → NwM C d3 → d3.length ≤ y.2.1 + y.2.2 + g' → g' + r' ≤ (sgT x).length * r' → (sgT x).length * r' ≤ d3.length → d3 ++ ren (moT (sgC x)) (sgT x) (selN (moT (sgC x)) i') ((lexL (moT (sgC x))).drop (k + 1)) (y.2.1 + y.2.2) = renD x i' → ∀ (v2_14 : Int32), v2_14 = zi d3.length → vp_in (zi k) 110 ∧ (∀ v3_15, v3_15 = (zi y.2.1 + (C.1 506 k)) → (if v2_14 ≤ 400 then (∀ v4_16, v4_16 = (zi k + 1) → P31 v2_14 v3_15 v4_16 C) else (K (-1) C))) := by
                intro r' g' d3 C qC dC h1 h2 h3 h4 v2 ev2
                refine ⟨hkin, fun v3 ev3 => ?_⟩
                rw [c93 C 506 k qC (by decide), y3, zi_add] at ev3
                subst ev2
                subst ev3
                have h8r' : (sgT x).length * r' ≤ 8 * r' := Nat.mul_le_mul_right r' hT8
                by_cases u : d3.length ≤ 400
                · have hl3 : zi d3.length ≤ 400 := (zi_le (b := 400) (by omega) (by decide)).mpr u
                  rw [if_pos hl3]
                  intro v4 ev4
                  rw [ev4, zi_succ]
                  exact ih (k + 1) (y.2.1 + y.2.2) r' g' d3 C (by omega) hyin (fun j z hj hz => lexL_sorted o1 (show k < j by omega) hy hz) qC dC h1 h2 h3 u h4
                · have hbig : 300 < (renD x i').length := by
                    rw [← h4, List.length_append]
                    omega
                  have hdo : doC x (renD x i') true = (-1, x) := by
                    unfold doC
                    exact if_pos (Or.inl hbig)
                  rw [hdo] at hK
                  by_cases hl3 : zi d3.length ≤ 400
                  · exact absurd ((zi_le (b := 400) (by
                      have := (renD x i').length
                      have h5 := ren_len (tx := moT (sgC x)) (sel := selN (moT (sgC x)) i') hT8 (lexL (moT (sgC x))) 0 (fun z hz => by have := (lex_ok o1.2.1 z hz).2; omega)
                      have h6 : (renD x i').length = (d3 ++ ren (moT (sgC x)) (sgT x) (selN (moT (sgC x)) i') ((lexL (moT (sgC x))).drop (k + 1)) (y.2.1 + y.2.2)).length := by rw [h4]
                      rw [List.length_append] at h6
                      have h7 : (renD x i').length ≤ ((moT (sgC x)).length + 8) * (lexL (moT (sgC x))).length + (moT (sgC x)).length := h5
                      have h8 : ((moT (sgC x)).length + 8) * (lexL (moT (sgC x))).length ≤ 308 * 100 := Nat.mul_le_mul (by omega) l100
                      omega) (by decide)).mp hl3) u
                  · rw [if_neg hl3]
                    exact hK C (Qnw_mo (q93_nw qC)) (RM.nw hv (tp := sgT x) hR (q93_nw qC))
              intro P104 h104
              have no : selN (moT (sgC x)) i' y = false → P104 0 := by
                intro hse
                rw [hse, if_neg (by decide), ren_seg _ f (y.2.1 + y.2.2) (by omega) hyin aft, seg_app hfk (by omega), ← List.append_assoc, ← List.append_assoc, hd1] at hren'
                refine h104 0 ?_
                intro P125 h125
                rw [if_pos rfl]
                refine ⟨hkin, ?_⟩
                rw [c93 B 506 k qB (by decide), y3]
                refine h125 _ ?_
                intro P130 h130
                have cp : ∀ (d4 b : Nat) (C : zI), b + d4 = y.2.2 → eqQ (fun a _ => a = 493) I C → NwM C (d1 ++ seg (moT (sgC x)) y.2.1 (y.2.1 + b)) → P130 (zi b) C := by
                  intro d4
                  induction d4 with
                  | succ d4 ih4 =>
                    intro b C hb4 qC dC
                    refine h130 _ _ ?_
                    have hl5 : (d1 ++ seg (moT (sgC x)) y.2.1 (y.2.1 + b)).length = d1.length + b := by rw [List.length_append, seg_len (by omega)]; omega
                    rw [if_neg (fun u => by have := (zi_le (by omega) (by omega)).mp u; omega)]
                    intro P169 h169
                    rw [if_pos rfl, zi_add, zi_tn (show y.2.1 + b < 2147483648 by omega)]
                    refine ⟨(zin_iff (by omega)).mpr (by omega), h169 _ ?_⟩
                    rw [zi_add, zi_tn (show d1.length + b < 2147483648 by omega)]
                    refine ⟨(zin_iff (by omega)).mpr (by omega), fun I19 e19 v7 ev7 => ?_⟩
                    rw [c93 C 495 _ qC (by decide), gd _ (by omega)] at e19
                    rw [ev7, zi_succ]
                    refine ih4 (b + 1) I19 (by omega) (by rw [e19]; exact qC.zu rfl) ?_
                    rw [← Nat.add_assoc, seg_succ (by omega) (by omega), ← List.append_assoc, e19, ← hl5]
                    exact dC.snoc
                  | zero =>
                    intro b C hb4 qC dC
                    refine h130 _ _ ?_
                    have hbe : b = y.2.2 := by omega
                    subst hbe
                    have hl5 : (d1 ++ seg (moT (sgC x)) y.2.1 (y.2.1 + y.2.2)).length = d1.length + y.2.2 := by rw [List.length_append, seg_len (by omega)]; omega
                    rw [if_pos ((zi_le (by omega) (by omega)).mpr (Nat.le_refl _))]
                    intro v2 ev2
                    exact behind r g _ C qC dC (by omega) hgr (by omega) hren' v2 (by rw [ev2, zi_add, hl5])
                exact cp y.2.2 0 B (by omega) qB (by rw [Nat.add_zero, seg_nil, List.append_nil]; exact dB)
              have yes : selN (moT (sgC x)) i' y = true → P104 1 := by
                intro hse
                have hw1 : 1 ≤ y.2.2 := by
                  have h1 := (sel_iff okx oky hk0).mpr hse
                  exact (oky.2.2.2.1 h1.1).1
                rw [hse, if_pos rfl, ← List.append_assoc, ← List.append_assoc, hd1] at hren'
                refine h104 1 ?_
                intro P125 h125
                rw [if_neg (by decide), c93 B 491 0 qB (by decide), hR.1.1]
                refine h125 _ ?_
                intro P130 h130
                have cp : ∀ (d4 b : Nat) (C : zI), b + d4 = (sgT x).length → eqQ (fun a _ => a = 493) I C → NwM C (d1 ++ seg (sgT x) 0 b) → P130 (zi b) C := by
                  intro d4
                  induction d4 with
                  | succ d4 ih4 =>
                    intro b C hb4 qC dC
                    refine h130 _ _ ?_
                    have hl5 : (d1 ++ seg (sgT x) 0 b).length = d1.length + b := by rw [List.length_append, seg_len (by omega)]; omega
                    rw [if_neg (fun u => by have := (zi_le (by omega) (by omega)).mp u; omega)]
                    intro P169 h169
                    rw [if_neg (by decide), zi_tn (show b < 2147483648 by omega)]
                    refine ⟨(zin_iff (by omega)).mpr (by omega), h169 _ ?_⟩
                    rw [zi_add, zi_tn (show d1.length + b < 2147483648 by omega)]
                    refine ⟨(zin_iff (by omega)).mpr (by omega), fun I19 e19 v7 ev7 => ?_⟩
                    rw [c93 C 492 _ qC (by decide), hR.1.2 b (txF (sgT x) b) (by
                      rw [txF_at (List.getElem?_eq_getElem (show b < (sgT x).length by omega))]
                      exact List.getElem?_eq_getElem _)] at e19
                    rw [ev7, zi_succ]
                    refine ih4 (b + 1) I19 (by omega) (by rw [e19]; exact qC.zu rfl) ?_
                    rw [seg_succ (by omega) (by omega), ← List.append_assoc, e19, ← hl5]
                    exact dC.snoc
                  | zero =>
                    intro b C hb4 qC dC
                    refine h130 _ _ ?_
                    have hbe : b = (sgT x).length := by omega
                    subst hbe
                    rw [sg0] at dC
                    have hl5 : (d1 ++ sgT x).length = d1.length + (sgT x).length := List.length_append
                    rw [if_pos ((zi_le (by omega) (by omega)).mpr (Nat.le_refl _))]
                    intro v2 ev2
                    have hm : (sgT x).length * (r + 1) = (sgT x).length * r + (sgT x).length := Nat.mul_succ _ _
                    exact behind (r + 1) (g + (sgT x).length - 1) _ C qC dC (by omega) (by omega) (by omega) hren' v2 (by rw [ev2, zi_add, hl5])
                exact cp (sgT x).length 0 B (by omega) qB (by rw [seg_nil, List.append_nil]; exact dB)
              intro P103 h103
              have hsel := sel_iff okx oky hk0
              have hselN : selN (moT (sgC x)) i' y = alB (txF (moT (sgC x))) ((lexL (moT (sgC x))).getD i' (10, 0, 0)) (txF (moT (sgC x))) y := rfl
              have noP : ¬ (y.1 = 0 ∧ isV (txF (moT (sgC x))) y = isV (txF (moT (sgC x))) ((lexL (moT (sgC x))).getD i' (10, 0, 0))) → P103 := fun u => h103 (no (by
                rw [hselN, Bool.eq_false_iff]
                exact fun w => u (hsel.mpr w)))
              rw [c93 B 504 k qB (by decide), y1, qB.2 507 k (by omega), y4, qB.2 507 i' (by omega), p4]
              by_cases c1 : y.1 = 0
              · rw [if_pos (show zi y.1 = 0 by rw [c1]; rfl)]
                refine ⟨hkin, hiin, ?_⟩
                by_cases c2 : isV (txF (moT (sgC x))) y = isV (txF (moT (sgC x))) ((lexL (moT (sgC x))).getD i' (10, 0, 0))
                · rw [if_pos (lg_cmp0.mpr c2)]
                  exact yes (by rw [hselN]; exact hsel.mp ⟨c1, c2⟩)
                · rw [if_neg (fun u => c2 (lg_cmp0.mp u))]
                  exact noP (fun u => c2 u.2)
              · rw [if_neg (show ¬ zi y.1 = 0 from fun u => c1 ((zi_eq (b := 0) (by omega) (by decide)).mp u))]
                exact noP (fun u => c1 u.1)
          have g0 := gap (y.2.1 - f) f A (by omega) (Nat.le_refl _) q (by rw [seg_nil, List.append_nil]; exact dA)
          rw [seg_nil, List.append_nil] at g0
          exact g0
      exact main (lexL (moT (sgC x))).length 0 0 0 0 [] I (by omega) (Nat.zero_le _) (fun j y _ _ => Nat.zero_le _) eqQ.rf NwM.nil (Nat.zero_le _) (Nat.zero_le _) (Nat.zero_le _) (Nat.zero_le _) (by rw [List.drop_zero]; rfl)
/-! ===== undone and done again ===== -/
def undoR (x : Sg) : Int32 × Sg := match sgA x with
  | [] => (0, x)
  | y :: A => (1, (sgT x, (sgM x, sgN x), sgP x, sgE x, A, y, sgC x :: sgZ x))
def redoR (x : Sg) : Int32 × Sg := match sgZ x with
  | [] => (0, x)
  | y :: Z => (1, (sgT x, (sgM x, sgN x), sgP x, sgE x, sgC x :: sgA x, y, Z))
theorem undo_iv {x : Sg} (hv : Iv x) : Iv (undoR x).2 ∧ sgE (undoR x).2 = sgE x := by
  unfold undoR
  cases hA : sgA x with
  | nil => exact ⟨hv, rfl⟩
  | cons y A =>
    obtain ⟨a1, a2, a3, a4, a5, a6, a7, a8, a9, a10, a11⟩ := hv
    rw [hA] at a9 a11
    refine ⟨⟨a1, a2, a3, a4, a5, a6, a7, a9 y (List.mem_cons_self ..), fun z hz => a9 z (List.mem_cons_of_mem _ hz), fun z hz => ?_, ?_⟩, rfl⟩
    · rcases List.mem_cons.mp hz with rfl | hz
      · exact a8
      · exact a10 z hz
    · show A.length + (sgC x :: sgZ x).length ≤ 20
      rw [List.length_cons] at a11 ⊢
      omega
theorem redo_iv {x : Sg} (hv : Iv x) : Iv (redoR x).2 ∧ sgE (redoR x).2 = sgE x := by
  unfold redoR
  cases hZ : sgZ x with
  | nil => exact ⟨hv, rfl⟩
  | cons y Z =>
    obtain ⟨a1, a2, a3, a4, a5, a6, a7, a8, a9, a10, a11⟩ := hv
    rw [hZ] at a10 a11
    refine ⟨⟨a1, a2, a3, a4, a5, a6, a7, a10 y (List.mem_cons_self ..), fun z hz => ?_, fun z hz => a10 z (List.mem_cons_of_mem _ hz), ?_⟩, rfl⟩
    · rcases List.mem_cons.mp hz with rfl | hz
      · exact a8
      · exact a9 z hz
    · show (sgC x :: sgA x).length + Z.length ≤ 20
      rw [List.length_cons] at a11 ⊢
      omega
theorem Qla_cl {I J : zI} (q : eqQ Qla I J) : eqQ Qcl I J := q.mono (fun a j h => by unfold Qla Qvi Qrr Qpn at h; unfold Qcl; omega)
theorem s_undo {x : Sg} {I : zI} {K : Int32 → zI → Prop} (hv : Iv x) (hR : RX I x) (hK : ∀ J, eqQ Qcl I J → RX J (undoR x).2 → K (undoR x).1 J) : w_Desk_undo I K := by
  obtain ⟨r1, r2, r3, r4, r5, r6, r7, s, hs, s4, sC, sA, sZ⟩ := id hR
  obtain ⟨a1, a2, a3, a4, a5, a6, a7, a8, a9, a10, a11⟩ := hv
  have zm : ∀ i, zmom i = 113 + 18 * i := fun i => rfl
  unfold w_Desk_undo
  rw [r6]
  unfold undoR at hK
  cases hA : sgA x with
  | nil =>
    rw [hA] at hK
    rw [if_pos (show zi (List.length ([] : List Mo)) = 0 from rfl)]
    exact hK I eqQ.rf hR
  | cons y A =>
    rw [hA] at hK sA a9 a11
    rw [List.length_cons] at a11
    rw [List.length_cons, if_neg (show ¬ zi (A.length + 1) = 0 from fun u => by have := (zi_eq (b := 0) (by omega) (by decide)).mp u; omega)]
    intro I1 e1 I2 e2
    rw [show zi (A.length + 1) - 1 = zi A.length from zi_sub (b := 1) (by omega)] at e1
    rw [show I1.1 0 6 = zi (sgZ x).length by rw [e1, zu_i (by decide)]; exact r7, zi_succ] at e2
    have g4 : I2.1 0 4 = zi s := by rw [e2, zu_i (by decide), e1, zu_i (by decide)]; exact s4
    intro P48 h48
    have rest : P48 (zi ((s + 20) % 21)) := by
      refine h48 _ (fun I4 e4 => ?_)
      have hs' : (s + 20) % 21 < 21 := Nat.mod_lt _ (by decide)
      generalize hse : (s + 20) % 21 = s' at e4 hs'
      have o4 : ∀ a j, ¬ (a = 0 ∧ (4 ≤ j ∧ j ≤ 6)) → I4.1 a j = I.1 a j := fun a j u => by rw [e4, zu_at, if_neg (by omega), e2, zu_at, if_neg (by omega), e1, zu_at, if_neg (by omega)]
      have q4 : eqQ Qcl I I4 := by
        rw [e4, e2, e1]
        exact ((eqQ.rf.zu (by unfold Qcl; decide)).zu (by unfold Qcl; decide)).zu (by unfold Qcl; decide)
      refine s_now hs' (by rw [e4, zu_self]) ?_
      have z1 := zm s'
      have my : MoX I (zmom s') y := by
        have := sA 0 y rfl
        rw [Nat.sub_zero, hse] at this
        exact this
      have oy := a9 y (List.mem_cons_self ..)
      refine s_deskLook (n := (lexL (moG y)).length) (r2.kp a2.ch (fun a j u1 u2 u3 => o4 a j (by omega))) a2 a3 (by omega) oy.2.2.2.1 (fun c hc => by have := a5 c hc; omega) (fun c hc => by obtain ⟨p, p1, p2⟩ := r3.2.2.2.2.1 c hc; exact ⟨p, p1, by rw [o4 47 c (by omega)]; exact p2⟩) (prt_R a2 oy).1 (prt_R a2 oy).2 (Or.inr (by omega)) (by rw [o4 _ _ (by omega)]; exact my.2.2.2.2.2.2.2.1) ⟨by rw [o4 _ _ (by omega)]; exact my.2.2.2.2.1, fun j hj => by rw [o4 _ _ (by omega)]; exact my.2.2.2.2.2.1 j hj, tkz_R a2 oy⟩ (fun J qJ vJ => ?_)
      have oJ : ∀ a j, ¬ (a = 0 ∧ (4 ≤ j ∧ j ≤ 6)) → ¬ Qla a j → J.1 a j = I.1 a j := fun a j u1 u2 => by rw [qJ.1 a j u2, o4 a j u1]
      have mk : ∀ i z, i < 21 → MoX I (zmom i) z → MoX J (zmom i) z := fun i z hi hm => hm.kp (fun a j u1 u2 => oJ a j (by have := zm i; omega) (by have := zm i; unfold Qla Qvi Qrr Qpn; omega))
      refine hK J (q4.tr (Qla_cl qJ)) ⟨r1.kp (oJ _ _ (by omega) (by unfold Qla Qvi Qrr Qpn; omega)) (fun j => oJ _ _ (by omega) (by unfold Qla Qvi Qrr Qpn; omega)), r2.kp a2.ch (fun a j u1 u2 u3 => oJ a j (by omega) (by unfold Qla Qvi Qrr Qpn; omega)), vJ, r4.kp (fun a j u1 u2 u3 => oJ a j (by omega) (by unfold Qla Qvi Qrr Qpn; omega)), by rw [oJ _ _ (by omega) (by unfold Qla Qvi Qrr Qpn; omega)]; exact r5, ?_, ?_, s', hs', ?_, mk _ _ hs' my, fun k z hz => ?_, fun k z hz => ?_⟩
      · rw [qJ.1 _ _ (by unfold Qla Qvi Qrr Qpn; omega), e4, zu_i (by decide), e2, zu_i (by decide), e1, zu_self]
        rfl
      · rw [qJ.1 _ _ (by unfold Qla Qvi Qrr Qpn; omega), e4, zu_i (by decide), e2, zu_self]
        rfl
      · rw [qJ.1 _ _ (by unfold Qla Qvi Qrr Qpn; omega), e4, zu_self]
      · have hz' : A[k]? = some z := hz
        have hk := (List.getElem?_eq_some_iff.mp hz').1
        have := sA (k + 1) z (by rw [List.getElem?_cons_succ]; exact hz')
        rw [show (s + 20 - (k + 1)) % 21 = (s' + 20 - k) % 21 by omega] at this
        exact mk _ _ (Nat.mod_lt _ (by decide)) this
      · have hz' : (sgC x :: sgZ x)[k]? = some z := hz
        cases k with
        | zero =>
          cases hz'
          rw [show (s' + 1 + 0) % 21 = s by omega]
          exact mk _ _ hs sC
        | succ k =>
          rw [List.getElem?_cons_succ] at hz'
          have := sZ k z hz'
          rw [show (s + 1 + k) % 21 = (s' + 1 + (k + 1)) % 21 by omega] at this
          exact mk _ _ (Nat.mod_lt _ (by decide)) this
    rw [g4]
    by_cases u : s = 0
    · rw [if_pos (show zi s = 0 by rw [u]; rfl)]
      rw [u] at rest
      exact rest
    · rw [if_neg (show ¬ zi s = 0 from fun w => u ((zi_eq (b := 0) (by omega) (by decide)).mp w)), show zi s - 1 = zi (s - 1) from zi_sub (b := 1) (by omega)]
      rw [show (s + 20) % 21 = s - 1 by omega] at rest
      exact rest
theorem s_redo {x : Sg} {I : zI} {K : Int32 → zI → Prop} (hv : Iv x) (hR : RX I x) (hK : ∀ J, eqQ Qcl I J → RX J (redoR x).2 → K (redoR x).1 J) : w_Desk_redo I K := by
  obtain ⟨r1, r2, r3, r4, r5, r6, r7, s, hs, s4, sC, sA, sZ⟩ := id hR
  obtain ⟨a1, a2, a3, a4, a5, a6, a7, a8, a9, a10, a11⟩ := hv
  have zm : ∀ i, zmom i = 113 + 18 * i := fun i => rfl
  unfold w_Desk_redo
  rw [r7]
  unfold redoR at hK
  cases hZ : sgZ x with
  | nil =>
    rw [hZ] at hK
    rw [if_pos (show zi (List.length ([] : List Mo)) = 0 from rfl)]
    exact hK I eqQ.rf hR
  | cons y Z =>
    rw [hZ] at hK sZ a10 a11
    rw [List.length_cons] at a11
    rw [List.length_cons, if_neg (show ¬ zi (Z.length + 1) = 0 from fun u => by have := (zi_eq (b := 0) (by omega) (by decide)).mp u; omega)]
    intro I1 e1 I2 e2
    rw [show zi (Z.length + 1) - 1 = zi Z.length from zi_sub (b := 1) (by omega)] at e1
    rw [show I1.1 0 5 = zi (sgA x).length by rw [e1, zu_i (by decide)]; exact r6, zi_succ] at e2
    have g4 : I2.1 0 4 = zi s := by rw [e2, zu_i (by decide), e1, zu_i (by decide)]; exact s4
    unfold w_Desk_nextSlot
    have rest : ∀ I4, I4 = zu I2 0 4 (zi ((s + 1) % 21)) → w_Desk_now I4 (fun r_5 => w_Desk_lookAt r_5 0 I4 (fun I_6 => K 1 I_6)) := by
      intro I4 e4
      have hs' : (s + 1) % 21 < 21 := Nat.mod_lt _ (by decide)
      generalize hse : (s + 1) % 21 = s' at e4 hs'
      have o4 : ∀ a j, ¬ (a = 0 ∧ (4 ≤ j ∧ j ≤ 6)) → I4.1 a j = I.1 a j := fun a j u => by rw [e4, zu_at, if_neg (by omega), e2, zu_at, if_neg (by omega), e1, zu_at, if_neg (by omega)]
      have q4 : eqQ Qcl I I4 := by
        rw [e4, e2, e1]
        exact ((eqQ.rf.zu (by unfold Qcl; decide)).zu (by unfold Qcl; decide)).zu (by unfold Qcl; decide)
      refine s_now hs' (by rw [e4, zu_self]) ?_
      have z1 := zm s'
      have my : MoX I (zmom s') y := by
        have := sZ 0 y rfl
        rw [Nat.add_zero, hse] at this
        exact this
      have oy := a10 y (List.mem_cons_self ..)
      refine s_deskLook (n := (lexL (moG y)).length) (r2.kp a2.ch (fun a j u1 u2 u3 => o4 a j (by omega))) a2 a3 (by omega) oy.2.2.2.1 (fun c hc => by have := a5 c hc; omega) (fun c hc => by obtain ⟨p, p1, p2⟩ := r3.2.2.2.2.1 c hc; exact ⟨p, p1, by rw [o4 47 c (by omega)]; exact p2⟩) (prt_R a2 oy).1 (prt_R a2 oy).2 (Or.inr (by omega)) (by rw [o4 _ _ (by omega)]; exact my.2.2.2.2.2.2.2.1) ⟨by rw [o4 _ _ (by omega)]; exact my.2.2.2.2.1, fun j hj => by rw [o4 _ _ (by omega)]; exact my.2.2.2.2.2.1 j hj, tkz_R a2 oy⟩ (fun J qJ vJ => ?_)
      have oJ : ∀ a j, ¬ (a = 0 ∧ (4 ≤ j ∧ j ≤ 6)) → ¬ Qla a j → J.1 a j = I.1 a j := fun a j u1 u2 => by rw [qJ.1 a j u2, o4 a j u1]
      have mk : ∀ i z, i < 21 → MoX I (zmom i) z → MoX J (zmom i) z := fun i z hi hm => hm.kp (fun a j u1 u2 => oJ a j (by have := zm i; omega) (by have := zm i; unfold Qla Qvi Qrr Qpn; omega))
      refine hK J (q4.tr (Qla_cl qJ)) ⟨r1.kp (oJ _ _ (by omega) (by unfold Qla Qvi Qrr Qpn; omega)) (fun j => oJ _ _ (by omega) (by unfold Qla Qvi Qrr Qpn; omega)), r2.kp a2.ch (fun a j u1 u2 u3 => oJ a j (by omega) (by unfold Qla Qvi Qrr Qpn; omega)), vJ, r4.kp (fun a j u1 u2 u3 => oJ a j (by omega) (by unfold Qla Qvi Qrr Qpn; omega)), by rw [oJ _ _ (by omega) (by unfold Qla Qvi Qrr Qpn; omega)]; exact r5, ?_, ?_, s', hs', ?_, mk _ _ hs' my, fun k z hz => ?_, fun k z hz => ?_⟩
      · rw [qJ.1 _ _ (by unfold Qla Qvi Qrr Qpn; omega), e4, zu_i (by decide), e2, zu_self]
        rfl
      · rw [qJ.1 _ _ (by unfold Qla Qvi Qrr Qpn; omega), e4, zu_i (by decide), e2, zu_i (by decide), e1, zu_self]
        rfl
      · rw [qJ.1 _ _ (by unfold Qla Qvi Qrr Qpn; omega), e4, zu_self]
      · have hz' : (sgC x :: sgA x)[k]? = some z := hz
        have hk := (List.getElem?_eq_some_iff.mp hz').1
        rw [List.length_cons] at hk
        cases k with
        | zero =>
          cases hz'
          rw [show (s' + 20 - 0) % 21 = s by omega]
          exact mk _ _ hs sC
        | succ k =>
          rw [List.getElem?_cons_succ] at hz'
          have := sA k z hz'
          rw [show (s + 20 - k) % 21 = (s' + 20 - (k + 1)) % 21 by omega] at this
          exact mk _ _ (Nat.mod_lt _ (by decide)) this
      · have hz' : Z[k]? = some z := hz
        have := sZ (k + 1) z (by rw [List.getElem?_cons_succ]; exact hz')
        rw [show (s + 1 + (k + 1)) % 21 = (s' + 1 + k) % 21 by omega] at this
        exact mk _ _ (Nat.mod_lt _ (by decide)) this
    rw [g4]
    by_cases u : s < 20
    · rw [if_pos (show zi s < 20 from (zi_lt (b := 20) (by omega) (by decide)).mpr u), zi_succ]
      rw [show (s + 1) % 21 = s + 1 by omega] at rest
      exact rest
    · rw [if_neg (show ¬ zi s < 20 from fun v => u ((zi_lt (b := 20) (by omega) (by decide)).mp v))]
      rw [show (s + 1) % 21 = 0 by omega] at rest
      exact rest
/-! ===== undone and done again: the model ===== -/
def Qgo (a j : Nat) : Prop := (a = 491 ∧ (j = 3 ∨ j = 5 ∨ j = 7 ∨ j = 8 ∨ j = 9 ∨ j = 15 ∨ j = 19 ∨ j = 37 ∨ j = 43 ∨ j = 51 ∨ j = 53 ∨ j = 75)) ∨ (493 ≤ a ∧ a ≤ 499) ∨ (501 ≤ a ∧ a ≤ 508) ∨ (521 ≤ a ∧ a ≤ 529)
theorem s_goesTo {m s : Nat} {N : Nat → Nd} {y : Mo} {I : zI} {K : zI → Prop} (rep : RepNM I m N) (hN : NdOk m N) (hu : UqE m N) (hm : m ≤ 3700) (o : MoOk m N y) (hs : s ≤ 20) (hM : MoM I s y) (hK : ∀ J, eqQ Qgo I J → J.1 491 75 = zi s → NowM J y → ViM J N (moR y) (lexL (moG y)).length → K J) : w_M_goesTo (zi s) I K := by
  obtain ⟨oT, oG, oB, oR, oK⟩ := o
  obtain ⟨h1, h2, h3, h4, h5, h6, h7⟩ := hM
  have lT := oT.1
  have lG := oG.1
  have l100 := oG.2.2
  intro v2 ev2 I2 e2
  rw [show (720 : Int32) = zi 720 from rfl, zi_mul] at ev2
  subst ev2
  have ix : ∀ k : Nat, k < 720 → vp_in (zi (720 * s) + zi k) 15120 ∧ Int32.toNatClampNeg (zi (720 * s) + zi k) = 720 * s + k := fun k hk => by
    rw [zi_add, zi_tn (by omega)]
    exact ⟨(zin_iff (by omega)).mpr (by omega), rfl⟩
  have o2 : ∀ a j, ¬ (a = 491 ∧ j = 75) → I2.1 a j = I.1 a j := fun a j u => by rw [e2, zu_at, if_neg u]
  have q2 : eqQ Qgo I I2 := by
    rw [e2]
    exact eqQ.rf.zu (Or.inl (by omega))
  intro P13 h13
  have main : ∀ (d v : Nat) (J : zI), v + d = 300 → eqQ (fun a _ => a = 493) I2 J → (∀ j, j < v → J.1 493 j = I.1 542 (720 * s + 300 + j)) → P13 (zi v) J := by
    intro d
    induction d with
    | succ d ih =>
      intro v J hv q h
      refine h13 _ _ ?_
      rw [if_neg (show ¬ (300 : Int32) ≤ zi v from fun u => by have := (zi_le (a := 300) (by decide) (by omega)).mp u; omega), show (300 : Int32) = zi 300 from rfl, zi_add, zi_add, zi_tn (show v < 2147483648 by omega), zi_tn (show 720 * s + 300 + v < 2147483648 by omega)]
      refine ⟨(zin_iff (by omega)).mpr (by omega), (zin_iff (by omega)).mpr (by omega), fun I26 e26 w ew => ?_⟩
      rw [q.1 542 _ (by omega), o2 _ _ (by omega)] at e26
      rw [ew, zi_succ]
      refine ih (v + 1) I26 (by omega) (by rw [e26]; exact q.zu rfl) (fun j hj => ?_)
      rw [e26, zu_at]
      by_cases u : j = v
      · rw [if_pos ⟨rfl, u⟩, u]
      · rw [if_neg (fun z => u z.2)]
        exact h j (by omega)
    | zero =>
      intro v J hv q h
      refine h13 _ _ ?_
      rw [if_pos (show (300 : Int32) ≤ zi v from (zi_le (a := 300) (by decide) (by omega)).mpr (by omega))]
      intro I5 e5
      have o5 : ∀ a j, a ≠ 493 → ¬ (a = 491 ∧ (j = 75 ∨ j = 8)) → I5.1 a j = I.1 a j := fun a j u1 u2 => by rw [e5, zu_at, if_neg (by omega), q.1 a j u1, o2 a j (by omega)]
      have o52 : ∀ a j, a ≠ 493 → I5.2 a j = I.2 a j := fun a j u => by rw [e5, zu_2, q.2 a j u, e2, zu_2]
      have q5 : eqQ Qgo I I5 := by
        rw [e5]
        exact (q2.tr (q.mono (fun a j h => Or.inr (Or.inl (by omega))))).zu (Or.inl (by omega))
      obtain ⟨i1, i2⟩ := ix 711 (by decide)
      rw [show (711 : Int32) = zi 711 from rfl, i2]
      refine ⟨i1, ?_⟩
      rw [o5 542 _ (by decide) (by omega), h5]
      refine s_cutsUp (t := txF (moG y)) (by omega) (fun j hj => by rw [e5, zu_oo (by decide), h j (by omega)]; exact h2 j hj) (fun I6 q6 n6 u6 => ?_)
      have nt6 : NewT I6 (moG y) := ⟨n6, fun j hj => by rw [q6.1 493 j (by unfold Qcut; omega), e5, zu_oo (by decide), h j (by omega)]; exact h2 j hj, u6⟩
      refine s_keepsTokens (gd := true) oG nt6 (by rw [q6.1 491 8 (by unfold Qcut; omega), e5, zu_self]; rfl) (fun I7 q7 nt7 gt7 => ?_)
      have q7' : eqQ (fun a j => Qkt a j ∨ Qkg a j) I6 I7 := q7.mono (fun a j h => by rcases h with h | ⟨-, h⟩; exact Or.inl h; exact Or.inr h)
      have c7 : ∀ a j, ¬ Qgo a j → I7.1 a j = I.1 a j := fun a j u => by
        rw [q7'.1 a j (by unfold Qgo at u; unfold Qkt Qkg; omega), q6.1 a j (by unfold Qgo at u; unfold Qcut; omega), q5.1 a j u]
      have c72 : ∀ a j, ¬ Qgo a j → I7.2 a j = I.2 a j := fun a j u => by
        rw [q7'.2 a j (by unfold Qgo at u; unfold Qkt Qkg; omega), q6.2 a j (by unfold Qgo at u; unfold Qcut; omega), q5.2 a j u]
      have q57 : eqQ Qgo I I7 := ⟨c7, c72⟩
      have g75 : I7.1 491 75 = zi s := by rw [q7'.1 491 75 (by unfold Qkt Qkg; decide), q6.1 491 75 (by unfold Qcut; decide), e5, zu_i (by decide), q.1 491 75 (by decide), e2, zu_self]
      have g8 : I7.1 491 8 = 1 := by rw [q7'.1 491 8 (by unfold Qkt Qkg; decide), q6.1 491 8 (by unfold Qcut; decide), e5, zu_self]
      intro P69 h69
      have cp : ∀ (d v : Nat) (A : zI), v + d = 110 → eqQ (fun a _ => a = 508) I7 A → (∀ j, j < v → A.1 508 j = I.1 542 (720 * s + 600 + j)) → P69 (zi v) A := by
        intro d
        induction d with
        | succ d ih =>
          intro v A hv qA hA
          refine h69 _ _ ?_
          rw [if_neg (show ¬ (110 : Int32) ≤ zi v from fun u => by have := (zi_le (a := 110) (by decide) (by omega)).mp u; omega), show (600 : Int32) = zi 600 from rfl, zi_add, zi_add, zi_tn (show v < 2147483648 by omega), zi_tn (show 720 * s + 600 + v < 2147483648 by omega)]
          refine ⟨(zin_iff (by omega)).mpr (by omega), (zin_iff (by omega)).mpr (by omega), fun I23 e23 w ew => ?_⟩
          rw [qA.1 542 _ (by omega), c7 542 _ (by unfold Qgo; omega)] at e23
          rw [ew, zi_succ]
          refine ih (v + 1) I23 (by omega) (by rw [e23]; exact qA.zu rfl) (fun j hj => ?_)
          rw [e23, zu_at]
          by_cases u : j = v
          · rw [if_pos ⟨rfl, u⟩, u]
          · rw [if_neg (fun z => u z.2)]
            exact hA j (by omega)
        | zero =>
          intro v A hv qA hA
          refine h69 _ _ ?_
          rw [if_pos (show (110 : Int32) ≤ zi v from (zi_le (a := 110) (by decide) (by omega)).mpr (by omega))]
          obtain ⟨j1, j2⟩ := ix 713 (by decide)
          obtain ⟨k1, k2⟩ := ix 712 (by decide)
          rw [show (713 : Int32) = zi 713 from rfl, show (712 : Int32) = zi 712 from rfl, j2, k2]
          refine ⟨j1, fun I10 e10 => ?_⟩
          rw [qA.1 542 _ (by omega), c7 542 _ (by unfold Qgo; omega), h7] at e10
          have c10 : ∀ a j, a ≠ 508 → ¬ (a = 491 ∧ j = 37) → I10.1 a j = I7.1 a j := fun a j u1 u2 => by rw [e10, zu_at, if_neg u2, qA.1 a j u1]
          have c102 : ∀ a j, a ≠ 508 → I10.2 a j = I7.2 a j := fun a j u => by rw [e10, zu_2, qA.2 a j u]
          have q10 : eqQ Qgo I I10 := by
            rw [e10]
            exact (q57.tr (qA.mono (fun a j h => Or.inr (Or.inr (Or.inl (by omega)))))).zu (Or.inl (by omega))
          have rep10 : RepNM I10 m N := rep.kp2 (q10.1 _ _ (by unfold Qgo; decide)) (fun a j u1 u2 => q10.1 a j (by unfold Qgo; omega)) (fun j => q10.2 511 j (by unfold Qgo; omega))
          refine s_Mtree rep10 hN hu hm oR (by rw [e10, zu_self]) (fun I11 q11 vi11 => ⟨k1, ?_⟩)
          have q11' : eqQ Qgo I I11 := q10.tr (q11.mono (fun a j h => by unfold Qft at h; unfold Qgo; omega))
          rw [q11'.1 542 _ (by unfold Qgo; omega), h6]
          have n508 : ∀ j, j < (lexL (moG y)).length → I11.1 508 j = zi (moO y j) := fun j hj => by
            rw [q11.1 508 j (by unfold Qft; omega), e10, zu_oo (by decide), hA j (by omega)]
            exact h3 j hj
          have nt11 : NowT I11 (moG y) := nt7.kp (by rw [q11.1 _ _ (by unfold Qft; decide), c10 _ _ (by decide) (by decide)]) (by rw [q11.1 _ _ (by unfold Qft; decide), c10 _ _ (by decide) (by decide)]) (fun a j u => by rw [q11.1 a j (by unfold Qft; omega), c10 a j (by omega) (by omega)])
          have gt11 : GoodT I11 (moG y) := (gt7 rfl).kp (by rw [q11.1 _ _ (by unfold Qft; decide), c10 _ _ (by decide) (by decide)]) (by rw [q11.1 _ _ (by unfold Qft; decide), c10 _ _ (by decide) (by decide)]) (fun a j u => by rw [q11.1 a j (by unfold Qft; omega), c10 a j (by omega) (by omega)]) (fun j => by rw [q11.2 507 j (by unfold Qft; omega), c102 507 j (by decide)])
          have g37 : I11.1 491 37 = zi (moR y) := vi11.1
          have g75' : I11.1 491 75 = zi s := by rw [q11.1 _ _ (by unfold Qft; decide), c10 _ _ (by decide) (by decide)]; exact g75
          intro P137 h137
          have fin : P137 (b01 (moB y)) := by
            refine h137 _ ⟨by cases moB y; exact Or.inl rfl; exact Or.inr rfl, fun I13 e13 => ?_⟩
            have c13 : ∀ a j, ¬ (a = 491 ∧ j = 8) → I13.1 a j = I11.1 a j := fun a j u => by rw [e13, zu_at, if_neg u]
            rw [show I13.1 491 8 = b01 (moB y) by rw [e13, zu_self]]
            have q13 : eqQ Qgo I I13 := by
              rw [e13]
              exact q11'.zu (Or.inl (by omega))
            have gt13 : GoodT I13 (moG y) := gt11.kp (c13 _ _ (by decide)) (c13 _ _ (by decide)) (fun a j u => c13 a j (by omega)) (fun j => by rw [e13, zu_2])
            have vi13 : ViM I13 N (moR y) (lexL (moG y)).length := vi11.kp (fun a j u => c13 a j (by omega))
            cases hb : moB y with
            | true =>
              rw [if_neg (show ¬ b01 true = 0 by decide)]
              have hTG := oB hb
              have nt13 : NowT I13 (moG y) := nt11.kp (c13 _ _ (by decide)) (c13 _ _ (by decide)) (fun a j u => c13 a j (by omega))
              rw [← hTG] at nt13
              refine hK I13 q13 (by rw [c13 _ _ (by decide)]; exact g75') ⟨nt13.1, nt13.2.1, nt13.2.2.1, nt13.2.2.2, gt13.1, gt13.2.1, gt13.2.2, fun j hj => by rw [c13 _ _ (by omega)]; exact n508 j hj, by rw [e13, zu_self], by rw [c13 _ _ (by decide)]; exact g37⟩ vi13
            | false =>
              rw [if_pos (show b01 false = 0 by decide)]
              intro P150 h150
              have cp2 : ∀ (d v : Nat) (B : zI), v + d = 300 → eqQ (fun a _ => a = 493) I13 B → (∀ j, j < v → B.1 493 j = I.1 542 (720 * s + j)) → P150 (zi v) B := by
                intro d
                induction d with
                | succ d ih =>
                  intro v B hv qB hB
                  refine h150 _ _ ?_
                  rw [if_neg (show ¬ (300 : Int32) ≤ zi v from fun u => by have := (zi_le (a := 300) (by decide) (by omega)).mp u; omega), zi_add, zi_tn (show v < 2147483648 by omega), zi_tn (show 720 * s + v < 2147483648 by omega)]
                  refine ⟨(zin_iff (by omega)).mpr (by omega), (zin_iff (by omega)).mpr (by omega), fun I18 e18 w ew => ?_⟩
                  rw [qB.1 542 _ (by omega), q13.1 542 _ (by unfold Qgo; omega)] at e18
                  rw [ew, zi_succ]
                  refine ih (v + 1) I18 (by omega) (by rw [e18]; exact qB.zu rfl) (fun j hj => ?_)
                  rw [e18, zu_at]
                  by_cases u : j = v
                  · rw [if_pos ⟨rfl, u⟩, u]
                  · rw [if_neg (fun z => u z.2)]
                    exact hB j (by omega)
                | zero =>
                  intro v B hv qB hB
                  refine h150 _ _ ?_
                  rw [if_pos (show (300 : Int32) ≤ zi v from (zi_le (a := 300) (by decide) (by omega)).mpr (by omega))]
                  obtain ⟨l1, l2⟩ := ix 710 (by decide)
                  rw [show (710 : Int32) = zi 710 from rfl, l2]
                  refine ⟨l1, ?_⟩
                  rw [qB.1 542 _ (by omega), q13.1 542 _ (by unfold Qgo; omega), h4]
                  refine s_cutsUp (t := txF (moT y)) (by omega) (fun j hj => by rw [hB j (by omega)]; exact h1 j hj) (fun I16 q16 n16 u16 => ?_)
                  have nt16 : NewT I16 (moT y) := ⟨n16, fun j hj => by rw [q16.1 493 j (by unfold Qcut; omega), hB j (by omega)]; exact h1 j hj, u16⟩
                  have c16 : ∀ a j, ¬ Qnw a j → I16.1 a j = I13.1 a j := fun a j u => by rw [q16.1 a j (by unfold Qnw at u; unfold Qcut; omega), qB.1 a j (by unfold Qnw at u; omega)]
                  have c162 : ∀ a j, ¬ Qnw a j → I16.2 a j = I13.2 a j := fun a j u => by rw [q16.2 a j (by unfold Qnw at u; unfold Qcut; omega), qB.2 a j (by unfold Qnw at u; omega)]
                  refine s_keepsTokens (gd := false) oT nt16 (by rw [c16 _ _ (by unfold Qnw; decide), e13, zu_self, hb]) (fun I17 q17 nt17 _ => ?_)
                  have q17' : eqQ Qkt I16 I17 := q17.mono (fun a j h => by rcases h with h | ⟨h, -⟩; exact h; cases h)
                  have c17 : ∀ a j, ¬ Qnw a j → ¬ Qkt a j → I17.1 a j = I13.1 a j := fun a j u1 u2 => by rw [q17'.1 a j u2, c16 a j u1]
                  have q17I : eqQ Qgo I I17 := by
                    refine q13.tr ⟨fun a j u => c17 a j (by unfold Qgo at u; unfold Qnw; omega) (by unfold Qgo at u; unfold Qkt; omega), fun a j u => ?_⟩
                    rw [q17'.2 a j (by unfold Qgo at u; unfold Qkt; omega), c162 a j (by unfold Qgo at u; unfold Qnw; omega)]
                  have gt17 : GoodT I17 (moG y) := gt13.kp (c17 _ _ (by unfold Qnw; decide) (by unfold Qkt; decide)) (c17 _ _ (by unfold Qnw; decide) (by unfold Qkt; decide)) (fun a j u => c17 a j (by unfold Qnw; omega) (by unfold Qkt; omega)) (fun j => by rw [q17'.2 507 j (by unfold Qkt; omega), c162 507 j (by unfold Qnw; omega)])
                  refine hK I17 q17I (by rw [c17 _ _ (by unfold Qnw; decide) (by unfold Qkt; decide), c13 _ _ (by decide)]; exact g75') ⟨nt17.1, nt17.2.1, nt17.2.2.1, nt17.2.2.2, gt17.1, gt17.2.1, gt17.2.2, fun j hj => by rw [c17 _ _ (by unfold Qnw; omega) (by unfold Qkt; omega), c13 _ _ (by omega)]; exact n508 j hj, by rw [c17 _ _ (by unfold Qnw; decide) (by unfold Qkt; decide), e13, zu_self], by rw [c17 _ _ (by unfold Qnw; decide) (by unfold Qkt; decide), c13 _ _ (by decide)]; exact g37⟩ (vi13.kp (fun a j u => c17 a j (by unfold Qnw; omega) (by unfold Qkt; omega)))
              exact cp2 300 0 I13 (by omega) eqQ.rf (fun j hj => by omega)
          cases hb : moB y with
          | true =>
            rw [hb] at fin
            rw [if_pos (show b01 true = 1 by decide)]
            exact fin
          | false =>
            rw [hb] at fin
            rw [if_neg (show ¬ b01 false = 1 by decide)]
            exact fin
      exact cp 110 0 I7 (by omega) eqQ.rf (fun j hj => by omega)
  exact main 300 0 I2 (by omega) eqQ.rf (fun j hj => by omega)
theorem Qgo_mo {I J : zI} (q : eqQ Qgo I J) : eqQ Qmo I J := q.mono (fun a j h => by unfold Qgo at h; unfold Qmo; omega)
theorem s_Mundo {x : Sg} {I : zI} {K : Int32 → zI → Prop} (hv : Iv x) (hR : RM I x) (hK : ∀ J, eqQ Qmo I J → RM J (undoR x).2 → K (undoR x).1 J) : w_M_undo I K := by
  obtain ⟨r1, r2, r3, r4, r5, r6, r7, nw, sC, sA, sZ⟩ := id hR
  obtain ⟨a1, a2, a3, a4, a5, a6, a7, a8, a9, a10, a11⟩ := hv
  unfold w_M_undo
  rw [r6]
  unfold undoR at hK
  cases hA : sgA x with
  | nil =>
    rw [hA] at hK
    rw [if_pos (show zi (List.length ([] : List Mo)) = 0 from rfl)]
    exact hK I eqQ.rf hR
  | cons y A =>
    rw [hA] at hK sA sC sZ a9 a11 r6 r7
    rw [List.length_cons] at a11 sA sC sZ r6 r7
    rw [List.length_cons, if_neg (show ¬ zi (A.length + 1) = 0 from fun u => by have := (zi_eq (b := 0) (by omega) (by decide)).mp u; omega), show zi (A.length + 1) - 1 = zi A.length from zi_sub (b := 1) (by omega)]
    have my : MoM I A.length y := by
      have := sA 0 y rfl
      rw [show A.length + 1 - 1 - 0 = A.length by omega] at this
      exact this
    have oy := a9 y (List.mem_cons_self ..)
    refine s_goesTo r2 a2 a3 (by omega) oy (by omega) my (fun J qJ g75 nJ vJ => ?_)
    have mk : ∀ t z, MoOk (sgM x) (sgN x) z → MoM I t z → MoM J t z := fun t z ho hm => hm.kp ho.1 ho.2.1 (fun j _ _ => qJ.1 542 j (by unfold Qgo; omega))
    refine hK J (Qgo_mo qJ) ⟨r1.kp (qJ.1 _ _ (by unfold Qgo; decide)) (fun j => qJ.1 492 j (by unfold Qgo; omega)), r2.kp2 (qJ.1 _ _ (by unfold Qgo; decide)) (fun a j u1 u2 => qJ.1 a j (by unfold Qgo; omega)) (fun j => qJ.2 511 j (by unfold Qgo; omega)), vJ, r4.kp (fun a j u => qJ.1 a j (by unfold Qgo; omega)), by rw [qJ.1 _ _ (by unfold Qgo; decide)]; exact r5, g75, ?_, nJ, mk _ y oy my, fun k z hz => ?_, fun k z hz => ?_⟩
    · rw [qJ.1 _ _ (by unfold Qgo; decide), r7]
      show zi (A.length + 1 + (sgZ x).length) = zi (A.length + (sgC x :: sgZ x).length)
      rw [List.length_cons]
      congr 1
      omega
    · have hz' : A[k]? = some z := hz
      have := sA (k + 1) z (by rw [List.getElem?_cons_succ]; exact hz')
      rw [show A.length + 1 - 1 - (k + 1) = A.length - 1 - k by omega] at this
      exact mk _ z (a9 z (List.mem_cons_of_mem _ (List.mem_of_getElem? hz'))) this
    · have hz' : (sgC x :: sgZ x)[k]? = some z := hz
      cases k with
      | zero =>
        cases hz'
        exact mk _ _ a8 sC
      | succ k =>
        rw [List.getElem?_cons_succ] at hz'
        have := sZ k z hz'
        rw [show A.length + 1 + 1 + k = A.length + 1 + (k + 1) by omega] at this
        exact mk _ z (a10 z (List.mem_of_getElem? hz')) this
theorem s_Mredo {x : Sg} {I : zI} {K : Int32 → zI → Prop} (hv : Iv x) (hR : RM I x) (hK : ∀ J, eqQ Qmo I J → RM J (redoR x).2 → K (redoR x).1 J) : w_M_redo I K := by
  obtain ⟨r1, r2, r3, r4, r5, r6, r7, nw, sC, sA, sZ⟩ := id hR
  obtain ⟨a1, a2, a3, a4, a5, a6, a7, a8, a9, a10, a11⟩ := hv
  unfold w_M_redo
  rw [r6, r7]
  unfold redoR at hK
  cases hZ : sgZ x with
  | nil =>
    rw [hZ] at hK
    rw [if_pos (show zi (sgA x).length = zi ((sgA x).length + List.length ([] : List Mo)) from rfl)]
    exact hK I eqQ.rf hR
  | cons y Z =>
    rw [hZ] at hK sZ a10 a11 r7
    rw [List.length_cons] at a11 r7
    rw [List.length_cons, if_neg (fun u => by have := (zi_eq (by omega) (by omega)).mp u; omega), zi_succ]
    have my : MoM I ((sgA x).length + 1) y := sZ 0 y rfl
    have oy := a10 y (List.mem_cons_self ..)
    refine s_goesTo r2 a2 a3 (by omega) oy (by omega) my (fun J qJ g75 nJ vJ => ?_)
    have mk : ∀ t z, MoOk (sgM x) (sgN x) z → MoM I t z → MoM J t z := fun t z ho hm => hm.kp ho.1 ho.2.1 (fun j _ _ => qJ.1 542 j (by unfold Qgo; omega))
    refine hK J (Qgo_mo qJ) ⟨r1.kp (qJ.1 _ _ (by unfold Qgo; decide)) (fun j => qJ.1 492 j (by unfold Qgo; omega)), r2.kp2 (qJ.1 _ _ (by unfold Qgo; decide)) (fun a j u1 u2 => qJ.1 a j (by unfold Qgo; omega)) (fun j => qJ.2 511 j (by unfold Qgo; omega)), vJ, r4.kp (fun a j u => qJ.1 a j (by unfold Qgo; omega)), by rw [qJ.1 _ _ (by unfold Qgo; decide)]; exact r5, g75, ?_, nJ, mk _ y oy my, fun k z hz => ?_, fun k z hz => ?_⟩
    · rw [qJ.1 _ _ (by unfold Qgo; decide), r7]
      show zi ((sgA x).length + (Z.length + 1)) = zi ((sgC x :: sgA x).length + Z.length)
      rw [List.length_cons]
      congr 1
      omega
    · have hz' : (sgC x :: sgA x)[k]? = some z := hz
      show MoM J ((sgA x).length + 1 - 1 - k) z
      cases k with
      | zero =>
        cases hz'
        exact mk _ _ a8 sC
      | succ k =>
        rw [List.getElem?_cons_succ] at hz'
        have := sA k z hz'
        rw [show (sgA x).length + 1 - 1 - (k + 1) = (sgA x).length - 1 - k by omega]
        exact mk _ z (a9 z (List.mem_of_getElem? hz')) this
    · have hz' : Z[k]? = some z := hz
      have := sZ (k + 1) z (by rw [List.getElem?_cons_succ]; exact hz')
      show MoM J ((sgA x).length + 1 + 1 + k) z
      rw [show (sgA x).length + 1 + 1 + k = (sgA x).length + 1 + (k + 1) by omega]
      exact mk _ z (a10 z (List.mem_cons_of_mem _ (List.mem_of_getElem? hz'))) this
/-! ===== what the class answers: it returns ===== -/
theorem r_copyFrom {k n a an : Nat} {c : Int32} {I : zI} {K : zI → Prop} (hn : n < 2147483648) (han : an < 2147483648) (hK : ∀ J, eqX (k + 1) (k + 2) I J → K J) : w_Row_copyFrom k n a an c I K := by
  unfold w_Row_copyFrom
  intro v ev
  have key : v ≤ zi n ∧ v ≤ zi an := by
    have e : ∀ w : Nat, Int32.ofNat w = zi w := fun _ => rfl
    rw [e, e] at ev
    by_cases q : zi an < zi n
    · rw [if_pos q] at ev
      by_cases q2 : zi an < c
      · rw [if_pos q2] at ev
        rw [ev]
        exact ⟨Int32.le_of_lt q, Int32.le_refl _⟩
      · rw [if_neg q2] at ev
        rw [ev]
        exact ⟨Int32.le_trans (Int32.not_lt.mp q2) (Int32.le_of_lt q), Int32.not_lt.mp q2⟩
    · rw [if_neg q] at ev
      by_cases q2 : zi n < c
      · rw [if_pos q2] at ev
        rw [ev]
        exact ⟨Int32.le_refl _, Int32.not_lt.mp q⟩
      · rw [if_neg q2] at ev
        rw [ev]
        exact ⟨Int32.not_lt.mp q2, Int32.le_trans (Int32.not_lt.mp q2) (Int32.not_lt.mp q)⟩
  by_cases h0 : v ≤ 0
  · rw [if_pos h0]
    exact hK I eqX.rf
  · rw [if_neg h0]
    have h1 : 0 ≤ v := Int32.le_of_lt (Int32.not_le.mp h0)
    obtain ⟨m, hm, rfl⟩ := zi_of h1
    rw [zi_tn hm]
    refine ⟨⟨h1, (zi_le hm han).mp key.2, (zi_le hm hn).mp key.1⟩, fun J e => ?_⟩
    subst e
    refine hK _ (fun b hb => ?_)
    have hbk : b ≠ k + 1 := by omega
    exact zcp_ne hbk
theorem r_leadsTo {a b : Int32} {I : zI} {K : Int32 → Prop} (h : ∀ v, K v) : w_Desk_leadsTo a b I K := by
  by_cases ha : 0 ≤ a ∧ a < 21
  · by_cases hb : 0 ≤ b ∧ b < 17
    · obtain ⟨s, hs, rfl⟩ := zi_of ha.1
      obtain ⟨y, hy, rfl⟩ := zi_of hb.1
      exact s_leadsTo ((zi_lt (b := 21) hs (by decide)).mp ha.2) ((zi_lt (b := 17) hy (by decide)).mp hb.2) (h _)
    · unfold w_Desk_leadsTo
      split
      · exact h _
      · split
        · exact h _
        · split
          · exact h _
          · rename_i h1 h2 h3
            rw [if_neg (fun u => hb ⟨Int32.not_lt.mp h3, u⟩)]
            exact h _
  · unfold w_Desk_leadsTo
    split
    · exact h _
    · split
      · exact h _
      · rename_i h1 h2
        exact absurd ⟨Int32.not_lt.mp h1, Int32.not_le.mp h2⟩ ha
theorem r_ruleAt {a : Int32} {I : zI} {K : Int32 → Prop} (h : ∀ v, K v) : w_Desk_ruleAt a I K := by
  by_cases ha : 0 ≤ a ∧ a < 21
  · obtain ⟨s, hs, rfl⟩ := zi_of ha.1
    exact s_ruleAt ((zi_lt (b := 21) hs (by decide)).mp ha.2) (h _)
  · unfold w_Desk_ruleAt
    split
    · exact h _
    · split
      · exact h _
      · rename_i h1 h2
        exact absurd ⟨Int32.not_lt.mp h1, Int32.not_le.mp h2⟩ ha
theorem r_symbolOf {a : Int32} {I : zI} {K : Int32 → Prop} (h : ∀ v, K v) : w_Desk_symbolOf a I K := by
  by_cases ha : 0 ≤ a ∧ a < 11
  · obtain ⟨s, hs, rfl⟩ := zi_of ha.1
    exact s_symbolOf ((zi_lt (b := 11) hs (by decide)).mp ha.2) (h _)
  · unfold w_Desk_symbolOf
    split
    · exact h _
    · split
      · exact h _
      · rename_i h1 h2
        exact absurd ⟨Int32.not_lt.mp h1, Int32.not_le.mp h2⟩ ha
theorem r_fits {a b : Int32} {I : zI} {K : Int32 → Prop} (h : ∀ v, K v) : w_Desk_fits a b I K := by
  unfold w_Desk_fits
  split
  · exact h _
  · split
    · exact h _
    · rename_i h1 h2
      obtain ⟨s, hs, rfl⟩ := zi_of (Int32.not_lt.mp h1)
      have hs13 := (zi_lt (b := 13) hs (by decide)).mp (Int32.not_le.mp h2)
      refine ⟨(zin_iff hs).mpr (by show s < 13; exact hs13), ?_⟩
      split
      · exact h _
      · exact h _
theorem r_has {a : Int32} {I : zI} {K : Int32 → Prop} (h : ∀ v, K v) : w_Nodes_has a I K := by
  unfold w_Nodes_has
  split
  · exact h _
  · split
    · exact h _
    · exact h _
theorem r_holds {a : Int32} {I : zI} {K : Int32 → Prop} (h : ∀ v, K v) : w_TreeView_holds a I K := by
  refine r_has (fun v => ?_)
  split
  · exact h _
  · refine (w_get (by decide)).mpr ?_
    split
    · exact h _
    · refine (w_get (by decide)).mpr ?_
      split
      · exact h _
      · exact h _
theorem r_parentOf {a : Int32} {I : zI} {K : Int32 → Prop} (h : ∀ v, K v) : w_TreeView_parentOf a I K := by
  refine r_holds (fun v => ?_)
  split
  · exact h _
  · split
    · exact h _
    · exact (w_get (by decide)).mpr ((w_get (by decide)).mpr ((w_get (by decide)).mpr (h _)))
theorem r_firstOf {a : Int32} {I : zI} {K : Int32 → Prop} (h : ∀ v, K v) : w_TreeView_firstOf a I K := by
  refine r_holds (fun v => ?_)
  split
  · exact h _
  · exact (w_get (by decide)).mpr ((w_get (by decide)).mpr (h _))
theorem r_tkhas {k : Nat} {a : Int32} {I : zI} {K : Int32 → Prop} (h : ∀ v, K v) : w_Tokens_has k a I K := by
  unfold w_Tokens_has
  split
  · exact h _
  · split
    · exact h _
    · exact h _
theorem r_hasGood {k : Nat} {a : Int32} {I : zI} {K : Int32 → Prop} (h : ∀ v, K v) : w_Moment_hasGood k a I K := by
  unfold w_Moment_hasGood
  split
  · exact h _
  · split
    · exact h _
    · exact h _
theorem r_hasRun {a : Int32} {I : zI} {K : Int32 → Prop} (h : ∀ v, K v) : w_TreeView_hasRun a I K := by
  unfold w_TreeView_hasRun
  split
  · exact h _
  · split
    · exact h _
    · exact h _
theorem r_now {x : Sg} {I : zI} {K : Nat → Prop} (hR : RX I x) (h : ∀ s, s < 21 → K (zmom s)) : w_Desk_now I K := by
  obtain ⟨s, hA⟩ := hR.now
  exact s_now hA.1 hA.2.1 (h s hA.1)
theorem up_pure {P : Int32 → Prop} {b : Int32} (step : ∀ v, v < b → P (v + 1) → P v) (stop : ∀ v, b ≤ v → P v) : ∀ v, P v := fun v =>
  up_loop (P := fun v _ => P v) (b := b) (inv := fun _ => True) (fun v J hv _ ih => step v hv (ih J trivial)) (fun v J hv _ => stop v hv) v z00 trivial
theorem dn_pure {P : Int32 → Prop} {a : Int32} (ha : 0 ≤ a) (step : ∀ v, a ≤ v → P (v + (-1)) → P v) (stop : ∀ v, v < a → P v) : ∀ v, P v := fun v =>
  dn_loop (P := fun v _ => P v) (a := a) (inv := fun _ => True) ha (fun v J hv _ ih => step v hv (ih J trivial)) (fun v J hv _ => stop v hv) v z00 trivial
theorem r_covering {k : Nat} {a : Int32} {I : zI} {K : Int32 → Prop} (h : ∀ v, K v) : w_Tokens_covering k a I K := by
  intro P2 h2
  refine up_pure (b := I.1 k 5) (fun v hv ih => ?_) (fun v hv => ?_) 0
  · refine h2 _ ?_
    rw [if_neg (Int32.not_le.mpr hv)]
    refine (w_get (by decide)).mpr ?_
    intro P45 h45
    have no : P45 := h45 (fun v' ev => by rw [ev]; exact ih)
    split
    · exact no
    · refine (w_get (by decide)).mpr ((w_get (by decide)).mpr ?_)
      split
      · exact no
      · exact h _
  · refine h2 _ ?_
    rw [if_pos hv]
    exact h _
theorem r_isEnd {a : Int32} {I : zI} {K : Int32 → Prop} (h : ∀ v, K v) : w_Desk_isEnd a I K := by
  refine (w_get (by decide)).mpr ?_
  split
  · exact h _
  · exact h _
theorem r_startOf {x : Sg} {a : Int32} {I : zI} {K : Int32 → Prop} (hR : RX I x) (h : ∀ v, K v) : w_Desk_startOf a I K := r_now hR (fun s hs => r_firstOf (fun v => (w_get (by decide)).mpr (h _)))
theorem r_endOf {x : Sg} {a : Int32} {I : zI} {K : Int32 → Prop} (hR : RX I x) (h : ∀ v, K v) : w_Desk_endOf a I K := r_now hR (fun s hs => r_firstOf (fun v => (w_get (by decide)).mpr (fun w ew => (w_get (by decide)).mpr ((w_get (by decide)).mpr ((w_get (by decide)).mpr (h _))))))
theorem r_placeBehind {a : Int32} {I : zI} {K : Int32 → Prop} (h : ∀ v, K v) : w_TreeView_placeBehind a I K := (w_get (by decide)).mpr ((w_get (by decide)).mpr (h _))
theorem r_holdsExpression {a : Int32} {I : zI} {K : Int32 → Prop} (h : ∀ v, K v) : w_TreeView_holdsExpression a I K := by
  refine r_holds (fun v => ?_)
  split
  · exact h _
  · refine (w_get (by decide)).mpr ?_
    split
    · exact h _
    · exact h _
theorem r_sibling {a b : Int32} {I : zI} {K : Int32 → Prop} (h : ∀ v, K v) : w_TreeView_sibling a b I K := by
  refine r_parentOf (fun p => ?_)
  split
  · refine r_childrenOf (fun n => ?_)
    intro P26 h26
    refine up_pure (b := n) (fun v hv ih => ?_) (fun v hv => ?_) 0
    · refine h26 _ ?_
      rw [if_neg (Int32.not_le.mpr hv)]
      intro v6 ev6
      refine r_childOf (fun c => ?_)
      intro P76 h76
      have no : P76 := h76 (fun v' ev => by rw [ev]; exact ih)
      split
      · split
        · exact no
        · split
          · exact no
          · exact r_childOf (fun c => h _)
      · exact no
    · refine h26 _ ?_
      rw [if_pos hv]
      exact h _
  · exact h _
theorem r_lowestOfRule {a b : Int32} {I : zI} {K : Int32 → Prop} (h : ∀ v, K v) : w_TreeView_lowestOfRule a b I K := by
  refine r_parentOf (fun p => ?_)
  intro P9 h9
  refine up_pure (P := fun v => ∀ w, P9 w v) (b := 400) (fun v hv ih w => ?_) (fun v hv w => ?_) 0 p
  · refine h9 _ _ ?_
    rw [if_neg (Int32.not_le.mpr hv)]
    split
    · exact h _
    · refine (w_get (by decide)).mpr ?_
      split
      · exact h _
      · exact r_parentOf (fun q v' ev => by rw [ev]; exact ih q)
  · refine h9 _ _ ?_
    rw [if_pos hv]
    exact h _
theorem r_lowestOver {a b : Int32} {I : zI} {K : Int32 → Prop} (h : ∀ v, K v) : w_TreeView_lowestOver a b I K := by
  refine r_parentOf (fun p => ?_)
  intro P9 h9
  refine up_pure (P := fun v => ∀ w, P9 w v) (b := 400) (fun v hv ih w => ?_) (fun v hv w => ?_) 0 p
  · refine h9 _ _ ?_
    rw [if_neg (Int32.not_le.mpr hv)]
    split
    · exact h _
    · refine r_firstOf (fun f => ?_)
      intro P54 h54
      have no : P54 := h54 (r_parentOf (fun q v' ev => by rw [ev]; exact ih q))
      split
      · exact no
      · refine (w_get (by decide)).mpr ?_
        split
        · exact no
        · exact h _
  · refine h9 _ _ ?_
    rw [if_pos hv]
    exact h _
theorem r_wayDown {a b : Int32} {I : zI} {K : Int32 → Prop} (h : ∀ v, K v) : w_TreeView_wayDown a b I K := by
  refine (w_get (by decide)).mpr ((w_get (by decide)).mpr (fun v3 ev3 => ?_))
  split
  · exact h _
  · split
    · intro P36 h36
      refine up_pure (P := fun v => ∀ w, P36 w v) (b := v3) (fun v hv ih w => ?_) (fun v hv w => ?_) 0 a
      · refine h36 _ _ ?_
        rw [if_neg (Int32.not_le.mpr hv)]
        exact r_parentOf (fun q v' ev => by rw [ev]; exact ih q)
      · refine h36 _ _ ?_
        rw [if_pos hv]
        exact h _
    · exact h _
theorem r_readsName {a : Int32} {I : zI} {K : Int32 → Prop} (h : ∀ v, K v) : w_TreeView_readsName a I K := by
  refine r_placeBehind (fun b => (w_get (by decide)).mpr ?_)
  intro P15 h15
  refine up_pure (b := b) (fun v hv ih => ?_) (fun v hv => ?_) _
  · refine h15 _ ?_
    rw [if_neg (Int32.not_le.mpr hv)]
    refine (w_get (by decide)).mpr ((w_get (by decide)).mpr ?_)
    split
    · exact h _
    · intro v' ev
      rw [ev]
      exact ih
  · refine h15 _ ?_
    rw [if_pos hv]
    exact h _
theorem r_madeWithin {a e : Int32} {I : zI} {K : Int32 → Prop} (h : ∀ v, K v) : w_TreeView_madeWithin a e I K := by
  refine r_placeBehind (fun b => (w_get (by decide)).mpr ?_)
  intro P19 h19
  refine up_pure (P := fun v => ∀ w, P19 w v) (b := b) (fun v hv ih w => ?_) (fun v hv w => ?_) _ 0
  · refine h19 _ _ ?_
    rw [if_neg (Int32.not_le.mpr hv)]
    intro P56 h56
    have nx : ∀ w, P56 w := fun w => h56 w (fun v' ev => by rw [ev]; exact ih w)
    split
    · exact nx _
    · refine (w_get (by decide)).mpr ((w_get (by decide)).mpr ?_)
      split
      · intro v' ev
        exact nx _
      · exact nx _
  · refine h19 _ _ ?_
    rw [if_pos hv]
    exact h _
theorem r_depthOf {a : Int32} {I : zI} {K : Int32 → Prop} (h : ∀ v, K v) : w_Pairs_depthOf a I K := by
  intro P2 h2
  refine up_pure (b := 30) (fun v hv ih => ?_) (fun v hv => ?_) 0
  · refine h2 _ ?_
    rw [if_neg (Int32.not_le.mpr hv)]
    split
    · exact h _
    · intro v' ev
      rw [ev]
      exact ih
  · refine h2 _ ?_
    rw [if_pos hv]
    exact h _
theorem r_isGoodName {x : Sg} {a : Int32} {I : zI} {K : Int32 → Prop} (hR : RX I x) (h : ∀ v, K v) : w_Desk_isGoodName a I K := by
  refine r_now hR (fun s hs => r_hasGood (fun v => ?_))
  split
  · exact h _
  · refine (w_get (by decide)).mpr ((w_get (by decide)).mpr ?_)
    split
    · exact h _
    · exact h _
/-! those that try a text anew -/
def Qad (a j : Nat) : Prop := 100 ≤ a ∧ a ≤ 108
theorem r_begin {k : Nat} {I : zI} {K : zI → Prop} (hk : k = 101 ∨ k = 104) (hK : ∀ J, eqQ Qad I J → K J) : w_Trial_begin k I K := by
  intro I1 e1
  refine (w_set (by decide)).mpr (hK _ ?_)
  refine eqQ.rs ?_ (fun j => ⟨by omega, by omega⟩)
  rw [e1]
  exact eqQ.rf.zu ⟨by omega, by omega⟩
theorem r_trialCopy {k a : Nat} {I : zI} {K : zI → Prop} (hk : k = 101 ∨ k = 104) (hK : ∀ J, eqQ Qad I J → K J) : w_Trial_copyFrom k a I K := by
  intro I1 e1
  refine r_copyFrom (by decide) (by decide) (fun J q => hK J ?_)
  refine eqX.q ?_ q (fun a j h1 h2 => ⟨by omega, by omega⟩)
  rw [e1]
  exact eqQ.rf.zu ⟨by omega, by omega⟩
theorem r_accepts {k : Nat} {a : Int32} {I : zI} {K : Int32 → zI → Prop} (hk : k = 101 ∨ k = 104) (hK : ∀ v J, eqQ Qad I J → K v J) : w_Trial_accepts k a I K := by
  intro P2 h2
  refine up_loop (P := P2) (b := 1000) (inv := fun J => eqQ Qad I J) (fun v J hv hJ ih => ?_) (fun v J hv hJ => ?_) 0 I eqQ.rf
  · refine h2 _ _ ?_
    rw [if_neg (Int32.not_le.mpr hv)]
    refine (w_get (by decide)).mpr (r_leadsTo (fun to => r_ruleAt (fun ru => ?_)))
    split
    · intro P83 h83
      have no : P83 := h83 (by
        split
        · split
          · exact hK _ J hJ
          · exact hK _ J hJ
        · exact hK _ J hJ)
      split
      · exact no
      · refine r_lengthOf (fun l => ?_)
        split
        · refine r_lengthOf (fun l2 I10 e10 I11 e11 => (w_get (by decide)).mpr (r_symbolOf (fun sy => r_leadsTo (fun t => (w_set (by decide)).mpr (fun v' ev => ?_)))))
          rw [ev]
          refine ih _ (eqQ.rs ?_ (fun j => ⟨by omega, by omega⟩))
          rw [e11, e10]
          exact (hJ.zu ⟨by omega, by omega⟩).zu ⟨by omega, by omega⟩
        · exact no
    · intro I19 e19
      refine (w_set (by decide)).mpr (hK _ _ (eqQ.rs ?_ (fun j => ⟨by omega, by omega⟩)))
      rw [e19]
      exact hJ.zu ⟨by omega, by omega⟩
  · refine h2 _ _ ?_
    rw [if_pos hv]
    exact hK _ J hJ
theorem r_acceptsFrom {k t : Nat} {a : Int32} {I : zI} {K : Int32 → zI → Prop} (hk : k = 101 ∨ k = 104) (ht : t < 100 ∨ 108 < t) (hK : ∀ v J, eqQ Qad I J → K v J) : w_Trial_acceptsFrom k t a I K := by
  intro P2 h2
  refine up_loop (P := P2) (b := I.1 t 5) (inv := fun J => eqQ Qad I J) (fun v J hv hJ ih => ?_) (fun v J hv hJ => ?_) a I eqQ.rf
  · refine h2 _ _ ?_
    rw [hJ.1 t 5 (by unfold Qad; omega), if_neg (Int32.not_le.mpr hv)]
    refine (w_get (by decide)).mpr (r_accepts hk (fun r A qA => ?_))
    split
    · exact hK _ A (hJ.tr qA)
    · intro v' ev
      rw [ev]
      exact ih A (hJ.tr qA)
  · refine h2 _ _ ?_
    rw [hJ.1 t 5 (by unfold Qad; omega), if_pos hv]
    exact hK _ J hJ
theorem r_weigh {t : Nat} {I : zI} {K : zI → Prop} (ht : t < 100 ∨ 108 < t) (hK : ∀ J, eqQ Qad I J → K J) : w_Adviser_weigh t I K := by
  intro P4 h4
  refine up_loop (P := fun v J => ∀ w, P4 w v J) (b := I.1 t 5) (inv := fun J => eqQ Qad I J) (fun v J hv hJ ih w => ?_) (fun v J hv hJ w => ?_) 0 I eqQ.rf 0
  · refine h4 _ _ _ ?_
    rw [hJ.1 t 5 (by unfold Qad; omega), if_neg (Int32.not_le.mpr hv)]
    refine (w_set (by decide)).mpr ((w_get (by decide)).mpr ?_)
    intro P90 h90
    have nx : ∀ u, P90 u := fun u => h90 u (fun v' ev => by
      rw [ev]
      exact ih _ (hJ.rs (fun j => ⟨by decide, by decide⟩)) u)
    split
    · intro v' ev
      exact nx _
    · split
      · intro v' ev
        exact nx _
      · split
        · intro v' ev
          exact nx _
        · split
          · intro v' ev
            exact nx _
          · exact nx _
  · refine h4 _ _ _ ?_
    rw [hJ.1 t 5 (by unfold Qad; omega), if_pos hv]
    exact (w_set (by decide)).mpr (hK _ (hJ.rs (fun j => ⟨by decide, by decide⟩)))
theorem r_lastMisfit {t : Nat} {I : zI} {K : Int32 → Prop} (h : ∀ v, K v) : w_Adviser_lastMisfit t I K := by
  intro v1 ev1 P7 h7
  refine dn_pure (a := 0) (by decide) (fun v hv ih => ?_) (fun v hv => ?_) v1
  · refine h7 _ ?_
    rw [if_neg (Int32.not_lt.mpr hv)]
    refine (w_get (by decide)).mpr ((w_get (by decide)).mpr (r_fits (fun r => ?_)))
    split
    · exact h _
    · intro v' ev
      rw [ev]
      exact ih
  · refine h7 _ ?_
    rw [if_pos hv]
    exact h _
theorem r_couldGo {t : Nat} {a b : Int32} {I : zI} {K : Int32 → Prop} (h : ∀ v, K v) : w_Adviser_couldGo t a b I K := by
  refine (w_get (by decide)).mpr ((w_get (by decide)).mpr ((w_get (by decide)).mpr ?_))
  intro P38 h38
  have nx : ∀ u, P38 u := by
    intro u
    refine h38 u ?_
    intro P59 h59
    have n2 : ∀ w, P59 w := by
      intro w
      refine h59 w ?_
      split
      · exact h _
      · refine (w_get (by decide)).mpr (r_fits (fun r => ?_))
        split
        · exact h _
        · exact h _
    split
    · exact n2 _
    · exact (w_get (by decide)).mpr (n2 _)
  split
  · exact nx _
  · exact nx _
theorem r_found {a b : Int32} {I : zI} {K : zI → Prop} (hK : ∀ J, eqQ Qad I J → K J) : w_Adviser_found a b I K := by
  intro I1 e1 I2 e2
  refine hK I2 ?_
  rw [e2, e1]
  exact (eqQ.rf.zu ⟨by decide, by decide⟩).zu ⟨by decide, by decide⟩
theorem r_findWay {t n : Nat} {I : zI} {K : zI → Prop} (ht : t < 100 ∨ 108 < t) (h5 : I.1 t 5 = zi n) (hn : n ≤ 1000) (hK : ∀ J, eqQ Qad I J → K J) : w_Adviser_findWay t I K := by
  refine r_weigh ht (fun I1 q1 => r_lastMisfit (fun mf => ?_))
  intro P12 h12
  have outer : ∀ (d p : Nat) (J : zI), p + d = n + 1 → 1 ≤ p → eqQ Qad I J → P12 (zi p) J := by
    intro d
    induction d with
    | zero =>
      intro p J hp h1 hJ
      refine h12 _ _ ?_
      rw [hJ.1 t 5 (by unfold Qad; omega), h5, if_pos ((zi_le (by omega) (by omega)).mpr (by omega))]
      exact r_found (fun A qA => hK A (hJ.tr qA))
    | succ d ih =>
      intro p J hp h1 hJ
      refine h12 _ _ ?_
      rw [hJ.1 t 5 (by unfold Qad; omega), h5]
      by_cases u : n ≤ p
      · rw [if_pos ((zi_le (by omega) (by omega)).mpr u)]
        exact r_found (fun A qA => hK A (hJ.tr qA))
      rw [if_neg (fun w => u ((zi_le (by omega) (by omega)).mp w))]
      refine r_begin (Or.inl rfl) (fun B qB => ?_)
      intro P33 h33
      have inner : ∀ (d2 q : Nat) (v : Int32) (C : zI), q + d2 = n + 1 → eqQ Qad I C → P33 v (zi q) C := by
        intro d2
        induction d2 with
        | zero =>
          intro q v C hq hC
          refine h33 _ _ _ ?_
          intro P126 h126
          have stop : P126 := h126 (fun v' ev => by
            rw [ev, zi_succ]
            exact ih (p + 1) C (by omega) (by omega) hC)
          split
          · exact stop
          · rw [hC.1 t 5 (by unfold Qad; omega), h5, zi_add, if_pos ((zi_le (by omega) (by omega)).mpr (by omega))]
            exact stop
        | succ d2 ih2 =>
          intro q v C hq hC
          refine h33 _ _ _ ?_
          intro P126 h126
          have stop : P126 := h126 (fun v' ev => by
            rw [ev, zi_succ]
            exact ih (p + 1) C (by omega) (by omega) hC)
          split
          · exact stop
          · split
            · exact stop
            · intro P102 h102
              have nx : ∀ D, eqQ Qad I D → P102 D := fun D hD => h102 D ((w_get (by decide)).mpr (r_accepts (Or.inl rfl) (fun r E qE v' ev => by
                rw [ev, zi_succ]
                exact ih2 (q + 1) r E (by omega) (hD.tr qE))))
              split
              · exact nx C hC
              · refine r_couldGo (fun r => ?_)
                split
                · exact nx C hC
                · refine r_trialCopy (Or.inr rfl) (fun D qD => r_acceptsFrom (Or.inr rfl) ht (fun r E qE => ?_))
                  split
                  · exact nx E ((hC.tr qD).tr qE)
                  · exact r_found (fun F qF => hK F (((hC.tr qD).tr qE).tr qF))
      exact inner (n + 1) 0 1 B (by omega) (hJ.tr qB)
  exact outer n 1 I1 (by omega) (Nat.le_refl 1) q1
theorem r_findMend {t : Nat} {I : zI} {K : zI → Prop} (ht : t < 100 ∨ 108 < t) (hK : ∀ J, eqQ Qad I J → K J) : w_Adviser_findMend t I K := by
  refine r_begin (Or.inl rfl) (fun I1 q1 => ?_)
  intro P11 h11
  refine up_loop (P := fun v J => ∀ w, P11 w v J) (b := I.1 t 5) (inv := fun J => eqQ Qad I J) (fun v J hv hJ ih w => ?_) (fun v J hv hJ w => ?_) 0 I1 q1 1
  · refine h11 _ _ _ ?_
    intro P104 h104
    have stop : P104 := h104 (r_found (fun A qA => hK A (hJ.tr qA)))
    split
    · exact stop
    · rw [hJ.1 t 5 (by unfold Qad; omega), if_neg (Int32.not_le.mpr hv)]
      intro P26 h26
      refine up_loop (P := P26) (b := 10) (inv := fun J => eqQ Qad I J) (fun k A hk hA ih2 => ?_) (fun k A hk hA => ?_) 0 J hJ
      · refine h26 _ _ ?_
        rw [if_neg (Int32.not_le.mpr hk)]
        refine r_trialCopy (Or.inr rfl) (fun B qB => r_accepts (Or.inr rfl) (fun r C qC => ?_))
        intro P76 h76
        have nx : ∀ D, eqQ Qad I D → P76 D := fun D hD => h76 D (fun v' ev => by
          rw [ev]
          exact ih2 D hD)
        split
        · exact nx C ((hA.tr qB).tr qC)
        · refine r_acceptsFrom (Or.inr rfl) ht (fun r D qD => ?_)
          split
          · exact nx D (((hA.tr qB).tr qC).tr qD)
          · exact r_found (fun E qE => hK E ((((hA.tr qB).tr qC).tr qD).tr qE))
      · refine h26 _ _ ?_
        rw [if_pos hk]
        refine (w_get (by decide)).mpr (r_accepts (Or.inl rfl) (fun r B qB v' ev => ?_))
        rw [ev]
        exact ih B (hA.tr qB) r
  · refine h11 _ _ _ ?_
    intro P104 h104
    have stop : P104 := h104 (r_found (fun A qA => hK A (hJ.tr qA)))
    split
    · exact stop
    · rw [hJ.1 t 5 (by unfold Qad; omega), if_pos hv]
      exact stop
theorem r_kindsInPlace {t : Nat} {I : zI} {K : Int32 → zI → Prop} (ht : t < 100 ∨ 108 < t) (hK : ∀ v J, eqQ Qad I J → K v J) : w_Adviser_kindsInPlace t I K := by
  have wrong : ∀ K' : zI → Prop, (∀ J, eqQ Qad I J → K' J) → w_Adviser_goToWrong t I K' := by
    intro K' hK'
    refine r_begin (Or.inl rfl) (fun I1 q1 => r_begin (Or.inr rfl) (fun I2 q2 => ?_))
    intro P16 h16
    refine up_loop (P := P16) (b := I.1 t 5) (inv := fun J => eqQ Qad I J) (fun v J hv hJ ih => ?_) (fun v J hv hJ => ?_) 0 I2 (q1.tr q2)
    · refine h16 _ _ ?_
      rw [hJ.1 t 5 (by unfold Qad; omega), if_neg (Int32.not_le.mpr hv)]
      refine (w_get (by decide)).mpr (r_accepts (Or.inr rfl) (fun r A qA => ?_))
      split
      · exact hK' A (hJ.tr qA)
      · refine r_trialCopy (Or.inl rfl) (fun B qB v' ev => ?_)
        rw [ev]
        exact ih B ((hJ.tr qA).tr qB)
    · refine h16 _ _ ?_
      rw [hJ.1 t 5 (by unfold Qad; omega), if_pos hv]
      exact hK' J hJ
  refine wrong _ (fun I1 q1 => ?_)
  intro P9 h9
  refine up_loop (P := fun v J => ∀ w, P9 w v J) (b := 11) (inv := fun J => eqQ Qad I J) (fun v J hv hJ ih w => ?_) (fun v J hv hJ w => ?_) 0 I1 q1 0
  · refine h9 _ _ _ ?_
    split
    · exact hK _ J hJ
    · refine r_trialCopy (Or.inr rfl) (fun A qA => r_accepts (Or.inr rfl) (fun r B qB => ?_))
      intro P45 h45
      have nx : ∀ u, P45 u := fun u => h45 u (fun v2 e2 v3 e3 => by
        rw [e3]
        exact ih B ((hJ.tr qA).tr qB) _)
      split
      · exact nx _
      · exact nx _
  · refine h9 _ _ _ ?_
    rw [if_pos (show (10 : Int32) < v from Int32.lt_of_lt_of_le (by decide) hv)]
    exact hK _ J hJ
/-! ===== each question to the class returns ===== -/
theorem RX.ad {I J : zI} {x : Sg} (hv : Iv x) (h : RX I x) (q : eqQ Qad I J) : RX J x := h.kp hv (fun a j u => q.1 a j (by unfold Qad; omega))
theorem Qad_cl {I J : zI} (q : eqQ Qad I J) : eqQ Qcl I J := q.mono (fun a j h => by unfold Qad at h; unfold Qcl; omega)
theorem zmom_out {s : Nat} : zmom s + 3 < 100 ∨ 108 < zmom s + 3 := Or.inr (by have : zmom s = 113 + 18 * s := rfl; omega)
theorem q_text {x : Sg} {a : Int32} {I : zI} {K : Int32 → Prop} (hR : RX I x) (h : ∀ v, K v) : w_Desk_text a I K := by
  refine r_now hR (fun s hs => ?_)
  split
  · exact h _
  · split
    · exact h _
    · exact (w_get (by decide)).mpr (h _)
theorem q_token {x : Sg} {a b : Int32} {I : zI} {K : Int32 → Prop} (hR : RX I x) (h : ∀ v, K v) : w_Desk_token a b I K := by
  refine r_now hR (fun s hs => r_tkhas (fun v => ?_))
  split
  · exact h _
  · split
    · exact (w_get (by decide)).mpr (h _)
    · split
      · exact (w_get (by decide)).mpr (h _)
      · split
        · exact (w_get (by decide)).mpr (h _)
        · exact h _
theorem q_good {x : Sg} {a : Int32} {I : zI} {K : Int32 → Prop} (hR : RX I x) (h : ∀ v, K v) : w_Desk_good a I K := by
  refine r_now hR (fun s hs => r_hasGood (fun v => ?_))
  split
  · exact h _
  · exact (w_get (by decide)).mpr (h _)
theorem q_under {x : Sg} {a : Int32} {I : zI} {K : Int32 → Prop} (hR : RX I x) (h : ∀ v, K v) : w_Desk_under a I K := by
  refine r_now hR (fun s hs => ?_)
  split
  · exact h _
  · split
    · exact r_covering (fun v => h v)
    · exact h _
theorem q_inTheWay {x : Sg} {a : Int32} {I : zI} {K : Int32 → zI → Prop} (hv : Iv x) (hR : RX I x) (h : ∀ v J, eqQ Qcl I J → RX J x → K v J) : w_Desk_inTheWay a I K := by
  intro P11 h11
  have yes : P11 := by
    refine h11 ?_
    obtain ⟨s, hA⟩ := hR.now
    refine s_now hA.1 hA.2.1 ?_
    split
    · refine r_findWay (n := (lexL (moT (sgC x))).length) zmom_out hA.2.2.2.2.1.1 (by have := hv.2.2.2.2.2.2.2.1.1.2.2; omega) (fun J qJ => ?_)
      split
      · exact h _ J (Qad_cl qJ) (hR.ad hv qJ)
      · exact h _ J (Qad_cl qJ) (hR.ad hv qJ)
    · exact h _ I eqQ.rf hR
  split
  · exact yes
  · split
    · exact yes
    · exact h _ I eqQ.rf hR
theorem q_expected {x : Sg} {I : zI} {K : Int32 → zI → Prop} (hv : Iv x) (hR : RX I x) (h : ∀ v J, eqQ Qcl I J → RX J x → K v J) : w_Desk_expected I K := by
  refine r_now hR (fun s hs => ?_)
  split
  · exact r_kindsInPlace zmom_out (fun v J qJ => h v J (Qad_cl qJ) (hR.ad hv qJ))
  · exact h _ I eqQ.rf hR
theorem q_mend {x : Sg} {a : Int32} {I : zI} {K : Int32 → zI → Prop} (hv : Iv x) (hR : RX I x) (h : ∀ v J, eqQ Qcl I J → RX J x → K v J) : w_Desk_mend a I K := by
  intro P11 h11
  have yes : P11 := by
    refine h11 (r_now hR (fun s hs => ?_))
    split
    · refine r_findMend zmom_out (fun J qJ => ?_)
      split
      · exact h _ J (Qad_cl qJ) (hR.ad hv qJ)
      · exact h _ J (Qad_cl qJ) (hR.ad hv qJ)
    · exact h _ I eqQ.rf hR
  split
  · exact yes
  · split
    · exact yes
    · exact h _ I eqQ.rf hR
theorem q_node {x : Sg} {a b : Int32} {I : zI} {K : Int32 → Prop} (hR : RX I x) (h : ∀ v, K v) : w_Desk_node a b I K := by
  refine r_has (fun v => ?_)
  split
  · exact h _
  · split
    · exact (w_get (by decide)).mpr (h _)
    · split
      · exact (w_get (by decide)).mpr (h _)
      · split
        · exact r_childrenOf (fun v => h v)
        · split
          · exact (w_get (by decide)).mpr (h _)
          · split
            · exact (w_get (by decide)).mpr (h _)
            · split
              · exact (w_get (by decide)).mpr (h _)
              · split
                · refine r_isEnd (fun v => ?_)
                  split
                  · refine r_holds (fun v => ?_)
                    split
                    · exact h _
                    · exact h _
                  · exact h _
                · split
                  · exact r_parentOf (fun v => h v)
                  · split
                    · refine r_isEnd (fun v => ?_)
                      split
                      · exact r_firstOf (fun v => h v)
                      · exact r_now hR (fun s hs => h _)
                    · exact h _
theorem q_child {a b : Int32} {I : zI} {K : Int32 → Prop} (h : ∀ v, K v) : w_Desk_child a b I K := by
  refine r_has (fun v => ?_)
  split
  · exact h _
  · split
    · exact h _
    · refine r_childrenOf (fun v => ?_)
      split
      · exact r_childOf (fun v => h v)
      · exact h _
theorem q_beside {a : Int32} {I : zI} {K : Int32 → Prop} (h : ∀ v, K v) : w_Desk_beside a I K := r_sibling (fun v => h v)
theorem q_before {a : Int32} {I : zI} {K : Int32 → Prop} (h : ∀ v, K v) : w_Desk_before a I K := r_sibling (fun v => h v)
theorem q_span {x : Sg} {a b : Int32} {I : zI} {K : Int32 → Prop} (hR : RX I x) (h : ∀ v, K v) : w_Desk_span a b I K := by
  intro P9 h9
  have yes : P9 := by
    refine h9 (r_holds (fun v => ?_))
    split
    · exact h _
    · refine r_firstOf (fun f => ?_)
      split
      · split
        · exact r_startOf hR (fun v => h v)
        · exact r_endOf hR (fun v => r_startOf hR (fun w => h _))
      · exact h _
  split
  · exact yes
  · split
    · exact yes
    · exact h _
theorem q_ruled {a : Int32} {I : zI} {K : Int32 → Prop} (h : ∀ v, K v) : w_Desk_ruled a I K := by
  unfold w_Desk_ruled
  split
  · exact h _
  · split
    · exact h _
    · exact (w_get (by decide)).mpr (h _)
theorem q_above {x : Sg} {a b : Int32} {I : zI} {K : Int32 → Prop} (hR : RX I x) (h : ∀ v, K v) : w_Desk_above a b I K := by
  refine r_now hR (fun s hs => r_hasGood (fun v => ?_))
  split
  · exact h _
  · split
    · exact h _
    · split
      · exact (w_get (by decide)).mpr (r_lowestOfRule (fun v => h v))
      · exact h _
theorem q_common {x : Sg} {a b : Int32} {I : zI} {K : Int32 → Prop} (hR : RX I x) (h : ∀ v, K v) : w_Desk_common a b I K := by
  refine r_now hR (fun s hs => r_hasGood (fun v => ?_))
  split
  · exact h _
  · refine r_hasGood (fun v => ?_)
    split
    · exact h _
    · refine (w_get (by decide)).mpr ?_
      split
      · exact h _
      · exact r_lowestOver (fun v => h v)
theorem q_path {x : Sg} {a b : Int32} {I : zI} {K : Int32 → Prop} (hR : RX I x) (h : ∀ v, K v) : w_Desk_path a b I K := by
  refine r_now hR (fun s hs => r_hasGood (fun v => ?_))
  split
  · exact h _
  · split
    · exact h _
    · exact (w_get (by decide)).mpr (r_wayDown (fun v => h v))
theorem q_print {a : Int32} {I : zI} {K : Int32 → Prop} (h : ∀ v, K v) : w_Desk_print a I K := by
  unfold w_Desk_print
  split
  · exact h _
  · split
    · exact h _
    · exact (w_get (by decide)).mpr (h _)
theorem q_firm {a : Int32} {I : zI} {K : Int32 → Prop} (h : ∀ v, K v) : w_Desk_firm a I K := by
  refine r_holdsExpression (fun v => ?_)
  split
  · exact h _
  · refine r_readsName (fun v => ?_)
    split
    · exact h _
    · exact h _
theorem q_young {a : Int32} {I : zI} {K : Int32 → Prop} (h : ∀ v, K v) : w_Desk_young a I K := by
  refine r_hasRun (fun v => ?_)
  split
  · exact h _
  · exact (w_get (by decide)).mpr (r_madeWithin (fun v => h v))
theorem q_row {x : Sg} {a : Int32} {I : zI} {K : Int32 → Prop} (hR : RX I x) (h : ∀ v, K v) : w_Desk_row a I K := by
  unfold w_Desk_row
  split
  · exact r_now hR (fun s hs => h _)
  · split
    · exact r_depthOf (fun v => h v)
    · exact h _
theorem q_pair {a b : Int32} {I : zI} {K : Int32 → Prop} (h : ∀ v, K v) : w_Desk_pair a b I K := by
  unfold w_Desk_pair
  split
  · exact h _
  · split
    · split
      · exact (w_get (by decide)).mpr (h _)
      · split
        · exact (w_get (by decide)).mpr (h _)
        · exact h _
    · exact h _
theorem q_value {x : Sg} {a : Int32} {I : zI} {K : Int32 → Prop} (hR : RX I x) (h : ∀ v, K v) : w_Desk_value a I K := by
  refine r_isGoodName hR (fun v => ?_)
  split
  · exact h _
  · exact r_valueOf (fun v => h v)
theorem q_worth {a : Int32} {I : zI} {K : Int32 → Prop} (h : ∀ v, K v) : w_Desk_worth a I K := by
  refine r_holdsExpression (fun v => ?_)
  split
  · exact h _
  · exact (w_get (by decide)).mpr ((w_get (by decide)).mpr (h _))
theorem q_uses {x : Sg} {a : Int32} {I : zI} {K : Int32 → Prop} (hR : RX I x) (h : ∀ v, K v) : w_Desk_uses a I K := by
  refine r_isGoodName hR (fun v => ?_)
  split
  · exact h _
  · exact (w_get (by decide)).mpr (h _)
theorem q_sets {x : Sg} {a : Int32} {I : zI} {K : Int32 → Prop} (hR : RX I x) (h : ∀ v, K v) : w_Desk_sets a I K := by
  refine r_isGoodName hR (fun v => ?_)
  split
  · exact h _
  · exact (w_get (by decide)).mpr ((w_get (by decide)).mpr (h _))
theorem q_idle {a : Int32} {I : zI} {K : Int32 → Prop} (h : ∀ v, K v) : w_Desk_idle a I K := by
  unfold w_Desk_idle
  split
  · exact h _
  · split
    · split
      · exact h _
      · exact (w_get (by decide)).mpr (h _)
    · exact h _
theorem q_last {a : Int32} {I : zI} {K : Int32 → Prop} (h : ∀ v, K v) : w_Desk_last a I K := by
  unfold w_Desk_last
  split
  · exact h _
  · split
    · exact h _
    · exact (w_get (by decide)).mpr (h _)
theorem q_count {x : Sg} {a : Int32} {I : zI} {K : Int32 → Prop} (hR : RX I x) (h : ∀ v, K v) : w_Desk_count a I K := by
  refine r_now hR (fun s hs => ?_)
  have inn : ∀ b, w_Desk_countInTree b I (fun r => K r) := by
    intro b
    unfold w_Desk_countInTree
    have g : w_Row_get 60 11 8 I (fun r_10 => K r_10) := (w_get (by decide)).mpr (h _)
    repeat' split
    all_goals first | exact h _ | exact r_madeWithin (fun v => h v) | exact g
  repeat' split
  all_goals first | exact h _ | exact inn _
