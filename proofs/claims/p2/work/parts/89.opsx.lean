/-! ===== what each change makes; the class ===== -/
def doC (x : Sg) (d : List Int32) (bt : Bool) : Int32 × Sg := if 300 < d.length ∨ 3000 ≤ sgM x ∨ 3900 ≤ (sgP x).length ∨ 100 < (lexL d).length then (-1, x) else
  ((if (regY x d).1 + 1 = (lexL d).length ∧ topS (regY x d).2.2.2.1 = 1 then 0 else 1), chg x d (if bt = true then [] else sgT x))
def BtL (l : List Int32) : Prop := ∀ b ∈ l, byt b
theorem BtL.at {l : List Int32} (h : BtL l) : ∀ j, j < l.length → byt (txF l j) := fun j hj => by
  rw [txF_at (List.getElem?_eq_getElem hj)]
  exact h _ (List.getElem_mem hj)
theorem BtL.of {l : List Int32} (h : ∀ j, j < l.length → byt (txF l j)) : BtL l := fun b hb => by
  obtain ⟨j, hj⟩ := List.mem_iff_getElem?.mp hb
  have := h j (List.getElem?_eq_some_iff.mp hj).1
  rw [txF_at hj] at this
  exact this
theorem BtL.app {l m : List Int32} (h : BtL l) (h2 : BtL m) : BtL (l ++ m) := fun b hb => by
  rcases List.mem_append.mp hb with hb | hb
  · exact h b hb
  · exact h2 b hb
theorem BtL.sg {l : List Int32} {a b : Nat} (h : BtL l) : BtL (seg l a b) := fun c hc => h c (List.mem_of_mem_drop (List.mem_of_mem_take hc))
theorem doC_iv {x : Sg} {d : List Int32} {bt : Bool} (hv : Iv x) (hd : BtL d) (he : sgE x < 100000) : Iv (doC x d bt).2 ∧ sgE (doC x d bt).2 ≤ sgE x + 1 := by
  unfold doC
  by_cases u : 300 < d.length ∨ 3000 ≤ sgM x ∨ 3900 ≤ (sgP x).length ∨ 100 < (lexL d).length
  · rw [if_pos u]
    exact ⟨hv, Nat.le_succ _⟩
  · rw [if_neg u]
    refine ⟨chg_ok hv ⟨by omega, hd.at, by omega⟩ u ?_ he, Nat.le_refl _⟩
    by_cases ub : bt = true
    · rw [if_pos ub]
      exact ⟨Nat.zero_le _, fun b hb => by cases hb⟩
    · rw [if_neg ub]
      exact hv.1
theorem s_doX {x : Sg} {d : List Int32} {bt : Bool} {I : zI} {K : Int32 → zI → Prop} (hv : Iv x) (hR : RX I x) (hd : BtL d) (hD : DrX I d) (hdl : d.length < 100000) (he : sgE x < 100000) (hK : ∀ J, eqQ Qcl I J → RX J (doC x d bt).2 → K (doC x d bt).1 J) : w_Desk_change (b01 bt) I K := by
  unfold doC at hK
  refine s_change hv hR hd.at hD.1 (fun h300 j hj => hD.2 j hj (by omega)) hdl he (fun hr J q r => ?_) (fun hr J q r => ?_)
  · rw [if_pos (show 300 < d.length ∨ 3000 ≤ sgM x ∨ 3900 ≤ (sgP x).length ∨ 100 < (lexL d).length from hr)] at hK
    exact hK J q r
  · rw [if_neg (show ¬ (300 < d.length ∨ 3000 ≤ sgM x ∨ 3900 ≤ (sgP x).length ∨ 100 < (lexL d).length) from hr)] at hK
    exact hK J q r
/-! its moment that is now -/
def AtX (I : zI) (x : Sg) (s : Nat) : Prop := s < 21 ∧ I.1 0 4 = zi s ∧ MoX I (zmom s) (sgC x)
theorem RX.now {I : zI} {x : Sg} (h : RX I x) : ∃ s, AtX I x s := by
  obtain ⟨-, -, -, -, -, -, -, s, hs, s4, sC, -⟩ := h
  exact ⟨s, hs, s4, sC⟩
theorem RX.ap {I J : zI} {x : Sg} (hv : Iv x) (h : RX I x) (q : eqQ Qap I J) : RX J x := h.kp hv (fun a j u => q.1 a j (by unfold Qap; omega))
theorem AtX.ap {I J : zI} {x : Sg} {s : Nat} (h : AtX I x s) (q : eqQ Qap I J) : AtX J x s :=
  ⟨h.1, by rw [q.1 _ _ (by unfold Qap; omega)]; exact h.2.1, h.2.2.kp (fun a j u1 u2 => q.1 a j (by have : zmom s = 113 + 18 * s := rfl; unfold Qap; omega))⟩
theorem Qap_cl {I J : zI} (q : eqQ Qap I J) : eqQ Qcl I J := q.mono (fun a j h => by unfold Qap at h; unfold Qcl; omega)
theorem MoX.txt {I : zI} {k : Nat} {c : Mo} (h : MoX I k c) : ∀ j, j < (moT c).length → I.1 (k + 1 + 1) j = txF (moT c) j := fun j hj => h.2.1 j hj
theorem s_runStart {x : Sg} {i r s : Nat} {I : zI} {K : Int32 → Prop} (hv : Iv x) (hR : RX I x) (hA : AtX I x s) (hr : (runsOf (sgN x) (moR (sgC x)))[i]? = some r) (hK : K (zi (rS x i))) : w_Desk_runStart (zi i) I K := by
  obtain ⟨r1, r2, r3, -⟩ := hR
  obtain ⟨a1, a2, a3, -, ⟨p, y, b1, b2, b3⟩, -⟩ := run_ok hv hr
  obtain ⟨hTp, hN, hu, hm, hTk, hP, hE, hC, hA', hZ, hAZ⟩ := hv
  obtain ⟨oT, oG, oB, oR, oK⟩ := hC
  have fg := oR.flG hN hu
  have rr := (runs_ok hN hu oR).2
  have hi := (List.getElem?_eq_some_iff.mp hr).1
  have h100 := oG.2.2
  unfold w_Desk_runStart w_Desk_startOf
  refine (w_get (by decide)).mpr ?_
  rw [rg_in (by decide) (show i < 100 by omega), show I.1 (62 + 1) i = zi r from r3.2.2.2.1.2 i r hr]
  refine s_now hA.1 hA.2.1 ?_
  rw [← b2]
  refine s_firstOf r2 (by omega) r3.2.1 fg.1 b1 ?_
  rw [b3, zi_int]
  refine (w_get (by decide)).mpr ?_
  have hx : (lexL (moG (sgC x)))[fsR x i]? = some (tkG x (fsR x i)) := by
    unfold tkG
    rw [List.getD_eq_getElem?_getD, List.getElem?_eq_getElem (by omega)]
    rfl
  rw [rg_in (by decide) (show fsR x i < 100 by omega), show I.1 (zmom s + 16 + 1) (fsR x i) = zi (tkG x (fsR x i)).2.1 from hA.2.2.2.2.2.2.2.2.1 _ _ hx]
  exact hK
theorem s_runEnd {x : Sg} {i r s : Nat} {I : zI} {K : Int32 → Prop} (hv : Iv x) (hR : RX I x) (hA : AtX I x s) (hr : (runsOf (sgN x) (moR (sgC x)))[i]? = some r) (hK : K (zi (rE x i))) : w_Desk_runEnd (zi i) I K := by
  obtain ⟨r1, r2, r3, -⟩ := hR
  obtain ⟨a1, a2, a3, ag, ⟨p, y, b1, b2, b3⟩, -⟩ := run_ok hv hr
  obtain ⟨hTp, hN, hu, hm, hTk, hP, hE, hC, hA', hZ, hAZ⟩ := hv
  obtain ⟨oT, oG, oB, oR, oK⟩ := hC
  have fg := oR.flG hN hu
  have rr := (runs_ok hN hu oR).2
  have hi := (List.getElem?_eq_some_iff.mp hr).1
  have h100 := oG.2.2
  have hls : fsR x i + ndT (sgN x r) - 1 = lsR x i := by
    unfold lsR
    rw [ag]
  unfold w_Desk_runEnd w_Desk_endOf
  refine (w_get (by decide)).mpr ?_
  rw [rg_in (by decide) (show i < 100 by omega), show I.1 (62 + 1) i = zi r from r3.2.2.2.1.2 i r hr]
  refine s_now hA.1 hA.2.1 ?_
  rw [← b2]
  refine s_firstOf r2 (by omega) r3.2.1 fg.1 b1 ?_
  rw [b3, zi_int, b2]
  refine (w_get (by decide)).mpr ?_
  rw [rg_in (by decide) (show r < 3400 by omega), show I.1 (31 + 1) r = zi (ndT (sgN x r)) from (r2.2 r a1).2.2.2.1]
  intro v ev
  rw [zi_add, show zi (fsR x i + ndT (sgN x r)) - 1 = zi (fsR x i + ndT (sgN x r) - 1) from zi_sub (b := 1) (by omega), hls] at ev
  subst ev
  have hl100 : lsR x i < (lexL (moG (sgC x))).length := by omega
  have hx : (lexL (moG (sgC x)))[lsR x i]? = some (tkG x (lsR x i)) := by
    unfold tkG
    rw [List.getD_eq_getElem?_getD, List.getElem?_eq_getElem hl100]
    rfl
  refine (w_get (by decide)).mpr ?_
  rw [rg_in (by decide) (show lsR x i < 100 by omega), show I.1 (zmom s + 16 + 1) (lsR x i) = zi (tkG x (lsR x i)).2.1 from hA.2.2.2.2.2.2.2.2.1 _ _ hx]
  refine (w_get (by decide)).mpr ?_
  rw [rg_in (by decide) (show lsR x i < 100 by omega), show I.1 (zmom s + 14 + 1) (lsR x i) = zi (moO (sgC x) (lsR x i)) from hA.2.2.2.2.2.2.2.1 _ hl100]
  obtain ⟨t1, t2⟩ := oR.2.2.2.2.1 _ hl100
  obtain ⟨n1, n2, n3, n4, n5, n6, n7⟩ := r2.2 _ t1
  refine (w_get (by decide)).mpr ?_
  rw [rg_in (by decide) (show moO (sgC x) (lsR x i) < 3400 by omega), show I.1 (35 + 1) (moO (sgC x) (lsR x i)) = zi (tkG x (lsR x i)).2.2 by
    rw [show (35 + 1 : Nat) = 36 from rfl, (n7 (by omega)).1, (oK _ _ hx).2, tkBs_len], zi_add]
  exact hK
/-! edit -/
def editR (x : Sg) (a n : Int32) : Int32 × Sg := if 0 ≤ a ∧ 0 ≤ n ∧ a ≤ zi (moT (sgC x)).length ∧ n ≤ zi (moT (sgC x)).length - a then doC x (seg (moT (sgC x)) 0 a.toNatClampNeg ++ sgT x ++ seg (moT (sgC x)) (a.toNatClampNeg + n.toNatClampNeg) (moT (sgC x)).length) true else (-1, x)
theorem DrX.nil {I : zI} (h : I.1 4 1 = 0) : DrX I [] := ⟨h, fun j hj => by cases hj⟩
theorem s_edit {x : Sg} {a n : Int32} {I : zI} {K : Int32 → zI → Prop} (hv : Iv x) (hR : RX I x) (he : sgE x < 100000) (hK : ∀ J, eqQ Qcl I J → RX J (editR x a n).2 → K (editR x a n).1 J) : w_Desk_edit a n I K := by
  obtain ⟨s, hA⟩ := hR.now
  have zs : zmom s = 113 + 18 * s := rfl
  have hs := hA.1
  have o1 := hv.2.2.2.2.2.2.2.1.1
  have hT200 := hv.1.1
  unfold w_Desk_edit
  refine s_now hA.1 hA.2.1 ?_
  rw [hA.2.2.1]
  unfold editR at hK
  by_cases c1 : a < 0
  · rw [if_pos c1]
    rw [if_neg (fun u => Int32.not_le.mpr c1 u.1)] at hK
    exact hK I eqQ.rf hR
  rw [if_neg c1]
  by_cases c2 : n < 0
  · rw [if_pos c2]
    rw [if_neg (fun u => Int32.not_le.mpr c2 u.2.1)] at hK
    exact hK I eqQ.rf hR
  rw [if_neg c2]
  by_cases c3 : zi (moT (sgC x)).length < a
  · rw [if_pos c3]
    rw [if_neg (fun u => Int32.not_le.mpr c3 u.2.2.1)] at hK
    exact hK I eqQ.rf hR
  rw [if_neg c3]
  by_cases c4 : n ≤ zi (moT (sgC x)).length - a
  · rw [if_pos c4]
    rw [if_pos ⟨Int32.not_lt.mp c1, Int32.not_lt.mp c2, Int32.not_lt.mp c3, c4⟩] at hK
    obtain ⟨an, ha, rfl⟩ := zi_of (Int32.not_lt.mp c1)
    obtain ⟨nn, hn, rfl⟩ := zi_of (Int32.not_lt.mp c2)
    have l300 := o1.1
    have la : an ≤ (moT (sgC x)).length := by
      have := Int32.not_lt.mp c3
      exact (zi_le ha (by omega)).mp this
    rw [zi_sub la] at c4
    have ln : nn ≤ (moT (sgC x)).length - an := (zi_le hn (by omega)).mp c4
    rw [zi_tn ha, zi_tn hn] at hK
    intro I2 e2
    have q2 : eqQ Qap I I2 := by
      rw [e2]
      exact eqQ.rf.zu (Or.inl ⟨rfl, rfl⟩)
    have A2 := hA.ap q2
    refine s_mAppend (a := 0) (d := []) (by omega) (by decide) l300 A2.2.2.txt (Nat.zero_le _) la (by omega) (Nat.zero_le _) (DrX.nil (by rw [e2, zu_self])) (fun I3 q3 D3 => ?_)
    have q3' := q2.tr q3
    have R3 := hR.ap hv q3'
    rw [show I3.1 0 1 = zi (sgT x).length from R3.1.1]
    refine s_mAppend (a := 0) (t := sgT x) (by omega) (by decide) hT200 (fun j hj => R3.1.2 j _ (by rw [List.getElem?_eq_getElem hj, txF_at (List.getElem?_eq_getElem hj)])) (Nat.zero_le _) (Nat.le_refl _) (by omega) (by rw [List.nil_append, seg_len la]; omega) D3 (fun I4 q4 D4 => ?_)
    have q4' := q3'.tr q4
    have A4 := hA.ap q4'
    rw [show I4.1 (zmom s) 1 = zi (moT (sgC x)).length from A4.2.2.1, zi_add]
    have sg0 : seg (sgT x) 0 (sgT x).length = sgT x := by
      unfold seg
      rw [List.drop_zero, Nat.sub_zero, List.take_length]
    rw [List.nil_append, sg0] at D4
    have hl1 : (seg (moT (sgC x)) 0 an ++ sgT x).length = an + (sgT x).length := by rw [List.length_append, seg_len la, Nat.sub_zero]
    refine s_mAppend (t := moT (sgC x)) (by omega) (by decide) l300 A4.2.2.txt (by omega) (Nat.le_refl _) (by omega) (by omega) D4 (fun I5 q5 D5 => ?_)
    have q5' := q4'.tr q5
    have hb : BtL (seg (moT (sgC x)) 0 an ++ sgT x ++ seg (moT (sgC x)) (an + nn) (moT (sgC x)).length) := (((BtL.of o1.2.1).sg).app hv.1.2).app ((BtL.of o1.2.1).sg)
    exact s_doX (bt := true) hv (hR.ap hv q5') hb D5 (by rw [List.length_append, hl1, seg_len (Nat.le_refl _)]; omega) he (fun J qJ rJ => hK J ((Qap_cl q5').tr qJ) rJ)
  · rw [if_neg c4]
    rw [if_neg (fun u => c4 u.2.2.2)] at hK
    exact hK I eqQ.rf hR
/-! cut, twin, swap -/
def isRn (x : Sg) (i : Int32) : Prop := 0 ≤ i ∧ i < zi (runsOf (sgN x) (moR (sgC x))).length
theorem s_hasRun {x : Sg} {i : Int32} {I : zI} {K : Int32 → Prop} (hR : RX I x) (h1 : 0 ≤ i ∧ i < zi (runsOf (sgN x) (moR (sgC x))).length → K 1) (h0 : ¬ (0 ≤ i ∧ i < zi (runsOf (sgN x) (moR (sgC x))).length) → K 0) : w_TreeView_hasRun i I K := by
  unfold w_TreeView_hasRun
  rw [hR.2.2.1.2.2.2.1.1]
  by_cases c1 : i < 0
  · rw [if_pos c1]
    exact h0 (fun u => Int32.not_le.mpr c1 u.1)
  rw [if_neg c1]
  by_cases c2 : zi (runsOf (sgN x) (moR (sgC x))).length ≤ i
  · rw [if_pos c2]
    exact h0 (fun u => Int32.not_lt.mpr c2 u.2)
  · rw [if_neg c2]
    exact h1 ⟨Int32.not_lt.mp c1, Int32.not_le.mp c2⟩
def cutD (x : Sg) (i : Nat) : List Int32 := seg (moT (sgC x)) 0 (rS x i) ++ seg (moT (sgC x)) (rE x i) (moT (sgC x)).length
def twinD (x : Sg) (i : Nat) : List Int32 := seg (moT (sgC x)) 0 (rE x i) ++ seg (moT (sgC x)) (rS x i) (moT (sgC x)).length
def swapD (x : Sg) (i : Nat) : List Int32 := seg (moT (sgC x)) 0 (rS x i) ++ seg (moT (sgC x)) (rS x (i + 1)) (rE x (i + 1)) ++ seg (moT (sgC x)) (rE x i) (rS x (i + 1)) ++ seg (moT (sgC x)) (rS x i) (rE x i) ++ seg (moT (sgC x)) (rE x (i + 1)) (moT (sgC x)).length
def runR (D : Sg → Nat → List Int32) (x : Sg) (i : Int32) : Int32 × Sg := if moB (sgC x) = true ∧ 0 ≤ i ∧ i < zi (runsOf (sgN x) (moR (sgC x))).length then doC x (D x i.toNatClampNeg) false else (-1, x)
def swapR (x : Sg) (i : Int32) : Int32 × Sg := if moB (sgC x) = true ∧ (0 ≤ i ∧ i < zi (runsOf (sgN x) (moR (sgC x))).length) ∧ (0 ≤ i + 1 ∧ i + 1 < zi (runsOf (sgN x) (moR (sgC x))).length) then doC x (swapD x i.toNatClampNeg) false else (-1, x)
theorem s_cut {x : Sg} {i : Int32} {I : zI} {K : Int32 → zI → Prop} (hv : Iv x) (hR : RX I x) (he : sgE x < 100000) (hK : ∀ J, eqQ Qcl I J → RX J (runR cutD x i).2 → K (runR cutD x i).1 J) : w_Desk_cut i I K := by
  obtain ⟨s, hA⟩ := hR.now
  have zs : zmom s = 113 + 18 * s := rfl
  obtain ⟨o1, o2, oB, oR, oK⟩ := hv.2.2.2.2.2.2.2.1
  have l300 := o1.1
  unfold w_Desk_cut
  refine s_now hA.1 hA.2.1 ?_
  rw [hA.2.2.2.2.2.1]
  unfold runR at hK
  cases hb : moB (sgC x) with
  | false =>
    rw [if_pos (show b01 false = 0 by decide)]
    rw [if_neg (fun u => by rw [hb] at u; cases u.1)] at hK
    exact hK I eqQ.rf hR
  | true =>
    rw [if_neg (show ¬ b01 true = 0 by decide)]
    have hTG := oB hb
    refine s_hasRun hR (fun hi => ?_) (fun hi => ?_)
    · rw [if_neg (by decide)]
      rw [if_pos ⟨hb, hi⟩] at hK
      obtain ⟨i', hi', rfl⟩ := zi_of hi.1
      have rr := (runs_ok hv.2.1 hv.2.2.1 oR).2
      have hil := (zi_lt hi' (by omega)).mp hi.2
      rw [zi_tn hi'] at hK
      have hr : (runsOf (sgN x) (moR (sgC x)))[i']? = some ((runsOf (sgN x) (moR (sgC x)))[i']'hil) := List.getElem?_eq_getElem hil
      obtain ⟨-, -, -, -, -, w1, w2, -⟩ := run_ok hv hr
      rw [← hTG] at w2
      intro I3 e3
      have q3 : eqQ Qap I I3 := by
        rw [e3]
        exact eqQ.rf.zu (Or.inl ⟨rfl, rfl⟩)
      refine s_runStart hv (hR.ap hv q3) (hA.ap q3) hr ?_
      refine s_mAppend (a := 0) (d := []) (by omega) (by decide) l300 (hA.ap q3).2.2.txt (Nat.zero_le _) (by omega) (by omega) (Nat.zero_le _) (DrX.nil (by rw [e3, zu_self])) (fun I5 q5 D5 => ?_)
      have q5' := q3.tr q5
      refine s_runEnd hv (hR.ap hv q5') (hA.ap q5') hr ?_
      rw [(hA.ap q5').2.2.1]
      rw [List.nil_append] at D5
      refine s_mAppend (by omega) (by decide) l300 (hA.ap q5').2.2.txt w2 (Nat.le_refl _) (by omega) (by rw [seg_len (by omega)]; omega) D5 (fun I7 q7 D7 => ?_)
      have q7' := q5'.tr q7
      exact s_doX (bt := false) (d := cutD x i') hv (hR.ap hv q7') (((BtL.of o1.2.1).sg).app ((BtL.of o1.2.1).sg)) D7 (by unfold cutD; rw [List.length_append, seg_len (by omega), seg_len (by omega)]; omega) he (fun J qJ rJ => hK J ((Qap_cl q7').tr qJ) rJ)
    · rw [if_pos rfl]
      rw [if_neg (fun u => hi u.2)] at hK
      exact hK I eqQ.rf hR
theorem s_twin {x : Sg} {i : Int32} {I : zI} {K : Int32 → zI → Prop} (hv : Iv x) (hR : RX I x) (he : sgE x < 100000) (hK : ∀ J, eqQ Qcl I J → RX J (runR twinD x i).2 → K (runR twinD x i).1 J) : w_Desk_twin i I K := by
  obtain ⟨s, hA⟩ := hR.now
  have zs : zmom s = 113 + 18 * s := rfl
  obtain ⟨o1, o2, oB, oR, oK⟩ := hv.2.2.2.2.2.2.2.1
  have l300 := o1.1
  unfold w_Desk_twin
  refine s_now hA.1 hA.2.1 ?_
  rw [hA.2.2.2.2.2.1]
  unfold runR at hK
  cases hb : moB (sgC x) with
  | false =>
    rw [if_pos (show b01 false = 0 by decide)]
    rw [if_neg (fun u => by rw [hb] at u; cases u.1)] at hK
    exact hK I eqQ.rf hR
  | true =>
    rw [if_neg (show ¬ b01 true = 0 by decide)]
    have hTG := oB hb
    refine s_hasRun hR (fun hi => ?_) (fun hi => ?_)
    · rw [if_neg (by decide)]
      rw [if_pos ⟨hb, hi⟩] at hK
      obtain ⟨i', hi', rfl⟩ := zi_of hi.1
      have rr := (runs_ok hv.2.1 hv.2.2.1 oR).2
      have hil := (zi_lt hi' (by omega)).mp hi.2
      rw [zi_tn hi'] at hK
      have hr : (runsOf (sgN x) (moR (sgC x)))[i']? = some ((runsOf (sgN x) (moR (sgC x)))[i']'hil) := List.getElem?_eq_getElem hil
      obtain ⟨-, -, -, -, -, w1, w2, -⟩ := run_ok hv hr
      rw [← hTG] at w2
      intro I3 e3
      have q3 : eqQ Qap I I3 := by
        rw [e3]
        exact eqQ.rf.zu (Or.inl ⟨rfl, rfl⟩)
      refine s_runEnd hv (hR.ap hv q3) (hA.ap q3) hr ?_
      refine s_mAppend (a := 0) (d := []) (by omega) (by decide) l300 (hA.ap q3).2.2.txt (Nat.zero_le _) (by omega) (by omega) (Nat.zero_le _) (DrX.nil (by rw [e3, zu_self])) (fun I5 q5 D5 => ?_)
      have q5' := q3.tr q5
      refine s_runStart hv (hR.ap hv q5') (hA.ap q5') hr ?_
      rw [(hA.ap q5').2.2.1]
      rw [List.nil_append] at D5
      refine s_mAppend (by omega) (by decide) l300 (hA.ap q5').2.2.txt (by omega) (Nat.le_refl _) (by omega) (by rw [seg_len (by omega)]; omega) D5 (fun I7 q7 D7 => ?_)
      have q7' := q5'.tr q7
      exact s_doX (bt := false) (d := twinD x i') hv (hR.ap hv q7') (((BtL.of o1.2.1).sg).app ((BtL.of o1.2.1).sg)) D7 (by unfold twinD; rw [List.length_append, seg_len (by omega), seg_len (by omega)]; omega) he (fun J qJ rJ => hK J ((Qap_cl q7').tr qJ) rJ)
    · rw [if_pos rfl]
      rw [if_neg (fun u => hi u.2)] at hK
      exact hK I eqQ.rf hR
theorem s_swap {x : Sg} {i : Int32} {I : zI} {K : Int32 → zI → Prop} (hv : Iv x) (hR : RX I x) (he : sgE x < 100000) (hK : ∀ J, eqQ Qcl I J → RX J (swapR x i).2 → K (swapR x i).1 J) : w_Desk_swap i I K := by
  obtain ⟨s, hA⟩ := hR.now
  have zs : zmom s = 113 + 18 * s := rfl
  obtain ⟨o1, o2, oB, oR, oK⟩ := hv.2.2.2.2.2.2.2.1
  have l300 := o1.1
  unfold w_Desk_swap
  refine s_now hA.1 hA.2.1 ?_
  rw [hA.2.2.2.2.2.1]
  unfold swapR at hK
  cases hb : moB (sgC x) with
  | false =>
    rw [if_pos (show b01 false = 0 by decide)]
    rw [if_neg (fun u => by rw [hb] at u; cases u.1)] at hK
    exact hK I eqQ.rf hR
  | true =>
    rw [if_neg (show ¬ b01 true = 0 by decide)]
    have hTG := oB hb
    refine s_hasRun hR (fun hi => ?_) (fun hi => ?_)
    · rw [if_neg (by decide)]
      refine s_hasRun hR (fun hi2 => ?_) (fun hi2 => ?_)
      · rw [if_neg (by decide)]
        rw [if_pos ⟨hb, hi, hi2⟩] at hK
        obtain ⟨i', hi', rfl⟩ := zi_of hi.1
        have rr := (runs_ok hv.2.1 hv.2.2.1 oR).2
        have hil := (zi_lt hi' (by omega)).mp hi.2
        rw [zi_succ] at hi2 ⊢
        have hil2 := (zi_lt (by omega) (by omega)).mp hi2.2
        rw [zi_tn hi'] at hK
        have hr : (runsOf (sgN x) (moR (sgC x)))[i']? = some ((runsOf (sgN x) (moR (sgC x)))[i']'hil) := List.getElem?_eq_getElem hil
        have hr2 : (runsOf (sgN x) (moR (sgC x)))[i' + 1]? = some ((runsOf (sgN x) (moR (sgC x)))[i' + 1]'hil2) := List.getElem?_eq_getElem hil2
        obtain ⟨-, -, -, -, -, w1, w2, w3⟩ := run_ok hv hr
        obtain ⟨-, -, -, -, -, y1, y2, -⟩ := run_ok hv hr2
        have w3 := w3 (by rw [hr2]; exact Option.some_ne_none _)
        rw [← hTG] at w2 y2
        intro I4 e4
        have q4 : eqQ Qap I I4 := by
          rw [e4]
          exact eqQ.rf.zu (Or.inl ⟨rfl, rfl⟩)
        have bt := BtL.of o1.2.1
        refine s_runStart hv (hR.ap hv q4) (hA.ap q4) hr ?_
        refine s_mAppend (a := 0) (d := []) (by omega) (by decide) l300 (hA.ap q4).2.2.txt (Nat.zero_le _) (by omega) (by omega) (Nat.zero_le _) (DrX.nil (by rw [e4, zu_self])) (fun I6 q6 D6 => ?_)
        have q6' := q4.tr q6
        rw [List.nil_append] at D6
        refine s_runStart hv (hR.ap hv q6') (hA.ap q6') hr2 (s_runEnd hv (hR.ap hv q6') (hA.ap q6') hr2 ?_)
        refine s_mAppend (by omega) (by decide) l300 (hA.ap q6').2.2.txt y1 (by omega) (by omega) (by rw [seg_len (by omega)]; omega) D6 (fun I9 q9 D9 => ?_)
        have q9' := q6'.tr q9
        refine s_runEnd hv (hR.ap hv q9') (hA.ap q9') hr (s_runStart hv (hR.ap hv q9') (hA.ap q9') hr2 ?_)
        refine s_mAppend (by omega) (by decide) l300 (hA.ap q9').2.2.txt w3 (by omega) (by omega) (by rw [List.length_append, seg_len (by omega), seg_len (by omega)]; omega) D9 (fun I12 q12 D12 => ?_)
        have q12' := q9'.tr q12
        refine s_runStart hv (hR.ap hv q12') (hA.ap q12') hr (s_runEnd hv (hR.ap hv q12') (hA.ap q12') hr ?_)
        refine s_mAppend (by omega) (by decide) l300 (hA.ap q12').2.2.txt w1 (by omega) (by omega) (by rw [List.length_append, List.length_append, seg_len (by omega), seg_len (by omega), seg_len (by omega)]; omega) D12 (fun I15 q15 D15 => ?_)
        have q15' := q12'.tr q15
        refine s_runEnd hv (hR.ap hv q15') (hA.ap q15') hr2 ?_
        rw [(hA.ap q15').2.2.1]
        refine s_mAppend (by omega) (by decide) l300 (hA.ap q15').2.2.txt y2 (Nat.le_refl _) (by omega) (by rw [List.length_append, List.length_append, List.length_append, seg_len (by omega), seg_len (by omega), seg_len (by omega), seg_len (by omega)]; omega) D15 (fun I17 q17 D17 => ?_)
        have q17' := q15'.tr q17
        exact s_doX (bt := false) (d := swapD x i') hv (hR.ap hv q17') ((((bt.sg).app bt.sg).app bt.sg).app bt.sg |>.app bt.sg) D17 (by unfold swapD; rw [List.length_append, List.length_append, List.length_append, List.length_append, seg_len (by omega), seg_len (by omega), seg_len (by omega), seg_len (by omega), seg_len (by omega)]; omega) he (fun J qJ rJ => hK J ((Qap_cl q17').tr qJ) rJ)
      · rw [if_pos rfl]
        rw [if_neg (fun u => hi2 u.2.2)] at hK
        exact hK I eqQ.rf hR
    · rw [if_pos rfl]
      rw [if_neg (fun u => hi u.2.1)] at hK
      exact hK I eqQ.rf hR
