/-! ===== what each change makes; the class ===== -/
def doC (x : Sg) (d : List Int32) (bt : Bool) : Int32 × Sg := if 300 < d.length ∨ 3000 ≤ sgM x ∨ 3900 ≤ (sgP x).length ∨ 100 < (lexL d).length then (-1, x) else
  ((if (regY x d).1 + 1 = (lexL d).length ∧ topS (regY x d).2.2.2.1 = 1 then 0 else 1), chg x d (if bt = true then [] else sgT x))
def BtL (l : List Int32) : Prop := ∀ b ∈ l, byt b
theorem BtL.at {l : List Int32} (h : BtL l) : ∀ j, j < l.length → byt (txF l j) := fun j hj => by
  rw [txF_at (List.getElem?_eq_getElem hj)]
  exact h _ (List.getElem_mem hj)
theorem BtL.of {l : List Int32} (h : ∀ j, j < l.length → byt (txF l j)) : BtL l := fun b hb => by
  obtain ⟨j, hj⟩ := List.mem_iff_getElem?.mp hb
  have := h j (List.getElem?_eq_some_iff.mp hj).1
  rw [txF_at hj] at this
  exact this
theorem BtL.app {l m : List Int32} (h : BtL l) (h2 : BtL m) : BtL (l ++ m) := fun b hb => by
  rcases List.mem_append.mp hb with hb | hb
  · exact h b hb
  · exact h2 b hb
theorem BtL.sg {l : List Int32} {a b : Nat} (h : BtL l) : BtL (seg l a b) := fun c hc => h c (List.mem_of_mem_drop (List.mem_of_mem_take hc))
theorem doC_iv {x : Sg} {d : List Int32} {bt : Bool} (hv : Iv x) (hd : BtL d) (he : sgE x < 512) : Iv (doC x d bt).2 ∧ sgE (doC x d bt).2 ≤ sgE x + 1 := by
  unfold doC
  by_cases u : 300 < d.length ∨ 3000 ≤ sgM x ∨ 3900 ≤ (sgP x).length ∨ 100 < (lexL d).length
  · rw [if_pos u]
    exact ⟨hv, Nat.le_succ _⟩
  · rw [if_neg u]
    refine ⟨chg_ok hv ⟨by omega, hd.at, by omega⟩ u ?_ he, Nat.le_refl _⟩
    by_cases ub : bt = true
    · rw [if_pos ub]
      exact ⟨Nat.zero_le _, fun b hb => by cases hb⟩
    · rw [if_neg ub]
      exact hv.1
theorem s_doX {x : Sg} {d : List Int32} {bt : Bool} {I : zI} {K : Int32 → zI → Prop} (hv : Iv x) (hR : RX I x) (hd : BtL d) (hD : DrX I d) (hdl : d.length < 100000) (he : sgE x < 512) (hK : ∀ J, eqQ Qcl I J → RX J (doC x d bt).2 → K (doC x d bt).1 J) : w_Desk_change (b01 bt) I K := by
  unfold doC at hK
  refine s_change hv hR hd.at hD.1 (fun h300 j hj => hD.2 j hj (by omega)) hdl he (fun hr J q r => ?_) (fun hr J q r => ?_)
  · rw [if_pos (show 300 < d.length ∨ 3000 ≤ sgM x ∨ 3900 ≤ (sgP x).length ∨ 100 < (lexL d).length from hr)] at hK
    exact hK J q r
  · rw [if_neg (show ¬ (300 < d.length ∨ 3000 ≤ sgM x ∨ 3900 ≤ (sgP x).length ∨ 100 < (lexL d).length) from hr)] at hK
    exact hK J q r
/-! its moment that is now -/
def AtX (I : zI) (x : Sg) (s : Nat) : Prop := s < 21 ∧ I.1 0 4 = zi s ∧ MoX I (zmom s) (sgC x)
theorem RX.now {I : zI} {x : Sg} (h : RX I x) : ∃ s, AtX I x s := by
  obtain ⟨-, -, -, -, -, -, -, s, hs, s4, sC, -⟩ := h
  exact ⟨s, hs, s4, sC⟩
theorem RX.ap {I J : zI} {x : Sg} (hv : Iv x) (h : RX I x) (q : eqQ Qap I J) : RX J x := h.kp hv (fun a j u => q.1 a j (by unfold Qap; omega))
theorem AtX.ap {I J : zI} {x : Sg} {s : Nat} (h : AtX I x s) (q : eqQ Qap I J) : AtX J x s :=
  ⟨h.1, by rw [q.1 _ _ (by unfold Qap; omega)]; exact h.2.1, h.2.2.kp (fun a j u1 u2 => q.1 a j (by have : zmom s = 113 + 18 * s := rfl; unfold Qap; omega))⟩
theorem Qap_cl {I J : zI} (q : eqQ Qap I J) : eqQ Qcl I J := q.mono (fun a j h => by unfold Qap at h; unfold Qcl; omega)
theorem MoX.txt {I : zI} {k : Nat} {c : Mo} (h : MoX I k c) : ∀ j, j < (moT c).length → I.1 (k + 1 + 1) j = txF (moT c) j := fun j hj => h.2.1 j hj
theorem s_runStart {x : Sg} {i r s : Nat} {I : zI} {K : Int32 → Prop} (hv : Iv x) (hR : RX I x) (hA : AtX I x s) (hr : (runsOf (sgN x) (moR (sgC x)))[i]? = some r) (hK : K (zi (rS x i))) : w_Desk_runStart (zi i) I K := by
  obtain ⟨r1, r2, r3, -⟩ := hR
  obtain ⟨a1, a2, a3, -, ⟨p, y, b1, b2, b3⟩, -⟩ := run_ok hv hr
  obtain ⟨hTp, hN, hu, hm, hTk, hP, hE, hC, hA', hZ, hAZ⟩ := hv
  obtain ⟨oT, oG, oB, oR, oK⟩ := hC
  have fg := oR.flG hN hu
  have rr := (runs_ok hN hu oR).2
  have hi := (List.getElem?_eq_some_iff.mp hr).1
  have h100 := oG.2.2
  unfold w_Desk_runStart w_Desk_startOf
  refine (w_get (by decide)).mpr ?_
  rw [rg_in (by decide) (show i < 100 by omega), show I.1 (62 + 1) i = zi r from r3.2.2.2.1.2 i r hr]
  refine s_now hA.1 hA.2.1 ?_
  rw [← b2]
  refine s_firstOf r2 (by omega) r3.2.1 fg.1 b1 ?_
  rw [b3, zi_int]
  refine (w_get (by decide)).mpr ?_
  have hx : (lexL (moG (sgC x)))[fsR x i]? = some (tkG x (fsR x i)) := by
    unfold tkG
    rw [List.getD_eq_getElem?_getD, List.getElem?_eq_getElem (by omega)]
    rfl
  rw [rg_in (by decide) (show fsR x i < 100 by omega), show I.1 (zmom s + 16 + 1) (fsR x i) = zi (tkG x (fsR x i)).2.1 from hA.2.2.2.2.2.2.2.2.1 _ _ hx]
  exact hK
theorem s_runEnd {x : Sg} {i r s : Nat} {I : zI} {K : Int32 → Prop} (hv : Iv x) (hR : RX I x) (hA : AtX I x s) (hr : (runsOf (sgN x) (moR (sgC x)))[i]? = some r) (hK : K (zi (rE x i))) : w_Desk_runEnd (zi i) I K := by
  obtain ⟨r1, r2, r3, -⟩ := hR
  obtain ⟨a1, a2, a3, ag, ⟨p, y, b1, b2, b3⟩, -⟩ := run_ok hv hr
  obtain ⟨hTp, hN, hu, hm, hTk, hP, hE, hC, hA', hZ, hAZ⟩ := hv
  obtain ⟨oT, oG, oB, oR, oK⟩ := hC
  have fg := oR.flG hN hu
  have rr := (runs_ok hN hu oR).2
  have hi := (List.getElem?_eq_some_iff.mp hr).1
  have h100 := oG.2.2
  have hls : fsR x i + ndT (sgN x r) - 1 = lsR x i := by
    unfold lsR
    rw [ag]
  unfold w_Desk_runEnd w_Desk_endOf
  refine (w_get (by decide)).mpr ?_
  rw [rg_in (by decide) (show i < 100 by omega), show I.1 (62 + 1) i = zi r from r3.2.2.2.1.2 i r hr]
  refine s_now hA.1 hA.2.1 ?_
  rw [← b2]
  refine s_firstOf r2 (by omega) r3.2.1 fg.1 b1 ?_
  rw [b3, zi_int, b2]
  refine (w_get (by decide)).mpr ?_
  rw [rg_in (by decide) (show r < 3400 by omega), show I.1 (31 + 1) r = zi (ndT (sgN x r)) from (r2.2 r a1).2.2.2.1]
  intro v ev
  rw [zi_add, show zi (fsR x i + ndT (sgN x r)) - 1 = zi (fsR x i + ndT (sgN x r) - 1) from zi_sub (b := 1) (by omega), hls] at ev
  subst ev
  have hl100 : lsR x i < (lexL (moG (sgC x))).length := by omega
  have hx : (lexL (moG (sgC x)))[lsR x i]? = some (tkG x (lsR x i)) := by
    unfold tkG
    rw [List.getD_eq_getElem?_getD, List.getElem?_eq_getElem hl100]
    rfl
  refine (w_get (by decide)).mpr ?_
  rw [rg_in (by decide) (show lsR x i < 100 by omega), show I.1 (zmom s + 16 + 1) (lsR x i) = zi (tkG x (lsR x i)).2.1 from hA.2.2.2.2.2.2.2.2.1 _ _ hx]
  refine (w_get (by decide)).mpr ?_
  rw [rg_in (by decide) (show lsR x i < 100 by omega), show I.1 (zmom s + 14 + 1) (lsR x i) = zi (moO (sgC x) (lsR x i)) from hA.2.2.2.2.2.2.2.1 _ hl100]
  obtain ⟨t1, t2⟩ := oR.2.2.2.2.1 _ hl100
  obtain ⟨n1, n2, n3, n4, n5, n6, n7⟩ := r2.2 _ t1
  refine (w_get (by decide)).mpr ?_
  rw [rg_in (by decide) (show moO (sgC x) (lsR x i) < 3400 by omega), show I.1 (35 + 1) (moO (sgC x) (lsR x i)) = zi (tkG x (lsR x i)).2.2 by
    rw [show (35 + 1 : Nat) = 36 from rfl, (n7 (by omega)).1, (oK _ _ hx).2, tkBs_len], zi_add]
  exact hK
/-! edit -/
def editR (x : Sg) (a n : Int32) : Int32 × Sg := if 0 ≤ a ∧ 0 ≤ n ∧ a ≤ zi (moT (sgC x)).length ∧ n ≤ zi (moT (sgC x)).length - a then doC x (seg (moT (sgC x)) 0 a.toNatClampNeg ++ sgT x ++ seg (moT (sgC x)) (a.toNatClampNeg + n.toNatClampNeg) (moT (sgC x)).length) true else (-1, x)
theorem DrX.nil {I : zI} (h : I.1 4 1 = 0) : DrX I [] := ⟨h, fun j hj => by cases hj⟩
theorem s_edit {x : Sg} {a n : Int32} {I : zI} {K : Int32 → zI → Prop} (hv : Iv x) (hR : RX I x) (he : sgE x < 512) (hK : ∀ J, eqQ Qcl I J → RX J (editR x a n).2 → K (editR x a n).1 J) : w_Desk_edit a n I K := by
  obtain ⟨s, hA⟩ := hR.now
  have zs : zmom s = 113 + 18 * s := rfl
  have hs := hA.1
  have o1 := hv.2.2.2.2.2.2.2.1.1
  have hT200 := hv.1.1
  unfold w_Desk_edit
  refine s_now hA.1 hA.2.1 ?_
  rw [hA.2.2.1]
  unfold editR at hK
  by_cases c1 : a < 0
  · rw [if_pos c1]
    rw [if_neg (fun u => Int32.not_le.mpr c1 u.1)] at hK
    exact hK I eqQ.rf hR
  rw [if_neg c1]
  by_cases c2 : n < 0
  · rw [if_pos c2]
    rw [if_neg (fun u => Int32.not_le.mpr c2 u.2.1)] at hK
    exact hK I eqQ.rf hR
  rw [if_neg c2]
  by_cases c3 : zi (moT (sgC x)).length < a
  · rw [if_pos c3]
    rw [if_neg (fun u => Int32.not_le.mpr c3 u.2.2.1)] at hK
    exact hK I eqQ.rf hR
  rw [if_neg c3]
  by_cases c4 : n ≤ zi (moT (sgC x)).length - a
  · rw [if_pos c4]
    rw [if_pos ⟨Int32.not_lt.mp c1, Int32.not_lt.mp c2, Int32.not_lt.mp c3, c4⟩] at hK
    obtain ⟨an, ha, rfl⟩ := zi_of (Int32.not_lt.mp c1)
    obtain ⟨nn, hn, rfl⟩ := zi_of (Int32.not_lt.mp c2)
    have l300 := o1.1
    have la : an ≤ (moT (sgC x)).length := by
      have := Int32.not_lt.mp c3
      exact (zi_le ha (by omega)).mp this
    rw [zi_sub la] at c4
    have ln : nn ≤ (moT (sgC x)).length - an := (zi_le hn (by omega)).mp c4
    rw [zi_tn ha, zi_tn hn] at hK
    intro I2 e2
    have q2 : eqQ Qap I I2 := by
      rw [e2]
      exact eqQ.rf.zu (Or.inl ⟨rfl, rfl⟩)
    have A2 := hA.ap q2
    refine s_mAppend (a := 0) (d := []) (by omega) (by decide) l300 A2.2.2.txt (Nat.zero_le _) la (by omega) (Nat.zero_le _) (DrX.nil (by rw [e2, zu_self])) (fun I3 q3 D3 => ?_)
    have q3' := q2.tr q3
    have R3 := hR.ap hv q3'
    rw [show I3.1 0 1 = zi (sgT x).length from R3.1.1]
    refine s_mAppend (a := 0) (t := sgT x) (by omega) (by decide) hT200 (fun j hj => R3.1.2 j _ (by rw [List.getElem?_eq_getElem hj, txF_at (List.getElem?_eq_getElem hj)])) (Nat.zero_le _) (Nat.le_refl _) (by omega) (by rw [List.nil_append, seg_len la]; omega) D3 (fun I4 q4 D4 => ?_)
    have q4' := q3'.tr q4
    have A4 := hA.ap q4'
    rw [show I4.1 (zmom s) 1 = zi (moT (sgC x)).length from A4.2.2.1, zi_add]
    have sg0 : seg (sgT x) 0 (sgT x).length = sgT x := by
      unfold seg
      rw [List.drop_zero, Nat.sub_zero, List.take_length]
    rw [List.nil_append, sg0] at D4
    have hl1 : (seg (moT (sgC x)) 0 an ++ sgT x).length = an + (sgT x).length := by rw [List.length_append, seg_len la, Nat.sub_zero]
    refine s_mAppend (t := moT (sgC x)) (by omega) (by decide) l300 A4.2.2.txt (by omega) (Nat.le_refl _) (by omega) (by omega) D4 (fun I5 q5 D5 => ?_)
    have q5' := q4'.tr q5
    have hb : BtL (seg (moT (sgC x)) 0 an ++ sgT x ++ seg (moT (sgC x)) (an + nn) (moT (sgC x)).length) := (((BtL.of o1.2.1).sg).app hv.1.2).app ((BtL.of o1.2.1).sg)
    exact s_doX (bt := true) hv (hR.ap hv q5') hb D5 (by rw [List.length_append, hl1, seg_len (Nat.le_refl _)]; omega) he (fun J qJ rJ => hK J ((Qap_cl q5').tr qJ) rJ)
  · rw [if_neg c4]
    rw [if_neg (fun u => c4 u.2.2.2)] at hK
    exact hK I eqQ.rf hR
/-! cut, twin, swap -/
theorem s_hasRun {x : Sg} {i : Int32} {I : zI} {K : Int32 → Prop} (hR : RX I x) (h1 : 0 ≤ i ∧ i < zi (runsOf (sgN x) (moR (sgC x))).length → K 1) (h0 : ¬ (0 ≤ i ∧ i < zi (runsOf (sgN x) (moR (sgC x))).length) → K 0) : w_TreeView_hasRun i I K := by
  unfold w_TreeView_hasRun
  rw [hR.2.2.1.2.2.2.1.1]
  by_cases c1 : i < 0
  · rw [if_pos c1]
    exact h0 (fun u => Int32.not_le.mpr c1 u.1)
  rw [if_neg c1]
  by_cases c2 : zi (runsOf (sgN x) (moR (sgC x))).length ≤ i
  · rw [if_pos c2]
    exact h0 (fun u => Int32.not_lt.mpr c2 u.2)
  · rw [if_neg c2]
    exact h1 ⟨Int32.not_lt.mp c1, Int32.not_le.mp c2⟩
def cutD (x : Sg) (i : Nat) : List Int32 := seg (moT (sgC x)) 0 (rS x i) ++ seg (moT (sgC x)) (rE x i) (moT (sgC x)).length
def twinD (x : Sg) (i : Nat) : List Int32 := seg (moT (sgC x)) 0 (rE x i) ++ seg (moT (sgC x)) (rS x i) (moT (sgC x)).length
def swapD (x : Sg) (i : Nat) : List Int32 := seg (moT (sgC x)) 0 (rS x i) ++ seg (moT (sgC x)) (rS x (i + 1)) (rE x (i + 1)) ++ seg (moT (sgC x)) (rE x i) (rS x (i + 1)) ++ seg (moT (sgC x)) (rS x i) (rE x i) ++ seg (moT (sgC x)) (rE x (i + 1)) (moT (sgC x)).length
def runR (D : Sg → Nat → List Int32) (x : Sg) (i : Int32) : Int32 × Sg := if moB (sgC x) = true ∧ 0 ≤ i ∧ i < zi (runsOf (sgN x) (moR (sgC x))).length then doC x (D x i.toNatClampNeg) false else (-1, x)
def swapR (x : Sg) (i : Int32) : Int32 × Sg := if moB (sgC x) = true ∧ (0 ≤ i ∧ i < zi (runsOf (sgN x) (moR (sgC x))).length) ∧ (0 ≤ i + 1 ∧ i + 1 < zi (runsOf (sgN x) (moR (sgC x))).length) then doC x (swapD x i.toNatClampNeg) false else (-1, x)
theorem s_cut {x : Sg} {i : Int32} {I : zI} {K : Int32 → zI → Prop} (hv : Iv x) (hR : RX I x) (he : sgE x < 512) (hK : ∀ J, eqQ Qcl I J → RX J (runR cutD x i).2 → K (runR cutD x i).1 J) : w_Desk_cut i I K := by
  obtain ⟨s, hA⟩ := hR.now
  have zs : zmom s = 113 + 18 * s := rfl
  obtain ⟨o1, o2, oB, oR, oK⟩ := hv.2.2.2.2.2.2.2.1
  have l300 := o1.1
  unfold w_Desk_cut
  refine s_now hA.1 hA.2.1 ?_
  rw [hA.2.2.2.2.2.1]
  unfold runR at hK
  cases hb : moB (sgC x) with
  | false =>
    rw [if_pos (show b01 false = 0 by decide)]
    rw [if_neg (fun u => by rw [hb] at u; cases u.1)] at hK
    exact hK I eqQ.rf hR
  | true =>
    rw [if_neg (show ¬ b01 true = 0 by decide)]
    have hTG := oB hb
    refine s_hasRun hR (fun hi => ?_) (fun hi => ?_)
    · rw [if_neg (by decide)]
      rw [if_pos ⟨hb, hi⟩] at hK
      obtain ⟨i', hi', rfl⟩ := zi_of hi.1
      have rr := (runs_ok hv.2.1 hv.2.2.1 oR).2
      have hil := (zi_lt hi' (by omega)).mp hi.2
      rw [zi_tn hi'] at hK
      have hr : (runsOf (sgN x) (moR (sgC x)))[i']? = some ((runsOf (sgN x) (moR (sgC x)))[i']'hil) := List.getElem?_eq_getElem hil
      obtain ⟨-, -, -, -, -, w1, w2, -⟩ := run_ok hv hr
      rw [← hTG] at w2
      intro I3 e3
      have q3 : eqQ Qap I I3 := by
        rw [e3]
        exact eqQ.rf.zu (Or.inl ⟨rfl, rfl⟩)
      refine s_runStart hv (hR.ap hv q3) (hA.ap q3) hr ?_
      refine s_mAppend (a := 0) (d := []) (by omega) (by decide) l300 (hA.ap q3).2.2.txt (Nat.zero_le _) (by omega) (by omega) (Nat.zero_le _) (DrX.nil (by rw [e3, zu_self])) (fun I5 q5 D5 => ?_)
      have q5' := q3.tr q5
      refine s_runEnd hv (hR.ap hv q5') (hA.ap q5') hr ?_
      rw [(hA.ap q5').2.2.1]
      rw [List.nil_append] at D5
      refine s_mAppend (by omega) (by decide) l300 (hA.ap q5').2.2.txt w2 (Nat.le_refl _) (by omega) (by rw [seg_len (by omega)]; omega) D5 (fun I7 q7 D7 => ?_)
      have q7' := q5'.tr q7
      exact s_doX (bt := false) (d := cutD x i') hv (hR.ap hv q7') (((BtL.of o1.2.1).sg).app ((BtL.of o1.2.1).sg)) D7 (by unfold cutD; rw [List.length_append, seg_len (by omega), seg_len (by omega)]; omega) he (fun J qJ rJ => hK J ((Qap_cl q7').tr qJ) rJ)
    · rw [if_pos rfl]
      rw [if_neg (fun u => hi u.2)] at hK
      exact hK I eqQ.rf hR
theorem s_twin {x : Sg} {i : Int32} {I : zI} {K : Int32 → zI → Prop} (hv : Iv x) (hR : RX I x) (he : sgE x < 512) (hK : ∀ J, eqQ Qcl I J → RX J (runR twinD x i).2 → K (runR twinD x i).1 J) : w_Desk_twin i I K := by
  obtain ⟨s, hA⟩ := hR.now
  have zs : zmom s = 113 + 18 * s := rfl
  obtain ⟨o1, o2, oB, oR, oK⟩ := hv.2.2.2.2.2.2.2.1
  have l300 := o1.1
  unfold w_Desk_twin
  refine s_now hA.1 hA.2.1 ?_
  rw [hA.2.2.2.2.2.1]
  unfold runR at hK
  cases hb : moB (sgC x) with
  | false =>
    rw [if_pos (show b01 false = 0 by decide)]
    rw [if_neg (fun u => by rw [hb] at u; cases u.1)] at hK
    exact hK I eqQ.rf hR
  | true =>
    rw [if_neg (show ¬ b01 true = 0 by decide)]
    have hTG := oB hb
    refine s_hasRun hR (fun hi => ?_) (fun hi => ?_)
    · rw [if_neg (by decide)]
      rw [if_pos ⟨hb, hi⟩] at hK
      obtain ⟨i', hi', rfl⟩ := zi_of hi.1
      have rr := (runs_ok hv.2.1 hv.2.2.1 oR).2
      have hil := (zi_lt hi' (by omega)).mp hi.2
      rw [zi_tn hi'] at hK
      have hr : (runsOf (sgN x) (moR (sgC x)))[i']? = some ((runsOf (sgN x) (moR (sgC x)))[i']'hil) := List.getElem?_eq_getElem hil
      obtain ⟨-, -, -, -, -, w1, w2, -⟩ := run_ok hv hr
      rw [← hTG] at w2
      intro I3 e3
      have q3 : eqQ Qap I I3 := by
        rw [e3]
        exact eqQ.rf.zu (Or.inl ⟨rfl, rfl⟩)
      refine s_runEnd hv (hR.ap hv q3) (hA.ap q3) hr ?_
      refine s_mAppend (a := 0) (d := []) (by omega) (by decide) l300 (hA.ap q3).2.2.txt (Nat.zero_le _) (by omega) (by omega) (Nat.zero_le _) (DrX.nil (by rw [e3, zu_self])) (fun I5 q5 D5 => ?_)
      have q5' := q3.tr q5
      refine s_runStart hv (hR.ap hv q5') (hA.ap q5') hr ?_
      rw [(hA.ap q5').2.2.1]
      rw [List.nil_append] at D5
      refine s_mAppend (by omega) (by decide) l300 (hA.ap q5').2.2.txt (by omega) (Nat.le_refl _) (by omega) (by rw [seg_len (by omega)]; omega) D5 (fun I7 q7 D7 => ?_)
      have q7' := q5'.tr q7
      exact s_doX (bt := false) (d := twinD x i') hv (hR.ap hv q7') (((BtL.of o1.2.1).sg).app ((BtL.of o1.2.1).sg)) D7 (by unfold twinD; rw [List.length_append, seg_len (by omega), seg_len (by omega)]; omega) he (fun J qJ rJ => hK J ((Qap_cl q7').tr qJ) rJ)
    · rw [if_pos rfl]
      rw [if_neg (fun u => hi u.2)] at hK
      exact hK I eqQ.rf hR
theorem s_swap {x : Sg} {i : Int32} {I : zI} {K : Int32 → zI → Prop} (hv : Iv x) (hR : RX I x) (he : sgE x < 512) (hK : ∀ J, eqQ Qcl I J → RX J (swapR x i).2 → K (swapR x i).1 J) : w_Desk_swap i I K := by
  obtain ⟨s, hA⟩ := hR.now
  have zs : zmom s = 113 + 18 * s := rfl
  obtain ⟨o1, o2, oB, oR, oK⟩ := hv.2.2.2.2.2.2.2.1
  have l300 := o1.1
  unfold w_Desk_swap
  refine s_now hA.1 hA.2.1 ?_
  rw [hA.2.2.2.2.2.1]
  unfold swapR at hK
  cases hb : moB (sgC x) with
  | false =>
    rw [if_pos (show b01 false = 0 by decide)]
    rw [if_neg (fun u => by rw [hb] at u; cases u.1)] at hK
    exact hK I eqQ.rf hR
  | true =>
    rw [if_neg (show ¬ b01 true = 0 by decide)]
    have hTG := oB hb
    refine s_hasRun hR (fun hi => ?_) (fun hi => ?_)
    · rw [if_neg (by decide)]
      refine s_hasRun hR (fun hi2 => ?_) (fun hi2 => ?_)
      · rw [if_neg (by decide)]
        rw [if_pos ⟨hb, hi, hi2⟩] at hK
        obtain ⟨i', hi', rfl⟩ := zi_of hi.1
        have rr := (runs_ok hv.2.1 hv.2.2.1 oR).2
        have hil := (zi_lt hi' (by omega)).mp hi.2
        rw [zi_succ] at hi2 ⊢
        have hil2 := (zi_lt (by omega) (by omega)).mp hi2.2
        rw [zi_tn hi'] at hK
        have hr : (runsOf (sgN x) (moR (sgC x)))[i']? = some ((runsOf (sgN x) (moR (sgC x)))[i']'hil) := List.getElem?_eq_getElem hil
        have hr2 : (runsOf (sgN x) (moR (sgC x)))[i' + 1]? = some ((runsOf (sgN x) (moR (sgC x)))[i' + 1]'hil2) := List.getElem?_eq_getElem hil2
        obtain ⟨-, -, -, -, -, w1, w2, w3⟩ := run_ok hv hr
        obtain ⟨-, -, -, -, -, y1, y2, -⟩ := run_ok hv hr2
        have w3 := w3 (by rw [hr2]; exact Option.some_ne_none _)
        rw [← hTG] at w2 y2
        intro I4 e4
        have q4 : eqQ Qap I I4 := by
          rw [e4]
          exact eqQ.rf.zu (Or.inl ⟨rfl, rfl⟩)
        have bt := BtL.of o1.2.1
        refine s_runStart hv (hR.ap hv q4) (hA.ap q4) hr ?_
        refine s_mAppend (a := 0) (d := []) (by omega) (by decide) l300 (hA.ap q4).2.2.txt (Nat.zero_le _) (by omega) (by omega) (Nat.zero_le _) (DrX.nil (by rw [e4, zu_self])) (fun I6 q6 D6 => ?_)
        have q6' := q4.tr q6
        rw [List.nil_append] at D6
        refine s_runStart hv (hR.ap hv q6') (hA.ap q6') hr2 (s_runEnd hv (hR.ap hv q6') (hA.ap q6') hr2 ?_)
        refine s_mAppend (by omega) (by decide) l300 (hA.ap q6').2.2.txt y1 (by omega) (by omega) (by rw [seg_len (by omega)]; omega) D6 (fun I9 q9 D9 => ?_)
        have q9' := q6'.tr q9
        refine s_runEnd hv (hR.ap hv q9') (hA.ap q9') hr (s_runStart hv (hR.ap hv q9') (hA.ap q9') hr2 ?_)
        refine s_mAppend (by omega) (by decide) l300 (hA.ap q9').2.2.txt w3 (by omega) (by omega) (by rw [List.length_append, seg_len (by omega), seg_len (by omega)]; omega) D9 (fun I12 q12 D12 => ?_)
        have q12' := q9'.tr q12
        refine s_runStart hv (hR.ap hv q12') (hA.ap q12') hr (s_runEnd hv (hR.ap hv q12') (hA.ap q12') hr ?_)
        refine s_mAppend (by omega) (by decide) l300 (hA.ap q12').2.2.txt w1 (by omega) (by omega) (by rw [List.length_append, List.length_append, seg_len (by omega), seg_len (by omega), seg_len (by omega)]; omega) D12 (fun I15 q15 D15 => ?_)
        have q15' := q12'.tr q15
        refine s_runEnd hv (hR.ap hv q15') (hA.ap q15') hr2 ?_
        rw [(hA.ap q15').2.2.1]
        refine s_mAppend (by omega) (by decide) l300 (hA.ap q15').2.2.txt y2 (Nat.le_refl _) (by omega) (by rw [List.length_append, List.length_append, List.length_append, seg_len (by omega), seg_len (by omega), seg_len (by omega), seg_len (by omega)]; omega) D15 (fun I17 q17 D17 => ?_)
        have q17' := q15'.tr q17
        exact s_doX (bt := false) (d := swapD x i') hv (hR.ap hv q17') ((((bt.sg).app bt.sg).app bt.sg).app bt.sg |>.app bt.sg) D17 (by unfold swapD; rw [List.length_append, List.length_append, List.length_append, List.length_append, seg_len (by omega), seg_len (by omega), seg_len (by omega), seg_len (by omega), seg_len (by omega)]; omega) he (fun J qJ rJ => hK J ((Qap_cl q17').tr qJ) rJ)
      · rw [if_pos rfl]
        rw [if_neg (fun u => hi2 u.2.2)] at hK
        exact hK I eqQ.rf hR
    · rw [if_pos rfl]
      rw [if_neg (fun u => hi u.2.1)] at hK
      exact hK I eqQ.rf hR
/-! ===== edit, cut, twin, swap: the model ===== -/
theorem RM.kp {I J : zI} {x : Sg} (hv : Iv x) {tp : List Int32} (h : RM I (tp, x.2)) (e : ∀ a j, ((a = 491 ∧ (j = 0 ∨ j = 5 ∨ j = 7 ∨ j = 8 ∨ j = 15 ∨ j = 19 ∨ j = 25 ∨ j = 36 ∨ j = 37 ∨ j = 43 ∨ j = 51 ∨ j = 53 ∨ j = 59 ∨ j = 75 ∨ j = 76)) ∨ a = 492 ∨ (494 ≤ a ∧ a ≤ 495) ∨ (501 ≤ a ∧ a ≤ 518) ∨ (521 ≤ a ∧ a ≤ 526) ∨ a = 528 ∨ a = 529 ∨ a = 533 ∨ a = 534 ∨ a = 538 ∨ a = 542) → J.1 a j = I.1 a j) (e2 : ∀ a j, a = 507 ∨ a = 511 → J.2 a j = I.2 a j) : RM J (tp, x.2) := by
  obtain ⟨r1, r2, r3, r4, r5, r6, r7, nw, sC, sA, sZ⟩ := h
  obtain ⟨hTp, hN, hu, hm, hTk, hP, hE, hC, hA, hZ, hAZ⟩ := hv
  exact ⟨r1.kp (e _ _ (by omega)) (fun j => e _ _ (by omega)), r2.kp2 (e _ _ (by omega)) (fun a j u1 u2 => e a j (by omega)) (fun j => e2 511 j (Or.inr rfl)), r3.kp (fun a j u => e a j (by omega)), r4.kp (fun a j u => e a j (by omega)), r5.kp (fun a j u => e a j (by omega)), by rw [e _ _ (by omega)]; exact r6, by rw [e _ _ (by omega)]; exact r7, nw.kp (fun a j u => e a j (by omega)) (fun j => e2 507 j (Or.inl rfl)), sC.kp hC.1 hC.2.1 (fun j _ _ => e _ _ (by omega)), fun k y hy => (sA k y hy).kp (hA y (List.mem_of_getElem? hy)).1 (hA y (List.mem_of_getElem? hy)).2.1 (fun j _ _ => e _ _ (by omega)), fun k y hy => (sZ k y hy).kp (hZ y (List.mem_of_getElem? hy)).1 (hZ y (List.mem_of_getElem? hy)).2.1 (fun j _ _ => e _ _ (by omega))⟩
/-- new bytes and new tokens: what a text that is tried may touch -/
def Qnw (a j : Nat) : Prop := (a = 491 ∧ (j = 3 ∨ j = 9)) ∨ a = 493 ∨ (496 ≤ a ∧ a ≤ 499)
theorem RM.nw {I J : zI} {x : Sg} (hv : Iv x) {tp : List Int32} (h : RM I (tp, x.2)) (q : eqQ Qnw I J) : RM J (tp, x.2) := h.kp hv (fun a j u => q.1 a j (by unfold Qnw; omega)) (fun a j u => q.2 a j (by unfold Qnw; omega))
theorem NwM.snoc {I : zI} {d : List Int32} {v : Int32} (h : NwM I d) : NwM (zu I 493 d.length v) (d ++ [v]) := by
  intro j hj
  rw [List.length_append] at hj
  change j < d.length + 1 at hj
  rw [zu_at, txF_snoc]
  by_cases w : j = d.length
  · rw [if_pos ⟨rfl, w⟩, if_neg (by omega), if_pos w]
  · rw [if_neg (fun z => w z.2), if_pos (by omega)]
    exact h j (by omega)
theorem NwM.nil {I : zI} : NwM I [] := fun j hj => by cases hj
def nmOk (tp : List Int32) : Bool := decide (1 ≤ tp.length) && (decide (tp.length ≤ 8) && tp.all isL)
/-- the text with each token that is chosen changed -/
def ren (tx tape : List Int32) (sel : Nat × Nat × Nat → Bool) : List (Nat × Nat × Nat) → Nat → List Int32
  | [], f => seg tx f tx.length
  | y :: ys, f => if sel y = true then seg tx f y.2.1 ++ tape ++ ren tx tape sel ys (y.2.1 + y.2.2) else ren tx tape sel ys f
theorem ren_bt {tx tape : List Int32} {sel : Nat × Nat × Nat → Bool} (h1 : BtL tx) (h2 : BtL tape) : ∀ (ys : List (Nat × Nat × Nat)) (a : Nat), BtL (ren tx tape sel ys a)
  | [], a => h1.sg
  | y :: ys, a => by
    show BtL (if sel y = true then seg tx a y.2.1 ++ tape ++ ren tx tape sel ys (y.2.1 + y.2.2) else ren tx tape sel ys a)
    by_cases u : sel y = true
    · rw [if_pos u]
      exact ((h1.sg).app h2).app (ren_bt h1 h2 ys _)
    · rw [if_neg u]
      exact ren_bt h1 h2 ys a
/-- of the i-th token the tokens alike are chosen -/
def selN (t : List Int32) (i : Nat) (y : Nat × Nat × Nat) : Bool := alB (txF t) ((lexL t).getD i (10, 0, 0)) (txF t) y
def renD (x : Sg) (i : Nat) : List Int32 := ren (moT (sgC x)) (sgT x) (selN (moT (sgC x)) i) (lexL (moT (sgC x))) 0
def renR (x : Sg) (i : Int32) : Int32 × Sg := if moB (sgC x) = true ∧ (0 ≤ i ∧ i < zi (lexL (moT (sgC x))).length) ∧ ((lexL (moT (sgC x))).getD i.toNatClampNeg (10, 0, 0)).1 = 0 ∧ nmOk (sgT x) = true then doC x (renD x i.toNatClampNeg) true else (-1, x)
theorem s_tkSame {k i j : Nat} {t : Nat → Int32} {l : List (Nat × Nat × Nat)} {x y : Nat × Nat × Nat} {I : zI} {K : Int32 → Prop} (rep : RepT I k t l) (hi : l[i]? = some x) (hj : l[j]? = some y) (hl : l.length ≤ 100) (hx : tkOk t x) (hy : tkOk t y) (hK : K (b01 (alB t x t y))) : w_Tokens_sameBytes k (zi i) (zi j) I K := by
  have hil := (List.getElem?_eq_some_iff.mp hi).1
  have hjl := (List.getElem?_eq_some_iff.mp hj).1
  obtain ⟨r1, -, r3, r4, r5⟩ := rep.2 i x hi
  obtain ⟨q1, -, q3, q4, q5⟩ := rep.2 j y hj
  have hx1 := hx.1
  have hy1 := hy.1
  have hx2 := hx.2.1
  have hy2 := hy.2.1
  have e0 := tkA_x hx hy
  have hfalse : ¬ tkA t x t y → K 0 := fun q => by
    have : alB t x t y = false := by
      cases hq : alB t x t y with
      | false => rfl
      | true => exact absurd (alB_iff.mp hq) q
    rw [this] at hK
    exact hK
  unfold w_Tokens_sameBytes
  rw [w_get (by decide), w_get (by decide), rg_in (by decide) (show i < 100 by omega), rg_in (by decide) (show j < 100 by omega), r1, q1]
  by_cases c1 : x.1 = y.1
  · rw [if_pos (show zi x.1 = zi y.1 by rw [c1]), w_get (by decide), w_get (by decide), rg_in (by decide) (show i < 100 by omega), rg_in (by decide) (show j < 100 by omega), r3, q3]
    by_cases c2 : x.2.2 = y.2.2
    · rw [if_pos (show zi x.2.2 = zi y.2.2 by rw [c2]), w_get (by decide), w_get (by decide), rg_in (by decide) (show i < 100 by omega), rg_in (by decide) (show j < 100 by omega), r4, q4]
      by_cases c3 : hdT t x.2.1 x.2.2 = hdT t y.2.1 y.2.2
      · rw [if_pos c3, w_get (by decide), w_get (by decide), rg_in (by decide) (show i < 100 by omega), rg_in (by decide) (show j < 100 by omega), r5, q5]
        by_cases c4 : tlT t x.2.1 x.2.2 = tlT t y.2.1 y.2.2
        · rw [if_pos c4]
          rw [alB_iff.mpr (e0.mpr ⟨c1, c2, c3, c4⟩)] at hK
          exact hK
        · rw [if_neg c4]
          exact hfalse (fun r => c4 (e0.mp r).2.2.2)
      · rw [if_neg c3]
        exact hfalse (fun r => c3 (e0.mp r).2.2.1)
    · rw [if_neg (fun u => c2 ((zi_eq (by omega) (by omega)).mp u))]
      exact hfalse (fun r => c2 (e0.mp r).2.1)
  · rw [if_neg (fun u => c1 ((zi_eq (by omega) (by omega)).mp u))]
    exact hfalse (fun r => c1 (e0.mp r).1)
theorem s_tapeIsName {tp : List Int32} {I : zI} {K : Int32 → Prop} (ht : TapX I tp) (hl : tp.length ≤ 200) (hK : K (b01 (nmOk tp))) : w_Desk_tapeIsName I K := by
  intro P2 h2
  have main : ∀ (d k : Nat), k + d = tp.length → ((tp.take k).all isL = true) → P2 (zi k) := by
    intro d
    induction d with
    | zero =>
      intro k hk hall
      refine h2 _ ?_
      rw [ht.1, if_pos ((zi_le (by omega) (by omega)).mpr (by omega))]
      rw [List.take_of_length_le (by omega)] at hall
      unfold nmOk at hK
      rw [hall] at hK
      by_cases c1 : tp.length < 1
      · rw [if_pos (show zi tp.length < 1 from (zi_lt (b := 1) (by omega) (by decide)).mpr c1)]
        rw [decide_eq_false (by omega)] at hK
        exact hK
      · rw [if_neg (show ¬ zi tp.length < 1 from fun u => c1 ((zi_lt (b := 1) (by omega) (by decide)).mp u))]
        rw [decide_eq_true (show 1 ≤ tp.length by omega)] at hK
        by_cases c2 : 8 < tp.length
        · rw [if_pos (show (8 : Int32) < zi tp.length from (zi_lt (a := 8) (by decide) (by omega)).mpr c2)]
          rw [decide_eq_false (by omega)] at hK
          exact hK
        · rw [if_neg (show ¬ (8 : Int32) < zi tp.length from fun u => c2 ((zi_lt (a := 8) (by decide) (by omega)).mp u))]
          rw [decide_eq_true (show tp.length ≤ 8 by omega)] at hK
          exact hK
    | succ d ih =>
      intro k hk hall
      refine h2 _ ?_
      rw [ht.1, if_neg (fun u => by have := (zi_le (by omega) (by omega)).mp u; omega)]
      have hv : tp[k]? = some (tp[k]'(by omega)) := List.getElem?_eq_getElem (by omega)
      generalize tp[k]'(by omega) = v at hv
      refine (w_get (by decide)).mpr ?_
      rw [rg_in (by decide) (show k < 200 by omega), show I.1 (1 + 1) k = v from ht.2 k v hv]
      refine w_xL.mpr ?_
      cases hv2 : isL v with
      | false =>
        rw [if_pos (show b01 false = 0 by decide)]
        have hno : tp.all isL = false := by
          rw [Bool.eq_false_iff]
          intro ha
          have := List.all_eq_true.mp ha v (List.mem_of_getElem? hv)
          rw [hv2] at this
          cases this
        unfold nmOk at hK
        rw [hno, Bool.and_false, Bool.and_false] at hK
        exact hK
      | true =>
        rw [if_neg (show ¬ b01 true = 0 by decide)]
        intro w ew
        rw [ew, zi_succ]
        refine ih (k + 1) (by omega) ?_
        rw [List.take_add_one, hv, List.all_append, hall]
        show (true && ([v].all isL)) = true
        rw [Bool.true_and, List.all_cons, hv2, List.all_nil]
        rfl
  exact main tp.length 0 (by omega) rfl
theorem tk_has {k : Nat} {t : Nat → Int32} {l : List (Nat × Nat × Nat)} {i : Int32} {I : zI} {K : Int32 → Prop} (rep : RepT I k t l) (h1 : 0 ≤ i ∧ i < zi l.length → K 1) (h0 : ¬ (0 ≤ i ∧ i < zi l.length) → K 0) : w_Tokens_has k i I K := by
  unfold w_Tokens_has
  rw [rep.1]
  by_cases c1 : i < 0
  · rw [if_pos c1]
    exact h0 (fun u => Int32.not_le.mpr c1 u.1)
  rw [if_neg c1]
  by_cases c2 : zi l.length ≤ i
  · rw [if_pos c2]
    exact h0 (fun u => Int32.not_lt.mpr c2 u.2)
  · rw [if_neg c2]
    exact h1 ⟨Int32.not_lt.mp c1, Int32.not_le.mp c2⟩
theorem s_rename {x : Sg} {i : Int32} {I : zI} {K : Int32 → zI → Prop} (hv : Iv x) (hR : RX I x) (he : sgE x < 512) (hK : ∀ J, eqQ Qcl I J → RX J (renR x i).2 → K (renR x i).1 J) : w_Desk_rename i I K := by
  obtain ⟨s, hA⟩ := hR.now
  have zs : zmom s = 113 + 18 * s := rfl
  have hs := hA.1
  obtain ⟨o1, o2, oB, oR, oK⟩ := hv.2.2.2.2.2.2.2.1
  have l300 := o1.1
  have l100 := o1.2.2
  have hT200 := hv.1.1
  have lxo := lex_lxo o1
  unfold w_Desk_rename
  refine s_now hA.1 hA.2.1 ?_
  rw [hA.2.2.2.2.2.1]
  unfold renR at hK
  cases hb : moB (sgC x) with
  | false =>
    rw [if_pos (show b01 false = 0 by decide)]
    rw [if_neg (fun u => by rw [hb] at u; cases u.1)] at hK
    exact hK I eqQ.rf hR
  | true =>
    rw [if_neg (show ¬ b01 true = 0 by decide)]
    have rep := hA.2.2.2.2.1
    refine tk_has rep (fun hi => ?_) (fun hi => ?_)
    rotate_left
    · rw [if_pos rfl]
      rw [if_neg (fun u => hi u.2.1)] at hK
      exact hK I eqQ.rf hR
    rw [if_neg (by decide)]
    obtain ⟨i', hi', rfl⟩ := zi_of hi.1
    have hil := (zi_lt hi' (by omega)).mp hi.2
    rw [zi_tn hi'] at hK
    have hx : (lexL (moT (sgC x)))[i']? = some ((lexL (moT (sgC x))).getD i' (10, 0, 0)) := by
      rw [List.getD_eq_getElem?_getD, List.getElem?_eq_getElem hil]
      rfl
    refine (w_get (by decide)).mpr ?_
    rw [rg_in (by decide) (show i' < 100 by omega), show I.1 (zmom s + 3 + 1 + 1) i' = zi ((lexL (moT (sgC x))).getD i' (10, 0, 0)).1 from (rep.2 i' _ hx).1]
    have hk12 := (lxo.1 _ (List.mem_of_getElem? hx)).1
    by_cases hk0 : ((lexL (moT (sgC x))).getD i' (10, 0, 0)).1 = 0
    rotate_left
    · rw [if_neg (show ¬ zi ((lexL (moT (sgC x))).getD i' (10, 0, 0)).1 = 0 from fun u => hk0 ((zi_eq (b := 0) (by omega) (by decide)).mp u))]
      rw [if_neg (fun u => hk0 u.2.2.1)] at hK
      exact hK I eqQ.rf hR
    rw [if_pos (show zi ((lexL (moT (sgC x))).getD i' (10, 0, 0)).1 = 0 by rw [hk0]; rfl)]
    refine s_tapeIsName hR.1 hT200 ?_
    cases hnm : nmOk (sgT x) with
    | false =>
      rw [if_pos (show b01 false = 0 by decide)]
      rw [if_neg (fun u => by rw [hnm] at u; cases u.2.2.2)] at hK
      exact hK I eqQ.rf hR
    | true =>
      rw [if_neg (show ¬ b01 true = 0 by decide)]
      rw [if_pos ⟨hb, hi, hk0, hnm⟩] at hK
      have hT8 : (sgT x).length ≤ 8 := by
        unfold nmOk at hnm
        obtain ⟨-, h2⟩ := Bool.and_eq_true_iff.mp hnm
        exact of_decide_eq_true (Bool.and_eq_true_iff.mp h2).1
      intro I5 e5
      have q5 : eqQ Qap I I5 := by
        rw [e5]
        exact eqQ.rf.zu (Or.inl ⟨rfl, rfl⟩)
      have hbt : BtL (renD x i') := ren_bt (BtL.of o1.2.1) hv.1.2 _ _
      have sg0 : seg (sgT x) 0 (sgT x).length = sgT x := by
        unfold seg
        rw [List.drop_zero, Nat.sub_zero, List.take_length]
      intro P59 h59
      have main : ∀ (dd k f : Nat) (d : List Int32) (A : zI), k + dd = (lexL (moT (sgC x))).length → f ≤ (moT (sgC x)).length → (∀ (j : Nat) (y : Nat × Nat × Nat), k ≤ j → (lexL (moT (sgC x)))[j]? = some y → f ≤ y.2.1) → eqQ Qap I A → DrX A d → d.length ≤ f + 8 * k → d ++ ren (moT (sgC x)) (sgT x) (selN (moT (sgC x)) i') ((lexL (moT (sgC x))).drop k) f = renD x i' → P59 (zi f) (zi k) A := by
        intro dd
        induction dd with
        | zero =>
          intro k f d A hk hf hfy q dA hdl hren
          refine h59 _ _ _ ?_
          have AA := hA.ap q
          rw [show A.1 (zmom s + 3) 5 = zi (lexL (moT (sgC x))).length from AA.2.2.2.2.1.1, if_pos ((zi_le (by omega) (by omega)).mpr (by omega)), AA.2.2.1]
          rw [List.drop_of_length_le (by omega)] at hren
          refine s_mAppend (t := moT (sgC x)) (by omega) (by decide) l300 AA.2.2.txt hf (Nat.le_refl _) (by omega) (by omega) dA (fun B qB dB => ?_)
          have qB' := q.tr qB
          have hren' : d ++ seg (moT (sgC x)) f (moT (sgC x)).length = renD x i' := hren
          rw [hren'] at dB
          refine s_doX (bt := true) hv (hR.ap hv qB') hbt dB ?_ he (fun J qJ rJ => hK J ((Qap_cl qB').tr qJ) rJ)
          rw [← hren', List.length_append, seg_len (Nat.le_refl _)]
          omega
        | succ dd ih =>
          intro k f d A hk hf hfy q dA hdl hren
          refine h59 _ _ _ ?_
          have AA := hA.ap q
          have repA := AA.2.2.2.2.1
          rw [show A.1 (zmom s + 3) 5 = zi (lexL (moT (sgC x))).length from repA.1, if_neg (fun u => by have := (zi_le (by omega) (by omega)).mp u; omega)]
          have hy : (lexL (moT (sgC x)))[k]? = some ((lexL (moT (sgC x)))[k]'(by omega)) := List.getElem?_eq_getElem (by omega)
          have hdk : (lexL (moT (sgC x))).drop k = (lexL (moT (sgC x)))[k]'(by omega) :: (lexL (moT (sgC x))).drop (k + 1) := List.drop_eq_getElem_cons (by omega)
          generalize (lexL (moT (sgC x)))[k]'(by omega) = y at hy hdk
          have hyin := lexL_in o1 hy
          have hfk := hfy k y (Nat.le_refl _) hy
          refine s_tkSame repA hx hy l100 (lxo.1 _ (List.mem_of_getElem? hx)) (lxo.1 _ (List.mem_of_getElem? hy)) ?_
          intro P150 h150
          rw [hdk] at hren
          have hren' : d ++ (if selN (moT (sgC x)) i' y = true then seg (moT (sgC x)) f y.2.1 ++ sgT x ++ ren (moT (sgC x)) (sgT x) (selN (moT (sgC x)) i') ((lexL (moT (sgC x))).drop (k + 1)) (y.2.1 + y.2.2) else ren (moT (sgC x)) (sgT x) (selN (moT (sgC x)) i') ((lexL (moT (sgC x))).drop (k + 1)) f) = renD x i' := hren
          have hsel : alB (txF (moT (sgC x))) ((lexL (moT (sgC x))).getD i' (10, 0, 0)) (txF (moT (sgC x))) y = selN (moT (sgC x)) i' y := rfl
          rw [hsel]
          cases hse : selN (moT (sgC x)) i' y with
          | false =>
            rw [if_pos (show b01 false = 0 by decide)]
            rw [hse, if_neg (by decide)] at hren'
            refine h150 _ _ (fun v ev => ?_)
            rw [ev, zi_succ]
            exact ih (k + 1) f d A (by omega) hf (fun j z hj hz => hfy j z (by omega) hz) q dA (by omega) hren'
          | true =>
            rw [if_neg (show ¬ b01 true = 0 by decide)]
            rw [hse, if_pos rfl, ← List.append_assoc] at hren'
            refine (w_get (by decide)).mpr ?_
            rw [rg_in (by decide) (show k < 100 by omega), show A.1 (zmom s + 3 + 3 + 1) k = zi y.2.1 from (repA.2 k y hy).2.1]
            refine s_mAppend (t := moT (sgC x)) (by omega) (by decide) l300 AA.2.2.txt hfk (by omega) (by omega) (by omega) dA (fun B qB dB => ?_)
            have qB' := q.tr qB
            have RB := hR.ap hv qB'
            rw [show B.1 0 1 = zi (sgT x).length from RB.1.1]
            have hl1 : (d ++ seg (moT (sgC x)) f y.2.1).length = d.length + (y.2.1 - f) := by rw [List.length_append, seg_len (by omega)]
            refine s_mAppend (a := 0) (t := sgT x) (by omega) (by decide) hT200 (fun j hj => RB.1.2 j _ (by rw [List.getElem?_eq_getElem hj, txF_at (List.getElem?_eq_getElem hj)])) (Nat.zero_le _) (Nat.le_refl _) (by omega) (by rw [hl1]; omega) dB (fun C qC dC => ?_)
            have qC' := qB'.tr qC
            rw [sg0] at dC
            have repC := (hA.ap qC').2.2.2.2.1
            refine (w_get (by decide)).mpr ?_
            rw [rg_in (by decide) (show k < 100 by omega), show C.1 (zmom s + 3 + 3 + 1) k = zi y.2.1 from (repC.2 k y hy).2.1]
            refine (w_get (by decide)).mpr ?_
            rw [rg_in (by decide) (show k < 100 by omega), show C.1 (zmom s + 3 + 5 + 1) k = zi y.2.2 from (repC.2 k y hy).2.2.1]
            intro v3 ev3
            rw [zi_add] at ev3
            subst ev3
            refine h150 _ _ (fun v ev => ?_)
            rw [ev, zi_succ]
            refine ih (k + 1) (y.2.1 + y.2.2) _ C (by omega) hyin (fun j z hj hz => lexL_sorted o1 (show k < j by omega) hy hz) qC' dC ?_ (by rw [← hren']; simp only [List.append_assoc])
            rw [List.length_append, hl1]
            omega
      exact main (lexL (moT (sgC x))).length 0 0 [] I5 (by omega) (Nat.zero_le _) (fun j y _ _ => Nat.zero_le _) q5 (DrX.nil (by rw [e5, zu_self])) (Nat.zero_le _) (by rw [List.drop_zero]; rfl)
/-! ===== a NAME changed: the model ===== -/
def undoR (x : Sg) : Int32 × Sg := match sgA x with
  | [] => (0, x)
  | y :: A => (1, (sgT x, (sgM x, sgN x), sgP x, (sgE x, sgLs x), A, y, sgC x :: sgZ x))
def redoR (x : Sg) : Int32 × Sg := match sgZ x with
  | [] => (0, x)
  | y :: Z => (1, (sgT x, (sgM x, sgN x), sgP x, (sgE x, sgLs x), sgC x :: sgA x, y, Z))
theorem undo_iv {x : Sg} (hv : Iv x) : Iv (undoR x).2 ∧ sgE (undoR x).2 = sgE x := by
  unfold undoR
  cases hA : sgA x with
  | nil => exact ⟨hv, rfl⟩
  | cons y A =>
    obtain ⟨a1, a2, a3, a4, a5, a6, a7, a8, a9, a10, a11⟩ := hv
    rw [hA] at a9 a11
    refine ⟨⟨a1, a2, a3, a4, a5, a6, ⟨a7.1, a7.2.1, a7.2.2.1, fun yy hyy => a7.2.2.2 yy (by
      rcases hyy with h | h | h
      · have h : yy = y := h
        rw [h, hA]
        exact Or.inr (Or.inl (List.mem_cons_self ..))
      · rw [hA]
        exact Or.inr (Or.inl (List.mem_cons_of_mem _ h))
      · rcases List.mem_cons.mp h with h | h
        · exact Or.inl h
        · exact Or.inr (Or.inr h))⟩, a9 y (List.mem_cons_self ..), fun z hz => a9 z (List.mem_cons_of_mem _ hz), fun z hz => ?_, ?_⟩, rfl⟩
    · rcases List.mem_cons.mp hz with rfl | hz
      · exact a8
      · exact a10 z hz
    · show A.length + (sgC x :: sgZ x).length ≤ 20
      rw [List.length_cons] at a11 ⊢
      omega
theorem redo_iv {x : Sg} (hv : Iv x) : Iv (redoR x).2 ∧ sgE (redoR x).2 = sgE x := by
  unfold redoR
  cases hZ : sgZ x with
  | nil => exact ⟨hv, rfl⟩
  | cons y Z =>
    obtain ⟨a1, a2, a3, a4, a5, a6, a7, a8, a9, a10, a11⟩ := hv
    rw [hZ] at a10 a11
    refine ⟨⟨a1, a2, a3, a4, a5, a6, ⟨a7.1, a7.2.1, a7.2.2.1, fun yy hyy => a7.2.2.2 yy (by
      rcases hyy with h | h | h
      · have h : yy = y := h
        rw [h, hZ]
        exact Or.inr (Or.inr (List.mem_cons_self ..))
      · rcases List.mem_cons.mp h with h | h
        · exact Or.inl h
        · exact Or.inr (Or.inl h)
      · rw [hZ]
        exact Or.inr (Or.inr (List.mem_cons_of_mem _ h)))⟩, a10 y (List.mem_cons_self ..), fun z hz => ?_, fun z hz => a10 z (List.mem_cons_of_mem _ hz), ?_⟩, rfl⟩
    · rcases List.mem_cons.mp hz with rfl | hz
      · exact a8
      · exact a9 z hz
    · show (sgC x :: sgA x).length + Z.length ≤ 20
      rw [List.length_cons] at a11 ⊢
      omega
theorem Qla_cl {I J : zI} (q : eqQ Qla I J) : eqQ Qcl I J := q.mono (fun a j h => by unfold Qla Qvi Qrr Qpn at h; unfold Qcl; omega)
theorem s_undo {x : Sg} {I : zI} {K : Int32 → zI → Prop} (hv : Iv x) (hR : RX I x) (hK : ∀ J, eqQ Qcl I J → RX J (undoR x).2 → K (undoR x).1 J) : w_Desk_undo I K := by
  obtain ⟨r1, r2, r3, r4, r5, r6, r7, s, hs, s4, sC, sA, sZ⟩ := id hR
  obtain ⟨r50, r5r, n0, hn0, rx0⟩ := id r5
  obtain ⟨a1, a2, a3, a4, a5, a6, a7, a8, a9, a10, a11⟩ := hv
  have zm : ∀ i, zmom i = 113 + 18 * i := fun i => rfl
  unfold w_Desk_undo
  rw [r6]
  unfold undoR at hK
  cases hA : sgA x with
  | nil =>
    rw [hA] at hK
    rw [if_pos (show zi (List.length ([] : List Mo)) = 0 from rfl)]
    exact hK I eqQ.rf hR
  | cons y A =>
    rw [hA] at hK sA a9 a11
    rw [List.length_cons] at a11
    rw [List.length_cons, if_neg (show ¬ zi (A.length + 1) = 0 from fun u => by have := (zi_eq (b := 0) (by omega) (by decide)).mp u; omega)]
    intro I1 e1 I2 e2
    rw [show zi (A.length + 1) - 1 = zi A.length from zi_sub (b := 1) (by omega)] at e1
    rw [show I1.1 0 6 = zi (sgZ x).length by rw [e1, zu_i (by decide)]; exact r7, zi_succ] at e2
    have g4 : I2.1 0 4 = zi s := by rw [e2, zu_i (by decide), e1, zu_i (by decide)]; exact s4
    intro P48 h48
    have rest : P48 (zi ((s + 20) % 21)) := by
      refine h48 _ (fun I4 e4 => ?_)
      have hs' : (s + 20) % 21 < 21 := Nat.mod_lt _ (by decide)
      generalize hse : (s + 20) % 21 = s' at e4 hs'
      have o4 : ∀ a j, ¬ (a = 0 ∧ (4 ≤ j ∧ j ≤ 6)) → I4.1 a j = I.1 a j := fun a j u => by rw [e4, zu_at, if_neg (by omega), e2, zu_at, if_neg (by omega), e1, zu_at, if_neg (by omega)]
      have q4 : eqQ Qcl I I4 := by
        rw [e4, e2, e1]
        exact ((eqQ.rf.zu (by unfold Qcl; decide)).zu (by unfold Qcl; decide)).zu (by unfold Qcl; decide)
      refine s_now hs' (by rw [e4, zu_self]) ?_
      have z1 := zm s'
      have my : MoX I (zmom s') y := by
        have := sA 0 y rfl
        rw [Nat.sub_zero, hse] at this
        exact this
      have oy := a9 y (List.mem_cons_self ..)
      refine s_deskLook (ed := 0) (rc := (sgLs x).2) (n0 := n0) (n := (lexL (moG y)).length) (r2.kp a2.ch (fun a j u1 u2 u3 => o4 a j (by omega))) a2 a3 (by omega) oy.2.2.2.1 (fun c hc => by have := a5 c hc; omega) (fun c hc => by obtain ⟨p, p1, p2⟩ := r3.2.2.2.2.1 c hc; exact ⟨p, p1, by rw [o4 47 c (by omega)]; exact p2⟩) (prt_R a2 oy).1 (prt_R a2 oy).2 (Or.inr (by omega)) (by rw [o4 _ _ (by omega)]; exact my.2.2.2.2.2.2.2.1) ⟨by rw [o4 _ _ (by omega)]; exact my.2.2.2.2.1, fun j hj => by rw [o4 _ _ (by omega)]; exact my.2.2.2.2.2.1 j hj, tkz_R a2 oy⟩ (rx0.kp (fun a j u => o4 a j (by omega))) (by decide) (fun c hc => by have := a7.2.2.1 c hc; have := a7.1; omega) (fun u => absurd rfl u) (fun J qJ vJ xJ _ => ?_)
      have oJ : ∀ a j, ¬ (a = 0 ∧ (4 ≤ j ∧ j ≤ 6)) → ¬ Qla a j → J.1 a j = I.1 a j := fun a j u1 u2 => by rw [qJ.1 a j u2, o4 a j u1]
      have mk : ∀ i z, i < 21 → MoX I (zmom i) z → MoX J (zmom i) z := fun i z hi hm => hm.kp (fun a j u1 u2 => oJ a j (by have := zm i; omega) (by have := zm i; unfold Qla Qvi Qrr Qpn; omega))
      refine hK J (q4.tr (Qla_cl qJ)) ⟨r1.kp (oJ _ _ (by omega) (by unfold Qla Qvi Qrr Qpn; omega)) (fun j => oJ _ _ (by omega) (by unfold Qla Qvi Qrr Qpn; omega)), r2.kp a2.ch (fun a j u1 u2 u3 => oJ a j (by omega) (by unfold Qla Qvi Qrr Qpn; omega)), vJ, r4.kp (fun a j u1 u2 u3 => oJ a j (by omega) (by unfold Qla Qvi Qrr Qpn; omega)), ⟨by rw [oJ _ _ (by omega) (by unfold Qla Qvi Qrr Qpn; omega)]; exact r50, fun j hj => by rw [oJ 23 j (by omega) (by unfold Qla Qvi Qrr Qpn; omega)]; exact r5r j hj, n0, hn0, by rw [rcP_0 _ (Nat.le_refl _)] at xJ; exact xJ⟩, ?_, ?_, s', hs', ?_, mk _ _ hs' my, fun k z hz => ?_, fun k z hz => ?_⟩
      · rw [qJ.1 _ _ (by unfold Qla Qvi Qrr Qpn; omega), e4, zu_i (by decide), e2, zu_i (by decide), e1, zu_self]
        rfl
      · rw [qJ.1 _ _ (by unfold Qla Qvi Qrr Qpn; omega), e4, zu_i (by decide), e2, zu_self]
        rfl
      · rw [qJ.1 _ _ (by unfold Qla Qvi Qrr Qpn; omega), e4, zu_self]
      · have hz' : A[k]? = some z := hz
        have hk := (List.getElem?_eq_some_iff.mp hz').1
        have := sA (k + 1) z (by rw [List.getElem?_cons_succ]; exact hz')
        rw [show (s + 20 - (k + 1)) % 21 = (s' + 20 - k) % 21 by omega] at this
        exact mk _ _ (Nat.mod_lt _ (by decide)) this
      · have hz' : (sgC x :: sgZ x)[k]? = some z := hz
        cases k with
        | zero =>
          cases hz'
          rw [show (s' + 1 + 0) % 21 = s by omega]
          exact mk _ _ hs sC
        | succ k =>
          rw [List.getElem?_cons_succ] at hz'
          have := sZ k z hz'
          rw [show (s + 1 + k) % 21 = (s' + 1 + (k + 1)) % 21 by omega] at this
          exact mk _ _ (Nat.mod_lt _ (by decide)) this
    rw [g4]
    by_cases u : s = 0
    · rw [if_pos (show zi s = 0 by rw [u]; rfl)]
      rw [u] at rest
      exact rest
    · rw [if_neg (show ¬ zi s = 0 from fun w => u ((zi_eq (b := 0) (by omega) (by decide)).mp w)), show zi s - 1 = zi (s - 1) from zi_sub (b := 1) (by omega)]
      rw [show (s + 20) % 21 = s - 1 by omega] at rest
      exact rest
theorem s_redo {x : Sg} {I : zI} {K : Int32 → zI → Prop} (hv : Iv x) (hR : RX I x) (hK : ∀ J, eqQ Qcl I J → RX J (redoR x).2 → K (redoR x).1 J) : w_Desk_redo I K := by
  obtain ⟨r1, r2, r3, r4, r5, r6, r7, s, hs, s4, sC, sA, sZ⟩ := id hR
  obtain ⟨r50, r5r, n0, hn0, rx0⟩ := id r5
  obtain ⟨a1, a2, a3, a4, a5, a6, a7, a8, a9, a10, a11⟩ := hv
  have zm : ∀ i, zmom i = 113 + 18 * i := fun i => rfl
  unfold w_Desk_redo
  rw [r7]
  unfold redoR at hK
  cases hZ : sgZ x with
  | nil =>
    rw [hZ] at hK
    rw [if_pos (show zi (List.length ([] : List Mo)) = 0 from rfl)]
    exact hK I eqQ.rf hR
  | cons y Z =>
    rw [hZ] at hK sZ a10 a11
    rw [List.length_cons] at a11
    rw [List.length_cons, if_neg (show ¬ zi (Z.length + 1) = 0 from fun u => by have := (zi_eq (b := 0) (by omega) (by decide)).mp u; omega)]
    intro I1 e1 I2 e2
    rw [show zi (Z.length + 1) - 1 = zi Z.length from zi_sub (b := 1) (by omega)] at e1
    rw [show I1.1 0 5 = zi (sgA x).length by rw [e1, zu_i (by decide)]; exact r6, zi_succ] at e2
    have g4 : I2.1 0 4 = zi s := by rw [e2, zu_i (by decide), e1, zu_i (by decide)]; exact s4
    unfold w_Desk_nextSlot
    have rest : ∀ I4, I4 = zu I2 0 4 (zi ((s + 1) % 21)) → w_Desk_now I4 (fun r_5 => w_Desk_lookAt r_5 0 I4 (fun I_6 => K 1 I_6)) := by
      intro I4 e4
      have hs' : (s + 1) % 21 < 21 := Nat.mod_lt _ (by decide)
      generalize hse : (s + 1) % 21 = s' at e4 hs'
      have o4 : ∀ a j, ¬ (a = 0 ∧ (4 ≤ j ∧ j ≤ 6)) → I4.1 a j = I.1 a j := fun a j u => by rw [e4, zu_at, if_neg (by omega), e2, zu_at, if_neg (by omega), e1, zu_at, if_neg (by omega)]
      have q4 : eqQ Qcl I I4 := by
        rw [e4, e2, e1]
        exact ((eqQ.rf.zu (by unfold Qcl; decide)).zu (by unfold Qcl; decide)).zu (by unfold Qcl; decide)
      refine s_now hs' (by rw [e4, zu_self]) ?_
      have z1 := zm s'
      have my : MoX I (zmom s') y := by
        have := sZ 0 y rfl
        rw [Nat.add_zero, hse] at this
        exact this
      have oy := a10 y (List.mem_cons_self ..)
      refine s_deskLook (ed := 0) (rc := (sgLs x).2) (n0 := n0) (n := (lexL (moG y)).length) (r2.kp a2.ch (fun a j u1 u2 u3 => o4 a j (by omega))) a2 a3 (by omega) oy.2.2.2.1 (fun c hc => by have := a5 c hc; omega) (fun c hc => by obtain ⟨p, p1, p2⟩ := r3.2.2.2.2.1 c hc; exact ⟨p, p1, by rw [o4 47 c (by omega)]; exact p2⟩) (prt_R a2 oy).1 (prt_R a2 oy).2 (Or.inr (by omega)) (by rw [o4 _ _ (by omega)]; exact my.2.2.2.2.2.2.2.1) ⟨by rw [o4 _ _ (by omega)]; exact my.2.2.2.2.1, fun j hj => by rw [o4 _ _ (by omega)]; exact my.2.2.2.2.2.1 j hj, tkz_R a2 oy⟩ (rx0.kp (fun a j u => o4 a j (by omega))) (by decide) (fun c hc => by have := a7.2.2.1 c hc; have := a7.1; omega) (fun u => absurd rfl u) (fun J qJ vJ xJ _ => ?_)
      have oJ : ∀ a j, ¬ (a = 0 ∧ (4 ≤ j ∧ j ≤ 6)) → ¬ Qla a j → J.1 a j = I.1 a j := fun a j u1 u2 => by rw [qJ.1 a j u2, o4 a j u1]
      have mk : ∀ i z, i < 21 → MoX I (zmom i) z → MoX J (zmom i) z := fun i z hi hm => hm.kp (fun a j u1 u2 => oJ a j (by have := zm i; omega) (by have := zm i; unfold Qla Qvi Qrr Qpn; omega))
      refine hK J (q4.tr (Qla_cl qJ)) ⟨r1.kp (oJ _ _ (by omega) (by unfold Qla Qvi Qrr Qpn; omega)) (fun j => oJ _ _ (by omega) (by unfold Qla Qvi Qrr Qpn; omega)), r2.kp a2.ch (fun a j u1 u2 u3 => oJ a j (by omega) (by unfold Qla Qvi Qrr Qpn; omega)), vJ, r4.kp (fun a j u1 u2 u3 => oJ a j (by omega) (by unfold Qla Qvi Qrr Qpn; omega)), ⟨by rw [oJ _ _ (by omega) (by unfold Qla Qvi Qrr Qpn; omega)]; exact r50, fun j hj => by rw [oJ 23 j (by omega) (by unfold Qla Qvi Qrr Qpn; omega)]; exact r5r j hj, n0, hn0, by rw [rcP_0 _ (Nat.le_refl _)] at xJ; exact xJ⟩, ?_, ?_, s', hs', ?_, mk _ _ hs' my, fun k z hz => ?_, fun k z hz => ?_⟩
      · rw [qJ.1 _ _ (by unfold Qla Qvi Qrr Qpn; omega), e4, zu_i (by decide), e2, zu_self]
        rfl
      · rw [qJ.1 _ _ (by unfold Qla Qvi Qrr Qpn; omega), e4, zu_i (by decide), e2, zu_i (by decide), e1, zu_self]
        rfl
      · rw [qJ.1 _ _ (by unfold Qla Qvi Qrr Qpn; omega), e4, zu_self]
      · have hz' : (sgC x :: sgA x)[k]? = some z := hz
        have hk := (List.getElem?_eq_some_iff.mp hz').1
        rw [List.length_cons] at hk
        cases k with
        | zero =>
          cases hz'
          rw [show (s' + 20 - 0) % 21 = s by omega]
          exact mk _ _ hs sC
        | succ k =>
          rw [List.getElem?_cons_succ] at hz'
          have := sA k z hz'
          rw [show (s + 20 - k) % 21 = (s' + 20 - (k + 1)) % 21 by omega] at this
          exact mk _ _ (Nat.mod_lt _ (by decide)) this
      · have hz' : Z[k]? = some z := hz
        have := sZ (k + 1) z (by rw [List.getElem?_cons_succ]; exact hz')
        rw [show (s + 1 + (k + 1)) % 21 = (s' + 1 + k) % 21 by omega] at this
        exact mk _ _ (Nat.mod_lt _ (by decide)) this
    rw [g4]
    by_cases u : s < 20
    · rw [if_pos (show zi s < 20 from (zi_lt (b := 20) (by omega) (by decide)).mpr u), zi_succ]
      rw [show (s + 1) % 21 = s + 1 by omega] at rest
      exact rest
    · rw [if_neg (show ¬ zi s < 20 from fun v => u ((zi_lt (b := 20) (by omega) (by decide)).mp v))]
      rw [show (s + 1) % 21 = 0 by omega] at rest
      exact rest
/-! ===== undone and done again: the model ===== -/
def Qad (a j : Nat) : Prop := 100 ≤ a ∧ a ≤ 108
theorem RX.ad {I J : zI} {x : Sg} (hv : Iv x) (h : RX I x) (q : eqQ Qad I J) : RX J x := h.kp hv (fun a j u => q.1 a j (by unfold Qad; omega))
theorem Qad_cl {I J : zI} (q : eqQ Qad I J) : eqQ Qcl I J := q.mono (fun a j h => by unfold Qad at h; unfold Qcl; omega)
