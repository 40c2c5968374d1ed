/-! ===== the tape ===== -/
/-- a byte of a number, from so many bits on -/
def byW (w s : Int32) : Int32 := (w >>> (s &&& 31)) &&& 255
theorem byW_u24 (w : Int32) : ((w.toUInt32 >>> ((24 : Int32).toUInt32 &&& Int32.toUInt32 31)).toInt32) &&& 255 = byW w 24 := by
  apply Int32.toBitVec_inj.mp
  show ((w.toBitVec >>> (24 : Nat)) &&& (255#32)) = (w.toBitVec.sshiftRight 24 &&& 255#32)
  apply BitVec.eq_of_getLsbD_eq
  intro i hi
  rw [BitVec.getLsbD_and, BitVec.getLsbD_and, BitVec.getLsbD_ushiftRight, BitVec.getLsbD_sshiftRight]
  by_cases h : i < 8
  · simp [show 24 + i < 32 by omega, show ¬ 32 ≤ i by omega]
  · have : (255#32).getLsbD i = false := by
      have h2 : ∀ i, i < 32 → ¬ i < 8 → (255#32).getLsbD i = false := by decide
      exact h2 i hi h
    rw [this, Bool.and_false, Bool.and_false]
theorem byW_u16 (w : Int32) : ((w.toUInt32 >>> ((16 : Int32).toUInt32 &&& Int32.toUInt32 31)).toInt32) &&& 255 = byW w 16 := by
  apply Int32.toBitVec_inj.mp
  show ((w.toBitVec >>> (16 : Nat)) &&& (255#32)) = (w.toBitVec.sshiftRight 16 &&& 255#32)
  apply BitVec.eq_of_getLsbD_eq
  intro i hi
  rw [BitVec.getLsbD_and, BitVec.getLsbD_and, BitVec.getLsbD_ushiftRight, BitVec.getLsbD_sshiftRight]
  by_cases h : i < 8
  · simp [show 16 + i < 32 by omega, show ¬ 32 ≤ i by omega]
  · have : (255#32).getLsbD i = false := by
      have h2 : ∀ i, i < 32 → ¬ i < 8 → (255#32).getLsbD i = false := by decide
      exact h2 i hi h
    rw [this, Bool.and_false, Bool.and_false]
theorem byW_u8 (w : Int32) : ((w.toUInt32 >>> ((8 : Int32).toUInt32 &&& Int32.toUInt32 31)).toInt32) &&& 255 = byW w 8 := by
  apply Int32.toBitVec_inj.mp
  show ((w.toBitVec >>> (8 : Nat)) &&& (255#32)) = (w.toBitVec.sshiftRight 8 &&& 255#32)
  apply BitVec.eq_of_getLsbD_eq
  intro i hi
  rw [BitVec.getLsbD_and, BitVec.getLsbD_and, BitVec.getLsbD_ushiftRight, BitVec.getLsbD_sshiftRight]
  by_cases h : i < 8
  · simp [show 8 + i < 32 by omega, show ¬ 32 ≤ i by omega]
  · have : (255#32).getLsbD i = false := by
      have h2 : ∀ i, i < 32 → ¬ i < 8 → (255#32).getLsbD i = false := by decide
      exact h2 i hi h
    rw [this, Bool.and_false, Bool.and_false]
theorem byW_u0 (w : Int32) : ((w.toUInt32 >>> ((0 : Int32).toUInt32 &&& Int32.toUInt32 31)).toInt32) &&& 255 = byW w 0 := by
  apply Int32.toBitVec_inj.mp
  show ((w.toBitVec >>> (0 : Nat)) &&& (255#32)) = (w.toBitVec.sshiftRight 0 &&& 255#32)
  apply BitVec.eq_of_getLsbD_eq
  intro i hi
  rw [BitVec.getLsbD_and, BitVec.getLsbD_and, BitVec.getLsbD_ushiftRight, BitVec.getLsbD_sshiftRight]
  by_cases h : i < 8
  · simp [hi, show ¬ 32 ≤ i by omega]
  · have : (255#32).getLsbD i = false := by
      have h2 : ∀ i, i < 32 → ¬ i < 8 → (255#32).getLsbD i = false := by decide
      exact h2 i hi h
    rw [this, Bool.and_false, Bool.and_false]
theorem byW_byt (w s : Int32) : byt (byW w s) := by
  have h1 : (byW w s).toBitVec.toNat < 256 := by
    show ((w >>> (s &&& 31)).toBitVec &&& 255#32).toNat < 256
    rw [BitVec.toNat_and]
    exact Nat.lt_of_le_of_lt Nat.and_le_right (by decide)
  refine ⟨(byW w s).toBitVec.toNat, h1, Int32.toBitVec_inj.mp (BitVec.eq_of_toNat_eq ?_)⟩
  rw [zi_bv (by omega)]
def by4 (w : Int32) : List Int32 := [byW w 24, byW w 16, byW w 8, byW w 0]
/-- the tape: the class's, the model's -/
def TapX (I : zI) (tp : List Int32) : Prop := I.1 0 1 = zi tp.length ∧ ∀ j v, tp[j]? = some v → I.1 2 j = v
def TapM (I : zI) (tp : List Int32) : Prop := I.1 491 0 = zi tp.length ∧ ∀ j v, tp[j]? = some v → I.1 492 j = v
def Qtx (a j : Nat) : Prop := (a = 0 ∧ j = 1) ∨ a = 2
def Qtm (a j : Nat) : Prop := (a = 491 ∧ j = 0) ∨ a = 492
theorem app_get {tp : List Int32} {v x : Int32} {j : Nat} (h : (tp ++ [v])[j]? = some x) : (j < tp.length ∧ tp[j]? = some x) ∨ (j = tp.length ∧ x = v) := by
  by_cases hj : j < tp.length
  · rw [List.getElem?_append_left hj] at h
    exact Or.inl ⟨hj, h⟩
  · have h2 := (List.getElem?_eq_some_iff.mp h).1
    rw [List.length_append, List.length_singleton] at h2
    have hj2 : j = tp.length := by omega
    subst hj2
    rw [List.getElem?_append_right (Nat.le_refl _), Nat.sub_self] at h
    cases h
    exact Or.inr ⟨rfl, rfl⟩
theorem TapX.push {I : zI} {tp : List Int32} (h : TapX I tp) (v : Int32) : TapX (zu (zu I 2 tp.length v) 0 1 (zi (tp.length + 1))) (tp ++ [v]) := by
  refine ⟨by rw [zu_self, List.length_append]; rfl, fun j x hx => ?_⟩
  rw [zu_oo (by omega), zu_at]
  rcases app_get hx with ⟨h1, h2⟩ | ⟨h1, h2⟩
  · rw [if_neg (by omega)]
    exact h.2 j x h2
  · rw [if_pos ⟨rfl, h1⟩, h2]
theorem TapM.push {I : zI} {tp : List Int32} (h : TapM I tp) (v : Int32) : TapM (zu (zu I 492 tp.length v) 491 0 (zi (tp.length + 1))) (tp ++ [v]) := by
  refine ⟨by rw [zu_self, List.length_append]; rfl, fun j x hx => ?_⟩
  rw [zu_oo (by omega), zu_at]
  rcases app_get hx with ⟨h1, h2⟩ | ⟨h1, h2⟩
  · rw [if_neg (by omega)]
    exact h.2 j x h2
  · rw [if_pos ⟨rfl, h1⟩, h2]
theorem s_feedFour {w : Int32} {tp : List Int32} {I : zI} {K : zI → Prop} (ht : TapX I tp) (hl : tp.length + 4 ≤ 200) (hK : ∀ J, eqQ Qtx I J → TapX J (tp ++ by4 w) → K J) : w_Desk_feedFour w I K := by
  intro P hP
  have step : ∀ (s s2 : Int32) (J : zI) (q : List Int32), TapX J q → q.length < 200 → ¬ s < 0 → s + (-8) = s2 → ((w.toUInt32 >>> (s.toUInt32 &&& Int32.toUInt32 31)).toInt32) &&& 255 = byW w s → P s2 (zu (zu J 2 q.length (byW w s)) 0 1 (zi (q.length + 1))) → P s J := by
    intro s s2 J q hq hql hs hs2 hb hp
    refine hP _ _ ?_
    rw [if_neg hs, w_set (by decide), hq.1, rs_in (by decide) hql, hb]
    intro J2 e2 v ev
    rw [show (zu J (1 + 1) q.length (byW w s)).1 0 1 = zi q.length by rw [zu_oo (by omega)]; exact hq.1, zi_succ] at e2
    subst e2 ev
    rw [hs2]
    exact hp
  have q0 : eqQ Qtx I I := eqQ.rf
  have hn : ∀ {J : zI} {a b c : Nat} {x y : Int32}, a = 2 → eqQ Qtx I J → eqQ Qtx I (zu (zu J a b x) 0 1 y) := fun ha h => (h.zu (Or.inr ha)).zu (Or.inl ⟨rfl, rfl⟩)
  refine step 24 16 I tp ht (by omega) (by decide) (by decide) (byW_u24 w) ?_
  refine step 16 8 _ _ (ht.push _) (by rw [List.length_append, List.length_singleton]; omega) (by decide) (by decide) (byW_u16 w) ?_
  refine step 8 0 _ _ ((ht.push _).push _) (by simp only [List.length_append, List.length_singleton]; omega) (by decide) (by decide) (byW_u8 w) ?_
  refine step 0 (-8) _ _ (((ht.push _).push _).push _) (by simp only [List.length_append, List.length_singleton]; omega) (by decide) (by decide) (byW_u0 w) ?_
  refine hP _ _ ?_
  rw [if_pos (by decide)]
  refine hK _ (hn (c := 0) rfl (hn (c := 0) rfl (hn (c := 0) rfl (hn (c := 0) rfl q0)))) ?_
  have := (((ht.push (byW w 24)).push (byW w 16)).push (byW w 8)).push (byW w 0)
  rw [show tp ++ by4 w = (((tp ++ [byW w 24]) ++ [byW w 16]) ++ [byW w 8]) ++ [byW w 0] by simp [by4]]
  exact this
theorem s_lays {w : Int32} {tp : List Int32} {I : zI} {K : zI → Prop} (ht : TapM I tp) (hl : tp.length + 4 ≤ 200) (hK : ∀ J, eqQ Qtm I J → TapM J (tp ++ by4 w) → K J) : w_M_lays w I K := by
  intro P hP
  have step : ∀ (s s2 : Int32) (J : zI) (q : List Int32), TapM J q → q.length < 200 → ¬ s < 0 → s + (-8) = s2 → P s2 (zu (zu J 492 q.length (byW w s)) 491 0 (zi (q.length + 1))) → P s J := by
    intro s s2 J q hq hql hs hs2 hp
    refine hP _ _ ?_
    rw [if_neg hs, hq.1]
    refine ⟨(zin_iff (by omega)).mpr (by omega), ?_⟩
    intro J1 e1 J2 e2 v ev
    rw [zi_tn (by omega)] at e1
    rw [e1, show (zu J 492 q.length ((w >>> (s &&& 31)) &&& 255)).1 491 0 = zi q.length by rw [zu_oo (by omega)]; exact hq.1, zi_succ] at e2
    subst e2 ev
    rw [hs2]
    exact hp
  have q0 : eqQ Qtm I I := eqQ.rf
  have hn : ∀ {J : zI} {a b c : Nat} {x y : Int32}, a = 492 → eqQ Qtm I J → eqQ Qtm I (zu (zu J a b x) 491 0 y) := fun ha h => (h.zu (Or.inr ha)).zu (Or.inl ⟨rfl, rfl⟩)
  refine step 24 16 I tp ht (by omega) (by decide) (by decide) ?_
  refine step 16 8 _ _ (ht.push _) (by rw [List.length_append, List.length_singleton]; omega) (by decide) (by decide) ?_
  refine step 8 0 _ _ ((ht.push _).push _) (by simp only [List.length_append, List.length_singleton]; omega) (by decide) (by decide) ?_
  refine step 0 (-8) _ _ (((ht.push _).push _).push _) (by simp only [List.length_append, List.length_singleton]; omega) (by decide) (by decide) ?_
  refine hP _ _ ?_
  rw [if_pos (by decide)]
  refine hK _ (hn (c := 0) rfl (hn (c := 0) rfl (hn (c := 0) rfl (hn (c := 0) rfl q0)))) ?_
  have := (((ht.push (byW w 24)).push (byW w 16)).push (byW w 8)).push (byW w 0)
  rw [show tp ++ by4 w = (((tp ++ [byW w 24]) ++ [byW w 16]) ++ [byW w 8]) ++ [byW w 0] by simp [by4]]
  exact this
/-- twenty bytes more -/
def by20 (a b c d e : Int32) : List Int32 := by4 a ++ (by4 b ++ (by4 c ++ (by4 d ++ by4 e)))
theorem by4_len (w : Int32) : (by4 w).length = 4 := rfl
theorem s_feed {a b c d e : Int32} {tp : List Int32} {I : zI} {K : Int32 → zI → Prop} (ht : TapX I tp) (hl : tp.length ≤ 200)
    (h1 : tp.length + 20 ≤ 200 → ∀ J, eqQ Qtx I J → TapX J (tp ++ by20 a b c d e) → K (zi (tp.length + 20)) J) (h0 : ¬ tp.length + 20 ≤ 200 → K (-1) I) : w_Desk_feed a b c d e I K := by
  unfold w_Desk_feed
  rw [ht.1, show zi tp.length + 20 = zi (tp.length + 20) from zi_add _ 20]
  by_cases q : tp.length + 20 ≤ 200
  · rw [if_pos (show zi (tp.length + 20) ≤ 200 from (zi_le (by omega) (by decide)).mpr q)]
    refine s_feedFour ht (by omega) (fun J1 e1 t1 => ?_)
    refine s_feedFour t1 (by simp only [List.length_append, by4_len]; omega) (fun J2 e2 t2 => ?_)
    refine s_feedFour t2 (by simp only [List.length_append, by4_len]; omega) (fun J3 e3 t3 => ?_)
    refine s_feedFour t3 (by simp only [List.length_append, by4_len]; omega) (fun J4 e4 t4 => ?_)
    refine s_feedFour t4 (by simp only [List.length_append, by4_len]; omega) (fun J5 e5 t5 => ?_)
    have e0 : tp ++ by4 a ++ by4 b ++ by4 c ++ by4 d ++ by4 e = tp ++ by20 a b c d e := by simp only [by20, List.append_assoc]
    rw [e0] at t5
    have hlen : (tp ++ by20 a b c d e).length = tp.length + 20 := by
      simp only [by20, List.length_append, by4_len]
    rw [t5.1, hlen]
    exact h1 q J5 ((((e1.tr e2).tr e3).tr e4).tr e5) t5
  · rw [if_neg (show ¬ zi (tp.length + 20) ≤ 200 from fun r => q ((zi_le (by omega) (by decide)).mp r))]
    exact h0 q
theorem s_Mfeed {a b c d e : Int32} {tp : List Int32} {I : zI} {K : Int32 → zI → Prop} (ht : TapM I tp) (hl : tp.length ≤ 200)
    (h1 : tp.length + 20 ≤ 200 → ∀ J, eqQ Qtm I J → TapM J (tp ++ by20 a b c d e) → K (zi (tp.length + 20)) J) (h0 : ¬ tp.length + 20 ≤ 200 → K (-1) I) : w_M_feed a b c d e I K := by
  unfold w_M_feed
  rw [ht.1, show zi tp.length + 20 = zi (tp.length + 20) from zi_add _ 20]
  by_cases q : tp.length + 20 ≤ 200
  · rw [if_pos (show zi (tp.length + 20) ≤ 200 from (zi_le (by omega) (by decide)).mpr q)]
    refine s_lays ht (by omega) (fun J1 e1 t1 => ?_)
    refine s_lays t1 (by simp only [List.length_append, by4_len]; omega) (fun J2 e2 t2 => ?_)
    refine s_lays t2 (by simp only [List.length_append, by4_len]; omega) (fun J3 e3 t3 => ?_)
    refine s_lays t3 (by simp only [List.length_append, by4_len]; omega) (fun J4 e4 t4 => ?_)
    refine s_lays t4 (by simp only [List.length_append, by4_len]; omega) (fun J5 e5 t5 => ?_)
    have e0 : tp ++ by4 a ++ by4 b ++ by4 c ++ by4 d ++ by4 e = tp ++ by20 a b c d e := by simp only [by20, List.append_assoc]
    rw [e0] at t5
    have hlen : (tp ++ by20 a b c d e).length = tp.length + 20 := by
      simp only [by20, List.length_append, by4_len]
    rw [t5.1, hlen]
    exact h1 q J5 ((((e1.tr e2).tr e3).tr e4).tr e5) t5
  · rw [if_neg (show ¬ zi (tp.length + 20) ≤ 200 from fun r => q ((zi_le (by omega) (by decide)).mp r))]
    exact h0 q
/-- how many bytes back takes; none: it is refused -/
def backN (tp : List Int32) (n : Int32) : Option Nat := if n < 0 then none else if zi tp.length < n then none else some n.toNatClampNeg
theorem backN_le {tp : List Int32} {n : Int32} {k : Nat} (hl : tp.length ≤ 200) (h : backN tp n = some k) : n = zi k ∧ k ≤ tp.length := by
  unfold backN at h
  by_cases h1 : n < 0
  · rw [if_pos h1] at h
    cases h
  · rw [if_neg h1] at h
    by_cases h2 : zi tp.length < n
    · rw [if_pos h2] at h
      cases h
    · rw [if_neg h2] at h
      obtain ⟨a, ha, rfl⟩ := zi_of (Int32.not_lt.mp h1)
      rw [zi_tn ha] at h
      cases h
      exact ⟨rfl, (zi_le ha (by omega)).mp (Int32.not_lt.mp h2)⟩
theorem s_back {n : Int32} {tp : List Int32} {I : zI} {K : Int32 → zI → Prop} (ht : TapX I tp) (hl : tp.length ≤ 200) (h1 : ∀ k, backN tp n = some k → ∀ J, eqQ Qtx I J → TapX J (tp.take (tp.length - k)) → K (zi (tp.length - k)) J) (h0 : backN tp n = none → K (-1) I) : w_Desk_back n I K := by
  unfold w_Desk_back
  rw [ht.1]
  unfold backN at h1 h0
  by_cases q : n < 0
  · rw [if_pos q]
    rw [if_pos q] at h0
    exact h0 rfl
  · rw [if_neg q] at h0 h1 ⊢
    obtain ⟨a, ha, rfl⟩ := zi_of (Int32.not_lt.mp q)
    by_cases q2 : zi tp.length < zi a
    · rw [if_neg (Int32.not_le.mpr q2)]
      rw [if_pos q2] at h0
      exact h0 rfl
    · have q3 := (zi_le ha (by omega)).mp (Int32.not_lt.mp q2)
      rw [if_neg q2] at h1
      rw [if_pos (Int32.not_lt.mp q2), zi_sub q3]
      intro J e
      subst e
      rw [zu_self]
      refine h1 a (by rw [zi_tn ha]) _ (eqQ.rf.zu (Or.inl ⟨rfl, rfl⟩)) ⟨by rw [zu_self, List.length_take]; congr 1; omega, fun j v hv => ?_⟩
      rw [zu_oo (by omega)]
      rw [List.getElem?_take] at hv
      split at hv
      · exact ht.2 j v hv
      · cases hv
theorem s_Mback {n : Int32} {tp : List Int32} {I : zI} {K : Int32 → zI → Prop} (ht : TapM I tp) (hl : tp.length ≤ 200) (h1 : ∀ k, backN tp n = some k → ∀ J, eqQ Qtm I J → TapM J (tp.take (tp.length - k)) → K (zi (tp.length - k)) J) (h0 : backN tp n = none → K (-1) I) : w_M_back n I K := by
  unfold w_M_back
  rw [ht.1]
  unfold backN at h1 h0
  by_cases q : n < 0
  · rw [if_pos q]
    rw [if_pos q] at h0
    exact h0 rfl
  · rw [if_neg q] at h0 h1 ⊢
    obtain ⟨a, ha, rfl⟩ := zi_of (Int32.not_lt.mp q)
    by_cases q2 : zi tp.length < zi a
    · rw [if_neg (Int32.not_le.mpr q2)]
      rw [if_pos q2] at h0
      exact h0 rfl
    · have q3 := (zi_le ha (by omega)).mp (Int32.not_lt.mp q2)
      rw [if_neg q2] at h1
      rw [if_pos (Int32.not_lt.mp q2), zi_sub q3]
      intro J e
      subst e
      rw [zu_self]
      refine h1 a (by rw [zi_tn ha]) _ (eqQ.rf.zu (Or.inl ⟨rfl, rfl⟩)) ⟨by rw [zu_self, List.length_take]; congr 1; omega, fun j v hv => ?_⟩
      rw [zu_oo (by omega)]
      rw [List.getElem?_take] at hv
      split at hv
      · exact ht.2 j v hv
      · cases hv
