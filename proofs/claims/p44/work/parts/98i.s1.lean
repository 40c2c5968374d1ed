/-! ===== arrays in the law's cells ===== -/
def AtL (S : List zC) (I : zI) (k : Nat) (l : List Int32) : Prop := zAt S k l.length ∧ ∀ j, j < l.length → I.1 k j = l.getD j 0
theorem AtL.lt {S : List zC} {I : zI} {k : Nat} {l : List Int32} (h : AtL S I k l) : k < S.length := (List.getElem?_eq_some_iff.mp h.1).1
theorem zAt_up {S S2 : List zC} {k n : Nat} (h : zAt S k n) (e : ∃ T, S2 = S ++ T) : zAt S2 k n := by
  obtain ⟨T, rfl⟩ := e
  show (S ++ T)[k]? = _
  rw [List.getElem?_append_left (List.getElem?_eq_some_iff.mp h).1]
  exact h
theorem zA2_up {S S2 : List zC} {k n : Nat} (h : zA2 S k n) (e : ∃ T, S2 = S ++ T) : zA2 S2 k n := by
  obtain ⟨T, rfl⟩ := e
  show (S ++ T)[k]? = _
  rw [List.getElem?_append_left (List.getElem?_eq_some_iff.mp h).1]
  exact h
theorem zAt_new {S : List zC} {n : Nat} : zAt (S ++ [.inr (.inl (0, n))]) S.length n := by
  show (S ++ [_])[S.length]? = _
  rw [List.getElem?_append_right (Nat.le_refl _), Nat.sub_self]
  rfl
theorem zA2_new {S : List zC} {n : Nat} : zA2 (S ++ [.inr (.inl (1, n))]) S.length n := by
  show (S ++ [_])[S.length]? = _
  rw [List.getElem?_append_right (Nat.le_refl _), Nat.sub_self]
  rfl
theorem AtL.kp {S S2 : List zC} {I J : zI} {k : Nat} {l : List Int32} (h : AtL S I k l) (e : ∃ T, S2 = S ++ T) (hm : J.1 k = I.1 k) : AtL S2 J k l := ⟨zAt_up h.1 e, fun j hj => by rw [hm]; exact h.2 j hj⟩
def Qfr (z : Nat) (a _j : Nat) : Prop := z ≤ a
/-- cells have been made, they alone written -/
def Nw (S : List zC) (I : zI) (S2 : List zC) (J : zI) (m : Nat) : Prop := (∃ T, S2 = S ++ T) ∧ S2.length ≤ S.length + m ∧ eqQ (Qfr S.length) I J ∧ zZ J S2.length
theorem Nw.len {S S2 : List zC} {I J : zI} {m : Nat} (h : Nw S I S2 J m) : S.length ≤ S2.length := by
  obtain ⟨⟨T, rfl⟩, -⟩ := h
  rw [List.length_append]
  omega
theorem Nw.rf {S : List zC} {I : zI} (hz : zZ I S.length) : Nw S I S I 0 := ⟨⟨[], (List.append_nil S).symm⟩, by omega, eqQ.rf, hz⟩
theorem Nw.tr {S S2 S3 : List zC} {I J L : zI} {m m' : Nat} (h1 : Nw S I S2 J m) (h2 : Nw S2 J S3 L m') : Nw S I S3 L (m + m') := by
  have hl := h1.len
  obtain ⟨⟨T, rfl⟩, a2, a3, a4⟩ := h1
  obtain ⟨⟨U, rfl⟩, b2, b3, b4⟩ := h2
  exact ⟨⟨T ++ U, by rw [List.append_assoc]⟩, by omega, a3.tr (b3.mono (fun a j q => by unfold Qfr at q ⊢; omega)), b4⟩
theorem Nw.mono {S S2 : List zC} {I J : zI} {m m' : Nat} (h : Nw S I S2 J m) (hm : m ≤ m') : Nw S I S2 J m' := ⟨h.1, by have := h.2.1; omega, h.2.2⟩
theorem Nw.cell {S S2 : List zC} {I J : zI} {m k : Nat} (h : Nw S I S2 J m) (hk : k < S.length) : J.1 k = I.1 k := funext fun j => h.2.2.1.1 k j (fun q => by unfold Qfr at q; omega)
theorem Nw.at {S S2 : List zC} {I J : zI} {m k : Nat} {l : List Int32} (h : Nw S I S2 J m) (a : AtL S I k l) : AtL S2 J k l := a.kp h.1 (h.cell a.lt)
theorem zZ.zu {I : zI} {n k j : Nat} {v : Int32} (h : zZ I n) (hk : k < n) : zZ (zu I k j v) n := fun a ha => ⟨fun i => by rw [zu_oo (by omega)]; exact (h a ha).1 i, (h a ha).2⟩
theorem zZ.q {I J : zI} {n : Nat} {Q : Nat → Nat → Prop} (h : zZ I n) (q : eqQ Q I J) (hQ : ∀ a j, Q a j → a < n) : zZ J n := fun a ha => ⟨fun j => (q.1 a j (fun u => by have := hQ a j u; omega)).trans ((h a ha).1 j), fun j => (q.2 a j (fun u => by have := hQ a j u; omega)).trans ((h a ha).2 j)⟩
theorem gd_l {u v : List Int32} {i : Nat} (h : i < u.length) : (u ++ v).getD i 0 = u.getD i 0 := by
  rw [List.getD_eq_getElem?_getD, List.getElem?_append_left h, ← List.getD_eq_getElem?_getD]
theorem gd_r {u v : List Int32} {i : Nat} (h : u.length ≤ i) : (u ++ v).getD i 0 = v.getD (i - u.length) 0 := by
  rw [List.getD_eq_getElem?_getD, List.getElem?_append_right h, ← List.getD_eq_getElem?_getD]
/-- a loop that counts up -/
theorem s_up {P : Int32 → zI → Prop} {n : Nat} (Inv : Nat → zI → Prop) (step : ∀ i J, i < n → Inv i J → (∀ J', Inv (i + 1) J' → P (zi (i + 1)) J') → P (zi i) J) (last : ∀ J, Inv n J → P (zi n) J) : ∀ d i, d + i = n → ∀ J, Inv i J → P (zi i) J := by
  intro d
  induction d with
  | zero =>
    intro i h J hJ
    have e : i = n := by omega
    subst e
    exact last J hJ
  | succ d ih => exact fun i h J hJ => step i J (by omega) hJ (fun J' h' => ih (i + 1) (by omega) J' h')
/-- the cell k is being filled with l -/
def Bd (I0 : zI) (k : Nat) (l : List Int32) (i : Nat) (J : zI) : Prop := (∀ j, j < i → J.1 k j = l.getD j 0) ∧ eqQ (fun a _ => a = k) I0 J
theorem Bd.start {I : zI} {k : Nat} {l : List Int32} : Bd I k l 0 I := ⟨fun _ h => absurd h (Nat.not_lt_zero _), eqQ.rf⟩
theorem Bd.next {I J : zI} {k i : Nat} {l : List Int32} {v : Int32} (h : Bd I k l i J) (hv : v = l.getD i 0) : Bd I k l (i + 1) (zu J k i v) := ⟨fun j hj => by
  rw [zu_at]
  by_cases e : j = i
  · rw [if_pos ⟨rfl, e⟩, e]
    exact hv
  · rw [if_neg (fun q => e q.2)]
    exact h.1 j (by omega), h.2.zu rfl⟩
theorem Bd.o {I J : zI} {k i a : Nat} {l : List Int32} (h : Bd I k l i J) (ha : a ≠ k) : J.1 a = I.1 a := funext fun j => h.2.1 a j ha
theorem Bd.nw {S : List zC} {I J : zI} {l : List Int32} (h : Bd I S.length l l.length J) (hz : zZ I S.length) : Nw S I (S ++ [.inr (.inl (0, l.length))]) J 1 ∧ AtL (S ++ [.inr (.inl (0, l.length))]) J S.length l := by
  have hl : (S ++ [(.inr (.inl (0, l.length)) : zC)]).length = S.length + 1 := by rw [List.length_append]; rfl
  refine ⟨⟨⟨_, rfl⟩, by omega, h.2.mono (fun a j q => by unfold Qfr; omega), ?_⟩, zAt_new, fun j hj => h.1 j hj⟩
  rw [hl]
  exact (hz.up (Nat.le_succ _)).q h.2 (fun a j q => by omega)
/-! ===== with, part ===== -/
theorem s_with {S : List zC} {I : zI} {a b : Nat} {la lb : List Int32} {K : Nat → Nat → List zC → zI → Prop} (hA : AtL S I a la) (hB : AtL S I b lb) (hl : la.length + lb.length ≤ 1000) (hz : zZ I S.length) (hK : ∀ S2 J, Nw S I S2 J 1 → AtL S2 J S.length (la ++ lb) → K S.length (la ++ lb).length S2 J) : w_Law_with a la.length b lb.length S I K := by
  have hln : (la ++ lb).length = la.length + lb.length := List.length_append
  have e0 : Int32.ofNat la.length + Int32.ofNat lb.length = zi (la ++ lb).length := by rw [hln]; exact zi_add _ _
  refine ⟨hA.1, hB.1, ?_, ?_⟩
  · rw [e0, zi_tn (by omega)]
    exact ⟨hz, zi_ge (by omega), by omega, by omega, by omega⟩
  intro S1 k n eS eK eN
  rw [e0, zi_tn (by omega)] at eN
  subst eN
  subst eS
  subst eK
  have up : ∃ T, S ++ [(.inr (.inl (0, (la ++ lb).length)) : zC)] = S ++ T := ⟨_, rfl⟩
  intro P hP
  refine s_up (n := (la ++ lb).length) (P := P) (Bd I S.length (la ++ lb)) (fun i J hi hJ kk => ?_) (fun J hJ => ?_) _ 0 rfl I Bd.start
  · refine hP _ _ ⟨zAt_new, ?_⟩
    rw [if_neg (show ¬ zi (la ++ lb).length ≤ zi i from fun q => by have := (zi_le (by omega) (by omega)).mp q; omega)]
    refine ⟨zAt_up hA.1 up, ?_⟩
    intro P36 h36
    have nx : ∀ t, t = (la ++ lb).getD i 0 → P36 t := fun t ht => h36 t ⟨⟨zAt_new, (zin_iff (by omega)).mpr hi⟩, fun I8 e8 v3 e3 => by
      subst e8
      subst e3
      rw [zi_succ, zi_tn (by omega)]
      exact kk _ (hJ.next ht)⟩
    by_cases hc : la.length ≤ i
    · rw [if_pos (show zi la.length ≤ zi i from (zi_le (by omega) (by omega)).mpr hc)]
      rw [show zi i - Int32.ofNat la.length = zi (i - la.length) from zi_sub hc]
      refine ⟨zAt_up hA.1 up, ⟨zAt_up hB.1 up, (zin_iff (by omega)).mpr (by omega)⟩, nx _ ?_⟩
      rw [zi_tn (by omega), hJ.o (show b ≠ S.length by have := hB.lt; omega), hB.2 _ (by omega), gd_r hc]
    · rw [if_neg (show ¬ zi la.length ≤ zi i from fun q => hc ((zi_le (by omega) (by omega)).mp q))]
      refine ⟨⟨zAt_up hA.1 up, (zin_iff (by omega)).mpr (by omega)⟩, nx _ ?_⟩
      rw [zi_tn (by omega), hJ.o (show a ≠ S.length by have := hA.lt; omega), hA.2 _ (by omega), gd_l (by omega)]
  · refine hP _ _ ⟨zAt_new, ?_⟩
    rw [if_pos (show zi (la ++ lb).length ≤ zi (la ++ lb).length from (zi_le (by omega) (by omega)).mpr (Nat.le_refl _))]
    obtain ⟨n1, n2⟩ := hJ.nw hz
    exact hK _ _ n1 n2
theorem gd_dt {l : List Int32} {f t i : Nat} (h : i < t) : ((l.drop f).take t).getD i 0 = l.getD (f + i) 0 := by
  rw [List.getD_eq_getElem?_getD, List.getElem?_take_of_lt h, List.getElem?_drop, ← List.getD_eq_getElem?_getD]
theorem s_part {S : List zC} {I : zI} {a f t : Nat} {la : List Int32} {K : Nat → Nat → List zC → zI → Prop} (hA : AtL S I a la) (hf : f ≤ t) (ht : t ≤ la.length) (hl : la.length ≤ 1000) (hz : zZ I S.length) (hK : ∀ S2 J, Nw S I S2 J 1 → AtL S2 J S.length ((la.drop f).take (t - f)) → K S.length ((la.drop f).take (t - f)).length S2 J) : w_Law_part a la.length (zi f) (zi t) S I K := by
  have hln : ((la.drop f).take (t - f)).length = t - f := by rw [List.length_take, List.length_drop]; omega
  have e0 : zi t - zi f = zi (t - f) := zi_sub hf
  refine ⟨?_, ?_⟩
  · rw [e0, zi_tn (by omega)]
    exact ⟨hz, zi_ge (by omega), by omega, by omega, by omega⟩
  intro S1 k n eS eK eN
  rw [e0, zi_tn (by omega), ← hln] at eN
  subst eN
  subst eS
  subst eK
  have up : ∃ T, S ++ [(.inr (.inl (0, ((la.drop f).take (t - f)).length)) : zC)] = S ++ T := ⟨_, rfl⟩
  intro P hP
  refine s_up (n := ((la.drop f).take (t - f)).length) (P := P) (Bd I S.length ((la.drop f).take (t - f))) (fun i J hi hJ kk => ?_) (fun J hJ => ?_) _ 0 rfl I Bd.start
  · refine hP _ _ ⟨zAt_new, ?_⟩
    rw [if_neg (show ¬ zi ((la.drop f).take (t - f)).length ≤ zi i from fun q => by have := (zi_le (by omega) (by omega)).mp q; omega)]
    rw [show zi f + zi i = zi (f + i) from zi_add _ _]
    refine ⟨⟨zAt_up hA.1 up, (zin_iff (by omega)).mpr (by omega)⟩, ⟨zAt_new, (zin_iff (by omega)).mpr hi⟩, fun I7 e7 v4 e4 => ?_⟩
    subst e7
    subst e4
    rw [zi_succ, zi_tn (by omega), zi_tn (by omega)]
    refine kk _ (hJ.next ?_)
    rw [hJ.o (show a ≠ S.length by have := hA.lt; omega), hA.2 _ (by omega), gd_dt (by omega)]
  · refine hP _ _ ⟨zAt_new, ?_⟩
    rw [if_pos (show zi ((la.drop f).take (t - f)).length ≤ zi ((la.drop f).take (t - f)).length from (zi_le (by omega) (by omega)).mpr (Nat.le_refl _))]
    obtain ⟨n1, n2⟩ := hJ.nw hz
    exact hK _ _ n1 n2
/-! ===== sign, tape ===== -/
theorem byW_all : ∀ d, d < 256 → byW (zi d <<< ((24 : Int32) &&& (31 : Int32))) 24 = zi d := by decide +kernel
theorem byW_sh (c : Int32) (h : byt c) : byW (c <<< ((24 : Int32) &&& (31 : Int32))) 24 = c := by
  obtain ⟨d, hd, rfl⟩ := h
  exact byW_all d hd
theorem s_sign {x : Sg} {c : Int32} {S : List zC} {I : zI} {K : zI → Prop} (hv : Iv x) (hR : RX I x) (hc : byt c) (hl : (sgT x).length + 20 ≤ 200) (hK : ∀ J, eqQ Qcl I J → RX J (sgT x ++ [c], x.2) → K J) : w_Law_sign c S I K := by
  have hT : TapX I (sgT x) := hR.1
  refine s_feed hT (by omega) (fun _ J1 q1 t1 => ?_) (fun u => absurd hl u)
  have l20 : (sgT x ++ by20 (c <<< ((24 : Int32) &&& (31 : Int32))) 0 0 0 0).length = (sgT x).length + 20 := by
    rw [List.length_append]
    rfl
  refine s_back t1 (by omega) (fun k hk J2 q2 t2 => ?_) (fun u => ?_)
  · obtain ⟨e1, -⟩ := backN_le (by omega) hk
    have e2 : k = 19 := by
      unfold backN at hk
      rw [if_neg (by decide), if_neg (by rw [l20]; exact fun w => by have := (zi_lt (a := (sgT x).length + 20) (b := 19) (by omega) (by decide)).mp w; omega)] at hk
      cases hk
      rfl
    subst e2
    rw [l20, show (sgT x).length + 20 - 19 = (sgT x).length + 1 by omega] at t2
    have e3 : (sgT x ++ by20 (c <<< ((24 : Int32) &&& (31 : Int32))) 0 0 0 0).take ((sgT x).length + 1) = sgT x ++ [c] := by
      have e4 : by20 (c <<< ((24 : Int32) &&& (31 : Int32))) 0 0 0 0 = [c] ++ (by20 (c <<< ((24 : Int32) &&& (31 : Int32))) 0 0 0 0).tail := by
        show byW (c <<< ((24 : Int32) &&& (31 : Int32))) 24 :: (by20 (c <<< ((24 : Int32) &&& (31 : Int32))) 0 0 0 0).tail = c :: (by20 (c <<< ((24 : Int32) &&& (31 : Int32))) 0 0 0 0).tail
        rw [byW_sh c hc]
      rw [e4, ← List.append_assoc, show (sgT x).length + 1 = (sgT x ++ [c]).length by rw [List.length_append]; rfl, List.take_left]
    rw [e3] at t2
    exact hK J2 ((q1.tr q2).mono (fun a j u => by unfold Qtx at u; unfold Qcl; omega)) (RX.tp hv hR (q1.tr q2) t2)
  · unfold backN at u
    rw [if_neg (by decide), if_neg (by rw [l20]; exact fun w => by have := (zi_lt (a := (sgT x).length + 20) (b := 19) (by omega) (by decide)).mp w; omega)] at u
    cases u
theorem tkS_at : ∀ {l : List Int32} {i : Nat}, i < l.length → l.take (i + 1) = l.take i ++ [l.getD i 0]
  | [], _, h => absurd h (Nat.not_lt_zero _)
  | _ :: _, 0, _ => rfl
  | a :: t, i + 1, h => by
    show a :: t.take (i + 1) = a :: (t.take i ++ [t.getD i 0])
    rw [tkS_at (l := t) (Nat.lt_of_succ_lt_succ h)]
theorem getD_mem {l : List Int32} {i : Nat} (h : i < l.length) : l.getD i 0 ∈ l := by
  rw [List.getD_eq_getElem?_getD, List.getElem?_eq_getElem h]
  exact List.getElem_mem h
theorem s_tape {x : Sg} {S : List zC} {I : zI} {a : Nat} {l : List Int32} {K : zI → Prop} (hs : Lsv x) (hR : RX I x) (hA : AtL S I a l) (ha : 491 ≤ a) (hb : BtL l) (hl : (sgT x).length + l.length + 19 ≤ 200) (hK : ∀ J, eqQ Qcl I J → RX J (sgT x ++ l, x.2) → K J) : w_Law_tape a l.length S I K := by
  refine ⟨hA.1, fun v3 e3 P hP => ?_⟩
  subst e3
  refine s_up (n := l.length) (P := P) (fun i J => eqQ Qcl I J ∧ RX J (sgT x ++ l.take i, x.2)) (fun i J hi hJ kk => ?_) (fun J hJ => ?_) _ 0 rfl I ⟨eqQ.rf, by rw [List.take_zero, List.append_nil]; exact hR⟩
  · refine hP _ _ ?_
    rw [if_neg (show ¬ zi l.length ≤ zi i from nle_zi hi (by omega))]
    refine ⟨⟨hA.1, (zin_iff (by omega)).mpr hi⟩, fun v5 e5 => ?_⟩
    rw [zi_tn (by omega), hJ.1.1 a i (by unfold Qcl; omega), hA.2 i hi] at e5
    subst e5
    have bt : byt (l.getD i 0) := hb _ (getD_mem hi)
    have lt : (sgT x ++ l.take i).length ≤ (sgT x).length + i := by rw [List.length_append, List.length_take]; omega
    have hv' : Iv (sgT x ++ l.take i, x.2) := (tape_ls hs (by omega) (fun b hb' => by
      rcases List.mem_append.mp hb' with u | u
      · exact hs.1.1.2 b u
      · exact hb b (List.mem_of_mem_take u))).1
    refine s_sign (x := (sgT x ++ l.take i, x.2)) hv' hJ.2 bt (show (sgT x ++ l.take i).length + 20 ≤ 200 by omega) (fun J2 q2 r2 v4 e4 => ?_)
    subst e4
    rw [zi_succ]
    refine kk J2 ⟨hJ.1.tr q2, ?_⟩
    rw [tkS_at hi, ← List.append_assoc]
    exact r2
  · refine hP _ _ ?_
    rw [if_pos (show zi l.length ≤ zi l.length from (zi_le (by omega) (by omega)).mpr (Nat.le_refl _))]
    have h := hJ.2
    rw [List.take_length] at h
    exact hK J hJ.1 h
/-! ===== what counts tell ===== -/
theorem k_0 {x : Sg} {I : zI} {K : Int32 → Prop} (hR : RX I x) (h : K (zi (moT (sgC x)).length)) : w_Desk_count 0 I K := t_count (a := 0) hR (Or.inl (by decide)) h
theorem k_1 {x : Sg} {I : zI} {K : Int32 → Prop} (hR : RX I x) (h : K (zi (lexL (moT (sgC x))).length)) : w_Desk_count 1 I K := t_count (a := 1) hR (Or.inl (by decide)) h
theorem k_2 {x : Sg} {I : zI} {K : Int32 → Prop} (hR : RX I x) (h : K (b01 (moB (sgC x)))) : w_Desk_count 2 I K := t_count (a := 2) hR (Or.inl (by decide)) h
theorem k_3 {x : Sg} {I : zI} {K : Int32 → Prop} (hR : RX I x) (h : K (zi (nG x))) : w_Desk_count 3 I K := t_count (a := 3) hR (Or.inl (by decide)) h
theorem k_4 {x : Sg} {I : zI} {K : Int32 → Prop} (hR : RX I x) (h : K (zi (moR (sgC x)))) : w_Desk_count 4 I K := t_count (a := 4) hR (Or.inl (by decide)) h
theorem k_5 {x : Sg} {I : zI} {K : Int32 → Prop} (hR : RX I x) (h : K (zi (sgM x))) : w_Desk_count 5 I K := t_count (a := 5) hR (Or.inl (by decide)) h
theorem k_6 {x : Sg} {I : zI} {K : Int32 → Prop} (hR : RX I x) (h : K (zi (sgE x))) : w_Desk_count 6 I K := t_count (a := 6) hR (Or.inl (by decide)) h
theorem k_7 {x : Sg} {I : zI} {K : Int32 → Prop} (hR : RX I x) (h : K (zi (sgT x).length)) : w_Desk_count 7 I K := t_count (a := 7) hR (Or.inl (by decide)) h
theorem k_8 {x : Sg} {I : zI} {K : Int32 → Prop} (hR : RX I x) (h : K (zi (sgA x).length)) : w_Desk_count 8 I K := t_count (a := 8) hR (Or.inl (by decide)) h
theorem k_9 {x : Sg} {I : zI} {K : Int32 → Prop} (hR : RX I x) (h : K (zi (sgZ x).length)) : w_Desk_count 9 I K := t_count (a := 9) hR (Or.inl (by decide)) h
theorem k_10 {x : Sg} {I : zI} {K : Int32 → Prop} (hR : RX I x) (h : K (zi (FF x).length)) : w_Desk_count 10 I K := t_count (a := 10) hR (Or.inl (by decide)) h
theorem k_12 {x : Sg} {I : zI} {K : Int32 → Prop} (hR : RX I x) (h : K (suA (sgN x) (ruE (ruR x)) (FF x))) : w_Desk_count 12 I K := t_count (a := 12) hR (by decide) h
theorem k_13 {x : Sg} {I : zI} {K : Int32 → Prop} (hR : RX I x) (h : K (zi (cnD (sgN x) (ylR x) (ruT (ruR x))))) : w_Desk_count 13 I K := t_count (a := 13) hR (by decide) h
theorem k_15 {x : Sg} {I : zI} {K : Int32 → Prop} (hR : RX I x) (h : K (zi (prt (sgN x) (moR (sgC x))).length)) : w_Desk_count 15 I K := t_count (a := 15) hR (by decide) h
theorem k_17 {x : Sg} {I : zI} {K : Int32 → Prop} (hR : RX I x) (h : K (zi (cnR (sgN x) 8 (FF x)))) : w_Desk_count 17 I K := t_count (a := 17) hR (by decide) h
theorem RX_fr {x : Sg} {I J : zI} {Q : Nat → Nat → Prop} (hv : Iv x) (h : RX I x) (q : eqQ Q I J) (hQ : ∀ a j, Q a j → 491 ≤ a) : RX J x := h.kp hv (fun a j u => q.1 a j (fun w => by have := hQ a j w; omega))
theorem vText_at {x : Sg} (hv : Iv x) {i : Nat} (h : i < (moT (sgC x)).length) : vText x (zi i) = (moT (sgC x)).getD i 0 := by
  have l300 := hv.2.2.2.2.2.2.2.1.1.1
  unfold vText
  rw [ixI_some (by omega) h]
  rfl
/-! ===== text ===== -/
theorem s_ltext {x : Sg} {S : List zC} {I : zI} {K : Nat → Nat → List zC → zI → Prop} (hv : Iv x) (hR : RX I x) (hz : zZ I S.length) (h491 : 491 ≤ S.length) (hK : ∀ S2 J, Nw S I S2 J 1 → RX J x → AtL S2 J S.length (moT (sgC x)) → K S.length (moT (sgC x)).length S2 J) : w_Law_text S I K := by
  have l300 : (moT (sgC x)).length ≤ 300 := hv.2.2.2.2.2.2.2.1.1.1
  refine k_0 hR ⟨?_, ?_⟩
  · rw [zi_tn (by omega)]
    exact ⟨hz, zi_ge (by omega), by omega, by omega, by omega⟩
  intro S1 k n eS eK eN
  rw [zi_tn (by omega)] at eN
  subst eN
  subst eS
  subst eK
  intro P hP
  refine s_up (n := (moT (sgC x)).length) (P := P) (Bd I S.length (moT (sgC x))) (fun i J hi hJ kk => ?_) (fun J hJ => ?_) _ 0 rfl I Bd.start
  · refine hP _ _ ⟨zAt_new, ?_⟩
    rw [if_neg (show ¬ zi (moT (sgC x)).length ≤ zi i from nle_zi hi (by omega))]
    have hR2 : RX J x := RX_fr hv hR hJ.2 (fun a j q => by omega)
    refine t_text hv hR2 ⟨⟨zAt_new, (zin_iff (by omega)).mpr hi⟩, fun I9 e9 v2 e2 => ?_⟩
    subst e9
    subst e2
    rw [zi_succ, zi_tn (by omega)]
    exact kk _ (hJ.next (vText_at hv hi))
  · refine hP _ _ ⟨zAt_new, ?_⟩
    rw [if_pos (show zi (moT (sgC x)).length ≤ zi (moT (sgC x)).length from (zi_le (by omega) (by omega)).mpr (Nat.le_refl _))]
    obtain ⟨n1, n2⟩ := hJ.nw hz
    exact hK _ _ n1 (RX_fr hv hR hJ.2 (fun a j q => by omega)) n2
