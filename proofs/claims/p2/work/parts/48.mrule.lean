/-! ===== a RULE on the stack: the model ===== -/
def StM (I : zI) (st : List (Nat × Nat)) : Prop := 1 ≤ st.length ∧ I.1 491 71 = zi st.length ∧ ∀ j p, st[j]? = some p → I.1 539 j = zi p.2 ∧ (1 ≤ j → I.1 540 j = zi p.1)
def Qlo (n a j : Nat) : Prop := (a = 491 ∧ (j = 71 ∨ j = 72)) ∨ (a = 539 ∧ j = n) ∨ (a = 540 ∧ j = n)
theorem s_laysOn {c s : Nat} {st : List (Nat × Nat)} {I : zI} {K : zI → Prop} (hS : StM I st) (hl : st.length < 400)
    (hK : ∀ J, eqQ (Qlo st.length) I J → StM J (st ++ [(c, s)]) → J.1 491 72 = I.1 491 72 + 1 → K J) : w_M_laysOn (zi c) (zi s) I K := by
  obtain ⟨h0, h1, h2⟩ := hS
  refine ⟨by rw [h1]; exact (zin_iff (by omega)).mpr (by omega), fun I1 e1 => ?_⟩
  rw [h1, zi_tn (by omega)] at e1
  have g1 : I1.1 491 71 = zi st.length := by rw [e1, zu_oo (by decide)]; exact h1
  refine ⟨by rw [g1]; exact (zin_iff (by omega)).mpr (by omega), fun I2 e2 I3 e3 I4 e4 => ?_⟩
  rw [g1, zi_tn (by omega)] at e2
  have g2 : I2.1 491 71 = zi st.length := by rw [e2, zu_oo (by decide)]; exact g1
  rw [g2, zi_succ] at e3
  have f1 : eqQ (Qlo st.length) I I1 := by rw [e1]; exact eqQ.rf.zu (Or.inr (Or.inr ⟨rfl, rfl⟩))
  have f2 : eqQ (Qlo st.length) I I2 := by rw [e2]; exact f1.zu (Or.inr (Or.inl ⟨rfl, rfl⟩))
  have f3 : eqQ (Qlo st.length) I I3 := by rw [e3]; exact f2.zu (Or.inl ⟨rfl, Or.inl rfl⟩)
  have f4 : eqQ (Qlo st.length) I I4 := by rw [e4]; exact f3.zu (Or.inl ⟨rfl, Or.inr rfl⟩)
  refine hK I4 f4 ⟨by rw [List.length_append]; exact Nat.le_add_right_of_le h0, ?_, fun j p hj => ?_⟩ ?_
  · rw [e4, zu_at, if_neg (by omega), e3, zu_self, List.length_append]
    rfl
  · by_cases q : j < st.length
    · rw [List.getElem?_append_left q] at hj
      rw [f4.1 539 j (by unfold Qlo; omega), f4.1 540 j (by unfold Qlo; omega)]
      exact h2 j p hj
    · have hj2 := (List.getElem?_eq_some_iff.mp hj).1
      rw [List.length_append] at hj2
      have hil : j = st.length := by
        have : [(c, s)].length = 1 := rfl
        omega
      rw [hil, List.getElem?_append_right (Nat.le_refl _), Nat.sub_self] at hj
      cases hj
      rw [hil]
      exact ⟨by rw [e4, zu_oo (by decide), e3, zu_oo (by decide), e2, zu_self], fun _ => by rw [e4, zu_oo (by decide), e3, zu_oo (by decide), e2, zu_oo (by decide), e1, zu_self]⟩
  · rw [e4, zu_self, e3, zu_at, if_neg (by omega), e2, zu_oo (by decide), e1, zu_oo (by decide)]
def Qbm (m a j : Nat) : Prop := Qnm m a j ∨ (a = 491 ∧ (j = 71 ∨ j = 72)) ∨ ((a = 539 ∨ a = 540) ∧ j < 400)
theorem s_makesBy {m r e : Nat} {st : List (Nat × Nat)} {N : Nat → Nd} {I : zI} {K : zI → Prop} (rep : RepNM I m N) (hc : ∀ k, k < m → (ndC (N k)).length ≤ 4) (hm : m < 3700) (he : I.1 491 36 = zi e) (hS : StM I st) (ok : StOk m st) (hl : st.length < 400) (hr : r < 11) (hf : lnN r < st.length) (hld : ldN (byS st r) (syN r) ≠ 0)
    (hK : ∀ J, eqQ (Qbm m) I J → RepNM J (m + 1) (upN N m (byN N st r e)) → StM J (byT m st r) → J.1 491 72 = I.1 491 72 + 1 → K J) : w_M_makesBy (zi r) I K := by
  unfold w_M_makesBy
  obtain ⟨h0, h1, h2⟩ := id hS
  have ln4 := (ln_fin r hr).2
  change lnN r ≤ 4 at ln4
  refine s_manyOf hr ?_
  intro I2 e2
  rw [h1, zi_sub (by omega)] at e2
  have q2 : eqQ (Qbm m) I I2 := by rw [e2]; exact eqQ.rf.zu (Or.inr (Or.inl ⟨rfl, Or.inl rfl⟩))
  have o2 : ∀ a j, ¬ (a = 491 ∧ j = 71) → I2.1 a j = I.1 a j := fun a j u => by rw [e2, zu_at, if_neg u]
  have o22 : ∀ a j, I2.2 a j = I.2 a j := fun a j => by rw [e2]; rfl
  have g71 : I2.1 491 71 = zi (st.length - lnN r) := by rw [e2, zu_self]
  have rep2 : RepNM I2 m N := ⟨by rw [o2 _ _ (by omega)]; exact rep.1, fun k hk => (rep.2 k hk).kept (hc k hk) (fun a u1 u2 u3 => o2 a k (by omega)) (fun i hi => o2 _ _ (by omega)) (o22 _ _)⟩
  have hb : st[st.length - lnN r - 1]? = some (st.getD (st.length - lnN r - 1) (0, 0)) := by
    rw [List.getD_eq_getElem?_getD, List.getElem?_eq_getElem (by omega)]
    rfl
  have hs' : byS st r < 21 := (ok _ _ hb).1
  have hCl : (byC st r).length = lnN r := byC_len (by omega)
  have hCi : ∀ i, i < lnN r → ∃ c, (byC st r)[i]? = some c ∧ c < m ∧ I.1 540 (st.length - lnN r + i) = zi c := by
    intro i hi
    have hp : st[st.length - lnN r + i]? = some (st[st.length - lnN r + i]'(by omega)) := List.getElem?_eq_getElem (by omega)
    refine ⟨(st[st.length - lnN r + i]'(by omega)).1, ?_, (ok _ _ hp).2 (by omega), (h2 _ _ hp).2 (by omega)⟩
    unfold byC
    rw [List.getElem?_map, List.getElem?_drop, hp]
    rfl
  rw [← zi_int r]
  refine s_newNode (N := N) (r := (r : Int)) (tk := 0) rep2 hc hm (by rw [o2 _ _ (by omega)]; exact he) (fun J4 q4 m4 k4 n1 n2 n3 n4 n5 => ?_)
  rw [zi_int r] at n1 ⊢
  refine ⟨(zin_iff (by omega)).mpr (by omega), fun J5 e5 => ?_⟩
  rw [zi_tn (show m < 2147483648 by omega)] at e5
  have q5 : eqQ (Qnm m) I2 J5 := by rw [e5]; exact q4.zu (Or.inr (Or.inl (by omega)))
  have o5 : ∀ a j, a ≠ 512 → J5.1 a j = J4.1 a j := fun a j u => by rw [e5, zu_oo u]
  intro P hP
  have main : ∀ d i J, i + d = lnN r → eqQ (fun a j => (a = 513 ∧ 4 * m ≤ j) ∨ (a = 515 ∧ j = m)) J5 J → J.1 515 m = zi (tkS N ((byC st r).take i)) → (∀ j c, j < i → (byC st r)[j]? = some c → J.1 513 (4 * m + j) = zi c) → P (zi i) J := by
    intro d
    induction d with
    | zero =>
      intro i J hi q ht hch
      refine hP _ _ ?_
      rw [if_pos ((zi_le (by omega) (by omega)).mpr (by omega))]
      have gJ : J.1 491 71 = zi (st.length - lnN r) := by rw [q.1 491 71 (by omega), q5.1 491 71 (by unfold Qnm; omega)]; exact g71
      have gp : J.1 491 71 - 1 = zi (st.length - lnN r - 1) := by
        rw [gJ]
        exact zi_sub (b := 1) (by omega)
      rw [gp]
      refine ⟨(zin_iff (by omega)).mpr (by omega), (zin_iff (by omega)).mpr (by omega), fun J8 e8 => ⟨(zin_iff (by omega)).mpr (by omega), ?_⟩⟩
      rw [zi_tn (show m < 2147483648 by omega), zi_tn (show st.length - lnN r - 1 < 2147483648 by omega)] at e8
      have gs : J.1 539 (st.length - lnN r - 1) = zi (byS st r) := by
        rw [q.1 539 _ (by omega), q5.1 539 _ (by unfold Qnm; omega), o2 _ _ (by omega)]
        exact (h2 _ _ hb).1
      rw [gs] at e8
      refine s_MsymbolOf hr ?_
      rw [zi_tn (show m < 2147483648 by omega), show J8.1 514 m = zi (byS st r) by rw [e8, zu_self]]
      refine s_leads hs' (by have := (sy_fin r hr).2; exact this) hld ?_
      have o8 : ∀ a j, a ≠ 514 → J8.1 a j = J.1 a j := fun a j u => by rw [e8, zu_oo u]
      have q8 : eqQ (Qnm m) I2 J8 := by
        rw [e8]
        refine (q5.tr (q.mono (fun a j h => ?_))).zu (Or.inr (Or.inr (Or.inl (by omega))))
        unfold Qnm
        omega
      have hlen : (st.take (st.length - lnN r)).length = st.length - lnN r := by rw [List.length_take]; omega
      have hbS : StM J8 (st.take (st.length - lnN r)) := by
        refine ⟨by omega, ?_, fun j p hj => ?_⟩
        · rw [o8 _ _ (by decide), gJ, hlen]
        · have hj2 := (List.getElem?_eq_some_iff.mp hj).1
          rw [List.getElem?_take, if_pos (by omega)] at hj
          rw [q8.1 539 j (by unfold Qnm; omega), q8.1 540 j (by unfold Qnm; omega), o2 _ _ (by omega), o2 _ _ (by omega)]
          exact h2 j p hj
      refine s_laysOn hbS (by omega) (fun J6 q6 r6 c6 => ?_)
      rw [hlen] at q6
      have ti : (byC st r).take i = byC st r := List.take_of_length_le (by omega)
      rw [ti] at ht
      have qJ6 : eqQ (Qbm m) I J6 := (q2.tr (q8.mono (fun a j h => Or.inl h))).tr (q6.mono (fun a j h => by unfold Qlo at h; unfold Qbm; omega))
      have o6 : ∀ a j, ¬ Qlo (st.length - lnN r) a j → J6.1 a j = J8.1 a j := fun a j u => q6.1 a j u
      refine hK J6 qJ6 ⟨?_, fun k hk => ?_⟩ r6 ?_
      · rw [o6 _ _ (by unfold Qlo; omega), o8 _ _ (by decide), q.1 _ _ (by omega), o5 _ _ (by decide)]
        exact m4
      · by_cases u : k = m
        · subst u
          rw [upN_self]
          refine ⟨?_, ?_, ?_, ?_, ?_, fun j c hj => ?_, fun w => absurd w ?_⟩
          · rw [o6 _ _ (by unfold Qlo; omega), o8 _ _ (by decide), q.1 _ _ (by omega), o5 _ _ (by decide), n1]
            exact (zi_int r).symm
          · rw [o6 _ _ (by unfold Qlo; omega), e8, zu_self]
            exact (zi_int _).symm
          · rw [o6 _ _ (by unfold Qlo; omega), o8 _ _ (by decide), ht]
            rfl
          · rw [o6 _ _ (by unfold Qlo; omega), o8 _ _ (by decide), q.1 _ _ (by omega), o5 _ _ (by decide), n4]
            rfl
          · rw [o6 _ _ (by unfold Qlo; omega), o8 _ _ (by decide), q.1 _ _ (by omega), e5, zu_self]
            unfold ndL ndR byN rlNd
            rw [if_neg (by show ¬ (r : Int) < 0; omega)]
            rfl
          · rw [o6 _ _ (by unfold Qlo; omega), o8 _ _ (by decide)]
            have hj' : (byC st r)[j]? = some c := hj
            have := (List.getElem?_eq_some_iff.mp hj').1
            exact hch j c (by omega) hj'
          · show ¬ (r : Int) < 0
            omega
        · rw [upN_o u]
          have hk' : k < m := by omega
          refine (k4 k hk').kept (hc k hk') (fun a u1 u2 u3 => ?_) (fun j hj => ?_) ?_
          · rw [o6 _ _ (by unfold Qlo; omega)]
            by_cases u4 : a = 514
            · rw [u4, e8, zu_at, if_neg (by omega), q.1 _ _ (by omega), o5 _ _ (by decide)]
            · rw [o8 _ _ u4, q.1 _ _ (by omega)]
              by_cases u5 : a = 512
              · rw [u5, e5, zu_at, if_neg (by omega)]
              · rw [o5 _ _ u5]
          · rw [o6 _ _ (by unfold Qlo; omega), o8 _ _ (by decide), q.1 _ _ (by omega), o5 _ _ (by decide)]
          · rw [q6.2 _ _ (by unfold Qlo; omega), e8]
            show J.2 511 k = _
            rw [q.2 _ _ (by omega), e5]
            rfl
      · rw [c6, q8.1 491 72 (by unfold Qnm; omega), o2 _ _ (by omega)]
    | succ d ih =>
      intro i J hi q ht hch
      refine hP _ _ ?_
      rw [if_neg (fun u => by have := (zi_le (by omega) (by omega)).mp u; omega)]
      obtain ⟨c, hci, hcm, hcI⟩ := hCi i (by omega)
      have gJ : J.1 491 71 = zi (st.length - lnN r) := by rw [q.1 491 71 (by omega), q5.1 491 71 (by unfold Qnm; omega)]; exact g71
      rw [gJ, zi_add]
      refine ⟨(zin_iff (by omega)).mpr (by omega), fun v ev => ?_⟩
      rw [zi_tn (by omega), q.1 540 _ (by omega), q5.1 540 _ (by unfold Qnm; omega), o2 _ _ (by omega), hcI] at ev
      subst ev
      rw [show (4 : Int32) = zi 4 from rfl, zi_mul, zi_add]
      refine ⟨(zin_iff (by omega)).mpr (by omega), fun J3 e3 => ⟨(zin_iff (by omega)).mpr (by omega), (zin_iff (by omega)).mpr (by omega), (zin_iff (by omega)).mpr (by omega), fun J6 e6 v ev => ?_⟩⟩
      rw [zi_tn (by omega)] at e3
      rw [zi_tn (show m < 2147483648 by omega), zi_tn (show c < 2147483648 by omega)] at e6
      have tc : J3.1 515 c = zi (ndT (N c)) := by
        rw [e3, zu_oo (by decide), q.1 515 c (by omega), o5 _ _ (by decide)]
        exact (k4 c hcm).2.2.1
      have tm : J3.1 515 m = zi (tkS N ((byC st r).take i)) := by rw [e3, zu_oo (by decide)]; exact ht
      rw [tc, tm, zi_add] at e6
      rw [ev, zi_succ]
      have ts : (byC st r).take (i + 1) = (byC st r).take i ++ [c] := by
        rw [List.take_add_one, hci]
        rfl
      refine ih (i + 1) J6 (by omega) ?_ ?_ ?_
      · rw [e6, e3]
        exact (q.zu (Or.inl (by omega))).zu (Or.inr ⟨rfl, rfl⟩)
      · rw [e6, zu_self, ts, tkS_snoc]
      · intro j x hj hx
        rw [e6, zu_oo (by decide), e3, zu_at]
        by_cases u : j = i
        · subst u
          rw [hci] at hx
          cases hx
          rw [if_pos (by omega)]
        · rw [if_neg (by omega)]
          exact hch j x (by omega) hx
  exact main (lnN r) 0 J5 (by omega) eqQ.rf (by rw [o5 _ _ (by decide)]; exact n3) (fun j c hj => absurd hj (by omega))
