/-! ===== a change: the model ===== -/
theorem MoM.kp {I J : zI} {s : Nat} {x : Mo} (h : MoM I s x) (hT : txOk (moT x)) (hG : txOk (moG x)) (e : ∀ j, 720 * s ≤ j → j < 720 * s + 720 → J.1 542 j = I.1 542 j) : MoM J s x := by
  obtain ⟨h1, h2, h3, h4, h5, h6, h7⟩ := h
  have a1 := hT.1
  have a2 := hG.1
  have a3 := hG.2.2
  exact ⟨fun j hj => by rw [e _ (by omega) (by omega)]; exact h1 j hj, fun j hj => by rw [e _ (by omega) (by omega)]; exact h2 j hj, fun j hj => by rw [e _ (by omega) (by omega)]; exact h3 j hj, by rw [e _ (by omega) (by omega)]; exact h4, by rw [e _ (by omega) (by omega)]; exact h5, by rw [e _ (by omega) (by omega)]; exact h6, by rw [e _ (by omega) (by omega)]; exact h7⟩
theorem MoM.sh {I J : zI} {s : Nat} {x : Mo} (h : MoM I (s + 1) x) (hT : txOk (moT x)) (hG : txOk (moG x)) (e : ∀ j, 720 * s ≤ j → j < 720 * s + 720 → J.1 542 j = I.1 542 (j + 720)) : MoM J s x := by
  obtain ⟨h1, h2, h3, h4, h5, h6, h7⟩ := h
  have a1 := hT.1
  have a2 := hG.1
  have a3 := hG.2.2
  have w : ∀ k : Nat, 720 * s + k + 720 = 720 * (s + 1) + k := fun k => by omega
  refine ⟨fun j hj => ?_, fun j hj => ?_, fun j hj => ?_, ?_, ?_, ?_, ?_⟩
  · rw [e _ (by omega) (by omega), w]; exact h1 j hj
  · rw [e _ (by omega) (by omega), show 720 * s + 300 + j + 720 = 720 * (s + 1) + 300 + j by omega]; exact h2 j hj
  · rw [e _ (by omega) (by omega), show 720 * s + 600 + j + 720 = 720 * (s + 1) + 600 + j by omega]; exact h3 j hj
  · rw [e _ (by omega) (by omega), w]; exact h4
  · rw [e _ (by omega) (by omega), w]; exact h5
  · rw [e _ (by omega) (by omega), w]; exact h6
  · rw [e _ (by omega) (by omega), w]; exact h7
theorem NowM.kp {I J : zI} {x : Mo} (h : NowM I x) (e : ∀ a j, (a = 491 ∧ (j = 5 ∨ j = 15 ∨ j = 7 ∨ j = 19 ∨ j = 8 ∨ j = 37)) ∨ a = 494 ∨ a = 495 ∨ (501 ≤ a ∧ a ≤ 506) ∨ a = 508 → J.1 a j = I.1 a j) (e2 : ∀ j, J.2 507 j = I.2 507 j) : NowM J x := by
  obtain ⟨n1, n2, n3, n4, n5, n6, n7, n8, n9, n10⟩ := h
  obtain ⟨m1, m2, m3, m4⟩ := NowT.kp (J := J) (d := moT x) ⟨n1, n2, n3, n4⟩ (e _ _ (by omega)) (e _ _ (by omega)) (fun a j u => e a j (by omega))
  obtain ⟨m5, m6, m7⟩ := GoodT.kp (J := J) (d := moG x) ⟨n5, n6, n7⟩ (e _ _ (by omega)) (e _ _ (by omega)) (fun a j u => e a j (by omega)) e2
  exact ⟨m1, m2, m3, m4, m5, m6, m7, fun j hj => by rw [e _ _ (by omega)]; exact n8 j hj, by rw [e _ _ (by omega)]; exact n9, by rw [e _ _ (by omega)]; exact n10⟩
theorem s_remembers {A : List Mo} {c0 c : Mo} {I : zI} {K : zI → Prop} (hA : A.length ≤ 20) (hAo : ∀ y ∈ c0 :: A, txOk (moT y) ∧ txOk (moG y)) (hc : txOk (moT c) ∧ txOk (moG c)) (h75 : I.1 491 75 = zi A.length) (h0 : MoM I A.length c0) (hk : ∀ (k : Nat) (y : Mo), A[k]? = some y → MoM I (A.length - 1 - k) y) (hN : NowM I c)
    (hK : ∀ J, eqQ (fun a j => (a = 491 ∧ (j = 75 ∨ j = 76)) ∨ a = 542) I J → J.1 491 75 = zi ((c0 :: A).take 20).length → J.1 491 76 = zi ((c0 :: A).take 20).length → MoM J ((c0 :: A).take 20).length c → (∀ (k : Nat) (y : Mo), ((c0 :: A).take 20)[k]? = some y → MoM J (((c0 :: A).take 20).length - 1 - k) y) → K J) : w_M_remembers I K := by
  intro P50 h50
  -- behind the shift: all lie at their places, s is the next one
  have rest : ∀ (s : Nat) (J : zI), s + 1 = ((c0 :: A).take 20).length → J.1 491 75 = zi s → eqQ (fun a j => (a = 491 ∧ (j = 75 ∨ j = 76)) ∨ a = 542) I J → (∀ (k : Nat) (y : Mo), ((c0 :: A).take 20)[k]? = some y → MoM J (s - k) y) → P50 J := by
    intro s J hs h75J qJ hJ
    have hs20 : s + 1 ≤ 20 := by
      rw [hs, List.length_take]
      omega
    refine h50 J ?_
    intro I2 e2 I3 e3
    rw [h75J, zi_succ] at e2
    rw [show I2.1 491 75 = zi (s + 1) by rw [e2, zu_self]] at e3
    have g3 : I3.1 491 75 = zi (s + 1) := by rw [e3, zu_i (by decide), e2, zu_self]
    have q3 : eqQ (fun a j => (a = 491 ∧ (j = 75 ∨ j = 76)) ∨ a = 542) I I3 := by
      rw [e3, e2]
      exact (qJ.zu (Or.inl ⟨rfl, Or.inl rfl⟩)).zu (Or.inl ⟨rfl, Or.inr rfl⟩)
    rw [g3]
    refine s_keeps (s := s + 1) hs20 hc.1 hc.2 (hN.kp (fun a j u => q3.1 a j (by omega)) (fun j => q3.2 507 j (by omega))) (fun L qL mL => ?_)
    refine hK L (q3.tr (qL.mono (fun a j h => Or.inr h.1))) (by rw [qL.1 _ _ (by omega), g3, hs]) (by rw [qL.1 _ _ (by omega), e3, zu_self, hs]) (by rw [← hs]; exact mL) (fun k y hy => ?_)
    have hkl := (List.getElem?_eq_some_iff.mp hy).1
    have hym := hAo y (List.mem_of_mem_take (List.mem_of_getElem? hy))
    rw [← hs, Nat.add_sub_cancel]
    refine (hJ k y hy).kp hym.1 hym.2 (fun j u1 u2 => ?_)
    rw [qL.1 542 j (by omega), e3, zu_oo (by decide), e2, zu_oo (by decide)]
  rw [h75]
  by_cases u : A.length = 20
  · rw [if_pos (show zi A.length = 20 by rw [u]; rfl)]
    intro P11 h11
    have shift : ∀ (d v : Nat) (J : zI), v + d = 14400 → eqQ (fun a j => (a = 491 ∧ (j = 75 ∨ j = 76)) ∨ a = 542) I J → (∀ j, j < v → J.1 542 j = I.1 542 (j + 720)) → (∀ j, v ≤ j → J.1 542 j = I.1 542 j) → J.1 491 75 = zi A.length → P11 (zi v) J := by
      intro d
      induction d with
      | zero =>
        intro v J hv q h1 h2 g75
        refine h11 _ _ ?_
        rw [if_pos (show (14400 : Int32) ≤ zi v from (zi_le (a := 14400) (by decide) (by omega)).mpr (by omega))]
        intro I7 e7
        rw [g75, u, show zi 20 - 1 = zi 19 from rfl] at e7
        have q7 : eqQ (fun a j => (a = 491 ∧ (j = 75 ∨ j = 76)) ∨ a = 542) I I7 := by
          rw [e7]
          exact q.zu (Or.inl ⟨rfl, Or.inl rfl⟩)
        have o7 : ∀ j, I7.1 542 j = J.1 542 j := fun j => by rw [e7, zu_oo (by decide)]
        have hlen : ((c0 :: A).take 20).length = 20 := by
          rw [List.length_take, List.length_cons]
          omega
        refine rest 19 I7 (by rw [hlen]) (by rw [e7, zu_self]) q7 (fun k y hy => ?_)
        have hk20 : k < 20 := by
          have := (List.getElem?_eq_some_iff.mp hy).1
          omega
        have hym := hAo y (List.mem_of_mem_take (List.mem_of_getElem? hy))
        rw [List.getElem?_take, if_pos hk20] at hy
        have sh : ∀ s, s ≤ 19 → MoM I (s + 1) y → MoM I7 s y := fun s hs hm => hm.sh hym.1 hym.2 (fun j u1 u2 => by rw [o7, h1 j (by omega)])
        cases k with
        | zero =>
          cases hy
          rw [u] at h0
          exact sh 19 (by decide) h0
        | succ k =>
          rw [List.getElem?_cons_succ] at hy
          have := hk k y hy
          rw [u, show 20 - 1 - k = 19 - (k + 1) + 1 by omega] at this
          exact sh _ (by omega) this
      | succ d ih =>
        intro v J hv q h1 h2 g75
        refine h11 _ _ ?_
        rw [if_neg (show ¬ (14400 : Int32) ≤ zi v from fun u => by have := (zi_le (a := 14400) (by decide) (by omega)).mp u; omega), show (720 : Int32) = zi 720 from rfl, zi_add, zi_tn (show v < 2147483648 by omega), zi_tn (show v + 720 < 2147483648 by omega)]
        refine ⟨(zin_iff (by omega)).mpr (by omega), (zin_iff (by omega)).mpr (by omega), fun I8 e8 w ew => ?_⟩
        rw [h2 (v + 720) (by omega)] at e8
        rw [ew, zi_succ]
        refine ih (v + 1) I8 (by omega) (by rw [e8]; exact q.zu (Or.inr rfl)) (fun j hj => ?_) (fun j hj => ?_) ?_
        · rw [e8, zu_at]
          by_cases w : j = v
          · rw [if_pos ⟨rfl, w⟩, w]
          · rw [if_neg (fun x => w x.2)]
            exact h1 j (by omega)
        · rw [e8, zu_i (by omega)]
          exact h2 j (by omega)
        · rw [e8, zu_oo (by decide)]
          exact g75
    exact shift 14400 0 I (by omega) eqQ.rf (fun j hj => by omega) (fun j _ => rfl) h75
  · rw [if_neg (show ¬ zi A.length = 20 from fun v => u ((zi_eq (b := 20) (by omega) (by decide)).mp v))]
    have htk : (c0 :: A).take 20 = c0 :: A := List.take_of_length_le (by rw [List.length_cons]; omega)
    refine rest A.length I (by rw [htk]; rfl) h75 eqQ.rf (fun k y hy => ?_)
    rw [htk] at hy
    cases k with
    | zero =>
      cases hy
      exact h0
    | succ k =>
      rw [List.getElem?_cons_succ] at hy
      have := hk k y hy
      rw [show A.length - 1 - k = A.length - (k + 1) by omega] at this
      exact this
