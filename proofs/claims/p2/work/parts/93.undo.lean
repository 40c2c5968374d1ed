/-! ===== undone and done again ===== -/
def undoR (x : Sg) : Int32 × Sg := match sgA x with
  | [] => (0, x)
  | y :: A => (1, (sgT x, (sgM x, sgN x), sgP x, sgE x, A, y, sgC x :: sgZ x))
def redoR (x : Sg) : Int32 × Sg := match sgZ x with
  | [] => (0, x)
  | y :: Z => (1, (sgT x, (sgM x, sgN x), sgP x, sgE x, sgC x :: sgA x, y, Z))
theorem undo_iv {x : Sg} (hv : Iv x) : Iv (undoR x).2 ∧ sgE (undoR x).2 = sgE x := by
  unfold undoR
  cases hA : sgA x with
  | nil => exact ⟨hv, rfl⟩
  | cons y A =>
    obtain ⟨a1, a2, a3, a4, a5, a6, a7, a8, a9, a10, a11⟩ := hv
    rw [hA] at a9 a11
    refine ⟨⟨a1, a2, a3, a4, a5, a6, a7, a9 y (List.mem_cons_self ..), fun z hz => a9 z (List.mem_cons_of_mem _ hz), fun z hz => ?_, ?_⟩, rfl⟩
    · rcases List.mem_cons.mp hz with rfl | hz
      · exact a8
      · exact a10 z hz
    · show A.length + (sgC x :: sgZ x).length ≤ 20
      rw [List.length_cons] at a11 ⊢
      omega
theorem redo_iv {x : Sg} (hv : Iv x) : Iv (redoR x).2 ∧ sgE (redoR x).2 = sgE x := by
  unfold redoR
  cases hZ : sgZ x with
  | nil => exact ⟨hv, rfl⟩
  | cons y Z =>
    obtain ⟨a1, a2, a3, a4, a5, a6, a7, a8, a9, a10, a11⟩ := hv
    rw [hZ] at a10 a11
    refine ⟨⟨a1, a2, a3, a4, a5, a6, a7, a10 y (List.mem_cons_self ..), fun z hz => ?_, fun z hz => a10 z (List.mem_cons_of_mem _ hz), ?_⟩, rfl⟩
    · rcases List.mem_cons.mp hz with rfl | hz
      · exact a8
      · exact a9 z hz
    · show (sgC x :: sgA x).length + Z.length ≤ 20
      rw [List.length_cons] at a11 ⊢
      omega
theorem Qla_cl {I J : zI} (q : eqQ Qla I J) : eqQ Qcl I J := q.mono (fun a j h => by unfold Qla Qvi Qrr Qpn at h; unfold Qcl; omega)
theorem s_undo {x : Sg} {I : zI} {K : Int32 → zI → Prop} (hv : Iv x) (hR : RX I x) (hK : ∀ J, eqQ Qcl I J → RX J (undoR x).2 → K (undoR x).1 J) : w_Desk_undo I K := by
  obtain ⟨r1, r2, r3, r4, r5, r6, r7, s, hs, s4, sC, sA, sZ⟩ := id hR
  obtain ⟨a1, a2, a3, a4, a5, a6, a7, a8, a9, a10, a11⟩ := hv
  have zm : ∀ i, zmom i = 113 + 18 * i := fun i => rfl
  unfold w_Desk_undo
  rw [r6]
  unfold undoR at hK
  cases hA : sgA x with
  | nil =>
    rw [hA] at hK
    rw [if_pos (show zi (List.length ([] : List Mo)) = 0 from rfl)]
    exact hK I eqQ.rf hR
  | cons y A =>
    rw [hA] at hK sA a9 a11
    rw [List.length_cons] at a11
    rw [List.length_cons, if_neg (show ¬ zi (A.length + 1) = 0 from fun u => by have := (zi_eq (b := 0) (by omega) (by decide)).mp u; omega)]
    intro I1 e1 I2 e2
    rw [show zi (A.length + 1) - 1 = zi A.length from zi_sub (b := 1) (by omega)] at e1
    rw [show I1.1 0 6 = zi (sgZ x).length by rw [e1, zu_i (by decide)]; exact r7, zi_succ] at e2
    have g4 : I2.1 0 4 = zi s := by rw [e2, zu_i (by decide), e1, zu_i (by decide)]; exact s4
    intro P48 h48
    have rest : P48 (zi ((s + 20) % 21)) := by
      refine h48 _ (fun I4 e4 => ?_)
      have hs' : (s + 20) % 21 < 21 := Nat.mod_lt _ (by decide)
      generalize hse : (s + 20) % 21 = s' at e4 hs'
      have o4 : ∀ a j, ¬ (a = 0 ∧ (4 ≤ j ∧ j ≤ 6)) → I4.1 a j = I.1 a j := fun a j u => by rw [e4, zu_at, if_neg (by omega), e2, zu_at, if_neg (by omega), e1, zu_at, if_neg (by omega)]
      have q4 : eqQ Qcl I I4 := by
        rw [e4, e2, e1]
        exact ((eqQ.rf.zu (by unfold Qcl; decide)).zu (by unfold Qcl; decide)).zu (by unfold Qcl; decide)
      refine s_now hs' (by rw [e4, zu_self]) ?_
      have z1 := zm s'
      have my : MoX I (zmom s') y := by
        have := sA 0 y rfl
        rw [Nat.sub_zero, hse] at this
        exact this
      have oy := a9 y (List.mem_cons_self ..)
      refine s_deskLook (n := (lexL (moG y)).length) (r2.kp a2.ch (fun a j u1 u2 u3 => o4 a j (by omega))) a2 a3 (by omega) oy.2.2.2.1 (fun c hc => by have := a5 c hc; omega) (fun c hc => by obtain ⟨p, p1, p2⟩ := r3.2.2.2.2 c hc; exact ⟨p, p1, by rw [o4 47 c (by omega)]; exact p2⟩) (Or.inr (by omega)) (by rw [o4 _ _ (by omega)]; exact my.2.2.2.2.2.2.2) (fun J qJ vJ => ?_)
      have oJ : ∀ a j, ¬ (a = 0 ∧ (4 ≤ j ∧ j ≤ 6)) → ¬ Qla a j → J.1 a j = I.1 a j := fun a j u1 u2 => by rw [qJ.1 a j u2, o4 a j u1]
      have mk : ∀ i z, i < 21 → MoX I (zmom i) z → MoX J (zmom i) z := fun i z hi hm => hm.kp (fun a j u1 u2 => oJ a j (by have := zm i; omega) (by have := zm i; unfold Qla Qvi Qrr Qpn; omega))
      refine hK J (q4.tr (Qla_cl qJ)) ⟨r1.kp (oJ _ _ (by omega) (by unfold Qla Qvi Qrr Qpn; omega)) (fun j => oJ _ _ (by omega) (by unfold Qla Qvi Qrr Qpn; omega)), r2.kp a2.ch (fun a j u1 u2 u3 => oJ a j (by omega) (by unfold Qla Qvi Qrr Qpn; omega)), vJ, r4.kp (fun a j u1 u2 u3 => oJ a j (by omega) (by unfold Qla Qvi Qrr Qpn; omega)), by rw [oJ _ _ (by omega) (by unfold Qla Qvi Qrr Qpn; omega)]; exact r5, ?_, ?_, s', hs', ?_, mk _ _ hs' my, fun k z hz => ?_, fun k z hz => ?_⟩
      · rw [qJ.1 _ _ (by unfold Qla Qvi Qrr Qpn; omega), e4, zu_i (by decide), e2, zu_i (by decide), e1, zu_self]
        rfl
      · rw [qJ.1 _ _ (by unfold Qla Qvi Qrr Qpn; omega), e4, zu_i (by decide), e2, zu_self]
        rfl
      · rw [qJ.1 _ _ (by unfold Qla Qvi Qrr Qpn; omega), e4, zu_self]
      · have hz' : A[k]? = some z := hz
        have hk := (List.getElem?_eq_some_iff.mp hz').1
        have := sA (k + 1) z (by rw [List.getElem?_cons_succ]; exact hz')
        rw [show (s + 20 - (k + 1)) % 21 = (s' + 20 - k) % 21 by omega] at this
        exact mk _ _ (Nat.mod_lt _ (by decide)) this
      · have hz' : (sgC x :: sgZ x)[k]? = some z := hz
        cases k with
        | zero =>
          cases hz'
          rw [show (s' + 1 + 0) % 21 = s by omega]
          exact mk _ _ hs sC
        | succ k =>
          rw [List.getElem?_cons_succ] at hz'
          have := sZ k z hz'
          rw [show (s + 1 + k) % 21 = (s' + 1 + (k + 1)) % 21 by omega] at this
          exact mk _ _ (Nat.mod_lt _ (by decide)) this
    rw [g4]
    by_cases u : s = 0
    · rw [if_pos (show zi s = 0 by rw [u]; rfl)]
      rw [u] at rest
      exact rest
    · rw [if_neg (show ¬ zi s = 0 from fun w => u ((zi_eq (b := 0) (by omega) (by decide)).mp w)), show zi s - 1 = zi (s - 1) from zi_sub (b := 1) (by omega)]
      rw [show (s + 20) % 21 = s - 1 by omega] at rest
      exact rest
theorem s_redo {x : Sg} {I : zI} {K : Int32 → zI → Prop} (hv : Iv x) (hR : RX I x) (hK : ∀ J, eqQ Qcl I J → RX J (redoR x).2 → K (redoR x).1 J) : w_Desk_redo I K := by
  obtain ⟨r1, r2, r3, r4, r5, r6, r7, s, hs, s4, sC, sA, sZ⟩ := id hR
  obtain ⟨a1, a2, a3, a4, a5, a6, a7, a8, a9, a10, a11⟩ := hv
  have zm : ∀ i, zmom i = 113 + 18 * i := fun i => rfl
  unfold w_Desk_redo
  rw [r7]
  unfold redoR at hK
  cases hZ : sgZ x with
  | nil =>
    rw [hZ] at hK
    rw [if_pos (show zi (List.length ([] : List Mo)) = 0 from rfl)]
    exact hK I eqQ.rf hR
  | cons y Z =>
    rw [hZ] at hK sZ a10 a11
    rw [List.length_cons] at a11
    rw [List.length_cons, if_neg (show ¬ zi (Z.length + 1) = 0 from fun u => by have := (zi_eq (b := 0) (by omega) (by decide)).mp u; omega)]
    intro I1 e1 I2 e2
    rw [show zi (Z.length + 1) - 1 = zi Z.length from zi_sub (b := 1) (by omega)] at e1
    rw [show I1.1 0 5 = zi (sgA x).length by rw [e1, zu_i (by decide)]; exact r6, zi_succ] at e2
    have g4 : I2.1 0 4 = zi s := by rw [e2, zu_i (by decide), e1, zu_i (by decide)]; exact s4
    unfold w_Desk_nextSlot
    have rest : ∀ I4, I4 = zu I2 0 4 (zi ((s + 1) % 21)) → w_Desk_now I4 (fun r_5 => w_Desk_lookAt r_5 0 I4 (fun I_6 => K 1 I_6)) := by
      intro I4 e4
      have hs' : (s + 1) % 21 < 21 := Nat.mod_lt _ (by decide)
      generalize hse : (s + 1) % 21 = s' at e4 hs'
      have o4 : ∀ a j, ¬ (a = 0 ∧ (4 ≤ j ∧ j ≤ 6)) → I4.1 a j = I.1 a j := fun a j u => by rw [e4, zu_at, if_neg (by omega), e2, zu_at, if_neg (by omega), e1, zu_at, if_neg (by omega)]
      have q4 : eqQ Qcl I I4 := by
        rw [e4, e2, e1]
        exact ((eqQ.rf.zu (by unfold Qcl; decide)).zu (by unfold Qcl; decide)).zu (by unfold Qcl; decide)
      refine s_now hs' (by rw [e4, zu_self]) ?_
      have z1 := zm s'
      have my : MoX I (zmom s') y := by
        have := sZ 0 y rfl
        rw [Nat.add_zero, hse] at this
        exact this
      have oy := a10 y (List.mem_cons_self ..)
      refine s_deskLook (n := (lexL (moG y)).length) (r2.kp a2.ch (fun a j u1 u2 u3 => o4 a j (by omega))) a2 a3 (by omega) oy.2.2.2.1 (fun c hc => by have := a5 c hc; omega) (fun c hc => by obtain ⟨p, p1, p2⟩ := r3.2.2.2.2 c hc; exact ⟨p, p1, by rw [o4 47 c (by omega)]; exact p2⟩) (Or.inr (by omega)) (by rw [o4 _ _ (by omega)]; exact my.2.2.2.2.2.2.2) (fun J qJ vJ => ?_)
      have oJ : ∀ a j, ¬ (a = 0 ∧ (4 ≤ j ∧ j ≤ 6)) → ¬ Qla a j → J.1 a j = I.1 a j := fun a j u1 u2 => by rw [qJ.1 a j u2, o4 a j u1]
      have mk : ∀ i z, i < 21 → MoX I (zmom i) z → MoX J (zmom i) z := fun i z hi hm => hm.kp (fun a j u1 u2 => oJ a j (by have := zm i; omega) (by have := zm i; unfold Qla Qvi Qrr Qpn; omega))
      refine hK J (q4.tr (Qla_cl qJ)) ⟨r1.kp (oJ _ _ (by omega) (by unfold Qla Qvi Qrr Qpn; omega)) (fun j => oJ _ _ (by omega) (by unfold Qla Qvi Qrr Qpn; omega)), r2.kp a2.ch (fun a j u1 u2 u3 => oJ a j (by omega) (by unfold Qla Qvi Qrr Qpn; omega)), vJ, r4.kp (fun a j u1 u2 u3 => oJ a j (by omega) (by unfold Qla Qvi Qrr Qpn; omega)), by rw [oJ _ _ (by omega) (by unfold Qla Qvi Qrr Qpn; omega)]; exact r5, ?_, ?_, s', hs', ?_, mk _ _ hs' my, fun k z hz => ?_, fun k z hz => ?_⟩
      · rw [qJ.1 _ _ (by unfold Qla Qvi Qrr Qpn; omega), e4, zu_i (by decide), e2, zu_self]
        rfl
      · rw [qJ.1 _ _ (by unfold Qla Qvi Qrr Qpn; omega), e4, zu_i (by decide), e2, zu_i (by decide), e1, zu_self]
        rfl
      · rw [qJ.1 _ _ (by unfold Qla Qvi Qrr Qpn; omega), e4, zu_self]
      · have hz' : (sgC x :: sgA x)[k]? = some z := hz
        have hk := (List.getElem?_eq_some_iff.mp hz').1
        rw [List.length_cons] at hk
        cases k with
        | zero =>
          cases hz'
          rw [show (s' + 20 - 0) % 21 = s by omega]
          exact mk _ _ hs sC
        | succ k =>
          rw [List.getElem?_cons_succ] at hz'
          have := sA k z hz'
          rw [show (s + 20 - k) % 21 = (s' + 20 - (k + 1)) % 21 by omega] at this
          exact mk _ _ (Nat.mod_lt _ (by decide)) this
      · have hz' : Z[k]? = some z := hz
        have := sZ (k + 1) z (by rw [List.getElem?_cons_succ]; exact hz')
        rw [show (s + 1 + (k + 1)) % 21 = (s' + 1 + k) % 21 by omega] at this
        exact mk _ _ (Nat.mod_lt _ (by decide)) this
    rw [g4]
    by_cases u : s < 20
    · rw [if_pos (show zi s < 20 from (zi_lt (b := 20) (by omega) (by decide)).mpr u), zi_succ]
      rw [show (s + 1) % 21 = s + 1 by omega] at rest
      exact rest
    · rw [if_neg (show ¬ zi s < 20 from fun v => u ((zi_lt (b := 20) (by omega) (by decide)).mp v))]
      rw [show (s + 1) % 21 = 0 by omega] at rest
      exact rest
