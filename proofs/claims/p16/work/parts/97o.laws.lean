/-! ===== the law's cases ===== -/
def Lsv (x : Sg) : Prop := Iv x ∧ Lv x ∧ Pc x ∧ Ev x ∧ Fr x
def Bov (I : zI) (x : Sg) : Prop := RX I x ∧ RM I x ∧ Lsv x
theorem RX.mo {I J : zI} {x : Sg} (hv : Iv x) (h : RX I x) (q : eqQ Qmo I J) : RX J x := h.kp hv (fun a j u => q.1 a j (by unfold Qmo; omega))
theorem RM.cl {I J : zI} {x : Sg} (hv : Iv x) (h : RM I x) (q : eqQ Qcl I J) : RM J x := RM.kp (tp := x.1) hv h (fun a j u => q.1 a j (by unfold Qcl; omega)) (fun a j u => q.2 a j (by unfold Qcl; omega))
theorem doC_ls {x : Sg} {d : List Int32} {bt : Bool} (h : Lsv x) (hd : BtL d) (he : sgE x < 512) : Lsv (doC x d bt).2 ∧ sgE (doC x d bt).2 ≤ sgE x + 1 := by
  obtain ⟨h1, h2, h3, h4, h5⟩ := h
  obtain ⟨a, b⟩ := doC_iv (bt := bt) h1 hd he
  exact ⟨⟨a, doC_lv h1 hd h2, doC_pc h1 hd he h3, doC_ev h1 hd h4, doC_fr h1 hd h2 h5⟩, b⟩
theorem tx_bt {x : Sg} (h : Iv x) : BtL (moT (sgC x)) := BtL.of h.2.2.2.2.2.2.2.1.1.2.1
theorem edit_ls {x : Sg} {a n : Int32} (h : Lsv x) (he : sgE x < 512) : Lsv (editR x a n).2 ∧ sgE (editR x a n).2 ≤ sgE x + 1 := by
  unfold editR
  split
  · exact doC_ls h ((((tx_bt h.1).sg).app h.1.1.2).app ((tx_bt h.1).sg)) he
  · exact ⟨h, Nat.le_succ _⟩
theorem run_ls {D : Sg → Nat → List Int32} {x : Sg} {i : Int32} (h : Lsv x) (hD : ∀ k, BtL (D x k)) (he : sgE x < 512) : Lsv (runR D x i).2 ∧ sgE (runR D x i).2 ≤ sgE x + 1 := by
  unfold runR
  split
  · exact doC_ls h (hD _) he
  · exact ⟨h, Nat.le_succ _⟩
theorem swap_ls {x : Sg} {i : Int32} (h : Lsv x) (he : sgE x < 512) : Lsv (swapR x i).2 ∧ sgE (swapR x i).2 ≤ sgE x + 1 := by
  unfold swapR
  split
  · exact doC_ls h (((((tx_bt h.1).sg).app ((tx_bt h.1).sg)).app ((tx_bt h.1).sg)).app ((tx_bt h.1).sg) |>.app ((tx_bt h.1).sg)) he
  · exact ⟨h, Nat.le_succ _⟩
theorem ren_ls {x : Sg} {i : Int32} (h : Lsv x) (he : sgE x < 512) : Lsv (renR x i).2 ∧ sgE (renR x i).2 ≤ sgE x + 1 := by
  unfold renR
  split
  · exact doC_ls h (ren_bt (tx_bt h.1) h.1.1.2 _ _) he
  · exact ⟨h, Nat.le_succ _⟩
theorem undo_ls {x : Sg} (h : Lsv x) : Lsv (undoR x).2 ∧ sgE (undoR x).2 ≤ sgE x + 1 := by
  obtain ⟨a, b⟩ := undo_iv h.1
  exact ⟨⟨a, undo_lv h.2.1, undo_pc h.2.2.1, undo_ev h.2.2.2.1, undo_fr h.2.2.2.2⟩, by omega⟩
theorem redo_ls {x : Sg} (h : Lsv x) : Lsv (redoR x).2 ∧ sgE (redoR x).2 ≤ sgE x + 1 := by
  obtain ⟨a, b⟩ := redo_iv h.1
  exact ⟨⟨a, redo_lv h.2.1, redo_pc h.2.2.1, redo_ev h.2.2.2.1, redo_fr h.2.2.2.2⟩, by omega⟩
theorem tape_ls {x : Sg} {tp : List Int32} (h : Lsv x) (h1 : tp.length ≤ 200) (h2 : ∀ b ∈ tp, byt b) : Lsv (tp, x.2) := by
  obtain ⟨⟨a1, a2⟩, b, c⟩ := h
  exact ⟨⟨⟨h1, h2⟩, a2⟩, b, c⟩
theorem and_bt (v : Int32) : byt (v &&& 255) := by
  have e : (v &&& 255).toBitVec.toNat = v.toBitVec.toNat &&& 255 := by
    rw [Int32.toBitVec_and, BitVec.toNat_and]
    rfl
  refine ⟨(v &&& 255).toBitVec.toNat, ?_, ?_⟩
  · rw [e]
    exact Nat.lt_of_le_of_lt Nat.and_le_right (by decide)
  · refine Int32.toBitVec_inj.mp (BitVec.eq_of_toNat_eq ?_)
    rw [zi_bv (by rw [e]; exact Nat.lt_of_le_of_lt Nat.and_le_right (by decide))]
theorem byW_bt (w s : Int32) : byt (byW w s) := and_bt _
theorem by20_bt (a b c d e : Int32) : ∀ v ∈ by20 a b c d e, byt v := by
  have h4 : ∀ w, ∀ v ∈ by4 w, byt v := fun w v hv => by
    unfold by4 at hv
    rcases List.mem_cons.mp hv with rfl | hv
    · exact byW_bt _ _
    rcases List.mem_cons.mp hv with rfl | hv
    · exact byW_bt _ _
    rcases List.mem_cons.mp hv with rfl | hv
    · exact byW_bt _ _
    rw [List.mem_singleton.mp hv]
    exact byW_bt _ _
  intro v hv
  unfold by20 at hv
  rcases List.mem_append.mp hv with hv | hv
  · exact h4 _ v hv
  rcases List.mem_append.mp hv with hv | hv
  · exact h4 _ v hv
  rcases List.mem_append.mp hv with hv | hv
  · exact h4 _ v hv
  rcases List.mem_append.mp hv with hv | hv
  · exact h4 _ v hv
  · exact h4 _ v hv
theorem RX.tp {I J : zI} {x : Sg} {tp : List Int32} (hv : Iv x) (h : RX I x) (q : eqQ Qtx I J) (t : TapX J tp) : RX J (tp, x.2) := by
  have e : ∀ a j, ¬ Qtx a j → J.1 a j = I.1 a j := fun a j u => q.1 a j u
  obtain ⟨r1, r2, r3, r4, r5, r6, r7, s, hs, s4, sC, sA, sZ⟩ := h
  have zm : ∀ i, zmom i = 113 + 18 * i := fun i => rfl
  have mk : ∀ i y, i < 21 → MoX I (zmom i) y → MoX J (zmom i) y := fun i y hi hm => hm.kp (fun a j u1 u2 => e a j (by have := zm i; unfold Qtx; omega))
  exact ⟨t, r2.kp hv.2.1.ch (fun a j h1 h2 h3 => e a j (by unfold Qtx; omega)), r3.kp (fun a j h => e a j (by unfold Qtx; omega)), r4.kp (fun a j h1 h2 h3 => e a j (by unfold Qtx; omega)), r5.kp (fun a j u => e a j (by unfold Qtx; omega)), (e _ _ (by unfold Qtx; omega)).trans r6, (e _ _ (by unfold Qtx; omega)).trans r7, s, hs, (e _ _ (by unfold Qtx; omega)).trans s4, mk _ _ hs sC, fun k y hy => mk _ _ (by omega) (sA k y hy), fun k y hy => mk _ _ (by omega) (sZ k y hy)⟩
theorem RM.tp {I J : zI} {x : Sg} {tp : List Int32} (hv : Iv x) (h : RM I x) (q : eqQ Qtm I J) (t : TapM J tp) : RM J (tp, x.2) := by
  obtain ⟨r1, r2, r3, r4, r5, r6, r7, nw, sC, sA, sZ⟩ := h
  obtain ⟨hTp, hN, hu, hm, hTk, hP, hE, hC, hA, hZ, hAZ⟩ := hv
  have e : ∀ a j, ¬ Qtm a j → J.1 a j = I.1 a j := fun a j u => q.1 a j u
  have e2 : ∀ a j, a = 507 ∨ a = 511 → J.2 a j = I.2 a j := fun a j u => q.2 a j (by unfold Qtm; omega)
  exact ⟨t, r2.kp2 (e _ _ (by unfold Qtm; omega)) (fun a j u1 u2 => e a j (by unfold Qtm; omega)) (fun j => e2 511 j (Or.inr rfl)), r3.kp (fun a j u => e a j (by unfold Qtm; omega)), r4.kp (fun a j u => e a j (by unfold Qtm; omega)), r5.kp (fun a j u => e a j (by unfold Qtm; omega)), (e _ _ (by unfold Qtm; omega)).trans r6, (e _ _ (by unfold Qtm; omega)).trans r7, nw.kp (fun a j u => e a j (by unfold Qtm; omega)) (fun j => e2 507 j (Or.inl rfl)), sC.kp hC.1 hC.2.1 (fun j _ _ => e _ _ (by unfold Qtm; omega)), fun k y hy => (sA k y hy).kp (hA y (List.mem_of_getElem? hy)).1 (hA y (List.mem_of_getElem? hy)).2.1 (fun j _ _ => e _ _ (by unfold Qtm; omega)), fun k y hy => (sZ k y hy).kp (hZ y (List.mem_of_getElem? hy)).1 (hZ y (List.mem_of_getElem? hy)).2.1 (fun j _ _ => e _ _ (by unfold Qtm; omega))⟩
