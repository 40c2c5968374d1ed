/-! ===== the PAIRS of each TREE that was are there ===== -/
theorem fmP_pre {a b : Nat} {pl : List (Nat × Nat)} : (∃ m, (fmP a b pl).2 = pl ++ m) ∧ (fmP a b pl).2[(fmP a b pl).1]? = some (a, b) := by
  unfold fmP
  cases e : pl.findIdx? (fun p => p == (a, b)) with
  | some j => exact ⟨⟨[], (List.append_nil _).symm⟩, fmp_at e⟩
  | none =>
    refine ⟨⟨[(a, b)], rfl⟩, ?_⟩
    show (pl ++ [(a, b)])[pl.length]? = some (a, b)
    rw [List.getElem?_append_right (Nat.le_refl _), Nat.sub_self]
    rfl
theorem layR_eq {rs : List Nat} {d f part : Nat} {pl : List (Nat × Nat)} (hp : ¬ part ≤ 1) : layR rs (d + 1) f part pl = (10000 + (fmP (layR rs d f ((part + 1) / 2) pl).1 (layR rs d (f + (part + 1) / 2) (part - (part + 1) / 2) (layR rs d f ((part + 1) / 2) pl).2).1 (layR rs d (f + (part + 1) / 2) (part - (part + 1) / 2) (layR rs d f ((part + 1) / 2) pl).2).2).1,
      (fmP (layR rs d f ((part + 1) / 2) pl).1 (layR rs d (f + (part + 1) / 2) (part - (part + 1) / 2) (layR rs d f ((part + 1) / 2) pl).2).1 (layR rs d (f + (part + 1) / 2) (part - (part + 1) / 2) (layR rs d f ((part + 1) / 2) pl).2).2).2) := by
  show (if part ≤ 1 then (rs.getD f 0, pl) else _) = _
  rw [if_neg hp]
theorem layR_one {rs : List Nat} {d f part : Nat} {pl : List (Nat × Nat)} (hp : part ≤ 1) : layR rs (d + 1) f part pl = (rs.getD f 0, pl) := by
  show (if part ≤ 1 then (rs.getD f 0, pl) else _) = _
  rw [if_pos hp]
theorem layR_pre {rs : List Nat} : ∀ (d f part : Nat) (pl : List (Nat × Nat)), ∃ m, (layR rs d f part pl).2 = pl ++ m
  | 0, f, part, pl => ⟨[], (List.append_nil _).symm⟩
  | d + 1, f, part, pl => by
    by_cases hp : part ≤ 1
    · rw [layR_one hp]
      exact ⟨[], (List.append_nil _).symm⟩
    · rw [layR_eq hp]
      obtain ⟨m1, e1⟩ := layR_pre (rs := rs) d f ((part + 1) / 2) pl
      obtain ⟨m2, e2⟩ := layR_pre (rs := rs) d (f + (part + 1) / 2) (part - (part + 1) / 2) (layR rs d f ((part + 1) / 2) pl).2
      obtain ⟨⟨m3, e3⟩, -⟩ := fmP_pre (a := (layR rs d f ((part + 1) / 2) pl).1) (b := (layR rs d (f + (part + 1) / 2) (part - (part + 1) / 2) (layR rs d f ((part + 1) / 2) pl).2).1) (pl := (layR rs d (f + (part + 1) / 2) (part - (part + 1) / 2) (layR rs d f ((part + 1) / 2) pl).2).2)
      refine ⟨m1 ++ (m2 ++ m3), ?_⟩
      dsimp only
      rw [e3, e2, e1, List.append_assoc, List.append_assoc]
theorem layR_ext {rs : List Nat} {F : List (Nat × Nat)} (hu : PrU F) : ∀ (d f part : Nat) (pl : List (Nat × Nat)), (∃ m, F = (layR rs d f part pl).2 ++ m) → layR rs d f part F = ((layR rs d f part pl).1, F)
  | 0, f, part, pl, _ => rfl
  | d + 1, f, part, pl, hF => by
    by_cases hp : part ≤ 1
    · rw [layR_one hp, layR_one hp]
    · obtain ⟨m, hm⟩ := hF
      rw [layR_eq hp] at hm
      rw [layR_eq (pl := F) hp, layR_eq (pl := pl) hp]
      obtain ⟨m2, e2⟩ := layR_pre (rs := rs) d (f + (part + 1) / 2) (part - (part + 1) / 2) (layR rs d f ((part + 1) / 2) pl).2
      obtain ⟨⟨m3, e3⟩, hat⟩ := fmP_pre (a := (layR rs d f ((part + 1) / 2) pl).1) (b := (layR rs d (f + (part + 1) / 2) (part - (part + 1) / 2) (layR rs d f ((part + 1) / 2) pl).2).1) (pl := (layR rs d (f + (part + 1) / 2) (part - (part + 1) / 2) (layR rs d f ((part + 1) / 2) pl).2).2)
      dsimp only at hm
      have i1 := layR_ext (rs := rs) hu d f ((part + 1) / 2) pl ⟨m2 ++ (m3 ++ m), by rw [hm, e3, e2, List.append_assoc, List.append_assoc]⟩
      have i2 := layR_ext (rs := rs) hu d (f + (part + 1) / 2) (part - (part + 1) / 2) (layR rs d f ((part + 1) / 2) pl).2 ⟨m3 ++ m, by rw [hm, e3, List.append_assoc]⟩
      rw [i1]
      dsimp only
      rw [i2]
      dsimp only
      have hat2 : F[(fmP (layR rs d f ((part + 1) / 2) pl).1 (layR rs d (f + (part + 1) / 2) (part - (part + 1) / 2) (layR rs d f ((part + 1) / 2) pl).2).1 (layR rs d (f + (part + 1) / 2) (part - (part + 1) / 2) (layR rs d f ((part + 1) / 2) pl).2).2).1]? = some ((layR rs d f ((part + 1) / 2) pl).1, (layR rs d (f + (part + 1) / 2) (part - (part + 1) / 2) (layR rs d f ((part + 1) / 2) pl).2).1) := by
        have hl := (List.getElem?_eq_some_iff.mp hat).1
        rw [hm, List.getElem?_append_left hl]
        exact hat
      rw [fmp_is hu hat2]
theorem layAllR_pre {rs : List Nat} {pl : List (Nat × Nat)} : ∃ m, layAllR rs pl = pl ++ m := by
  unfold layAllR
  split
  · exact ⟨[], (List.append_nil _).symm⟩
  · exact layR_pre _ _ _ _
theorem layAllR_ext {rs : List Nat} {F pl : List (Nat × Nat)} (hu : PrU F) (hF : ∃ m, F = layAllR rs pl ++ m) : layAllR rs F = F := by
  unfold layAllR at hF ⊢
  split
  · rfl
  · rename_i h
    rw [if_neg h] at hF
    rw [layR_ext hu _ _ _ _ hF]
/-! ===== a TREE looks the same among more nodes ===== -/
theorem rnL_cg {m : Nat} {N N' : Nat → Nd} {F : List Fl} (e : ∀ c, c < m → N' c = N c) (hF : ∀ x ∈ F, x.1 < m) : ∀ d p, rnL N' F d p = rnL N F d p
  | 0, _ => rfl
  | d + 1, p => by
    cases hx : F[p]? with
    | none => rw [rnL_no (List.getElem?_eq_none_iff.mp hx), rnL_no (List.getElem?_eq_none_iff.mp hx)]
    | some x =>
      rw [rnL_at hx, rnL_at hx, e x.1 (hF x (List.mem_of_getElem? hx)), rnL_cg e hF d _, rnL_cg e hF d _]
theorem runsOf_cg {m R : Nat} {N N' : Nat → Nd} (h : NdOk m N) (e : ∀ c, c < m → N' c = N c) (hR : R < m) : runsOf N' R = runsOf N R := by
  unfold runsOf
  rw [flR_cg h e hR]
  refine rnL_cg e (fun x hx => ?_) _ _
  obtain ⟨i, hi⟩ := List.mem_iff_getElem?.mp hx
  have := po_le h R hR _ (fl_po h hR hi)
  omega
theorem rowI_ext {rs : List Nat} {F pl : List (Nat × Nat)} (hu : PrU F) (hF : ∃ m, F = layAllR rs pl ++ m) : rowI rs F = rowI rs pl := by
  unfold layAllR at hF
  unfold rowI
  by_cases h : rs.length = 0
  · rw [if_pos h, if_pos h]
  · rw [if_neg h] at hF
    rw [if_neg h, if_neg h, layR_ext hu _ _ _ _ hF]
/-- and its ROW is theirs -/
def PcM (N : Nat → Nd) (pl : List (Nat × Nat)) (y : Mo) : Prop := layAllR (runsOf N (moR y)) pl = pl ∧ moW y = rowI (runsOf N (moR y)) pl
def Pc (x : Sg) : Prop := PcM (sgN x) (sgP x) (sgC x) ∧ (∀ y ∈ sgA x, PcM (sgN x) (sgP x) y) ∧ ∀ y ∈ sgZ x, PcM (sgN x) (sgP x) y
theorem PcM.cg {m : Nat} {N N' : Nat → Nd} {pl pl' : List (Nat × Nat)} {y : Mo} (hN : NdOk m N) (o : MoOk m N y) (e : ∀ k, k < m → N' k = N k) (hu : PrU pl') (hp : ∃ w, pl' = pl ++ w) (h : PcM N pl y) : PcM N' pl' y := by
  unfold PcM at h ⊢
  rw [runsOf_cg hN e o.2.2.2.1.1]
  obtain ⟨h1, h2⟩ := h
  refine ⟨layAllR_ext (pl := pl) hu (by rw [h1]; exact hp), ?_⟩
  rw [h2]
  exact (rowI_ext (pl := pl) hu (by rw [h1]; exact hp)).symm
theorem chg_pc {x : Sg} {d tp : List Int32} (hv : Iv x) (hd : txOk d) (hr : ¬ refu x d) (he : sgE x < 512) (hp : Pc x) : Pc (chg x d tp) := by
  obtain ⟨m1, g, N1, k, y, hreg, hn, hrun, -, q1, q2, q3, q4, q5, q6, q7, q8⟩ := reg_ok hv hd
  have hu2 : PrU (sgP (chg x d [])) := (chg_ok (tp := []) hv hd hr ⟨Nat.zero_le _, fun b hb => by cases hb⟩ he).2.2.2.2.2.1.1
  obtain ⟨-, hN, hu, -, -, -, -, hC, hA, hZ, -⟩ := hv
  obtain ⟨p1, p2, p3⟩ := hp
  have hY : regY x d = y := by
    unfold regY
    rw [hreg]
  have hA2 : ∀ z ∈ (sgC x :: sgA x).take 20, MoOk (sgM x) (sgN x) z ∧ PcM (sgN x) (sgP x) z := fun z hz => by
    rcases List.mem_cons.mp (List.mem_of_mem_take hz) with rfl | hz
    · exact ⟨hC, p1⟩
    · exact ⟨hA z hz, p2 z hz⟩
  unfold chg newC at hu2
  unfold Pc chg newC
  rw [hY] at hu2 ⊢
  by_cases hg : y.1 + 1 = (lexL d).length ∧ topS y.2.2.2.1 = 1
  · rw [if_pos hg, if_pos hg, if_pos hg, if_pos hg] at hu2 ⊢
    have hu3 : PrU (layAllR (runsOf y.2.2.1 (regR x d)) (sgP x)) := hu2
    refine ⟨⟨?_, (rowI_ext (pl := sgP x) hu3 ⟨[], (List.append_nil _).symm⟩).symm⟩, fun z hz => (hA2 z hz).2.cg hN (hA2 z hz).1 q1 hu3 layAllR_pre, fun z hz => by cases hz⟩
    show layAllR (runsOf y.2.2.1 (regR x d)) (layAllR (runsOf y.2.2.1 (regR x d)) (sgP x)) = layAllR (runsOf y.2.2.1 (regR x d)) (sgP x)
    exact layAllR_ext (pl := sgP x) hu3 ⟨[], (List.append_nil _).symm⟩
  · rw [if_neg hg, if_neg hg, if_neg hg, if_neg hg]
    exact ⟨p1, fun z hz => (hA2 z hz).2, fun z hz => by cases hz⟩
theorem doC_pc {x : Sg} {d : List Int32} {bt : Bool} (hv : Iv x) (hd : BtL d) (he : sgE x < 512) (hp : Pc x) : Pc (doC x d bt).2 := by
  unfold doC
  by_cases u : 300 < d.length ∨ 3000 ≤ sgM x ∨ 3900 ≤ (sgP x).length ∨ 100 < (lexL d).length
  · rw [if_pos u]
    exact hp
  · rw [if_neg u]
    exact chg_pc hv ⟨by omega, hd.at, by omega⟩ u he hp
theorem undo_pc {x : Sg} (hp : Pc x) : Pc (undoR x).2 := by
  obtain ⟨l1, l2, l3⟩ := id hp
  unfold undoR
  cases hA : sgA x with
  | nil => exact hp
  | cons y A =>
    rw [hA] at l2
    refine ⟨l2 y (List.mem_cons_self ..), fun z hz => l2 z (List.mem_cons_of_mem _ hz), fun z hz => ?_⟩
    rcases List.mem_cons.mp hz with rfl | hz
    · exact l1
    · exact l3 z hz
theorem redo_pc {x : Sg} (hp : Pc x) : Pc (redoR x).2 := by
  obtain ⟨l1, l2, l3⟩ := id hp
  unfold redoR
  cases hZ : sgZ x with
  | nil => exact hp
  | cons y Z =>
    rw [hZ] at l3
    refine ⟨l3 y (List.mem_cons_self ..), fun z hz => ?_, fun z hz => l3 z (List.mem_cons_of_mem _ hz)⟩
    rcases List.mem_cons.mp hz with rfl | hz
    · exact l1
    · exact l2 z hz
def Qrz (a j : Nat) : Prop := Qro a j ∨ (a = 491 ∧ j = 65)
def vRow (x : Sg) (a : Int32) : Int32 := if a = 0 then rowI (runsOf (sgN x) (moR (sgC x))) (sgP x) else if a = 1 then zi (dpF 9 (runsOf (sgN x) (moR (sgC x))).length) else -1
theorem u_row {x : Sg} {a : Int32} {I : zI} {K : Int32 → zI → Prop} (hv : Iv x) (hp : Pc x) (hR : RM I x) (hK : ∀ J, eqQ Qmo I J → RM J x → K (vRow x a) J) : w_M_row a I K := by
  unfold w_M_row
  unfold vRow at hK
  refine s_in (fun c => ?_) (fun c => ?_)
  rotate_left
  · rw [if_pos rfl]
    rw [if_neg (fun u => c (by rw [u]; exact ⟨by decide, by decide⟩)), if_neg (fun u => c (by rw [u]; exact ⟨by decide, by decide⟩))] at hK
    exact hK I eqQ.rf hR
  rw [if_neg (by decide)]
  intro I2 e2
  have q2' : eqQ (fun a j => a = 491 ∧ j = 65) I I2 := by rw [e2]; exact eqQ.rf.zu ⟨rfl, rfl⟩
  have q2 : eqQ Qrz I I2 := q2'.mono (fun a j h => Or.inr h)
  have r2 : RM I2 x := RM.kp (tp := x.1) hv hR (fun a j u => q2'.1 a j (by omega)) (fun a j u => q2'.2 a j (by omega))
  obtain ⟨u1, u2⟩ := runs_ok hv.2.1 hv.2.2.1 hv.2.2.2.2.2.2.2.1.2.2.2.1
  have hpl := hv.2.2.2.2.2.1
  obtain ⟨v1, v2, v3, v4⟩ := r2.2.2.1.2.2.2
  have hm := hv.2.2.2.1
  refine s_rowNow (fun r hr => by have := u1 r hr; omega) u2 (by have := hpl.2; omega) hpl.1 r2.2.2.2.1 v1 v3 (fun J q pJ d1 d0 => ?_)
  have qJ : eqQ Qrz I J := q2.tr (q.mono (fun a j h => Or.inl h))
  have hpc : layAllR (runsOf (sgN x) (moR (sgC x))) (sgP x) = sgP x := hp.1.1
  rw [hpc] at pJ
  have rJ : RM J x := by
    -- all but the PAIRS' rows is as it was
    have f1 : ∀ a j, ¬ Qrz a j → J.1 a j = I.1 a j := fun a j u => qJ.1 a j u
    obtain ⟨r1, r2, r3, r4, r5, r6, r7, nw, sC, sA, sZ⟩ := hR
    obtain ⟨hTp, hN, hu, hm, hTk, hP, hE, hC, hA, hZ, hAZ⟩ := hv
    have e : ∀ a j, ((a = 491 ∧ (j = 0 ∨ j = 5 ∨ j = 7 ∨ j = 8 ∨ j = 15 ∨ j = 19 ∨ j = 25 ∨ j = 36 ∨ j = 37 ∨ j = 43 ∨ j = 51 ∨ j = 53 ∨ j = 75 ∨ j = 76)) ∨ a = 492 ∨ (494 ≤ a ∧ a ≤ 495) ∨ (501 ≤ a ∧ a ≤ 518) ∨ (521 ≤ a ∧ a ≤ 526) ∨ a = 528 ∨ a = 529 ∨ a = 538 ∨ a = 542) → J.1 a j = I.1 a j := fun a j u => f1 a j (by unfold Qrz Qro; omega)
    have e2 : ∀ a j, a = 507 ∨ a = 511 → J.2 a j = I.2 a j := fun a j u => qJ.2 a j (by unfold Qrz Qro; omega)
    exact ⟨r1.kp (e _ _ (by omega)) (fun j => e _ _ (by omega)), r2.kp2 (e _ _ (by omega)) (fun a j u1 u2 => e a j (by omega)) (fun j => e2 511 j (Or.inr rfl)), r3.kp (fun a j u => e a j (by omega)), pJ, r5.kp (fun a j u => e a j (by omega)), by rw [e _ _ (by omega)]; exact r6, by rw [e _ _ (by omega)]; exact r7, nw.kp (fun a j u => e a j (by omega)) (fun j => e2 507 j (Or.inl rfl)), sC.kp hC.1 hC.2.1 (fun j _ _ => e _ _ (by omega)), fun k y hy => (sA k y hy).kp (hA y (List.mem_of_getElem? hy)).1 (hA y (List.mem_of_getElem? hy)).2.1 (fun j _ _ => e _ _ (by omega)), fun k y hy => (sZ k y hy).kp (hZ y (List.mem_of_getElem? hy)).1 (hZ y (List.mem_of_getElem? hy)).2.1 (fun j _ _ => e _ _ (by omega))⟩
  have hKJ := hK J (qJ.mono (fun a j h => by unfold Qrz Qro at h; unfold Qmo; omega)) rJ
  by_cases a0 : a = 0
  · rw [if_pos a0] at hKJ ⊢
    exact hKJ
  · obtain ⟨k, hk, rfl⟩ := zi_of c.1
    have hk1 := (zi_le (b := 1) hk (by decide)).mp c.2
    have k0 : k ≠ 0 := fun u => a0 (by rw [u]; rfl)
    rw [if_neg a0, if_pos (show zi k = 1 by rw [show k = 1 by omega]; rfl)] at hKJ
    rw [if_neg a0]
    by_cases h0 : (runsOf (sgN x) (moR (sgC x))).length = 0
    · rw [d0 h0, e2, zu_self]
      rw [h0, d0 h0] at hKJ
      rw [e2] at hKJ
      exact hKJ
    · rw [d1 h0]
      exact hKJ
theorem m_row {x : Sg} {a : Int32} {I : zI} {K : Int32 → zI → Prop} (hv : Iv x) (hp : Pc x) (hR : RM I x) (hK : ∀ v J, eqQ Qmo I J → RM J x → K v J) : w_M_row a I K := u_row hv hp hR (fun J q r => hK _ J q r)
