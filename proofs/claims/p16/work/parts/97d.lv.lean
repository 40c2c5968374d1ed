/-! ===== what more holds of the state: a TEXT that is not good can not be grown from nothing ===== -/
def kdF (l : List (Nat × Nat × Nat)) : Nat → Nat := fun i => (l.getD i (10, 0, 0)).1
def LrAcc (l : List (Nat × Nat × Nat)) : Prop := ∃ w, Rch (kdF l) (0, [(0, 0)]) (l.length - 1, w) ∧ lNx (kdF l) (l.length - 1) w = none ∧ topS w = 1
def MoL (N : Nat → Nd) (y : Mo) : Prop := TL N (kdF (lexL (moG y))) (moR y) 0 ∧ (moB y = false → ¬ LrAcc (lexL (moT y)))
def Lv (x : Sg) : Prop := MoL (sgN x) (sgC x) ∧ (∀ y ∈ sgA x, MoL (sgN x) y) ∧ ∀ y ∈ sgZ x, MoL (sgN x) y
theorem kdF_at {l : List (Nat × Nat × Nat)} {i : Nat} {x : Nat × Nat × Nat} (h : l[i]? = some x) : kdF l i = x.1 := by
  unfold kdF
  rw [List.getD_eq_getElem?_getD, h]
  rfl
theorem MoL.cg {m m' : Nat} {N N' : Nat → Nd} {y : Mo} (hN : NdOk m N) (o : MoOk m N y) (e : ∀ k, k < m → N' k = N k) (h : MoL N y) : MoL N' y :=
  ⟨h.1.cg hN (fun c hc => ⟨by rw [e c hc]; exact NdE.rf, fun _ => by rw [e c hc]⟩) _ o.2.2.2.1.1 0, h.2⟩
theorem chg_lv {x : Sg} {d tp : List Int32} (hv : Iv x) (hd : txOk d) (hl : Lv x) : Lv (chg x d tp) := by
  obtain ⟨m1, g, N1, k, y, hreg, hn, hrun, -, q1, q2, q3, q4, q5, q6, q7, q8⟩ := reg_ok hv hd
  obtain ⟨-, hN, hu, -, -, -, -, hC, hA, hZ, -⟩ := hv
  obtain ⟨c1, c2, c3, c4, c5⟩ := id hC
  obtain ⟨l1, l2, l3⟩ := hl
  have hx := lex_lxo hd
  have hx' := lex_lxo c2
  obtain ⟨ge, gi, gj, hog, hnew, hm0, hm1, htk, hinj⟩ := naming_ok hN hu c4 c5 hx hx' hn
  have hkO : ∀ j, j < (lexL (moG (sgC x))).length → ndK (sgN x (moO (sgC x) j)) = kdF (lexL (moG (sgC x))) j := fun j hj => by
    have hj2 : (lexL (moG (sgC x)))[j]? = some ((lexL (moG (sgC x)))[j]'hj) := List.getElem?_eq_getElem hj
    rw [kdF_at hj2]
    exact (c5 j _ hj2).1
  have hS := gRun_inv (e := sgE x + 1) ge (P := fun z => GJ (sgM x) (sgN x) g z.1 z.2.1 z.2.2.1 z.2.2.2.1 ∧ SG z.2.2.1 (fun i => ((lexL d).getD i (10, 0, 0)).1) z.1 z.2.2.2.1) (fun a b k ha hp he => ⟨hp.1.nx hN c4 hog hnew hm0 ge ha he, hp.2.nx hN hu c4 hog ge ha hp.1 l1.1 hkO he⟩) 2000 0 (0, m1, N1, [(0, 0)], 0) gi ⟨gj, SG.st0⟩
  obtain ⟨k', y', e1, gi', hnone⟩ := gRun_end (e := sgE x + 1) ge 2000 0 (0, m1, N1, [(0, 0)], 0) gi (by omega)
  rw [hrun] at e1 hS
  cases e1
  have hS2 := hS.2
  dsimp only at hS2
  have hY : regY x d = y := by
    unfold regY
    rw [hreg]
  have hA2 : ∀ z ∈ (sgC x :: sgA x).take 20, MoOk (sgM x) (sgN x) z ∧ MoL (sgN x) z := fun z hz => by
    rcases List.mem_cons.mp (List.mem_of_mem_take hz) with rfl | hz
    · exact ⟨hC, l1⟩
    · exact ⟨hA z hz, l2 z hz⟩
  unfold Lv chg newC
  rw [hY]
  by_cases hg : y.1 + 1 = (lexL d).length ∧ topS y.2.2.2.1 = 1
  · rw [if_pos hg, if_pos hg, if_pos hg, if_pos hg]
    obtain ⟨b, e1, e2⟩ := q8 hg.1 hg.2
    refine ⟨⟨?_, fun u => by cases u⟩, fun z hz => (hA2 z hz).2.cg (m' := y.2.1) hN (hA2 z hz).1 q1, fun z hz => by cases hz⟩
    show TL y.2.2.1 (kdF (lexL d)) (regR x d) 0
    obtain ⟨l, a1, a2, a3⟩ := hS2
    rw [e1] at a1
    cases a1
    exact a2.2.1
  · rw [if_neg hg, if_neg hg, if_neg hg, if_neg hg]
    refine ⟨⟨l1.1, fun _ u => hg ?_⟩, fun z hz => (hA2 z hz).2, fun z hz => by cases hz⟩
    obtain ⟨w, w1, w2, w3⟩ := (show LrAcc (lexL d) from u)
    have hS3 : SG y.2.2.1 (kdF (lexL d)) y.1 y.2.2.2.1 := hS2
    obtain ⟨w', v1, v2, v3⟩ := SG.stop (kd := kdF (lexL d)) gi' hS3 hnone
    have e : ((lexL d).length - 1, w) = (y.1, w') := Rch.det w1 v1 w2 v2
    have e1 : (lexL d).length - 1 = y.1 := congrArg Prod.fst e
    have e2 : w = w' := congrArg Prod.snd e
    have := hx.2.1
    refine ⟨by omega, ?_⟩
    rw [← v3, ← e2]
    exact w3
theorem doC_lv {x : Sg} {d : List Int32} {bt : Bool} (hv : Iv x) (hd : BtL d) (hl : Lv x) : Lv (doC x d bt).2 := by
  unfold doC
  by_cases u : 300 < d.length ∨ 3000 ≤ sgM x ∨ 3900 ≤ (sgP x).length ∨ 100 < (lexL d).length
  · rw [if_pos u]
    exact hl
  · rw [if_neg u]
    exact chg_lv hv ⟨by omega, hd.at, by omega⟩ hl
theorem undo_lv {x : Sg} (hl : Lv x) : Lv (undoR x).2 := by
  obtain ⟨l1, l2, l3⟩ := id hl
  unfold undoR
  cases hA : sgA x with
  | nil => exact hl
  | cons y A =>
    rw [hA] at l2
    refine ⟨l2 y (List.mem_cons_self ..), fun z hz => l2 z (List.mem_cons_of_mem _ hz), fun z hz => ?_⟩
    rcases List.mem_cons.mp hz with rfl | hz
    · exact l1
    · exact l3 z hz
theorem redo_lv {x : Sg} (hl : Lv x) : Lv (redoR x).2 := by
  obtain ⟨l1, l2, l3⟩ := id hl
  unfold redoR
  cases hZ : sgZ x with
  | nil => exact hl
  | cons y Z =>
    rw [hZ] at l3
    refine ⟨l3 y (List.mem_cons_self ..), fun z hz => ?_, fun z hz => l3 z (List.mem_cons_of_mem _ hz)⟩
    rcases List.mem_cons.mp hz with rfl | hz
    · exact l1
    · exact l2 z hz
/-- so many steps from nothing as the TREE has nodes -/
def FrM (N : Nat → Nd) (y : Mo) : Prop := lIt (kdF (lexL (moG y))) (sz N (moR y)) (0, [(0, 0)]) = some ((lexL (moG y)).length - 1, [(0, 0), (0, 1)])
def Fr (x : Sg) : Prop := FrM (sgN x) (sgC x) ∧ (∀ y ∈ sgA x, FrM (sgN x) y) ∧ ∀ y ∈ sgZ x, FrM (sgN x) y
theorem FrM.cg {m : Nat} {N N' : Nat → Nd} {y : Mo} (hN : NdOk m N) (o : MoOk m N y) (e : ∀ k, k < m → N' k = N k) (h : FrM N y) : FrM N' y := by
  unfold FrM at h ⊢
  rw [sz_cg hN (fun c hc => by rw [e c hc]; exact NdE.rf) o.2.2.2.1.1]
  exact h
theorem chg_fr {x : Sg} {d tp : List Int32} (hv : Iv x) (hd : txOk d) (hl : Lv x) (hf : Fr x) : Fr (chg x d tp) := by
  obtain ⟨m1, g, N1, k, y, hreg, hn, hrun, -, q1, q2, q3, q4, q5, q6, q7, q8⟩ := reg_ok hv hd
  obtain ⟨-, hN, hu, -, -, -, -, hC, hA, hZ, -⟩ := hv
  obtain ⟨c1, c2, c3, c4, c5⟩ := id hC
  obtain ⟨l1, l2, l3⟩ := hl
  obtain ⟨f1, f2, f3⟩ := hf
  have hx := lex_lxo hd
  have hx' := lex_lxo c2
  obtain ⟨ge, gi, gj, hog, hnew, hm0, hm1, htk, hinj⟩ := naming_ok hN hu c4 c5 hx hx' hn
  have hkO : ∀ j, j < (lexL (moG (sgC x))).length → ndK (sgN x (moO (sgC x) j)) = kdF (lexL (moG (sgC x))) j := fun j hj => by
    have hj2 : (lexL (moG (sgC x)))[j]? = some ((lexL (moG (sgC x)))[j]'hj) := List.getElem?_eq_getElem hj
    rw [kdF_at hj2]
    exact (c5 j _ hj2).1
  have hS := gRun_inv (e := sgE x + 1) ge (P := fun z => GJ (sgM x) (sgN x) g z.1 z.2.1 z.2.2.1 z.2.2.2.1 ∧ SG z.2.2.1 (fun i => ((lexL d).getD i (10, 0, 0)).1) z.1 z.2.2.2.1) (fun a b k ha hp he => ⟨hp.1.nx hN c4 hog hnew hm0 ge ha he, hp.2.nx hN hu c4 hog ge ha hp.1 l1.1 hkO he⟩) 2000 0 (0, m1, N1, [(0, 0)], 0) gi ⟨gj, SG.st0⟩
  rw [hrun] at hS
  have hS2 := hS.2
  dsimp only at hS2
  have hY : regY x d = y := by
    unfold regY
    rw [hreg]
  have hA2 : ∀ z ∈ (sgC x :: sgA x).take 20, MoOk (sgM x) (sgN x) z ∧ FrM (sgN x) z := fun z hz => by
    rcases List.mem_cons.mp (List.mem_of_mem_take hz) with rfl | hz
    · exact ⟨hC, f1⟩
    · exact ⟨hA z hz, f2 z hz⟩
  unfold Fr chg newC
  rw [hY]
  by_cases hg : y.1 + 1 = (lexL d).length ∧ topS y.2.2.2.1 = 1
  · rw [if_pos hg, if_pos hg, if_pos hg, if_pos hg]
    obtain ⟨b, e1, e2⟩ := q8 hg.1 hg.2
    refine ⟨?_, fun z hz => (hA2 z hz).2.cg hN (hA2 z hz).1 q1, fun z hz => by cases hz⟩
    show lIt (kdF (lexL d)) (sz y.2.2.1 (regR x d)) (0, [(0, 0)]) = some ((lexL d).length - 1, [(0, 0), (0, 1)])
    obtain ⟨l, a1, a2, a3⟩ := hS2
    rw [e1] at a1
    cases a1
    have := a2.1 [(0, 0)] (Nat.le_refl 1) rfl
    dsimp only at this
    have e3 : y.1 = ndT (y.2.2.1 (regR x d)) + 0 := a3
    rw [show 0 + ndT (y.2.2.1 (regR x d)) = (lexL d).length - 1 by omega] at this
    exact this
  · rw [if_neg hg, if_neg hg, if_neg hg, if_neg hg]
    exact ⟨f1, fun z hz => (hA2 z hz).2, fun z hz => by cases hz⟩
theorem doC_fr {x : Sg} {d : List Int32} {bt : Bool} (hv : Iv x) (hd : BtL d) (hl : Lv x) (hf : Fr x) : Fr (doC x d bt).2 := by
  unfold doC
  by_cases u : 300 < d.length ∨ 3000 ≤ sgM x ∨ 3900 ≤ (sgP x).length ∨ 100 < (lexL d).length
  · rw [if_pos u]
    exact hf
  · rw [if_neg u]
    exact chg_fr hv ⟨by omega, hd.at, by omega⟩ hl hf
theorem undo_fr {x : Sg} (hf : Fr x) : Fr (undoR x).2 := by
  obtain ⟨l1, l2, l3⟩ := id hf
  unfold undoR
  cases hA : sgA x with
  | nil => exact hf
  | cons y A =>
    rw [hA] at l2
    refine ⟨l2 y (List.mem_cons_self ..), fun z hz => l2 z (List.mem_cons_of_mem _ hz), fun z hz => ?_⟩
    rcases List.mem_cons.mp hz with rfl | hz
    · exact l1
    · exact l3 z hz
theorem redo_fr {x : Sg} (hf : Fr x) : Fr (redoR x).2 := by
  obtain ⟨l1, l2, l3⟩ := id hf
  unfold redoR
  cases hZ : sgZ x with
  | nil => exact hf
  | cons y Z =>
    rw [hZ] at l3
    refine ⟨l3 y (List.mem_cons_self ..), fun z hz => ?_, fun z hz => l3 z (List.mem_cons_of_mem _ hz)⟩
    rcases List.mem_cons.mp hz with rfl | hz
    · exact l1
    · exact l2 z hz
