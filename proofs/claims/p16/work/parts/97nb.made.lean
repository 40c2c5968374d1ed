/-! ===== by which EDIT nodes are made; END is the first node alone ===== -/
def Ev (x : Sg) : Prop := (∀ c, c < sgM x → ndB (sgN x c) ≤ sgE x) ∧ (∀ c, c < sgM x → (ndM (sgN x c) = 15 ↔ c = 0)) ∧ (sgE x = 0 → runsOf (sgN x) (moR (sgC x)) = [] ∧ sgA x = [] ∧ sgZ x = [])
theorem chg_ev {x : Sg} {d tp : List Int32} (hv : Iv x) (hd : txOk d) (h : Ev x) : Ev (chg x d tp) := by
  obtain ⟨m1, g, N1, k, y, hreg, hn, hrun, ⟨-, gi, -, hm0, -⟩, q1, q2, q3, q4, q5, q6, q7, q8⟩ := reg_ok hv hd
  obtain ⟨-, hN, hu, -, -, -, -, hC, -⟩ := hv
  obtain ⟨c1, c2, c3, c4, c5⟩ := id hC
  obtain ⟨e1, e2, e3⟩ := h
  have hx := lex_lxo hd
  have hx' := lex_lxo c2
  obtain ⟨ge, -, -, -, -, -, -, -, -⟩ := naming_ok hN hu c4 c5 hx hx' hn
  have hY : regY x d = y := by
    unfold regY
    rw [hreg]
  have hI := gRun_inv (e := sgE x + 1) ge (P := NwI N1 m1 (sgE x + 1)) (fun a b k _ hp he => hp.nx he) 2000 0 (0, m1, N1, [(0, 0)], 0) gi ⟨Nat.le_refl _, fun c _ => NdE.rf, fun c h1 h2 => absurd h2 (Nat.not_lt.mpr h1)⟩
  rw [hrun] at hI
  obtain ⟨i1, i2, i3⟩ := hI
  dsimp only at i1 i2 i3
  have R0 := c4.1
  have kl := (kept_le (t := txF d) (t' := txF (moG (sgC x))) hx.2.1 hx'.2.1).2.2
  have nw : ∀ c, sgM x ≤ c → c < y.2.1 → ndB (y.2.2.1 c) = sgE x + 1 ∧ ndM (y.2.2.1 c) ≠ 15 := fun c h1 h2 => by
    by_cases u : c < m1
    · obtain ⟨i', b1, b2, b3, b4⟩ := namF_wn _ _ _ _ _ _ _ _ hn c h1 u
      have w := i2 c u
      rw [b4] at w
      refine ⟨w.2.2.2.1, ?_⟩
      rw [w.M]
      have hil : i' < (lexL d).length := by omega
      have hat : (lexL d)[i']? = some ((lexL d).getD i' (10, 0, 0)) := by
        rw [List.getD_eq_getElem?_getD, List.getElem?_eq_getElem hil]
        rfl
      have hk : ((lexL d).getD i' (10, 0, 0)).1 ≠ 10 := fun v => by
        have := (hx.2.2.2 i' _ hat).mp v
        unfold wasN at b3
        split at b3
        · cases b3
        · rw [if_pos (by omega)] at b3
          cases b3
      show (if (-2 : Int) < 0 then 5 + ((lexL d).getD i' (10, 0, 0)).1 else _) ≠ 15
      rw [if_pos (by decide)]
      omega
    · obtain ⟨b1, b2⟩ := i3 c (by omega) h2
      refine ⟨b1, ?_⟩
      rcases q4 c h2 with ⟨f1, -⟩ | ⟨r, s, f1, -, f3, -⟩
      · omega
      · unfold ndM
        rw [if_neg (by omega), f3]
        have := (sy_fin r f1).2
        change syN r < 5 at this
        show syN r ≠ 15
        omega
  unfold Ev chg
  rw [hY]
  by_cases hg : y.1 + 1 = (lexL d).length ∧ topS y.2.2.2.1 = 1
  · rw [if_pos hg, if_pos hg]
    refine ⟨fun c hc => ?_, fun c hc => ?_, fun z => absurd z (Nat.succ_ne_zero _)⟩
    · change c < y.2.1 at hc
      show ndB (y.2.2.1 c) ≤ sgE x + 1
      by_cases u : c < sgM x
      · rw [q1 c u]
        have := e1 c u
        omega
      · rw [(nw c (by omega) hc).1]
        exact Nat.le_refl _
    · change c < y.2.1 at hc
      show ndM (y.2.2.1 c) = 15 ↔ c = 0
      by_cases u : c < sgM x
      · rw [q1 c u]
        exact e2 c u
      · exact ⟨fun v => absurd v (nw c (by omega) hc).2, fun v => by omega⟩
  · rw [if_neg hg, if_neg hg]
    refine ⟨fun c hc => ?_, fun c hc => e2 c hc, fun z => absurd z (Nat.succ_ne_zero _)⟩
    have := e1 c hc
    show ndB (sgN x c) ≤ sgE x + 1
    omega
theorem doC_ev {x : Sg} {d : List Int32} {bt : Bool} (hv : Iv x) (hd : BtL d) (h : Ev x) : Ev (doC x d bt).2 := by
  unfold doC
  by_cases u : 300 < d.length ∨ 3000 ≤ sgM x ∨ 3900 ≤ (sgP x).length ∨ 100 < (lexL d).length
  · rw [if_pos u]
    exact h
  · rw [if_neg u]
    exact chg_ev hv ⟨by omega, hd.at, by omega⟩ h
theorem undo_ev {x : Sg} (h : Ev x) : Ev (undoR x).2 := by
  obtain ⟨e1, e2, e3⟩ := id h
  unfold undoR
  cases hA : sgA x with
  | nil => exact h
  | cons y A =>
    refine ⟨e1, e2, fun z => ?_⟩
    have := (e3 z).2.1
    rw [hA] at this
    cases this
theorem redo_ev {x : Sg} (h : Ev x) : Ev (redoR x).2 := by
  obtain ⟨e1, e2, e3⟩ := id h
  unfold redoR
  cases hZ : sgZ x with
  | nil => exact h
  | cons y Z =>
    refine ⟨e1, e2, fun z => ?_⟩
    have := (e3 z).2.2
    rw [hZ] at this
    cases this
