/-! ===== by which EDIT nodes are made; END is the first node alone ===== -/
theorem namF_wn {t : Nat → Int32} {l : List (Nat × Nat × Nat)} {A Bh n' : Nat} {og : Nat → Nat} {e : Nat} : ∀ (d i m : Nat) (g : Nat → Nat) (N : Nat → Nd) (m' : Nat) (g' : Nat → Nat) (N' : Nat → Nd), namF t l A Bh n' og e d i m g N = (m', g', N') →
    ∀ k, m ≤ k → k < m' → ∃ i', i ≤ i' ∧ i' < i + d ∧ wasN A Bh l.length n' i' = none ∧ N' k = tkNd t (l.getD i' (10, 0, 0)) e
  | 0, i, m, g, N, m', g', N', h => by
    cases h
    intro k h1 h2
    omega
  | d + 1, i, m, g, N, m', g', N', h => by
    cases hw : wasN A Bh l.length n' i with
    | some j =>
      have h' : namF t l A Bh n' og e d (i + 1) m (fun k => if k = i then og j else g k) N = (m', g', N') := by
        rw [← h]
        show _ = (match wasN A Bh l.length n' i with
          | some j => namF t l A Bh n' og e d (i + 1) m (fun k => if k = i then og j else g k) N
          | none => namF t l A Bh n' og e d (i + 1) (m + 1) (fun k => if k = i then m else g k) (upN N m (tkNd t (l.getD i (10, 0, 0)) e)))
        rw [hw]
      intro k h1 h2
      obtain ⟨i', b1, b2, b3⟩ := namF_wn d (i + 1) m _ N m' g' N' h' k h1 h2
      exact ⟨i', by omega, by omega, b3⟩
    | none =>
      have h' : namF t l A Bh n' og e d (i + 1) (m + 1) (fun k => if k = i then m else g k) (upN N m (tkNd t (l.getD i (10, 0, 0)) e)) = (m', g', N') := by
        rw [← h]
        show _ = (match wasN A Bh l.length n' i with
          | some j => namF t l A Bh n' og e d (i + 1) m (fun k => if k = i then og j else g k) N
          | none => namF t l A Bh n' og e d (i + 1) (m + 1) (fun k => if k = i then m else g k) (upN N m (tkNd t (l.getD i (10, 0, 0)) e)))
        rw [hw]
      intro k h1 h2
      by_cases u : k = m
      · subst u
        obtain ⟨a1, a2, a3, -⟩ := namF_ok d (i + 1) (k + 1) _ _ m' g' N' h'
        exact ⟨i, Nat.le_refl _, by omega, hw, by rw [a3 k (by omega), upN_self]⟩
      · obtain ⟨i', b1, b2, b3⟩ := namF_wn d (i + 1) (m + 1) _ _ m' g' N' h' k (by omega) h2
        exact ⟨i', by omega, by omega, b3⟩
def NwI (N1 : Nat → Nd) (m1 e : Nat) (z : Gs) : Prop := m1 ≤ z.2.1 ∧ (∀ c, c < m1 → NdE (N1 c) (z.2.2.1 c)) ∧ ∀ c, m1 ≤ c → c < z.2.1 → ndB (z.2.2.1 c) = e ∧ 0 ≤ ndR (z.2.2.1 c)
theorem NwI.nx {F : List Fl} {A B n n' e m1 : Nat} {g : Nat → Nat} {N1 : Nat → Nd} {x y : Gs} (h : NwI N1 m1 e x) (e1 : gNx F A B n n' g e x.1 x.2.1 x.2.2.1 x.2.2.2.1 x.2.2.2.2 = some y) : NwI N1 m1 e y := by
  obtain ⟨h1, h2, h3⟩ := h
  obtain ⟨f1, f2⟩ := gNx_E e1
  refine ⟨by omega, fun c hc => (h2 c hc).tr (f2 c (by omega)), fun c hc1 hc2 => ?_⟩
  by_cases u : c < x.2.1
  · obtain ⟨a, b⟩ := h3 c hc1 u
    have w := f2 c u
    exact ⟨w.2.2.2.1.trans a, by rw [w.1]; exact b⟩
  · obtain ⟨i, m, N, st, tk⟩ := x
    dsimp only at u e1
    unfold gNx at e1
    cases hb : bestOf F N A B n n' i (topS st) (g i) with
    | some b =>
      rw [hb] at e1
      cases e1
      exact absurd hc2 u
    | none =>
      rw [hb] at e1
      by_cases hz : ldN (topS st) (ndM (N (g i))) = 0
      · rw [if_pos hz] at e1
        cases hr : rlN (topS st) with
        | none =>
          rw [hr] at e1
          cases e1
        | some r =>
          rw [hr] at e1
          cases e1
          dsimp only at hc2 ⊢
          rw [show c = m by omega, upN_self]
          refine ⟨rfl, ?_⟩
          show (0 : Int) ≤ (r : Int)
          omega
      · rw [if_neg hz] at e1
        cases e1
        exact absurd hc2 u
def Ev (x : Sg) : Prop := (∀ c, c < sgM x → ndB (sgN x c) ≤ sgE x) ∧ (∀ c, c < sgM x → (ndM (sgN x c) = 15 ↔ c = 0)) ∧ (sgE x = 0 → runsOf (sgN x) (moR (sgC x)) = [] ∧ sgA x = [] ∧ sgZ x = [])
theorem chg_ev {x : Sg} {d tp : List Int32} (hv : Iv x) (hd : txOk d) (h : Ev x) : Ev (chg x d tp) := by
  obtain ⟨m1, g, N1, k, y, hreg, hn, hrun, ⟨-, gi, -, hm0, -⟩, q1, q2, q3, q4, q5, q6, q7, q8⟩ := reg_ok hv hd
  obtain ⟨-, hN, hu, -, -, -, -, hC, -⟩ := hv
  obtain ⟨c1, c2, c3, c4, c5⟩ := id hC
  obtain ⟨e1, e2, e3⟩ := h
  have hx := lex_lxo hd
  have hx' := lex_lxo c2
  obtain ⟨ge, -, -, -, -, -, -, -, -⟩ := naming_ok hN hu c4 c5 hx hx' hn
  have hY : regY x d = y := by
    unfold regY
    rw [hreg]
  have hI := gRun_inv (e := sgE x + 1) ge (P := NwI N1 m1 (sgE x + 1)) (fun a b k _ hp he => hp.nx he) 2000 0 (0, m1, N1, [(0, 0)], 0) gi ⟨Nat.le_refl _, fun c _ => NdE.rf, fun c h1 h2 => absurd h2 (Nat.not_lt.mpr h1)⟩
  rw [hrun] at hI
  obtain ⟨i1, i2, i3⟩ := hI
  dsimp only at i1 i2 i3
  have R0 := c4.1
  have kl := (kept_le (t := txF d) (t' := txF (moG (sgC x))) hx.2.1 hx'.2.1).2.2
  have nw : ∀ c, sgM x ≤ c → c < y.2.1 → ndB (y.2.2.1 c) = sgE x + 1 ∧ ndM (y.2.2.1 c) ≠ 15 := fun c h1 h2 => by
    by_cases u : c < m1
    · obtain ⟨i', b1, b2, b3, b4⟩ := namF_wn _ _ _ _ _ _ _ _ hn c h1 u
      have w := i2 c u
      rw [b4] at w
      refine ⟨w.2.2.2.1, ?_⟩
      rw [w.M]
      have hil : i' < (lexL d).length := by omega
      have hat : (lexL d)[i']? = some ((lexL d).getD i' (10, 0, 0)) := by
        rw [List.getD_eq_getElem?_getD, List.getElem?_eq_getElem hil]
        rfl
      have hk : ((lexL d).getD i' (10, 0, 0)).1 ≠ 10 := fun v => by
        have := (hx.2.2.2 i' _ hat).mp v
        unfold wasN at b3
        split at b3
        · cases b3
        · rw [if_pos (by omega)] at b3
          cases b3
      show (if (-2 : Int) < 0 then 5 + ((lexL d).getD i' (10, 0, 0)).1 else _) ≠ 15
      rw [if_pos (by decide)]
      omega
    · obtain ⟨b1, b2⟩ := i3 c (by omega) h2
      refine ⟨b1, ?_⟩
      rcases q4 c h2 with ⟨f1, -⟩ | ⟨r, s, f1, -, f3, -⟩
      · omega
      · unfold ndM
        rw [if_neg (by omega), f3]
        have := (sy_fin r f1).2
        change syN r < 5 at this
        show syN r ≠ 15
        omega
  unfold Ev chg
  rw [hY]
  by_cases hg : y.1 + 1 = (lexL d).length ∧ topS y.2.2.2.1 = 1
  · rw [if_pos hg, if_pos hg]
    refine ⟨fun c hc => ?_, fun c hc => ?_, fun z => absurd z (Nat.succ_ne_zero _)⟩
    · change c < y.2.1 at hc
      show ndB (y.2.2.1 c) ≤ sgE x + 1
      by_cases u : c < sgM x
      · rw [q1 c u]
        have := e1 c u
        omega
      · rw [(nw c (by omega) hc).1]
        exact Nat.le_refl _
    · change c < y.2.1 at hc
      show ndM (y.2.2.1 c) = 15 ↔ c = 0
      by_cases u : c < sgM x
      · rw [q1 c u]
        exact e2 c u
      · exact ⟨fun v => absurd v (nw c (by omega) hc).2, fun v => by omega⟩
  · rw [if_neg hg, if_neg hg]
    refine ⟨fun c hc => ?_, fun c hc => e2 c hc, fun z => absurd z (Nat.succ_ne_zero _)⟩
    have := e1 c hc
    show ndB (sgN x c) ≤ sgE x + 1
    omega
theorem doC_ev {x : Sg} {d : List Int32} {bt : Bool} (hv : Iv x) (hd : BtL d) (h : Ev x) : Ev (doC x d bt).2 := by
  unfold doC
  by_cases u : 300 < d.length ∨ 3000 ≤ sgM x ∨ 3900 ≤ (sgP x).length ∨ 100 < (lexL d).length
  · rw [if_pos u]
    exact h
  · rw [if_neg u]
    exact chg_ev hv ⟨by omega, hd.at, by omega⟩ h
theorem undo_ev {x : Sg} (h : Ev x) : Ev (undoR x).2 := by
  obtain ⟨e1, e2, e3⟩ := id h
  unfold undoR
  cases hA : sgA x with
  | nil => exact h
  | cons y A =>
    refine ⟨e1, e2, fun z => ?_⟩
    have := (e3 z).2.1
    rw [hA] at this
    cases this
theorem redo_ev {x : Sg} (h : Ev x) : Ev (redoR x).2 := by
  obtain ⟨e1, e2, e3⟩ := id h
  unfold redoR
  cases hZ : sgZ x with
  | nil => exact h
  | cons y Z =>
    refine ⟨e1, e2, fun z => ?_⟩
    have := (e3 z).2.2
    rw [hZ] at this
    cases this
