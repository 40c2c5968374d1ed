/-! ===== the state, and how both sides hold it ===== -/
def txF (l : List Int32) : Nat → Int32 := fun j => l.getD j 0
theorem txF_at {l : List Int32} {j : Nat} {v : Int32} (h : l[j]? = some v) : txF l j = v := by
  unfold txF
  rw [List.getD_eq_getElem?_getD, h]
  rfl
def lexL (l : List Int32) : List (Nat × Nat × Nat) := lex (txF l) l.length
/-- a TEXT as it is, the last good one, is it good, its TREE's root, its tokens' nodes -/
abbrev Mo : Type := List Int32 × List Int32 × Bool × Nat × (Nat → Nat)
def moT (x : Mo) : List Int32 := x.1
def moG (x : Mo) : List Int32 := x.2.1
def moB (x : Mo) : Bool := x.2.2.1
def moR (x : Mo) : Nat := x.2.2.2.1
def moO (x : Mo) : Nat → Nat := x.2.2.2.2
def txOk (l : List Int32) : Prop := l.length ≤ 300 ∧ (∀ j, j < l.length → byt (txF l j)) ∧ (lexL l).length ≤ 100
theorem lex_lxo {l : List Int32} (h : txOk l) : LxO (txF l) (lexL l) := by
  obtain ⟨h1, h2, h3⟩ := h
  have hlen : (lexL l).length = (lexF (txF l) l.length l.length 0).length + 1 := by
    show (lexF (txF l) l.length l.length 0 ++ [(10, l.length, 0)]).length = _
    rw [List.length_append]
    rfl
  refine ⟨fun x hx => (lex_ok h2 x hx).1, by omega, h3, fun i x hx => ?_⟩
  have hx' : (lexF (txF l) l.length l.length 0 ++ [(10, l.length, 0)])[i]? = some x := hx
  rcases snoc_at hx' with hx2 | ⟨e1, e2⟩
  · have hil := (List.getElem?_eq_some_iff.mp hx2).1
    have := (lexF_ok h2 _ _ x (List.mem_of_getElem? hx2)).2.1
    constructor
    · intro u
      exact absurd u this
    · intro u
      omega
  · rw [e2]
    constructor
    · intro _
      omega
    · intro _
      rfl
/-- a moment that can be -/
def MoOk (m : Nat) (N : Nat → Nd) (x : Mo) : Prop :=
  txOk (moT x) ∧ txOk (moG x) ∧ (moB x = true → moT x = moG x) ∧ TreeI m N (moR x) (lexL (moG x)).length (moO x) ∧ TkI N (txF (moG x)) (lexL (moG x)) (moO x)
/-- a moment in the class -/
def MoX (I : zI) (k : Nat) (x : Mo) : Prop :=
  I.1 k 1 = zi (moT x).length ∧ (∀ j, j < (moT x).length → I.1 (k + 2) j = txF (moT x) j) ∧ RepT I (k + 3) (txF (moT x)) (lexL (moT x)) ∧ I.1 k 3 = b01 (moB x) ∧
  I.1 k 6 = zi (lexL (moG x)).length ∧ (∀ j, j < (lexL (moG x)).length → I.1 (k + 15) j = zi (moO x j)) ∧ (∀ (j : Nat) (y : Nat × Nat × Nat), (lexL (moG x))[j]? = some y → I.1 (k + 17) j = zi y.2.1) ∧ I.1 k 7 = zi (moR x)
/-- in the model's rows of states -/
def MoM (I : zI) (s : Nat) (x : Mo) : Prop :=
  (∀ j, j < (moT x).length → I.1 542 (720 * s + j) = txF (moT x) j) ∧ (∀ j, j < (moG x).length → I.1 542 (720 * s + 300 + j) = txF (moG x) j) ∧ (∀ j, j < (lexL (moG x)).length → I.1 542 (720 * s + 600 + j) = zi (moO x j)) ∧
  I.1 542 (720 * s + 710) = zi (moT x).length ∧ I.1 542 (720 * s + 711) = zi (moG x).length ∧ I.1 542 (720 * s + 712) = b01 (moB x) ∧ I.1 542 (720 * s + 713) = zi (moR x)
/-- as it is now, in the model -/
def NowM (I : zI) (x : Mo) : Prop :=
  I.1 491 5 = zi (moT x).length ∧ (∀ j, j < (moT x).length → I.1 494 j = txF (moT x) j) ∧ I.1 491 15 = zi (lexL (moT x)).length ∧
  (∀ (j : Nat) (y : Nat × Nat × Nat), (lexL (moT x))[j]? = some y → I.1 501 j = zi y.1 ∧ I.1 502 j = zi y.2.1 ∧ I.1 503 j = zi y.2.2) ∧
  I.1 491 7 = zi (moG x).length ∧ (∀ j, j < (moG x).length → I.1 495 j = txF (moG x) j) ∧ OldU I (txF (moG x)) (lexL (moG x)) ∧ (∀ j, j < (lexL (moG x)).length → I.1 508 j = zi (moO x j)) ∧ I.1 491 8 = b01 (moB x) ∧ I.1 491 37 = zi (moR x)
/-- tape; nodes; PAIRS; EDITS; what was, now, what was undone -/
abbrev Sg : Type := List Int32 × (Nat × (Nat → Nd)) × List (Nat × Nat) × Nat × List Mo × Mo × List Mo
def sgT (x : Sg) : List Int32 := x.1
def sgM (x : Sg) : Nat := x.2.1.1
def sgN (x : Sg) : Nat → Nd := x.2.1.2
def sgP (x : Sg) : List (Nat × Nat) := x.2.2.1
def sgE (x : Sg) : Nat := x.2.2.2.1
def sgA (x : Sg) : List Mo := x.2.2.2.2.1
def sgC (x : Sg) : Mo := x.2.2.2.2.2.1
def sgZ (x : Sg) : List Mo := x.2.2.2.2.2.2
/-- what holds of it -/
def Iv (x : Sg) : Prop :=
  ((sgT x).length ≤ 200 ∧ ∀ b ∈ sgT x, byt b) ∧ NdOk (sgM x) (sgN x) ∧ UqE (sgM x) (sgN x) ∧ sgM x ≤ 3250 ∧ (∀ c, c < sgM x → ndT (sgN x c) ≤ 100) ∧
  (PrU (sgP x) ∧ (sgP x).length ≤ 3999) ∧ sgE x ≤ 100000 ∧ MoOk (sgM x) (sgN x) (sgC x) ∧ (∀ y ∈ sgA x, MoOk (sgM x) (sgN x) y) ∧ (∀ y ∈ sgZ x, MoOk (sgM x) (sgN x) y) ∧ (sgA x).length + (sgZ x).length ≤ 20
/-- the class holds it: its slot is s -/
def RX (I : zI) (x : Sg) : Prop :=
  TapX I (sgT x) ∧ RepNX I (sgM x) (sgN x) ∧ ViX I (sgN x) (moR (sgC x)) ∧ PrX I (sgP x) ∧ I.1 0 7 = zi (sgE x) ∧ I.1 0 5 = zi (sgA x).length ∧ I.1 0 6 = zi (sgZ x).length ∧
  ∃ s, s < 21 ∧ I.1 0 4 = zi s ∧ MoX I (zmom s) (sgC x) ∧ (∀ (k : Nat) (y : Mo), (sgA x)[k]? = some y → MoX I (zmom ((s + 20 - k) % 21)) y) ∧ ∀ (k : Nat) (y : Mo), (sgZ x)[k]? = some y → MoX I (zmom ((s + 1 + k) % 21)) y
/-- the model holds it -/
def RM (I : zI) (x : Sg) : Prop :=
  TapM I (sgT x) ∧ RepNM I (sgM x) (sgN x) ∧ ViM I (sgN x) (moR (sgC x)) (lexL (moG (sgC x))).length ∧ PrM I (sgP x) ∧ I.1 491 36 = zi (sgE x) ∧ I.1 491 75 = zi (sgA x).length ∧ I.1 491 76 = zi ((sgA x).length + (sgZ x).length) ∧
  NowM I (sgC x) ∧ MoM I (sgA x).length (sgC x) ∧ (∀ (k : Nat) (y : Mo), (sgA x)[k]? = some y → MoM I ((sgA x).length - 1 - k) y) ∧ ∀ (k : Nat) (y : Mo), (sgZ x)[k]? = some y → MoM I ((sgA x).length + 1 + k) y
/-! ===== what a change makes of it ===== -/
/-- a node's numbers of TOKENS stay small as a TREE grows -/
theorem grown_tk {F : List Fl} {A B n n' e m0 m1 R : Nat} {g kd og : Nat → Nat} {N0 : Nat → Nd} (h0 : NdOk m0 N0) (t0 : TreeI m0 N0 R n' og) (hF : F = flR N0 R) (hog : ∀ i, i < n → ∀ j, wasN A B n n' i = some j → g i = og j) (hnew : ∀ i, i < n → wasN A B n n' i = none → m0 ≤ g i) (h01 : m0 ≤ m1) (ge : GE F A B n n' g kd) : ∀ (x y : Gs) (k : Nat), GI F n n' g kd m1 x.1 x.2.1 x.2.2.1 x.2.2.2.1 k → (GJ m0 N0 g x.1 x.2.1 x.2.2.1 x.2.2.2.1 ∧ ∀ c, c < x.2.1 → ndT (x.2.2.1 c) ≤ 100) → gNx F A B n n' g e x.1 x.2.1 x.2.2.1 x.2.2.2.1 x.2.2.2.2 = some y → (GJ m0 N0 g y.1 y.2.1 y.2.2.1 y.2.2.2.1 ∧ ∀ c, c < y.2.1 → ndT (y.2.2.1 c) ≤ 100) := by
  intro x y k hx hp he
  subst hF
  have hJ := hp.1.nx h0 t0 hog hnew h01 ge hx he
  have hI := hx.nx ge he
  refine ⟨hJ, fun c hc => ?_⟩
  obtain ⟨e1, e2⟩ := gNx_E he
  by_cases u : c < x.2.1
  · rw [(e2 c u).2.2.1]
    exact hp.2 c u
  · -- a new node is on the stack
    have hN := hI.2.2.2.2.1
    have hin : ∃ p ∈ y.2.2.2.1.drop 1, p.1 = c := by
      obtain ⟨i, m, N, st, tk⟩ := x
      dsimp only at he u e1
      have s1 : 1 ≤ st.length := hx.2.1.1
      unfold gNx at he
      cases hb : bestOf (flR N0 R) N A B n n' i (topS st) (g i) with
      | some b =>
        rw [hb] at he
        cases he
        exact absurd hc u
      | none =>
        rw [hb] at he
        by_cases hz : ldN (topS st) (ndM (N (g i))) = 0
        · rw [if_pos hz] at he
          cases hr : rlN (topS st) with
          | none =>
            rw [hr] at he
            cases he
          | some r =>
            rw [hr] at he
            cases he
            obtain ⟨p0, q1, q2⟩ := top_at s1
            obtain ⟨f1, f2⟩ := st_fits hx.2.1.2.1 hx.2.1.2.2.1 s1 q1 q2 hr
            have f1' : lnN r < st.length := f1
            dsimp only at hc ⊢
            refine ⟨(m, ldN (byS st r) (syN r)), ?_, by show m = c; omega⟩
            unfold byT
            rw [drop1_snoc (by rw [List.length_take]; omega)]
            exact List.mem_append_right _ (List.mem_singleton.mpr rfl)
        · rw [if_neg hz] at he
          cases he
          exact absurd hc u
    obtain ⟨p, hp1, hp2⟩ := hin
    have hlen := yl_len hN c hc
    obtain ⟨L1, L2, hL⟩ := List.append_of_mem hp1
    have h1 := congrArg List.length hJ.1
    rw [hL, List.flatMap_append, List.flatMap_cons, List.length_append, List.length_append, hp2, hlen, List.length_map, List.length_range] at h1
    have := hI.1
    have := ge.1
    omega
/-- naming and growing: is it good; where it is wrong; the steps; how it ends -/
def reg (x : Sg) (d : List Int32) : (Nat × (Nat → Nat) × (Nat → Nd)) × Nat × Gs :=
  (fun nm => (nm, gRun (flR (sgN x) (moR (sgC x))) (kAhead (txF (moG (sgC x))) (lexL (moG (sgC x))) (txF d) (lexL d)) (kBehind (txF (moG (sgC x))) (lexL (moG (sgC x))) (txF d) (lexL d)) (lexL d).length (lexL (moG (sgC x))).length nm.2.1 (sgE x + 1) 2000 0 (0, nm.1, nm.2.2, [(0, 0)], 0)))
    (namF (txF d) (lexL d) (kAhead (txF (moG (sgC x))) (lexL (moG (sgC x))) (txF d) (lexL d)) (kBehind (txF (moG (sgC x))) (lexL (moG (sgC x))) (txF d) (lexL d)) (lexL (moG (sgC x))).length (moO (sgC x)) (sgE x + 1) (lexL d).length 0 (sgM x) (fun _ => 0) (sgN x))
def regY (x : Sg) (d : List Int32) : Gs := (reg x d).2.2
/-- it is good -/
def regB (x : Sg) (d : List Int32) : Prop := (regY x d).1 + 1 = (lexL d).length ∧ topS (regY x d).2.2.2.1 = 1
def regR (x : Sg) (d : List Int32) : Nat := ((regY x d).2.2.2.1.getD ((regY x d).2.2.2.1.length - 1) (0, 0)).1
/-- refused: too long, too many nodes, PAIRS, tokens -/
def refu (x : Sg) (d : List Int32) : Prop := 300 < d.length ∨ 3000 ≤ sgM x ∨ 3900 ≤ (sgP x).length ∨ 100 < (lexL d).length
def newC (x : Sg) (d : List Int32) : Mo := if (regY x d).1 + 1 = (lexL d).length ∧ topS (regY x d).2.2.2.1 = 1 then (d, d, true, regR x d, (reg x d).1.2.1) else (d, moG (sgC x), false, moR (sgC x), moO (sgC x))
/-- the state behind a change that is not refused; tp: the tape then -/
def chg (x : Sg) (d tp : List Int32) : Sg :=
  (tp, (if (regY x d).1 + 1 = (lexL d).length ∧ topS (regY x d).2.2.2.1 = 1 then ((regY x d).2.1, (regY x d).2.2.1) else (sgM x, sgN x)),
    (if (regY x d).1 + 1 = (lexL d).length ∧ topS (regY x d).2.2.2.1 = 1 then layAllR (runsOf (regY x d).2.2.1 (regR x d)) (sgP x) else sgP x), sgE x + 1, (sgC x :: sgA x).take 20, newC x d, [])
