/-! ===== laying a tree flat: what waits on a stack ===== -/
/-- nodes that wait (the next first), each with its parent's place and its depth, laid flat from the place p, the token t -/
def flS (N : Nat → Nd) : List (Nat × Nat × Nat) → Nat → Nat → List Fl
  | [], _, _ => []
  | x :: w, p, t => fl N x.1 x.2.1 p t x.2.2 ++ flS N w (p + sz N x.1) (t + ndT (N x.1))
theorem flS_app {N : Nat → Nd} {p0 d : Nat} {w : List (Nat × Nat × Nat)} : ∀ {l : List Nat} {p t : Nat}, flS N (l.map (fun c => (c, p0, d)) ++ w) p t = flL (fun c' p' t' => fl N c' p0 p' t' d) N l p t ++ flS N w (p + szS N l) (t + tkS N l)
  | [], p, t => rfl
  | c :: l, p, t => by
    show fl N c p0 p t d ++ flS N (l.map (fun c => (c, p0, d)) ++ w) (p + sz N c) (t + ndT (N c)) = (fl N c p0 p t d ++ flL _ N l (p + sz N c) (t + ndT (N c))) ++ _
    rw [flS_app, List.append_assoc, szS_cons, tkS_cons, Nat.add_assoc, Nat.add_assoc]
theorem flS_step {m c q d p t : Nat} {N : Nat → Nd} {w : List (Nat × Nat × Nat)} (h : NdOk m N) (hc : c < m) : flS N ((c, q, d) :: w) p t = flH N c q t d :: flS N ((ndC (N c)).map (fun c' => (c', p, d + 1)) ++ w) (p + 1) (t + if ndR (N c) < 0 then 1 else 0) := by
  rw [flS_app]
  show fl N c q p t d ++ flS N w (p + sz N c) (t + ndT (N c)) = _
  have hs := sz_eq h hc
  rcases h c hc with ⟨e1, e2, e3, e4, -⟩ | ⟨r, s, -, -, e3, -, -, -, -, e8⟩
  · rw [fl_eq h hc, e2, if_pos (by omega)]
    rw [e2] at hs
    show flH N c q t d :: flS N w (p + sz N c) (t + ndT (N c)) = flH N c q t d :: flS N w (p + 1 + 0) (t + 1 + 0)
    rw [hs, e4]
    rfl
  · rw [fl_eq h hc, if_neg (by omega), Nat.add_zero, ← e8, show p + sz N c = p + 1 + szS N (ndC (N c)) by omega]
    rfl
theorem flS_len {m : Nat} {N : Nat → Nd} (h : NdOk m N) : ∀ {w : List (Nat × Nat × Nat)} {p t : Nat}, (∀ x ∈ w, x.1 < m) → w.length ≤ (flS N w p t).length
  | [], _, _, _ => Nat.le_refl _
  | x :: w, p, t, hw => by
    have h1 := hw x (List.mem_cons_self ..)
    have h2 := flS_len h (p := p + sz N x.1) (t := t + ndT (N x.1)) (fun y hy => hw y (List.mem_cons_of_mem _ hy))
    have h3 := sz_pos h h1
    show _ ≤ (fl N x.1 x.2.1 p t x.2.2 ++ _).length
    rw [List.length_append, fl_len h _ h1, List.length_cons]
    omega
/-- the CHILDREN of a node in a flat tree are there, too -/
theorem fl_ch {m c q p t dep i k z : Nat} {N : Nat → Nd} {x : Fl} (h : NdOk m N) (hc : c < m) (hx : (fl N c q p t dep)[i]? = some x) (hk : (ndC (N x.1))[k]? = some z) : ∃ (i' : Nat) (y : Fl), i' = i + 1 + szS N ((ndC (N x.1)).take k) ∧ (fl N c q p t dep)[i']? = some y ∧ y.1 = z ∧ y.2.1 = p + i ∧ y.2.2.2.1 = x.2.2.2.1 + 1 := by
  obtain ⟨a1, -, o, -, -, -, a6⟩ := fl_in h c hc _ _ _ _ _ _ hx
  have hxm : x.1 < m := by omega
  have hz := h.lt hxm (List.mem_of_getElem? hk)
  have hzp := sz_pos h (show z < m by omega)
  have hst := szS_take (N := N) hk
  have hse := sz_eq h hxm
  have hput := fl_put (q := x.2.1) (p := p + i) (t := t + o) (dep := x.2.2.2.1) h hxm hk (show 0 < sz N z by omega)
  rw [fl_0 h (by omega)] at hput
  refine ⟨_, flH N z (p + i) (t + o + tkS N ((ndC (N x.1)).take k)) (x.2.2.2.1 + 1), rfl, ?_, rfl, rfl, rfl⟩
  · rw [show i + 1 + szS N ((ndC (N x.1)).take k) = i + (1 + szS N ((ndC (N x.1)).take k) + 0) by omega, a6 _ (by omega)]
    exact hput
/-! the class's stack -/
def pqI (d q : Nat) : Int32 := if d = 1 then -1 else zi q
def StkX (I : zI) : List (Nat × Nat × Nat) → Prop
  | [] => True
  | x :: w => I.1 57 w.length = zi x.1 ∧ I.1 59 w.length = pqI x.2.2 x.2.1 ∧ StkX I w
theorem StkX.kp {I J : zI} : ∀ {w : List (Nat × Nat × Nat)}, StkX I w → (∀ j, j < w.length → J.1 57 j = I.1 57 j ∧ J.1 59 j = I.1 59 j) → StkX J w
  | [], _, _ => trivial
  | x :: w, h, e => by
    obtain ⟨h1, h2, h3⟩ := h
    obtain ⟨e1, e2⟩ := e w.length (Nat.lt_succ_self _)
    exact ⟨e1.trans h1, e2.trans h2, h3.kp (fun j hj => e j (Nat.lt_succ_of_lt hj))⟩
/-- what is laid of a flat tree: the first p places -/
def LdX (I : zI) (F : List Fl) (p : Nat) : Prop :=
  I.1 43 12 = zi p ∧ ∀ (i : Nat) (x : Fl), i < p → F[i]? = some x → I.1 45 i = zi x.1 ∧ I.1 47 x.1 = zi i ∧ I.1 49 i = pqI x.2.2.2.1 x.2.1 ∧ I.1 51 i = Int32.ofInt x.2.2.1 ∧ I.1 53 i = zi x.2.2.2.1 ∧ I.1 55 i = 1
def Qly (a j : Nat) : Prop := (a = 43 ∧ j = 12) ∨ a = 45 ∨ a = 47 ∨ a = 49 ∨ a = 51 ∨ a = 53 ∨ a = 55
def PlX (I : zI) : Prop := ∀ c, c < 3400 → ∃ p, p < 400 ∧ I.1 47 c = zi p
theorem s_layNode {m p c q t d : Nat} {N : Nat → Nd} {F : List Fl} {I : zI} {K : zI → Prop} (rep : RepNX I m N) (hN : NdOk m N) (hm : m ≤ 3400) (hc : c < m) (hp : p < 400) (hF : LdX I F p) (hx : F[p]? = some (flH N c q t d)) (hu : ∀ (p q : Nat) (x y : Fl), F[p]? = some x → F[q]? = some y → x.1 = y.1 → p = q) (hT : ndT (N c) ≤ 1000) (hd : 1 ≤ d) (hq : d ≠ 1 → q < p ∧ ∃ y : Fl, F[q]? = some y ∧ y.2.2.2.1 + 1 = d) (hpl : PlX I)
    (hK : ∀ J, eqQ Qly I J → LdX J F (p + 1) → PlX J → K J) : w_TreeView_layNode (zi c) (pqI d q) (zi t) I K := by
  unfold w_TreeView_layNode
  obtain ⟨f1, f2⟩ := hF
  refine (w_set (by decide)).mpr ?_
  rw [f1, rs_in (by decide) hp]
  generalize e1 : zu I (44 + 1) p (zi c) = I1
  have g1 : I1.1 43 12 = zi p := by rw [← e1, zu_oo (by decide)]; exact f1
  refine (w_set (by decide)).mpr ?_
  rw [g1, rs_in (by decide) (show c < 3400 by omega)]
  generalize e2 : zu I1 (46 + 1) c (zi p) = I2
  have g2 : I2.1 43 12 = zi p := by rw [← e2, zu_oo (by decide)]; exact g1
  refine (w_set (by decide)).mpr ?_
  rw [g2, rs_in (by decide) hp]
  generalize e3 : zu I2 (48 + 1) p (pqI d q) = I3
  have g3 : I3.1 43 12 = zi p := by rw [← e3, zu_oo (by decide)]; exact g2
  have nd := rep.2 c hc
  refine (w_get (by decide)).mpr ?_
  rw [rg_in (by decide) (show c < 3400 by omega), show I3.1 (31 + 1) c = zi (ndT (N c)) by
    rw [← e3, zu_oo (by decide), ← e2, zu_oo (by decide), ← e1, zu_oo (by decide)]
    exact nd.2.2.2.1]
  intro P64 h64
  have rest : P64 (Int32.ofInt (flH N c q t d).2.2.1) := by
    refine h64 _ ((w_set (by decide)).mpr ?_)
    rw [g3, rs_in (by decide) hp]
    generalize e4 : zu I3 (50 + 1) p (Int32.ofInt (flH N c q t d).2.2.1) = I4
    have g4 : I4.1 43 12 = zi p := by rw [← e4, zu_oo (by decide)]; exact g3
    intro P93 h93
    have rest2 : P93 (zi d) := by
      refine h93 _ ((w_set (by decide)).mpr ?_)
      rw [g4, rs_in (by decide) hp]
      generalize e5 : zu I4 (52 + 1) p (zi d) = I5
      have g5 : I5.1 43 12 = zi p := by rw [← e5, zu_oo (by decide)]; exact g4
      refine (w_set (by decide)).mpr ?_
      rw [g5, rs_in (by decide) hp]
      generalize e6 : zu I5 (54 + 1) p 1 = I6
      have g6 : I6.1 43 12 = zi p := by rw [← e6, zu_oo (by decide)]; exact g5
      intro I7 e7
      rw [g6, zi_succ] at e7
      have q7 : eqQ Qly I I7 := by
        rw [e7, ← e6, ← e5, ← e4, ← e3, ← e2, ← e1]
        exact ((((((eqQ.rf.zu (Or.inr (Or.inl rfl))).zu (Or.inr (Or.inr (Or.inl rfl)))).zu (Or.inr (Or.inr (Or.inr (Or.inl rfl))))).zu (Or.inr (Or.inr (Or.inr (Or.inr (Or.inl rfl)))))).zu (Or.inr (Or.inr (Or.inr (Or.inr (Or.inr (Or.inl rfl))))))).zu (Or.inr (Or.inr (Or.inr (Or.inr (Or.inr (Or.inr rfl))))))).zu (Or.inl ⟨rfl, rfl⟩)
      have v45 : ∀ j, I7.1 45 j = if j = p then zi c else I.1 45 j := fun j => by
        rw [e7, zu_oo (by decide), ← e6, zu_oo (by decide), ← e5, zu_oo (by decide), ← e4, zu_oo (by decide), ← e3, zu_oo (by decide), ← e2, zu_oo (by decide), ← e1, zu_at]
        by_cases u : j = p
        · rw [if_pos ⟨rfl, u⟩, if_pos u]
        · rw [if_neg (fun v => u v.2), if_neg u]
      have v47 : ∀ j, I7.1 47 j = if j = c then zi p else I.1 47 j := fun j => by
        rw [e7, zu_oo (by decide), ← e6, zu_oo (by decide), ← e5, zu_oo (by decide), ← e4, zu_oo (by decide), ← e3, zu_oo (by decide), ← e2, zu_at]
        by_cases u : j = c
        · rw [if_pos ⟨rfl, u⟩, if_pos u]
        · rw [if_neg (fun v => u v.2), if_neg u, ← e1, zu_oo (by decide)]
      have v49 : ∀ j, I7.1 49 j = if j = p then pqI d q else I.1 49 j := fun j => by
        rw [e7, zu_oo (by decide), ← e6, zu_oo (by decide), ← e5, zu_oo (by decide), ← e4, zu_oo (by decide), ← e3, zu_at]
        by_cases u : j = p
        · rw [if_pos ⟨rfl, u⟩, if_pos u]
        · rw [if_neg (fun v => u v.2), if_neg u, ← e2, zu_oo (by decide), ← e1, zu_oo (by decide)]
      have v51 : ∀ j, I7.1 51 j = if j = p then Int32.ofInt (flH N c q t d).2.2.1 else I.1 51 j := fun j => by
        rw [e7, zu_oo (by decide), ← e6, zu_oo (by decide), ← e5, zu_oo (by decide), ← e4, zu_at]
        by_cases u : j = p
        · rw [if_pos ⟨rfl, u⟩, if_pos u]
        · rw [if_neg (fun v => u v.2), if_neg u, ← e3, zu_oo (by decide), ← e2, zu_oo (by decide), ← e1, zu_oo (by decide)]
      have v53 : ∀ j, I7.1 53 j = if j = p then zi d else I.1 53 j := fun j => by
        rw [e7, zu_oo (by decide), ← e6, zu_oo (by decide), ← e5, zu_at]
        by_cases u : j = p
        · rw [if_pos ⟨rfl, u⟩, if_pos u]
        · rw [if_neg (fun v => u v.2), if_neg u, ← e4, zu_oo (by decide), ← e3, zu_oo (by decide), ← e2, zu_oo (by decide), ← e1, zu_oo (by decide)]
      have v55 : ∀ j, I7.1 55 j = if j = p then 1 else I.1 55 j := fun j => by
        rw [e7, zu_oo (by decide), ← e6, zu_at]
        by_cases u : j = p
        · rw [if_pos ⟨rfl, u⟩, if_pos u]
        · rw [if_neg (fun v => u v.2), if_neg u, ← e5, zu_oo (by decide), ← e4, zu_oo (by decide), ← e3, zu_oo (by decide), ← e2, zu_oo (by decide), ← e1, zu_oo (by decide)]
      refine hK I7 q7 ⟨by rw [e7, zu_self], fun i x hi hx' => ?_⟩ (fun c' hc' => ?_)
      · rw [v45, v47, v49, v51, v53, v55]
        by_cases u : i = p
        · subst u
          rw [hx] at hx'
          cases hx'
          rw [if_pos rfl, if_pos rfl, if_pos rfl, if_pos rfl, if_pos rfl, if_pos (show (flH N c q t d).1 = c from rfl)]
          exact ⟨rfl, rfl, rfl, rfl, rfl, rfl⟩
        · rw [if_neg u, if_neg u, if_neg u, if_neg u, if_neg u, if_neg (show ¬ x.1 = c from fun v => u (hu i p x _ hx' hx v))]
          exact f2 i x (by omega) hx'
      · rw [v47]
        by_cases u : c' = c
        · rw [if_pos u]
          exact ⟨p, hp, rfl⟩
        · rw [if_neg u]
          exact hpl c' hc'
    by_cases hd1 : d = 1
    · rw [show pqI d q = -1 from if_pos hd1, if_neg (show ¬ (0 : Int32) ≤ -1 by decide)]
      rw [hd1] at rest2
      exact rest2
    · obtain ⟨hq1, y, hy1, hy2⟩ := hq hd1
      rw [show pqI d q = zi q from if_neg hd1, if_pos (zi_ge (by omega))]
      refine (w_get (by decide)).mpr ?_
      rw [rg_in (by decide) (show q < 400 by omega), show I4.1 (52 + 1) q = zi y.2.2.2.1 by
        rw [← e4, zu_oo (by decide), ← e3, zu_oo (by decide), ← e2, zu_oo (by decide), ← e1, zu_oo (by decide)]
        exact (f2 q y hq1 hy1).2.2.2.2.1, zi_succ, hy2]
      exact rest2
  by_cases hz : ndT (N c) = 0
  · rw [hz, if_pos (show zi 0 ≤ 0 by decide)]
    have : (flH N c q t d).2.2.1 = -2 := if_pos hz
    rw [this] at rest
    exact rest
  · rw [if_neg (show ¬ zi (ndT (N c)) ≤ 0 from fun u => hz (by have := (zi_le (b := 0) (by omega) (by decide)).mp u; omega))]
    have : (flH N c q t d).2.2.1 = (t : Int) := if_neg hz
    rw [this, zi_int] at rest
    exact rest
