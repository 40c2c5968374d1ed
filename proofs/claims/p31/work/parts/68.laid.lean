/-! ===== laying a tree flat: what waits on a stack ===== -/
/-- nodes that wait (the next first), each with its parent's place and its depth, laid flat from the place p, the token t -/
def flS (N : Nat → Nd) : List (Nat × Nat × Nat) → Nat → Nat → List Fl
  | [], _, _ => []
  | x :: w, p, t => fl N x.1 x.2.1 p t x.2.2 ++ flS N w (p + sz N x.1) (t + ndT (N x.1))
theorem flS_app {N : Nat → Nd} {p0 d : Nat} {w : List (Nat × Nat × Nat)} : ∀ {l : List Nat} {p t : Nat}, flS N (l.map (fun c => (c, p0, d)) ++ w) p t = flL (fun c' p' t' => fl N c' p0 p' t' d) N l p t ++ flS N w (p + szS N l) (t + tkS N l)
  | [], p, t => rfl
  | c :: l, p, t => by
    show fl N c p0 p t d ++ flS N (l.map (fun c => (c, p0, d)) ++ w) (p + sz N c) (t + ndT (N c)) = (fl N c p0 p t d ++ flL _ N l (p + sz N c) (t + ndT (N c))) ++ _
    rw [flS_app, List.append_assoc, szS_cons, tkS_cons, Nat.add_assoc, Nat.add_assoc]
theorem flS_step {m c q d p t : Nat} {N : Nat → Nd} {w : List (Nat × Nat × Nat)} (h : NdOk m N) (hc : c < m) : flS N ((c, q, d) :: w) p t = flH N c q t d :: flS N ((ndC (N c)).map (fun c' => (c', p, d + 1)) ++ w) (p + 1) (t + if ndR (N c) < 0 then 1 else 0) := by
  rw [flS_app]
  show fl N c q p t d ++ flS N w (p + sz N c) (t + ndT (N c)) = _
  have hs := sz_eq h hc
  rcases h c hc with ⟨e1, e2, e3, e4, -⟩ | ⟨r, s, -, -, e3, -, -, -, -, e8⟩
  · rw [fl_eq h hc, e2, if_pos (by omega)]
    rw [e2] at hs
    show flH N c q t d :: flS N w (p + sz N c) (t + ndT (N c)) = flH N c q t d :: flS N w (p + 1 + 0) (t + 1 + 0)
    rw [hs, e4]
    rfl
  · rw [fl_eq h hc, if_neg (by omega), Nat.add_zero, ← e8, show p + sz N c = p + 1 + szS N (ndC (N c)) by omega]
    rfl
theorem flS_len {m : Nat} {N : Nat → Nd} (h : NdOk m N) : ∀ {w : List (Nat × Nat × Nat)} {p t : Nat}, (∀ x ∈ w, x.1 < m) → w.length ≤ (flS N w p t).length
  | [], _, _, _ => Nat.le_refl _
  | x :: w, p, t, hw => by
    have h1 := hw x (List.mem_cons_self ..)
    have h2 := flS_len h (p := p + sz N x.1) (t := t + ndT (N x.1)) (fun y hy => hw y (List.mem_cons_of_mem _ hy))
    have h3 := sz_pos h h1
    show _ ≤ (fl N x.1 x.2.1 p t x.2.2 ++ _).length
    rw [List.length_append, fl_len h _ h1, List.length_cons]
    omega
/-- the CHILDREN of a node in a flat tree are there, too -/
theorem fl_ch {m c q p t dep i k z : Nat} {N : Nat → Nd} {x : Fl} (h : NdOk m N) (hc : c < m) (hx : (fl N c q p t dep)[i]? = some x) (hk : (ndC (N x.1))[k]? = some z) : ∃ (i' : Nat) (y : Fl), i' = i + 1 + szS N ((ndC (N x.1)).take k) ∧ (fl N c q p t dep)[i']? = some y ∧ y.1 = z ∧ y.2.1 = p + i ∧ y.2.2.2.1 = x.2.2.2.1 + 1 := by
  obtain ⟨a1, -, o, -, -, -, a6⟩ := fl_in h c hc _ _ _ _ _ _ hx
  have hxm : x.1 < m := by omega
  have hz := h.lt hxm (List.mem_of_getElem? hk)
  have hzp := sz_pos h (show z < m by omega)
  have hst := szS_take (N := N) hk
  have hse := sz_eq h hxm
  have hput := fl_put (q := x.2.1) (p := p + i) (t := t + o) (dep := x.2.2.2.1) h hxm hk (show 0 < sz N z by omega)
  rw [fl_0 h (by omega)] at hput
  refine ⟨_, flH N z (p + i) (t + o + tkS N ((ndC (N x.1)).take k)) (x.2.2.2.1 + 1), rfl, ?_, rfl, rfl, rfl⟩
  · rw [show i + 1 + szS N ((ndC (N x.1)).take k) = i + (1 + szS N ((ndC (N x.1)).take k) + 0) by omega, a6 _ (by omega)]
    exact hput
/-! the class's stack -/
def pqI (d q : Nat) : Int32 := if d = 1 then -1 else zi q
def StkX (I : zI) : List (Nat × Nat × Nat) → Prop
  | [] => True
  | x :: w => I.1 57 w.length = zi x.1 ∧ I.1 59 w.length = pqI x.2.2 x.2.1 ∧ StkX I w
theorem StkX.kp {I J : zI} : ∀ {w : List (Nat × Nat × Nat)}, StkX I w → (∀ j, j < w.length → J.1 57 j = I.1 57 j ∧ J.1 59 j = I.1 59 j) → StkX J w
  | [], _, _ => trivial
  | x :: w, h, e => by
    obtain ⟨h1, h2, h3⟩ := h
    obtain ⟨e1, e2⟩ := e w.length (Nat.lt_succ_self _)
    exact ⟨e1.trans h1, e2.trans h2, h3.kp (fun j hj => e j (Nat.lt_succ_of_lt hj))⟩
/-- what is laid of a flat tree: the first p places -/
def LdX (I : zI) (F : List Fl) (p : Nat) : Prop :=
  I.1 43 12 = zi p ∧ ∀ (i : Nat) (x : Fl), i < p → F[i]? = some x → I.1 45 i = zi x.1 ∧ I.1 47 x.1 = zi i ∧ I.1 49 i = pqI x.2.2.2.1 x.2.1 ∧ I.1 51 i = Int32.ofInt x.2.2.1 ∧ I.1 53 i = zi x.2.2.2.1 ∧ I.1 55 i = 1
def Qly (a j : Nat) : Prop := (a = 43 ∧ j = 12) ∨ a = 45 ∨ a = 47 ∨ a = 49 ∨ a = 51 ∨ a = 53 ∨ a = 55
def PlX (I : zI) : Prop := ∀ c, c < 3400 → ∃ p, p < 400 ∧ I.1 47 c = zi p
theorem s_layNode {m p c q t d : Nat} {N : Nat → Nd} {F : List Fl} {I : zI} {K : zI → Prop} (rep : RepNX I m N) (hN : NdOk m N) (hm : m ≤ 3400) (hc : c < m) (hp : p < 400) (hF : LdX I F p) (hx : F[p]? = some (flH N c q t d)) (hu : ∀ (p q : Nat) (x y : Fl), F[p]? = some x → F[q]? = some y → x.1 = y.1 → p = q) (hT : ndT (N c) ≤ 1000) (hd : 1 ≤ d) (hq : d ≠ 1 → q < p ∧ ∃ y : Fl, F[q]? = some y ∧ y.2.2.2.1 + 1 = d) (hpl : PlX I)
    (hK : ∀ J, eqQ Qly I J → LdX J F (p + 1) → PlX J → K J) : w_TreeView_layNode (zi c) (pqI d q) (zi t) I K := by
  unfold w_TreeView_layNode
  obtain ⟨f1, f2⟩ := hF
  refine (w_set (by decide)).mpr ?_
  rw [f1, rs_in (by decide) hp]
  generalize e1 : zu I (44 + 1) p (zi c) = I1
  have g1 : I1.1 43 12 = zi p := by rw [← e1, zu_oo (by decide)]; exact f1
  refine (w_set (by decide)).mpr ?_
  rw [g1, rs_in (by decide) (show c < 3400 by omega)]
  generalize e2 : zu I1 (46 + 1) c (zi p) = I2
  have g2 : I2.1 43 12 = zi p := by rw [← e2, zu_oo (by decide)]; exact g1
  refine (w_set (by decide)).mpr ?_
  rw [g2, rs_in (by decide) hp]
  generalize e3 : zu I2 (48 + 1) p (pqI d q) = I3
  have g3 : I3.1 43 12 = zi p := by rw [← e3, zu_oo (by decide)]; exact g2
  have nd := rep.2 c hc
  refine (w_get (by decide)).mpr ?_
  rw [rg_in (by decide) (show c < 3400 by omega), show I3.1 (31 + 1) c = zi (ndT (N c)) by
    rw [← e3, zu_oo (by decide), ← e2, zu_oo (by decide), ← e1, zu_oo (by decide)]
    exact nd.2.2.2.1]
  intro P64 h64
  have rest : P64 (Int32.ofInt (flH N c q t d).2.2.1) := by
    refine h64 _ ((w_set (by decide)).mpr ?_)
    rw [g3, rs_in (by decide) hp]
    generalize e4 : zu I3 (50 + 1) p (Int32.ofInt (flH N c q t d).2.2.1) = I4
    have g4 : I4.1 43 12 = zi p := by rw [← e4, zu_oo (by decide)]; exact g3
    intro P93 h93
    have rest2 : P93 (zi d) := by
      refine h93 _ ((w_set (by decide)).mpr ?_)
      rw [g4, rs_in (by decide) hp]
      generalize e5 : zu I4 (52 + 1) p (zi d) = I5
      have g5 : I5.1 43 12 = zi p := by rw [← e5, zu_oo (by decide)]; exact g4
      refine (w_set (by decide)).mpr ?_
      rw [g5, rs_in (by decide) hp]
      generalize e6 : zu I5 (54 + 1) p 1 = I6
      have g6 : I6.1 43 12 = zi p := by rw [← e6, zu_oo (by decide)]; exact g5
      intro I7 e7
      rw [g6, zi_succ] at e7
      have q7 : eqQ Qly I I7 := by
        rw [e7, ← e6, ← e5, ← e4, ← e3, ← e2, ← e1]
        exact ((((((eqQ.rf.zu (Or.inr (Or.inl rfl))).zu (Or.inr (Or.inr (Or.inl rfl)))).zu (Or.inr (Or.inr (Or.inr (Or.inl rfl))))).zu (Or.inr (Or.inr (Or.inr (Or.inr (Or.inl rfl)))))).zu (Or.inr (Or.inr (Or.inr (Or.inr (Or.inr (Or.inl rfl))))))).zu (Or.inr (Or.inr (Or.inr (Or.inr (Or.inr (Or.inr rfl))))))).zu (Or.inl ⟨rfl, rfl⟩)
      have v45 : ∀ j, I7.1 45 j = if j = p then zi c else I.1 45 j := fun j => by
        rw [e7, zu_oo (by decide), ← e6, zu_oo (by decide), ← e5, zu_oo (by decide), ← e4, zu_oo (by decide), ← e3, zu_oo (by decide), ← e2, zu_oo (by decide), ← e1, zu_at]
        by_cases u : j = p
        · rw [if_pos ⟨rfl, u⟩, if_pos u]
        · rw [if_neg (fun v => u v.2), if_neg u]
      have v47 : ∀ j, I7.1 47 j = if j = c then zi p else I.1 47 j := fun j => by
        rw [e7, zu_oo (by decide), ← e6, zu_oo (by decide), ← e5, zu_oo (by decide), ← e4, zu_oo (by decide), ← e3, zu_oo (by decide), ← e2, zu_at]
        by_cases u : j = c
        · rw [if_pos ⟨rfl, u⟩, if_pos u]
        · rw [if_neg (fun v => u v.2), if_neg u, ← e1, zu_oo (by decide)]
      have v49 : ∀ j, I7.1 49 j = if j = p then pqI d q else I.1 49 j := fun j => by
        rw [e7, zu_oo (by decide), ← e6, zu_oo (by decide), ← e5, zu_oo (by decide), ← e4, zu_oo (by decide), ← e3, zu_at]
        by_cases u : j = p
        · rw [if_pos ⟨rfl, u⟩, if_pos u]
        · rw [if_neg (fun v => u v.2), if_neg u, ← e2, zu_oo (by decide), ← e1, zu_oo (by decide)]
      have v51 : ∀ j, I7.1 51 j = if j = p then Int32.ofInt (flH N c q t d).2.2.1 else I.1 51 j := fun j => by
        rw [e7, zu_oo (by decide), ← e6, zu_oo (by decide), ← e5, zu_oo (by decide), ← e4, zu_at]
        by_cases u : j = p
        · rw [if_pos ⟨rfl, u⟩, if_pos u]
        · rw [if_neg (fun v => u v.2), if_neg u, ← e3, zu_oo (by decide), ← e2, zu_oo (by decide), ← e1, zu_oo (by decide)]
      have v53 : ∀ j, I7.1 53 j = if j = p then zi d else I.1 53 j := fun j => by
        rw [e7, zu_oo (by decide), ← e6, zu_oo (by decide), ← e5, zu_at]
        by_cases u : j = p
        · rw [if_pos ⟨rfl, u⟩, if_pos u]
        · rw [if_neg (fun v => u v.2), if_neg u, ← e4, zu_oo (by decide), ← e3, zu_oo (by decide), ← e2, zu_oo (by decide), ← e1, zu_oo (by decide)]
      have v55 : ∀ j, I7.1 55 j = if j = p then 1 else I.1 55 j := fun j => by
        rw [e7, zu_oo (by decide), ← e6, zu_at]
        by_cases u : j = p
        · rw [if_pos ⟨rfl, u⟩, if_pos u]
        · rw [if_neg (fun v => u v.2), if_neg u, ← e5, zu_oo (by decide), ← e4, zu_oo (by decide), ← e3, zu_oo (by decide), ← e2, zu_oo (by decide), ← e1, zu_oo (by decide)]
      refine hK I7 q7 ⟨by rw [e7, zu_self], fun i x hi hx' => ?_⟩ (fun c' hc' => ?_)
      · rw [v45, v47, v49, v51, v53, v55]
        by_cases u : i = p
        · subst u
          rw [hx] at hx'
          cases hx'
          rw [if_pos rfl, if_pos rfl, if_pos rfl, if_pos rfl, if_pos rfl, if_pos (show (flH N c q t d).1 = c from rfl)]
          exact ⟨rfl, rfl, rfl, rfl, rfl, rfl⟩
        · rw [if_neg u, if_neg u, if_neg u, if_neg u, if_neg u, if_neg (show ¬ x.1 = c from fun v => u (hu i p x _ hx' hx v))]
          exact f2 i x (by omega) hx'
      · rw [v47]
        by_cases u : c' = c
        · rw [if_pos u]
          exact ⟨p, hp, rfl⟩
        · rw [if_neg u]
          exact hpl c' hc'
    by_cases hd1 : d = 1
    · rw [show pqI d q = -1 from if_pos hd1, if_neg (show ¬ (0 : Int32) ≤ -1 by decide)]
      rw [hd1] at rest2
      exact rest2
    · obtain ⟨hq1, y, hy1, hy2⟩ := hq hd1
      rw [show pqI d q = zi q from if_neg hd1, if_pos (zi_ge (by omega))]
      refine (w_get (by decide)).mpr ?_
      rw [rg_in (by decide) (show q < 400 by omega), show I4.1 (52 + 1) q = zi y.2.2.2.1 by
        rw [← e4, zu_oo (by decide), ← e3, zu_oo (by decide), ← e2, zu_oo (by decide), ← e1, zu_oo (by decide)]
        exact (f2 q y hq1 hy1).2.2.2.2.1, zi_succ, hy2]
      exact rest2
  by_cases hz : ndT (N c) = 0
  · rw [hz, if_pos (show zi 0 ≤ 0 by decide)]
    have : (flH N c q t d).2.2.1 = -2 := if_pos hz
    rw [this] at rest
    exact rest
  · rw [if_neg (show ¬ zi (ndT (N c)) ≤ 0 from fun u => hz (by have := (zi_le (b := 0) (by omega) (by decide)).mp u; omega))]
    have : (flH N c q t d).2.2.1 = (t : Int) := if_neg hz
    rw [this, zi_int] at rest
    exact rest
/-! ===== a tree laid flat: the class ===== -/
theorem s_childrenOf {m c : Nat} {N : Nat → Nd} {I : zI} {K : Int32 → Prop} (rep : RepNX I m N) (hN : NdOk m N) (hm : m ≤ 3400) (hc : c < m) (hK : K (zi (ndC (N c)).length)) : w_Nodes_childrenOf (zi c) I K := by
  unfold w_Nodes_childrenOf
  have nd := rep.2 c hc
  refine (w_get (by decide)).mpr ?_
  rw [rg_in (by decide) (show c < 3400 by omega), show I.1 (25 + 1) c = Int32.ofInt (ndR (N c)) from nd.1]
  rcases hN c hc with ⟨e1, e2, -⟩ | ⟨r, s, hr, -, e3, -, -, e6, -⟩
  · rw [e1]
    refine s_lengthOf_neg (by decide) ?_
    rw [e2] at hK
    exact hK
  · rw [e3, zi_int r]
    refine s_lengthOf hr ?_
    have h1 := congrArg List.length e6
    rw [List.length_map, (rh_fin r hr).1] at h1
    rw [h1] at hK
    exact hK
theorem s_childOf {m c k z : Nat} {N : Nat → Nd} {I : zI} {K : Int32 → Prop} (rep : RepNX I m N) (hm : m ≤ 3400) (hc : c < m) (hch : (ndC (N c)).length ≤ 4) (hk : (ndC (N c))[k]? = some z) (hK : K (zi z)) : w_Nodes_childOf (zi c) (zi k) I K := by
  unfold w_Nodes_childOf
  have nd := rep.2 c hc
  have hkl := (List.getElem?_eq_some_iff.mp hk).1
  rw [show zi c * 4 + zi k = zi (c * 4 + k) by rw [show (4 : Int32) = zi 4 from rfl, zi_mul, zi_add]]
  refine (w_get (by decide)).mpr ?_
  rw [rg_in (by decide) (show c * 4 + k < 13600 by omega), show I.1 (41 + 1) (c * 4 + k) = zi z by
    rw [Nat.mul_comm]
    exact nd.2.2.2.2.2.1 k z hk]
  exact hK
theorem s_isToken {m c : Nat} {N : Nat → Nd} {I : zI} {K : Int32 → Prop} (rep : RepNX I m N) (hN : NdOk m N) (hm : m ≤ 3400) (hc : c < m) (hK : K (if ndR (N c) < 0 then 1 else 0)) : w_Nodes_isToken (zi c) I K := by
  unfold w_Nodes_isToken
  have nd := rep.2 c hc
  refine (w_get (by decide)).mpr ?_
  rw [rg_in (by decide) (show c < 3400 by omega), show I.1 (25 + 1) c = Int32.ofInt (ndR (N c)) from nd.1]
  rcases hN c hc with ⟨e1, -⟩ | ⟨r, s, hr, -, e3, -⟩
  · rw [e1] at hK ⊢
    rw [if_pos (by decide)] at hK
    rw [if_neg (show ¬ (0 : Int32) ≤ Int32.ofInt (-2) by decide)]
    exact hK
  · rw [e3] at hK ⊢
    rw [if_neg (by omega)] at hK
    rw [zi_int r, if_pos (zi_ge (by omega))]
    exact hK
def Qlf (a j : Nat) : Prop := Qly a j ∨ a = 57 ∨ a = 59
def StkO (m p : Nat) (F : List Fl) (w : List (Nat × Nat × Nat)) : Prop := ∀ x ∈ w, x.1 < m ∧ 1 ≤ x.2.2 ∧ (x.2.2 ≠ 1 → x.2.1 < p ∧ ∃ y : Fl, F[x.2.1]? = some y ∧ y.2.2.2.1 + 1 = x.2.2)
theorem s_layFlat {m R : Nat} {N : Nat → Nd} {I : zI} {K : zI → Prop} (rep : RepNX I m N) (hN : NdOk m N) (hm : m ≤ 3400) (hR : R < m) (hT : I.1 43 13 = zi R) (hlen : (flR N R).length ≤ 399) (htk : ∀ c, c < m → ndT (N c) ≤ 1000) (hu : ∀ (p q : Nat) (x y : Fl), (flR N R)[p]? = some x → (flR N R)[q]? = some y → x.1 = y.1 → p = q) (hpl : PlX I)
    (hK : ∀ J, eqQ Qlf I J → LdX J (flR N R) (flR N R).length → PlX J → K J) : w_TreeView_layFlat I K := by
  unfold w_TreeView_layFlat
  intro I1 e1
  have g1 : I1.1 43 13 = zi R := by rw [e1, zu_at, if_neg (by decide)]; exact hT
  refine (w_set (by decide)).mpr ?_
  rw [g1, show rs I1 (56 + 1) 400 0 (zi R) = zu I1 57 0 (zi R) from rs_in (i := 0) (by decide) (by decide)]
  generalize e2 : zu I1 57 0 (zi R) = I2
  refine (w_set (by decide)).mpr ?_
  rw [show rs I2 (58 + 1) 400 0 (-1) = zu I2 59 0 (-1) from rs_in (i := 0) (by decide) (by decide)]
  generalize e3 : zu I2 59 0 (-1) = I3
  have q3 : eqQ Qlf I I3 := by
    rw [← e3, ← e2, e1]
    exact ((eqQ.rf.zu (Or.inl (Or.inl ⟨rfl, rfl⟩))).zu (Or.inr (Or.inl rfl))).zu (Or.inr (Or.inr rfl))
  intro P32 h32
  have main : ∀ (d p t : Nat) (w : List (Nat × Nat × Nat)) (J : zI), p + d = (flR N R).length → (flR N R).drop p = flS N w p t → StkO m p (flR N R) w → StkX J w → LdX J (flR N R) p → PlX J → eqQ Qlf I J → P32 (zi w.length) (zi t) (zi p) J := by
    intro d
    induction d with
    | zero =>
      intro p t w J hp hdr hso hsx hld hpj hq
      refine h32 _ _ _ _ ?_
      have hw : w = [] := by
        have h1 := flS_len hN (p := p) (t := t) (fun x hx => (hso x hx).1)
        rw [← hdr, List.length_drop] at h1
        exact List.eq_nil_of_length_eq_zero (by omega)
      subst hw
      have hJ : K J := hK J hq (by rw [show (flR N R).length = p by omega]; exact hld) hpj
      by_cases u : (400 : Int32) ≤ zi p
      · rw [if_pos u]
        exact hJ
      · rw [if_neg u, if_pos (show zi (List.length ([] : List (Nat × Nat × Nat))) ≤ 0 by decide)]
        exact hJ
    | succ d ih =>
      intro p t w J hp hdr hso hsx hld hpj hq
      refine h32 _ _ _ _ ?_
      cases w with
      | nil =>
        have h1 := congrArg List.length hdr
        rw [List.length_drop] at h1
        change _ = 0 at h1
        omega
      | cons x w =>
        obtain ⟨c, q, dd⟩ := x
        obtain ⟨hc, hd1, hq1⟩ := hso _ (List.mem_cons_self ..)
        dsimp only at hc hd1 hq1
        have hstep := flS_step (q := q) (d := dd) (p := p) (t := t) (w := w) hN hc
        rw [hstep] at hdr
        have hx : (flR N R)[p]? = some (flH N c q t dd) := by
          have h1 : ((flR N R).drop p)[0]? = some (flH N c q t dd) := by
            rw [hdr]
            rfl
          rw [List.getElem?_drop] at h1
          exact h1
        have hdr2 : (flR N R).drop (p + 1) = flS N ((ndC (N c)).map (fun c' => (c', p, dd + 1)) ++ w) (p + 1) (t + if ndR (N c) < 0 then 1 else 0) := by
          rw [← List.drop_drop, hdr]
          rfl
        have hwl := flS_len hN (w := (c, q, dd) :: w) (p := p) (t := t) (fun x hx => (hso x hx).1)
        rw [hstep, ← hdr, List.length_drop, List.length_cons] at hwl
        rw [if_neg (show ¬ (400 : Int32) ≤ zi p from fun u => by have := (zi_le (a := 400) (by decide) (by omega)).mp u; omega), if_neg (show ¬ zi (List.length ((c, q, dd) :: w)) ≤ 0 from fun u => by have := (zi_le (b := 0) (by rw [List.length_cons]; omega) (by decide)).mp u; rw [List.length_cons] at this; omega)]
        intro v1 ev1
        rw [List.length_cons, zi_pred (by omega), Nat.add_sub_cancel] at ev1
        subst ev1
        obtain ⟨k1, k2, k3⟩ := hsx
        refine (w_get (by decide)).mpr ?_
        rw [rg_in (by decide) (show w.length < 400 by omega), show J.1 (56 + 1) w.length = zi c from k1]
        refine (w_get (by decide)).mpr ?_
        rw [rg_in (by decide) (show w.length < 400 by omega), show J.1 (58 + 1) w.length = pqI dd q from k2]
        have ch := hN.ch
        have kp1 : ∀ (A B : zI), eqQ Qlf A B → RepNX A m N → RepNX B m N := fun A B hAB r => r.kp ch (fun a j h1 h2 _ => hAB.1 a j (by unfold Qlf Qly; omega))
        have repJ := kp1 _ _ hq rep
        refine s_layNode repJ hN hm hc (by omega) hld hx hu (htk c hc) hd1 hq1 hpj (fun J2 q2 ld2 pl2 => ?_)
        have q2' : eqQ Qlf I J2 := hq.tr (q2.mono (fun a j h => Or.inl h))
        have rep2 := kp1 _ _ q2' rep
        refine s_isToken rep2 hN hm hc ?_
        intro P89 h89
        have rest : ∀ t13 : Int32, t13 = zi (if ndR (N c) < 0 then 1 else 0) → P89 t13 := by
          intro t13 et
          refine h89 _ ?_
          intro v2 ev2
          rw [et, zi_add] at ev2
          subst ev2
          refine s_childrenOf rep2 hN hm hc ?_
          intro v5 ev5
          subst ev5
          have hnc : (ndC (N c)).length ≤ 4 := ch c hc
          have hso2 : StkO m (p + 1) (flR N R) ((ndC (N c)).map (fun c' => (c', p, dd + 1)) ++ w) := by
            intro x hx'
            rcases List.mem_append.mp hx' with hx' | hx'
            · obtain ⟨z, hz, rfl⟩ := List.mem_map.mp hx'
              exact ⟨(show z < m by have := hN.lt hc hz; omega), (show 1 ≤ dd + 1 by omega), fun _ => ⟨(show p < p + 1 by omega), flH N c q t dd, hx, rfl⟩⟩
            · obtain ⟨b1, b2, b3⟩ := hso x (List.mem_cons_of_mem _ hx')
              refine ⟨b1, b2, fun u => ?_⟩
              obtain ⟨c1, c2⟩ := b3 u
              exact ⟨by omega, c2⟩
          have hwl2 := flS_len hN (p := p + 1) (t := t + if ndR (N c) < 0 then 1 else 0) (fun x hx => (hso2 x hx).1)
          rw [← hdr2, List.length_drop, List.length_append, List.length_map] at hwl2
          intro P104 h104
          have inner : ∀ (k : Nat) (A : zI), k ≤ (ndC (N c)).length → eqQ Qlf I A → LdX A (flR N R) (p + 1) → PlX A → StkX A (((ndC (N c)).drop k).map (fun c' => (c', p, dd + 1)) ++ w) → P104 (zi (((ndC (N c)).drop k).map (fun c' => (c', p, dd + 1)) ++ w).length) (zi k - 1) A := by
            intro k
            induction k with
            | zero =>
              intro A hk qA ldA plA sxA
              refine h104 _ _ _ ?_
              rw [if_pos (show zi 0 - 1 < 0 by decide)]
              intro v3 ev3
              rw [ev3, zi_succ]
              rw [List.drop_zero] at sxA ⊢
              exact ih (p + 1) _ _ A (by omega) hdr2 hso2 sxA ldA plA qA
            | succ k ihk =>
              intro A hk qA ldA plA sxA
              refine h104 _ _ _ ?_
              rw [show zi (k + 1) - 1 = zi k from zi_sub (b := 1) (by omega), if_neg (zi_pos (by omega))]
              have hz : (ndC (N c))[k]? = some ((ndC (N c))[k]'(by omega)) := List.getElem?_eq_getElem (by omega)
              refine s_childOf (kp1 _ _ qA rep) hm hc hnc hz ?_
              have hcl : (((ndC (N c)).drop (k + 1)).map (fun c' => (c', p, dd + 1)) ++ w).length = (ndC (N c)).length - (k + 1) + w.length := by
                rw [List.length_append, List.length_map, List.length_drop]
              rw [hcl]
              have hlt : (ndC (N c)).length - (k + 1) + w.length < 400 := by omega
              refine (w_set (by decide)).mpr ?_
              rw [rs_in (by decide) hlt]
              generalize ea : zu A (56 + 1) ((ndC (N c)).length - (k + 1) + w.length) (zi ((ndC (N c))[k]'(by omega))) = A1
              refine (w_set (by decide)).mpr ?_
              rw [show A1.1 43 12 - 1 = zi p by
                rw [← ea, zu_oo (by decide), ldA.1]
                exact zi_sub (b := 1) (by omega), rs_in (by decide) hlt]
              generalize eb : zu A1 (58 + 1) ((ndC (N c)).length - (k + 1) + w.length) (zi p) = A2
              intro v1' ev1' v5' ev5'
              rw [zi_succ] at ev1'
              subst ev1'
              have e5 : v5' = zi k - 1 := by
                rw [ev5', Int32.sub_eq_add_neg]
              subst e5
              have hdk : (ndC (N c)).drop k = ((ndC (N c))[k]'(by omega)) :: (ndC (N c)).drop (k + 1) := List.drop_eq_getElem_cons (by omega)
              have hcl2 : (((ndC (N c)).drop k).map (fun c' => (c', p, dd + 1)) ++ w).length = (ndC (N c)).length - (k + 1) + w.length + 1 := by
                rw [List.length_append, List.length_map, List.length_drop]
                omega
              have oA : ∀ a j, ¬ (a = 57 ∧ j = (ndC (N c)).length - (k + 1) + w.length) → ¬ (a = 59 ∧ j = (ndC (N c)).length - (k + 1) + w.length) → A2.1 a j = A.1 a j := fun a j u v => by rw [← eb, zu_at, if_neg v, ← ea, zu_at, if_neg u]
              have key := ihk A2 (by omega) (by
                rw [← eb, ← ea]
                exact (qA.zu (Or.inr (Or.inl rfl))).zu (Or.inr (Or.inr rfl))) ⟨by rw [oA _ _ (by omega) (by omega)]; exact ldA.1, fun i x hi hx' => by
                  rw [oA _ _ (by omega) (by omega), oA _ _ (by omega) (by omega), oA _ _ (by omega) (by omega), oA _ _ (by omega) (by omega), oA _ _ (by omega) (by omega), oA _ _ (by omega) (by omega)]
                  exact ldA.2 i x hi hx'⟩ (fun c' hc' => by rw [oA _ _ (by omega) (by omega)]; exact plA c' hc') (by
                  rw [hdk]
                  refine ⟨?_, ?_, ?_⟩
                  · show A2.1 57 (((ndC (N c)).drop (k + 1)).map (fun c' => (c', p, dd + 1)) ++ w).length = _
                    rw [hcl, ← eb, zu_oo (by decide), ← ea, zu_self]
                  · show A2.1 59 (((ndC (N c)).drop (k + 1)).map (fun c' => (c', p, dd + 1)) ++ w).length = _
                    rw [hcl, ← eb, zu_self]
                    exact (show pqI (dd + 1) p = zi p from if_neg (by omega)).symm
                  · refine StkX.kp sxA (fun j hj => ?_)
                    change j < (((ndC (N c)).drop (k + 1)).map (fun c' => (c', p, dd + 1)) ++ w).length at hj
                    rw [hcl] at hj
                    exact ⟨oA _ _ (by omega) (by omega), oA _ _ (by omega) (by omega)⟩)
              rw [hcl2] at key
              exact key
          have hin := inner (ndC (N c)).length J2 (Nat.le_refl _) q2' ld2 pl2 (by
            rw [List.drop_length]
            refine StkX.kp k3 (fun j _ => ⟨q2.1 _ _ (by unfold Qly; omega), q2.1 _ _ (by unfold Qly; omega)⟩))
          rw [List.drop_length] at hin
          exact hin
        by_cases u : ndR (N c) < 0
        · rw [if_pos u] at rest ⊢
          rw [if_neg (show ¬ (1 : Int32) = 0 by decide)]
          exact rest 1 rfl
        · rw [if_neg u] at rest ⊢
          rw [if_pos (show (0 : Int32) = 0 from rfl)]
          exact rest 0 rfl
  refine main (flR N R).length 0 0 [(R, 0, 1)] I3 (by omega) ?_ ?_ ⟨?_, ?_, trivial⟩ ⟨?_, fun i x hi _ => by omega⟩ (fun c hc => ?_) q3
  · rw [List.drop_zero]
    show fl N R 0 0 0 1 = fl N R 0 0 0 1 ++ []
    rw [List.append_nil]
  · intro x hx
    cases List.mem_singleton.mp hx
    exact ⟨hR, Nat.le_refl 1, fun u => absurd rfl u⟩
  · show I3.1 57 0 = zi R
    rw [← e3, zu_oo (by decide), ← e2, zu_self]
  · show I3.1 59 0 = pqI 1 0
    rw [← e3, zu_self]
    rfl
  · rw [← e3, zu_oo (by decide), ← e2, zu_oo (by decide), e1, zu_self]
    rfl
  · rw [← e3, zu_oo (by decide), ← e2, zu_oo (by decide), e1, zu_oo (by decide)]
    exact hpl c hc
/-! ===== sizes: the class ===== -/
/-- the sizes of those whose parent is at the place i -/
def sumP (i : Nat) : List Fl → Nat
  | [] => 0
  | x :: L => (if x.2.2.2.1 ≠ 1 ∧ x.2.1 = i then x.2.2.2.2 else 0) + sumP i L
theorem sumP_app {i : Nat} : ∀ {L M : List Fl}, sumP i (L ++ M) = sumP i L + sumP i M
  | [], M => (Nat.zero_add _).symm
  | x :: L, M => by
    show _ + sumP i (L ++ M) = _ + sumP i L + sumP i M
    rw [sumP_app, Nat.add_assoc]
theorem sumP_flL {f : Nat → Nat → Nat → List Fl} {N : Nat → Nd} {i : Nat} : ∀ {l : List Nat} {p t : Nat}, (∀ c ∈ l, ∀ p' t', p ≤ p' → sumP i (f c p' t') = 0) → sumP i (flL f N l p t) = 0
  | [], _, _, _ => rfl
  | c :: l, p, t, h => by
    show sumP i (f c p t ++ flL f N l (p + sz N c) (t + ndT (N c))) = 0
    rw [sumP_app, h c (List.mem_cons_self ..) p t (Nat.le_refl p), sumP_flL (fun x hx p' t' hp => h x (List.mem_cons_of_mem _ hx) p' t' (by omega))]
/-- of a subtree behind the place i only its root may have its parent there -/
theorem sumP_fl {m i : Nat} {N : Nat → Nd} (h : NdOk m N) (c : Nat) : c < m → ∀ q p t dep, 1 ≤ dep → i < p → sumP i (fl N c q p t dep) = if dep ≠ 1 ∧ q = i then sz N c else 0 := by
  induction c using Nat.strongRecOn with
  | ind c ih =>
    intro hc q p t dep hd hi
    rw [fl_eq h hc]
    show (if dep ≠ 1 ∧ q = i then sz N c else 0) + sumP i (flL _ N (ndC (N c)) (p + 1) t) = _
    rw [sumP_flL (fun x hx p' t' hp => ?_), Nat.add_zero]
    rw [ih x (h.lt hc hx) (by have := h.lt hc hx; omega) p p' t' (dep + 1) (by omega) (by omega), if_neg (by omega)]
def sumW (N : Nat → Nd) (i : Nat) : List (Nat × Nat × Nat) → Nat
  | [] => 0
  | x :: w => (if x.2.2 ≠ 1 ∧ x.2.1 = i then sz N x.1 else 0) + sumW N i w
theorem sumW_app {N : Nat → Nd} {i : Nat} : ∀ {L M : List (Nat × Nat × Nat)}, sumW N i (L ++ M) = sumW N i L + sumW N i M
  | [], M => (Nat.zero_add _).symm
  | x :: L, M => by
    show _ + sumW N i (L ++ M) = _ + sumW N i L + sumW N i M
    rw [sumW_app, Nat.add_assoc]
theorem sumP_flS {m i : Nat} {N : Nat → Nd} (h : NdOk m N) : ∀ {w : List (Nat × Nat × Nat)} {p t : Nat}, (∀ x ∈ w, x.1 < m ∧ 1 ≤ x.2.2) → i < p → sumP i (flS N w p t) = sumW N i w
  | [], _, _, _, _ => rfl
  | x :: w, p, t, hw, hi => by
    obtain ⟨h1, h2⟩ := hw x (List.mem_cons_self ..)
    show sumP i (fl N x.1 x.2.1 p t x.2.2 ++ flS N w (p + sz N x.1) (t + ndT (N x.1))) = _ + sumW N i w
    rw [sumP_app, sumP_fl h x.1 h1 _ _ _ _ h2 hi, sumP_flS h (fun y hy => hw y (List.mem_cons_of_mem _ hy)) (by omega)]
theorem sumW_ch {N : Nat → Nd} {p d : Nat} : ∀ {l : List Nat}, sumW N p (l.map (fun c => (c, p, d + 2))) = szS N l
  | [] => rfl
  | c :: l => by
    show (if d + 2 ≠ 1 ∧ p = p then sz N c else 0) + sumW N p (l.map (fun c => (c, p, d + 2))) = _
    rw [if_pos ⟨by omega, rfl⟩, sumW_ch, szS_cons]
theorem sumW_no {N : Nat → Nd} {i : Nat} : ∀ {w : List (Nat × Nat × Nat)}, (∀ x ∈ w, x.2.2 ≠ 1 → x.2.1 < i) → sumW N i w = 0
  | [], _ => rfl
  | x :: w, h => by
    show (if x.2.2 ≠ 1 ∧ x.2.1 = i then sz N x.1 else 0) + sumW N i w = 0
    rw [if_neg (fun u => by have := h x (List.mem_cons_self ..) u.1; omega), sumW_no (fun y hy => h y (List.mem_cons_of_mem _ hy))]
/-- at each place the rest of a flat tree is what waits -/
theorem flR_at {m R : Nat} {N : Nat → Nd} (h : NdOk m N) (hR : R < m) : ∀ p, p ≤ (flR N R).length → ∃ (w : List (Nat × Nat × Nat)) (t : Nat), (flR N R).drop p = flS N w p t ∧ StkO m p (flR N R) w
  | 0, _ => by
    refine ⟨[(R, 0, 1)], 0, ?_, fun x hx => ?_⟩
    · rw [List.drop_zero]
      show fl N R 0 0 0 1 = fl N R 0 0 0 1 ++ []
      rw [List.append_nil]
    · cases List.mem_singleton.mp hx
      exact ⟨hR, Nat.le_refl 1, fun u => absurd rfl u⟩
  | p + 1, hp => by
    obtain ⟨w, t, hdr, hso⟩ := flR_at h hR p (by omega)
    cases w with
    | nil =>
      have h1 := congrArg List.length hdr
      rw [List.length_drop] at h1
      change _ = 0 at h1
      omega
    | cons x w =>
      obtain ⟨c, q, dd⟩ := x
      obtain ⟨hc, hd1, hq1⟩ := hso _ (List.mem_cons_self ..)
      dsimp only at hc hd1 hq1
      rw [flS_step h hc] at hdr
      have hx : (flR N R)[p]? = some (flH N c q t dd) := by
        have h1 : ((flR N R).drop p)[0]? = some (flH N c q t dd) := by
          rw [hdr]
          rfl
        rw [List.getElem?_drop] at h1
        exact h1
      refine ⟨_, _, by rw [← List.drop_drop, hdr]; rfl, fun x hx' => ?_⟩
      rcases List.mem_append.mp hx' with hx' | hx'
      · obtain ⟨z, hz, rfl⟩ := List.mem_map.mp hx'
        exact ⟨(show z < m by have := h.lt hc hz; omega), (show 1 ≤ dd + 1 by omega), fun _ => ⟨(show p < p + 1 by omega), flH N c q t dd, hx, rfl⟩⟩
      · obtain ⟨b1, b2, b3⟩ := hso x (List.mem_cons_of_mem _ hx')
        refine ⟨b1, b2, fun u => ?_⟩
        obtain ⟨c1, c2⟩ := b3 u
        exact ⟨by omega, c2⟩
/-- the sizes of a node's CHILDREN and 1 are its size -/
theorem sumP_at {m R p : Nat} {N : Nat → Nd} {x : Fl} (h : NdOk m N) (hR : R < m) (hx : (flR N R)[p]? = some x) : 1 + sumP p ((flR N R).drop (p + 1)) = x.2.2.2.2 := by
  have hp := (List.getElem?_eq_some_iff.mp hx).1
  obtain ⟨w, t, hdr, hso⟩ := flR_at h hR p (by omega)
  cases w with
  | nil =>
    have h1 := congrArg List.length hdr
    rw [List.length_drop] at h1
    change _ = 0 at h1
    omega
  | cons y w =>
    obtain ⟨c, q, dd⟩ := y
    obtain ⟨hc, hd1, hq1⟩ := hso _ (List.mem_cons_self ..)
    dsimp only at hc hd1 hq1
    rw [flS_step h hc] at hdr
    have hx2 : (flR N R)[p]? = some (flH N c q t dd) := by
      have h1 : ((flR N R).drop p)[0]? = some (flH N c q t dd) := by
        rw [hdr]
        rfl
      rw [List.getElem?_drop] at h1
      exact h1
    rw [hx] at hx2
    cases hx2
    rw [← List.drop_drop, hdr]
    show 1 + sumP p (flS N ((ndC (N c)).map (fun c' => (c', p, dd + 1)) ++ w) (p + 1) _) = sz N c
    obtain ⟨d0, rfl⟩ : ∃ d0, dd = d0 + 1 := ⟨dd - 1, by omega⟩
    rw [sumP_flS h (fun y hy => ?_) (by omega), sumW_app, sumW_ch, sumW_no (fun y hy u => ((hso y (List.mem_cons_of_mem _ hy)).2.2 u).1), sz_eq h hc]
    · rfl
    · rcases List.mem_append.mp hy with hy | hy
      · obtain ⟨z, hz, rfl⟩ := List.mem_map.mp hy
        exact ⟨(show z < m by have := h.lt hc hz; omega), (show 1 ≤ d0 + 1 + 1 by omega)⟩
      · have := hso y (List.mem_cons_of_mem _ hy)
        exact ⟨this.1, this.2.1⟩
/-- how many nodes of a RULE a flat tree has -/
def cnR (N : Nat → Nd) (r : Nat) (L : List Fl) : Nat := (L.map (fun x => if ndR (N x.1) = (r : Int) then 1 else 0)).sum
theorem cnR_cons {N : Nat → Nd} {r : Nat} {x : Fl} {L : List Fl} : cnR N r (x :: L) = (if ndR (N x.1) = (r : Int) then 1 else 0) + cnR N r L := by
  unfold cnR
  rw [List.map_cons, List.sum_cons]
/-- the class has counted them -/
def RmX (I : zI) (N : Nat → Nd) (L : List Fl) : Prop := ∀ r, r < 11 → I.1 61 r = zi (cnR N r L)
/-- one more counted -/
theorem RmX.more {m : Nat} {N : Nat → Nd} {I : zI} {x : Fl} {L : List Fl} (hN : NdOk m N) (hx : x.1 < m) (h : RmX I N L) : RmX (rs I (60 + 1) 11 (Int32.ofInt (ndR (N x.1))) (rg 11 (I.1 (60 + 1)) (Int32.ofInt (ndR (N x.1))) + 1)) N (x :: L) := by
  intro r hr
  rw [cnR_cons]
  rcases hN x.1 hx with ⟨f1, -⟩ | ⟨r0, s', f1, -, f3, -⟩
  · rw [f1, rs_neg (by decide), if_neg (by omega), Nat.zero_add]
    exact h r hr
  · rw [f3, zi_int r0, rg_in (by decide) f1, rs_in (by decide) f1, zu_at]
    by_cases u : r = r0
    · subst u
      rw [if_pos ⟨rfl, rfl⟩, if_pos rfl, show I.1 (60 + 1) r = zi (cnR N r L) from h r hr, zi_succ, Nat.add_comm]
    · rw [if_neg (fun w => u w.2), if_neg (by omega), Nat.zero_add]
      exact h r hr
def Qsu (a j : Nat) : Prop := a = 55 ∨ a = 61 ∨ (a = 43 ∧ (j = 14 ∨ j = 15))
theorem s_sumUp {m R : Nat} {N : Nat → Nd} {I : zI} {K : zI → Prop} (rep : RepNX I m N) (hN : NdOk m N) (hm : m ≤ 3400) (hR : R < m) (hlen : (flR N R).length ≤ 399) (hF : LdX I (flR N R) (flR N R).length) (hpar : ∀ (p : Nat) (x : Fl), (flR N R)[p]? = some x → x.1 < m ∧ (x.2.2.2.1 ≠ 1 → x.2.1 < p))
    (hK : ∀ J, eqQ Qsu I J → (∀ (p : Nat) (x : Fl), (flR N R)[p]? = some x → J.1 55 p = zi x.2.2.2.2) → RmX J N (flR N R) → K J) : w_TreeView_sumUp I K := by
  unfold w_TreeView_sumUp
  refine s_fill (by decide) (fun I1 q1 v1 I2 e2 I3 e3 v ev => ?_)
  have q3 : eqQ Qsu I I3 := by
    rw [e3, e2]
    refine eqQ.zu (eqQ.zu ⟨fun a j u => (congrFun (q1 a (by unfold Qsu at u; omega)).1 j), fun a j u => (congrFun (q1 a (by unfold Qsu at u; omega)).2 j)⟩ (Or.inr (Or.inr ⟨rfl, Or.inl rfl⟩))) (Or.inr (Or.inr ⟨rfl, Or.inr rfl⟩))
  rw [q3.1 43 12 (by unfold Qsu; omega), hF.1] at ev
  subst ev
  have h55 : ∀ j, I3.1 55 j = I.1 55 j := fun j => by
    rw [e3, zu_oo (by decide), e2, zu_oo (by decide)]
    exact congrFun (q1 55 (by omega)).1 j
  intro P28 h28
  have main : ∀ (k : Nat) (J : zI), k ≤ (flR N R).length → eqQ Qsu I J → (∀ (i : Nat) (x : Fl), (flR N R)[i]? = some x → J.1 55 i = zi (1 + sumP i ((flR N R).drop (if i < k then k else i + 1)))) → RmX J N ((flR N R).drop k) → P28 (zi k - 1) J := by
    intro k
    induction k with
    | zero =>
      intro J hk qJ hr hc
      refine h28 _ _ ?_
      rw [if_pos (show zi 0 - 1 < 0 by decide)]
      refine hK J qJ (fun p x hx => ?_) (by rw [List.drop_zero] at hc; exact hc)
      rw [hr p x hx, if_neg (by omega), sumP_at hN hR hx]
    | succ k ih =>
      intro J hk qJ hr hc
      refine h28 _ _ ?_
      rw [show zi (k + 1) - 1 = zi k from zi_sub (b := 1) (by omega), if_neg (zi_pos (by omega))]
      have hx : (flR N R)[k]? = some ((flR N R)[k]'(by omega)) := List.getElem?_eq_getElem (by omega)
      generalize hxe : (flR N R)[k]'(by omega) = x at hx
      obtain ⟨f1, f2, f3, f4, f5, f6⟩ := hF.2 k x (by omega) hx
      obtain ⟨hxm, hxp⟩ := hpar k x hx
      refine (w_get (by decide)).mpr ?_
      rw [rg_in (by decide) (show k < 400 by omega), show J.1 (44 + 1) k = zi x.1 by rw [qJ.1 _ _ (by unfold Qsu; omega)]; exact f1]
      refine (w_get (by decide)).mpr ?_
      rw [rg_in (by decide) (show k < 400 by omega), show J.1 (48 + 1) k = pqI x.2.2.2.1 x.2.1 by rw [qJ.1 _ _ (by unfold Qsu; omega)]; exact f3]
      refine (w_get (by decide)).mpr ?_
      have hrk := hr k x hx
      rw [if_pos (Nat.lt_succ_self k), sumP_at hN hR hx] at hrk
      rw [rg_in (by decide) (show k < 400 by omega), show J.1 (54 + 1) k = zi x.2.2.2.2 from hrk]
      refine (w_add (by decide)).mpr ?_
      have hdk : (flR N R).drop k = x :: (flR N R).drop (k + 1) := by
        rw [← hxe]
        exact List.drop_eq_getElem_cons (by omega)
      have fin : ∀ J2 : zI, eqQ Qsu I J2 → (∀ (i : Nat) (y : Fl), (flR N R)[i]? = some y → J2.1 55 i = zi (1 + sumP i ((flR N R).drop (if i < k then k else i + 1)))) → RmX J2 N ((flR N R).drop (k + 1)) → w_Row_get 25 3400 (zi x.1) J2 (fun r_11 => w_Row_add 60 11 r_11 1 J2 (fun I_12 => w_Row_get 52 400 (zi k) I_12 (fun r_13 => ∀ I_14, I_14 = (zu I_12 43 14 (if (I_12.1 43 14) < r_13 then r_13 else (I_12.1 43 14))) → ∀ I_15, I_15 = (zu I_14 43 15 (if zi x.1 < (I_14.1 43 15) then zi x.1 else (I_14.1 43 15))) → ∀ v1_16, v1_16 = (zi k + (-1)) → P28 v1_16 I_15))) := by
        intro J2 qJ2 hr2 hc2
        refine (w_get (by decide)).mpr ?_
        rw [rg_in (by decide) (show x.1 < 3400 by omega), show J2.1 (25 + 1) x.1 = Int32.ofInt (ndR (N x.1)) by rw [qJ2.1 _ _ (by unfold Qsu; omega)]; exact (rep.2 x.1 hxm).1]
        refine (w_add (by decide)).mpr ((w_get (by decide)).mpr ?_)
        have c61 := RmX.more hN hxm hc2
        rw [← hdk] at c61
        intro I14 e14 I15 e15 v' ev'
        have e5 : v' = zi k - 1 := by
          rw [ev', Int32.sub_eq_add_neg]
        subst e5
        have o55 : ∀ j, I15.1 55 j = J2.1 55 j := fun j => by
          rw [e15, zu_oo (by decide), e14, zu_oo (by decide), rs_o (by decide)]
        refine ih I15 (by omega) ?_ (fun i y hy => by rw [o55]; exact hr2 i y hy) (fun r hr => by rw [e15, zu_oo (by decide), e14, zu_oo (by decide)]; exact c61 r hr)
        rw [e15, e14]
        refine eqQ.zu (eqQ.zu ?_ (Or.inr (Or.inr ⟨rfl, Or.inl rfl⟩))) (Or.inr (Or.inr ⟨rfl, Or.inr rfl⟩))
        refine ⟨fun a j u => ?_, fun a j u => ?_⟩
        · rw [rs_o (by unfold Qsu at u; omega)]
          exact qJ2.1 a j u
        · rw [rs_2]
          exact qJ2.2 a j u
      by_cases hd : x.2.2.2.1 = 1
      · rw [show pqI x.2.2.2.1 x.2.1 = -1 from if_pos hd, rs_neg (by decide)]
        refine fin J qJ (fun i y hy => ?_) hc
        rw [hr i y hy]
        by_cases u : i < k
        · rw [if_pos u, if_pos (by omega), hdk]
          show _ = zi (1 + ((if x.2.2.2.1 ≠ 1 ∧ x.2.1 = i then x.2.2.2.2 else 0) + sumP i ((flR N R).drop (k + 1))))
          rw [if_neg (fun w => w.1 hd), Nat.zero_add]
        · rw [if_neg u]
          by_cases u2 : i < k + 1
          · rw [if_pos u2, show i = k by omega]
          · rw [if_neg u2]
      · have hq := hxp hd
        rw [show pqI x.2.2.2.1 x.2.1 = zi x.2.1 from if_neg hd, rs_in (by decide) (show x.2.1 < 400 by omega), rg_in (by decide) (show x.2.1 < 400 by omega)]
        have hy0 : (flR N R)[x.2.1]? = some ((flR N R)[x.2.1]'(by omega)) := List.getElem?_eq_getElem (by omega)
        have hrq := hr _ _ hy0
        rw [if_pos (by omega)] at hrq
        rw [show J.1 (54 + 1) x.2.1 = _ from hrq, zi_add]
        refine fin _ (qJ.zu (Or.inl rfl)) (fun i y hy => ?_) (fun r hr => by rw [zu_oo (by decide)]; exact hc r hr)
        rw [zu_at]
        by_cases ui : i = x.2.1
        · subst ui
          rw [if_pos ⟨rfl, rfl⟩, if_pos hq, hdk]
          show _ = zi (1 + ((if x.2.2.2.1 ≠ 1 ∧ x.2.1 = x.2.1 then x.2.2.2.2 else 0) + sumP x.2.1 ((flR N R).drop (k + 1))))
          rw [if_pos ⟨hd, rfl⟩, show 1 + sumP x.2.1 ((flR N R).drop (k + 1)) + x.2.2.2.2 = 1 + (x.2.2.2.2 + sumP x.2.1 ((flR N R).drop (k + 1))) by omega]
        · rw [if_neg (fun w => ui w.2), hr i y hy]
          by_cases u : i < k
          · rw [if_pos u, if_pos (by omega), hdk]
            show _ = zi (1 + ((if x.2.2.2.1 ≠ 1 ∧ x.2.1 = i then x.2.2.2.2 else 0) + sumP i ((flR N R).drop (k + 1))))
            rw [if_neg (fun w => ui w.2.symm), Nat.zero_add]
          · rw [if_neg u]
            by_cases u2 : i < k + 1
            · rw [if_pos u2, show i = k by omega]
            · rw [if_neg u2]
  refine main (flR N R).length I3 (Nat.le_refl _) q3 (fun i x hx => ?_) (fun r hr => by rw [e3, zu_oo (by decide), e2, zu_oo (by decide), List.drop_length]; exact (v1 r).trans (if_pos hr))
  have hi := (List.getElem?_eq_some_iff.mp hx).1
  rw [h55, (hF.2 i x hi hx).2.2.2.2.2, if_pos hi, List.drop_length]
  rfl
/-! ===== the RUNS; the class looks at a TREE ===== -/
def rnL (N : Nat → Nd) (F : List Fl) : Nat → Nat → List Nat
  | 0, _ => []
  | d + 1, p => match F[p]? with
    | none => []
    | some x => if ndM (N x.1) = 1 then x.1 :: rnL N F d (p + x.2.2.2.2) else rnL N F d (p + 1)
theorem rnL_at {N : Nat → Nd} {F : List Fl} {d p : Nat} {x : Fl} (h : F[p]? = some x) : rnL N F (d + 1) p = if ndM (N x.1) = 1 then x.1 :: rnL N F d (p + x.2.2.2.2) else rnL N F d (p + 1) := by
  show (match F[p]? with
    | none => []
    | some x => if ndM (N x.1) = 1 then x.1 :: rnL N F d (p + x.2.2.2.2) else rnL N F d (p + 1)) = _
  rw [h]
theorem rnL_no {N : Nat → Nd} {F : List Fl} {d p : Nat} (h : F.length ≤ p) : rnL N F d p = [] := by
  cases d with
  | zero => rfl
  | succ d =>
    show (match F[p]? with
      | none => []
      | some x => if ndM (N x.1) = 1 then x.1 :: rnL N F d (p + x.2.2.2.2) else rnL N F d (p + 1)) = _
    rw [List.getElem?_eq_none h]
def runsOf (N : Nat → Nd) (R : Nat) : List Nat := rnL N (flR N R) 400 0
def tkW (N : Nat → Nd) (w : List (Nat × Nat × Nat)) : Nat := (w.map (fun x => ndT (N x.1))).sum
theorem tkW_cons {N : Nat → Nd} {x : Nat × Nat × Nat} {w : List (Nat × Nat × Nat)} : tkW N (x :: w) = ndT (N x.1) + tkW N w := by
  unfold tkW
  rw [List.map_cons, List.sum_cons]
theorem tkW_ch {N : Nat → Nd} {p d : Nat} {w : List (Nat × Nat × Nat)} : ∀ {l : List Nat}, tkW N (l.map (fun c => (c, p, d)) ++ w) = tkS N l + tkW N w
  | [] => (Nat.zero_add _).symm
  | c :: l => by
    rw [List.map_cons, List.cons_append, tkW_cons, tkW_ch, tkS_cons, Nat.add_assoc]
theorem flS_hd {m p t : Nat} {N : Nat → Nd} {F : List Fl} {w : List (Nat × Nat × Nat)} {x : Fl} (h : NdOk m N) (hw : ∀ y ∈ w, y.1 < m) (hdr : F.drop p = flS N w p t) (hx : F[p]? = some x) : ∃ c q dd w', w = (c, q, dd) :: w' ∧ c < m ∧ x = flH N c q t dd ∧ F.drop (p + 1) = flS N ((ndC (N c)).map (fun c' => (c', p, dd + 1)) ++ w') (p + 1) (t + if ndR (N c) < 0 then 1 else 0) ∧ F.drop (p + sz N c) = flS N w' (p + sz N c) (t + ndT (N c)) := by
  have h0 : (F.drop p)[0]? = some x := by
    rw [List.getElem?_drop]
    exact hx
  cases w with
  | nil =>
    rw [hdr] at h0
    cases h0
  | cons y w =>
    obtain ⟨c, q, dd⟩ := y
    have hc := hw _ (List.mem_cons_self ..)
    dsimp only at hc
    refine ⟨c, q, dd, w, rfl, hc, ?_, ?_, ?_⟩
    · rw [hdr, flS_step h hc] at h0
      cases h0
      rfl
    · rw [← List.drop_drop, hdr, flS_step h hc]
      rfl
    · rw [← List.drop_drop, hdr]
      show (fl N c q p t dd ++ flS N w (p + sz N c) (t + ndT (N c))).drop (sz N c) = _
      rw [List.drop_append, fl_len h c hc, List.drop_of_length_le (by rw [fl_len h c hc]; exact Nat.le_refl _), Nat.sub_self, List.nil_append]
      rfl
theorem rnL_len {m : Nat} {N : Nat → Nd} {F : List Fl} (h : NdOk m N) : ∀ (d p t : Nat) (w : List (Nat × Nat × Nat)), (∀ y ∈ w, y.1 < m) → F.drop p = flS N w p t → (rnL N F d p).length ≤ tkW N w
  | 0, _, _, _, _, _ => Nat.zero_le _
  | d + 1, p, t, w, hw, hdr => by
    cases hx : F[p]? with
    | none =>
      rw [rnL_no (List.getElem?_eq_none_iff.mp hx)]
      exact Nat.zero_le _
    | some x =>
      obtain ⟨c, q, dd, w', rfl, hc, rfl, h1, h2⟩ := flS_hd h hw hdr hx
      have hw' : ∀ y ∈ w', y.1 < m := fun y hy => hw y (List.mem_cons_of_mem _ hy)
      rw [rnL_at hx, tkW_cons]
      by_cases u : ndM (N c) = 1
      · rw [if_pos (show ndM (N (flH N c q t dd).1) = 1 from u), List.length_cons]
        have i1 := rnL_len h d (p + sz N c) (t + ndT (N c)) w' hw' h2
        have i2 := tok1 h c hc (Or.inl (by omega))
        show (rnL N F d (p + sz N c)).length + 1 ≤ _
        dsimp only
        omega
      · rw [if_neg (show ¬ ndM (N (flH N c q t dd).1) = 1 from u)]
        have i1 := rnL_len h d (p + 1) _ _ (fun y hy => by
          rcases List.mem_append.mp hy with hy | hy
          · obtain ⟨z, hz, rfl⟩ := List.mem_map.mp hy
            have := h.lt hc hz
            show z < m
            omega
          · exact hw' y hy) h1
        rw [tkW_ch] at i1
        have i2 : tkS N (ndC (N c)) ≤ ndT (N c) := by
          rcases h c hc with ⟨-, e2, -, e4, -⟩ | ⟨r, s, -, -, -, -, -, -, -, e8⟩
          · rw [e2]
            exact Nat.zero_le _
          · rw [e8]
            exact Nat.le_refl _
        dsimp only
        omega
def RnX (I : zI) (rs : List Nat) : Prop := I.1 43 11 = zi rs.length ∧ ∀ i r, rs[i]? = some r → I.1 63 i = zi r
def Qru (a j : Nat) : Prop := (a = 43 ∧ j = 11) ∨ a = 63
theorem s_findRuns {m R : Nat} {N : Nat → Nd} {I : zI} {K : zI → Prop} (rep : RepNX I m N) (hN : NdOk m N) (hm : m ≤ 3400) (hR : R < m) (hlen : (flR N R).length ≤ 399) (hF : I.1 43 12 = zi (flR N R).length) (h45 : ∀ (p : Nat) (x : Fl), (flR N R)[p]? = some x → x.1 < m ∧ I.1 45 p = zi x.1 ∧ I.1 55 p = zi x.2.2.2.2 ∧ 1 ≤ x.2.2.2.2 ∧ x.2.2.2.2 ≤ 399) (hTk : ndT (N R) ≤ 99)
    (hK : ∀ J, eqQ Qru I J → RnX J (runsOf N R) → K J) : w_TreeView_findRuns I K := by
  unfold w_TreeView_findRuns
  intro I1 e1
  have htot : (runsOf N R).length ≤ 99 := by
    have := rnL_len (F := flR N R) hN 400 0 0 [(R, 0, 1)] (fun y hy => by cases List.mem_singleton.mp hy; exact hR) (by
      rw [List.drop_zero]
      show fl N R 0 0 0 1 = fl N R 0 0 0 1 ++ []
      rw [List.append_nil])
    rw [tkW_cons] at this
    change (runsOf N R).length ≤ ndT (N R) + 0 at this
    omega
  intro P7 h7
  have main : ∀ (d p : Nat) (rs : List Nat) (J : zI), (flR N R).length < p + d → p ≤ 1000 → eqQ Qru I J → RnX J rs → rs ++ rnL N (flR N R) d p = runsOf N R → P7 (zi p) J := by
    intro d
    induction d with
    | zero =>
      intro p rs J hp hp2 qJ rJ he
      refine h7 _ _ ?_
      rw [qJ.1 _ _ (by unfold Qru; omega), hF, if_pos ((zi_le (by omega) (by omega)).mpr (by omega))]
      rw [show rnL N (flR N R) 0 p = [] from rfl, List.append_nil] at he
      exact hK J qJ (by rw [← he]; exact rJ)
    | succ d ih =>
      intro p rs J hp hp2 qJ rJ he
      refine h7 _ _ ?_
      rw [qJ.1 43 12 (by unfold Qru; omega), hF]
      by_cases hpl : (flR N R).length ≤ p
      · rw [if_pos ((zi_le (by omega) (by omega)).mpr hpl)]
        rw [rnL_no hpl, List.append_nil] at he
        exact hK J qJ (by rw [← he]; exact rJ)
      rw [if_neg (fun u => hpl ((zi_le (by omega) (by omega)).mp u))]
      have hx : (flR N R)[p]? = some ((flR N R)[p]'(by omega)) := List.getElem?_eq_getElem (by omega)
      generalize (flR N R)[p]'(by omega) = x at hx
      obtain ⟨x1, x2, x3, x4, x5⟩ := h45 p x hx
      have nd := rep.2 x.1 x1
      rw [rnL_at hx] at he
      refine (w_get (by decide)).mpr ?_
      rw [rg_in (by decide) (show p < 400 by omega), show J.1 (44 + 1) p = zi x.1 by rw [qJ.1 _ _ (by unfold Qru; omega)]; exact x2]
      refine (w_get (by decide)).mpr ?_
      rw [rg_in (by decide) (show x.1 < 3400 by omega), show J.1 (27 + 1) x.1 = zi (ndM (N x.1)) by rw [qJ.1 _ _ (by unfold Qru; omega)]; exact nd.2.1]
      have hsy := hN.sym x.1 x1
      intro P44 h44
      by_cases hs : ndM (N x.1) = 1
      · rw [hs, if_pos (show zi 1 = 1 from rfl)]
        rw [if_pos hs] at he
        refine h44 _ ?_
        intro P71 h71
        rw [if_neg (show ¬ (1 : Int32) = 0 by decide)]
        refine (w_set (by decide)).mpr ?_
        have hrs : rs.length < 99 := by
          have := congrArg List.length he
          rw [List.length_append, List.length_cons] at this
          omega
        rw [rJ.1, rs_in (by decide) (show rs.length < 100 by omega)]
        generalize e12 : zu J (62 + 1) rs.length (zi x.1) = I12
        intro I13 e13
        rw [show I12.1 43 11 = zi rs.length by rw [← e12, zu_oo (by decide)]; exact rJ.1, zi_succ] at e13
        have q13 : eqQ Qru I I13 := by
          rw [e13, ← e12]
          exact (qJ.zu (Or.inr rfl)).zu (Or.inl ⟨rfl, rfl⟩)
        refine h71 _ ?_
        intro P92 h92
        rw [if_neg (show ¬ (1 : Int32) = 0 by decide)]
        refine (w_get (by decide)).mpr ?_
        rw [rg_in (by decide) (show p < 400 by omega), show I13.1 (54 + 1) p = zi x.2.2.2.2 by rw [q13.1 _ _ (by unfold Qru; omega)]; exact x3]
        have hmax : (if 1 < zi x.2.2.2.2 then zi x.2.2.2.2 else 1) = zi x.2.2.2.2 := by
          by_cases u : 1 < zi x.2.2.2.2
          · rw [if_pos u]
          · rw [if_neg u]
            have : ¬ 1 < x.2.2.2.2 := fun w => u ((zi_lt (a := 1) (by decide) (by omega)).mpr w)
            rw [show x.2.2.2.2 = 1 by omega]
            rfl
        rw [hmax]
        refine h92 _ ?_
        intro v ev
        rw [zi_add] at ev
        subst ev
        refine ih (p + x.2.2.2.2) (rs ++ [x.1]) I13 (by omega) (by omega) q13 ⟨?_, fun i r hi => ?_⟩ ?_
        · rw [e13, zu_self, List.length_append]
          rfl
        · rw [e13, zu_oo (by decide)]
          rcases snoc_at hi with hi | ⟨rfl, rfl⟩
          · have hil := (List.getElem?_eq_some_iff.mp hi).1
            rw [← e12, zu_at, if_neg (by omega)]
            exact rJ.2 i r hi
          · rw [← e12, zu_self]
        · rw [List.append_assoc]
          exact he
      · rw [if_neg (show ¬ zi (ndM (N x.1)) = 1 from fun u => hs ((zi_eq (b := 1) (by omega) (by decide)).mp u))]
        rw [if_neg hs] at he
        refine h44 _ ?_
        intro P71 h71
        rw [if_pos rfl]
        refine h71 _ ?_
        intro P92 h92
        rw [if_pos rfl]
        refine h92 _ ?_
        intro v ev
        rw [ev, zi_succ]
        exact ih (p + 1) rs J (by omega) (by omega) qJ rJ he
  refine main 400 0 [] I1 (by omega) (by omega) (by rw [e1]; exact eqQ.rf.zu (Or.inl ⟨rfl, rfl⟩)) ⟨by rw [e1, zu_self]; rfl, fun i r hi => by cases hi⟩ rfl
/-- what the class sees of a TREE -/
def ViV (I : zI) (N : Nat → Nd) (R : Nat) : Prop :=
  I.1 43 13 = zi R ∧ FlX I (flR N R) ∧ (∀ (p : Nat) (x : Fl), (flR N R)[p]? = some x → I.1 53 p = zi x.2.2.2.1 ∧ I.1 55 p = zi x.2.2.2.2) ∧ RnX I (runsOf N R) ∧ PlX I ∧ RmX I N (flR N R)
def Qvi (a j : Nat) : Prop := (a = 43 ∧ (11 ≤ j ∧ j ≤ 15)) ∨ (45 ≤ a ∧ a ≤ 63)
/-- a node's depth is 1 in the first place alone -/
theorem fl_dep {m R : Nat} {N : Nat → Nd} (h : NdOk m N) (hR : R < m) : ∀ (p : Nat) (x : Fl), (flR N R)[p]? = some x → 1 ≤ x.2.2.2.1 ∧ (x.2.2.2.1 = 1 ↔ p = 0) := by
  intro p
  induction p using Nat.strongRecOn with
  | ind p ih =>
    intro x hx
    by_cases u : p = 0
    · subst u
      have h0 := fl_0 (q := 0) (p := 0) (t := 0) (dep := 1) h hR
      have hx' : (fl N R 0 0 0 1)[0]? = some x := hx
      rw [h0] at hx'
      cases hx'
      exact ⟨Nat.le_refl 1, ⟨fun _ => rfl, fun _ => rfl⟩⟩
    · obtain ⟨y, i', b1, b2, b3, b4, b5⟩ := (fl_in h R hR _ _ _ _ _ _ hx).2.1 (by omega)
      have := (ih i' b1 y b3).1
      exact ⟨by omega, ⟨fun e => by omega, fun e => absurd e u⟩⟩
theorem s_lookAt {m R n a : Nat} {og : Nat → Nat} {N : Nat → Nd} {I : zI} {K : zI → Prop} (rep : RepNX I m N) (hN : NdOk m N) (hu : UqE m N) (hm : m ≤ 3400) (t : TreeI m N R n og) (htk : ∀ c, c < m → ndT (N c) ≤ 1000) (hpl : PlX I) (hT : I.1 a 7 = zi R)
    (hK : ∀ J, eqQ Qvi I J → ViV J N R → K J) : w_TreeView_lookAt a I K := by
  unfold w_TreeView_lookAt
  intro I1 e1
  rw [hT] at e1
  have fg := t.flG hN hu
  have hsz := t.few hN
  have hl : (flR N R).length = sz N R := fl_len hN R t.1 _ _ _ _
  have ch := hN.ch
  have q1 : eqQ Qvi I I1 := by
    rw [e1]
    exact eqQ.rf.zu (Or.inl (by omega))
  refine s_layFlat (rep.kp ch (fun a j h1 h2 _ => q1.1 a j (by unfold Qvi; omega))) hN hm t.1 (by rw [e1, zu_self]) (by omega) htk fg.2.1 (fun c hc => by obtain ⟨p, p1, p2⟩ := hpl c hc; exact ⟨p, p1, by rw [e1, zu_oo (by decide)]; exact p2⟩) (fun J2 q2 ld2 pl2 => ?_)
  refine s_sumUp (rep.kp ch (fun a j h1 h2 _ => by rw [q2.1 a j (by unfold Qlf Qly; omega)]; exact q1.1 a j (by unfold Qvi; omega))) hN hm t.1 (by omega) ld2 (fun p x hx => ?_) (fun J3 q3 r3 cr3 => ?_)
  · obtain ⟨b1, b2⟩ := fg.1.2 p x hx
    refine ⟨b1, fun u => b2 (Nat.pos_of_ne_zero (fun v => u ((fl_dep hN t.1 p x hx).2.mpr v)))⟩
  · have q13 : eqQ Qvi I J3 := (q1.tr (q2.mono (fun a j h => by unfold Qlf Qly at h; unfold Qvi; omega))).tr (q3.mono (fun a j h => by unfold Qsu at h; unfold Qvi; omega))
    have f3 : ∀ (p : Nat) (x : Fl), (flR N R)[p]? = some x → J3.1 45 p = zi x.1 ∧ J3.1 47 x.1 = zi p ∧ J3.1 49 p = pqI x.2.2.2.1 x.2.1 ∧ J3.1 51 p = Int32.ofInt x.2.2.1 ∧ J3.1 53 p = zi x.2.2.2.1 := fun p x hx => by
      obtain ⟨c1, c2, c3, c4, c5, c6⟩ := ld2.2 p x (List.getElem?_eq_some_iff.mp hx).1 hx
      rw [q3.1 45 _ (by unfold Qsu; omega), q3.1 47 _ (by unfold Qsu; omega), q3.1 49 _ (by unfold Qsu; omega), q3.1 51 _ (by unfold Qsu; omega), q3.1 53 _ (by unfold Qsu; omega)]
      exact ⟨c1, c2, c3, c4, c5⟩
    refine s_findRuns (rep.kp ch (fun a j h1 h2 _ => q13.1 a j (by unfold Qvi; omega))) hN hm t.1 (by omega) (by rw [q3.1 _ _ (by unfold Qsu; omega)]; exact ld2.1) (fun p x hx => ?_) ?_ (fun J4 q4 rn4 => ?_)
    · have b1 := (fg.1.2 p x hx).1
      obtain ⟨-, -, o, -, e4, -, e6⟩ := fl_in hN R t.1 _ _ _ _ _ _ hx
      have hs : x.2.2.2.2 = sz N x.1 := by
        rw [e4]
        rfl
      have hp := sz_pos hN b1
      have hle : sz N x.1 ≤ 399 := by
        have h6 := e6 (sz N x.1 - 1) (by omega)
        have h7 : (fl N x.1 x.2.1 (0 + p) (0 + o) x.2.2.2.1)[sz N x.1 - 1]? = some ((fl N x.1 x.2.1 (0 + p) (0 + o) x.2.2.2.1)[sz N x.1 - 1]'(by rw [fl_len hN _ b1]; omega)) := List.getElem?_eq_getElem _
        rw [h7] at h6
        have := (List.getElem?_eq_some_iff.mp h6).1
        have hl2 : (fl N R 0 0 0 1).length = sz N R := fl_len hN R t.1 _ _ _ _
        omega
      exact ⟨b1, (f3 p x hx).1, r3 p x hx, by omega, by omega⟩
    · have := t.tk hN
      have := t.2.2.2.2.2.2.2
      omega
    · refine hK J4 (q13.tr (q4.mono (fun a j h => by unfold Qru at h; unfold Qvi; omega))) ⟨?_, ⟨?_, fun p x hx => ?_⟩, fun p x hx => ?_, rn4, fun c hc => ?_, fun r hr => by rw [q4.1 61 r (by unfold Qru; omega)]; exact cr3 r hr⟩
      · rw [q4.1 _ _ (by unfold Qru; omega), q3.1 _ _ (by unfold Qsu; omega), q2.1 _ _ (by unfold Qlf Qly; omega), e1, zu_self]
      · rw [q4.1 _ _ (by unfold Qru; omega), q3.1 _ _ (by unfold Qsu; omega)]
        exact ld2.1
      · obtain ⟨c1, c2, c3, c4, c5⟩ := f3 p x hx
        rw [q4.1 45 _ (by unfold Qru; omega), q4.1 47 _ (by unfold Qru; omega), q4.1 49 _ (by unfold Qru; omega), q4.1 51 _ (by unfold Qru; omega)]
        refine ⟨c1, c2, fun u => ?_, c4⟩
        rw [c3]
        exact if_neg (fun v => by have := (fl_dep hN t.1 p x hx).2.mp v; omega)
      · obtain ⟨c1, c2, c3, c4, c5⟩ := f3 p x hx
        rw [q4.1 53 _ (by unfold Qru; omega), q4.1 55 _ (by unfold Qru; omega)]
        exact ⟨c5, r3 p x hx⟩
      · obtain ⟨p, p1, p2⟩ := pl2 c hc
        exact ⟨p, p1, by rw [q4.1 47 c (by unfold Qru; omega), q3.1 47 c (by unfold Qsu; omega)]; exact p2⟩
/-! ===== a tree laid flat: the model ===== -/
/-- a node's parent and which CHILD it is -/
def PaM (I : zI) (N : Nat → Nd) (F : List Fl) (i : Nat) (x : Fl) : Prop :=
  (i = 0 → I.1 524 x.1 = -2) ∧ (1 ≤ i → ∃ (y : Fl) (j : Nat), F[x.2.1]? = some y ∧ (ndC (N y.1))[j]? = some x.1 ∧ I.1 524 x.1 = zi y.1 ∧ I.1 525 x.1 = zi j)
def FlT (F : List Fl) (tot : Nat) (I : zI) (x : Fl) : Prop := ∃ o, o ≤ tot ∧ I.1 526 x.1 = zi o ∧ (0 ≤ x.2.2.1 → x.2.2.1 = (o : Int))
/-- what is laid: the first p places -/
def LdM (I : zI) (F : List Fl) (tot p : Nat) : Prop :=
  I.1 491 43 = zi p ∧ (∀ (i : Nat) (x : Fl), i < p → F[i]? = some x → I.1 521 i = zi x.1 ∧ I.1 523 x.1 = zi i ∧ FlT F tot I x) ∧ ∀ c, c < 3700 → (∀ (i : Nat) (x : Fl), i < p → F[i]? = some x → x.1 ≠ c) → I.1 523 c = -1
def StkM (I : zI) : List (Nat × Nat × Nat) → Prop
  | [] => True
  | x :: w => I.1 527 w.length = zi x.1 ∧ StkM I w
theorem StkM.kp {I J : zI} : ∀ {w : List (Nat × Nat × Nat)}, StkM I w → (∀ j, j < w.length → J.1 527 j = I.1 527 j) → StkM J w
  | [], _, _ => trivial
  | x :: w, h, e => by
    obtain ⟨h1, h3⟩ := h
    exact ⟨(e w.length (Nat.lt_succ_self _)).trans h1, h3.kp (fun j hj => e j (Nat.lt_succ_of_lt hj))⟩
def Qft (a j : Nat) : Prop := (a = 491 ∧ (j = 43 ∨ j = 51 ∨ j = 53)) ∨ (521 ≤ a ∧ a ≤ 529)
theorem ndL_len {m c : Nat} {N : Nat → Nd} (hN : NdOk m N) (hc : c < m) : ndL (N c) = (ndC (N c)).length := by
  unfold ndL
  rcases hN c hc with ⟨e1, e2, -⟩ | ⟨r, s, hr, -, e3, -, -, e6, -⟩
  · rw [e1, e2, if_pos (by decide)]
    rfl
  · have h1 := congrArg List.length e6
    rw [List.length_map, (rh_fin r hr).1] at h1
    rw [e3, if_neg (by omega), h1]
    rfl
theorem szS_last {N : Nat → Nd} {l : List Nat} {z : Nat} (h : l[l.length - 1]? = some z) : szS N (l.take (l.length - 1)) + sz N z = szS N l := by
  have hl := (List.getElem?_eq_some_iff.mp h).1
  have e : l = l.take (l.length - 1) ++ [z] := by
    have h1 := List.take_append_drop (l.length - 1) l
    rw [List.drop_eq_getElem_cons hl, show l.length - 1 + 1 = l.length by omega, List.drop_length] at h1
    rw [(List.getElem?_eq_some_iff.mp h).2] at h1
    exact h1.symm
  have h2 : szS N (l.take (l.length - 1) ++ [z]) = szS N (l.take (l.length - 1)) + sz N z := by
    unfold szS
    simp
  rw [← h2, ← e]
/-- the second half: where each node's subtree ends -/
theorem s_ends {m R : Nat} {N : Nat → Nd} {I : zI} {K : zI → Prop} {P : Int32 → zI → Prop} (rep : RepNM I m N) (hN : NdOk m N) (hm : m ≤ 3700) (hR : R < m) (hlen : (flR N R).length ≤ 399) (hxm : ∀ (p : Nat) (x : Fl), (flR N R)[p]? = some x → x.1 < m) (h521 : ∀ (i : Nat) (x : Fl), (flR N R)[i]? = some x → I.1 521 i = zi x.1 ∧ I.1 523 x.1 = zi i)
    (hP : ∀ (v3_11 : Int32) (I_12 : zI), ((if v3_11 < 0 then K I_12 else (vp_in v3_11 700 ∧ (∀ v4_14, v4_14 = (I_12.1 521 (Int32.toNatClampNeg v3_11)) → vp_in v4_14 3700 ∧ (∀ v5_15, v5_15 = (I_12.1 512 (Int32.toNatClampNeg v4_14)) → ∀ (P258 : Int32 → Prop), (∀ (t_16 : Int32), (vp_in v3_11 700 ∧ (∀ I_17, I_17 = (zu I_12 522 (Int32.toNatClampNeg v3_11) t_16) → ∀ v3_18, v3_18 = (v3_11 + (-1)) → P v3_18 I_17)) → P258 t_16) → (if v5_15 = 0 then (P258 (v3_11 + 1)) else (vp_in (((4 * v4_14) + v5_15) - 1) 14800 ∧ (vp_in (I_12.1 513 (Int32.toNatClampNeg (((4 * v4_14) + v5_15) - 1))) 3700 ∧ (vp_in (I_12.1 523 (Int32.toNatClampNeg (I_12.1 513 (Int32.toNatClampNeg (((4 * v4_14) + v5_15) - 1))))) 700 ∧ (P258 (I_12.1 522 (Int32.toNatClampNeg (I_12.1 523 (Int32.toNatClampNeg (I_12.1 513 (Int32.toNatClampNeg (((4 * v4_14) + v5_15) - 1))))))))))))))))) → P v3_11 I_12)
    (hK : ∀ J, eqQ (fun a _ => a = 522) I J → (∀ (i : Nat) (x : Fl), (flR N R)[i]? = some x → J.1 522 i = zi (i + x.2.2.2.2)) → K J) : P (zi (flR N R).length - 1) I := by
  have main : ∀ (k : Nat) (J : zI), k ≤ (flR N R).length → eqQ (fun a _ => a = 522) I J → (∀ (i : Nat) (x : Fl), k ≤ i → (flR N R)[i]? = some x → J.1 522 i = zi (i + x.2.2.2.2)) → P (zi k - 1) J := by
    intro k
    induction k with
    | zero =>
      intro J hk q hJ
      refine hP _ _ ?_
      rw [if_pos (show zi 0 - 1 < 0 by decide)]
      exact hK J q (fun i x hx => hJ i x (Nat.zero_le i) hx)
    | succ k ih =>
      intro J hk q hJ
      refine hP _ _ ?_
      rw [show zi (k + 1) - 1 = zi k from zi_sub (b := 1) (by omega), if_neg (zi_pos (by omega)), zi_tn (show k < 2147483648 by omega)]
      have hx : (flR N R)[k]? = some ((flR N R)[k]'(by omega)) := List.getElem?_eq_getElem (by omega)
      generalize (flR N R)[k]'(by omega) = x at hx
      have hc := hxm k x hx
      have hsz : x.2.2.2.2 = sz N x.1 := by
        obtain ⟨-, -, o, -, e4, -⟩ := fl_in hN R hR _ _ _ _ _ _ hx
        rw [e4]
        rfl
      refine ⟨(zin_iff (by omega)).mpr (by omega), fun v4 ev4 => ?_⟩
      rw [q.1 521 k (by omega), (h521 k x hx).1] at ev4
      subst ev4
      refine ⟨(zin_iff (by omega)).mpr (by omega), fun v5 ev5 => ?_⟩
      have nd := rep.2 x.1 hc
      rw [zi_tn (show x.1 < 2147483648 by omega), q.1 512 _ (by omega), show I.1 512 x.1 = zi (ndL (N x.1)) from nd.2.2.2.2.1, ndL_len hN hc] at ev5
      subst ev5
      have hch := hN.ch x.1 hc
      intro P258 h258
      have rest : P258 (zi (k + x.2.2.2.2)) := by
        refine h258 _ ⟨(zin_iff (by omega)).mpr (by omega), fun I17 e17 v ev => ?_⟩
        have e5 : v = zi k - 1 := by
          rw [ev, Int32.sub_eq_add_neg]
        subst e5
        refine ih I17 (by omega) (by rw [e17]; exact q.zu rfl) (fun i y hi hy => ?_)
        rw [e17, zu_at]
        by_cases u : i = k
        · subst u
          rw [hx] at hy
          cases hy
          rw [if_pos ⟨rfl, rfl⟩]
        · rw [if_neg (fun w => u w.2)]
          exact hJ i y (by omega) hy
      by_cases h0 : (ndC (N x.1)).length = 0
      · rw [h0, if_pos (show zi 0 = 0 from rfl), zi_succ]
        have hnil := List.eq_nil_of_length_eq_zero h0
        have h1 := sz_eq hN hc
        rw [hnil] at h1
        rw [hsz, h1] at rest
        exact rest
      · rw [if_neg (show ¬ zi (ndC (N x.1)).length = 0 from fun u => h0 ((zi_eq (b := 0) (by omega) (by decide)).mp u))]
        have hz : (ndC (N x.1))[(ndC (N x.1)).length - 1]? = some ((ndC (N x.1))[(ndC (N x.1)).length - 1]'(by omega)) := List.getElem?_eq_getElem (by omega)
        generalize (ndC (N x.1))[(ndC (N x.1)).length - 1]'(by omega) = z at hz
        have hzm := hN.lt hc (List.mem_of_getElem? hz)
        obtain ⟨i', y, y1, y2, y3, y4, -⟩ := fl_ch hN hR hx hz
        have hl := szS_last (N := N) hz
        have hse := sz_eq hN hc
        have hi'l := (List.getElem?_eq_some_iff.mp y2).1
        have hi'l2 : i' < (flR N R).length := hi'l
        have hysz : y.2.2.2.2 = sz N z := by
          obtain ⟨-, -, o, -, e4, -⟩ := fl_in hN R hR _ _ _ _ _ _ y2
          rw [e4, y3]
          rfl
        rw [show 4 * zi x.1 + zi (ndC (N x.1)).length - 1 = zi (4 * x.1 + ((ndC (N x.1)).length - 1)) by
          rw [show (4 : Int32) = zi 4 from rfl, zi_mul, zi_add, show (1 : Int32) = zi 1 from rfl, zi_sub (by omega), show 4 * x.1 + (ndC (N x.1)).length - 1 = 4 * x.1 + ((ndC (N x.1)).length - 1) by omega], zi_tn (show 4 * x.1 + ((ndC (N x.1)).length - 1) < 2147483648 by omega), show J.1 513 (4 * x.1 + ((ndC (N x.1)).length - 1)) = zi z by rw [q.1 513 _ (by omega)]; exact nd.2.2.2.2.2.1 _ z hz, zi_tn (show z < 2147483648 by omega), show J.1 523 z = zi i' by rw [q.1 523 _ (by omega), ← y3]; exact (h521 i' y y2).2, zi_tn (show i' < 2147483648 by omega), hJ i' y (by omega) y2, hysz]
        refine ⟨(zin_iff (by omega)).mpr (by omega), (zin_iff (by omega)).mpr (by omega), (zin_iff (by omega)).mpr (by omega), ?_⟩
        rw [show i' + sz N z = k + x.2.2.2.2 by omega]
        exact rest
  exact main (flR N R).length I (Nat.le_refl _) eqQ.rf (fun i x hi hx => by have := (List.getElem?_eq_some_iff.mp hx).1; omega)
/-- a tree laid flat, the model: what fillsTree does ahead of fillsRuns -/
theorem s_fillsTree {m R n : Nat} {og : Nat → Nat} {N : Nat → Nd} {I : zI} {K : zI → Prop} (rep : RepNM I m N) (hN : NdOk m N) (hu : UqE m N) (hm : m ≤ 3700) (t : TreeI m N R n og) (hT : I.1 491 37 = zi R)
    (hK : ∀ J, eqQ Qft I J → LdM J (flR N R) (n - 1) (flR N R).length → (∀ (i : Nat) (x : Fl), (flR N R)[i]? = some x → J.1 522 i = zi (i + x.2.2.2.2) ∧ PaM J N (flR N R) i x) → w_M_fillsRuns J K) : w_M_fillsTree I K := by
  have fg := t.flG hN hu
  have hR := t.1
  have htk := t.tk hN
  have hn100 := t.2.2.2.2.2.2.2
  have hlen : (flR N R).length ≤ 399 := by
    have h1 := t.few hN
    have h2 : (flR N R).length = sz N R := fl_len hN R hR _ _ _ _
    omega
  have ch := hN.ch
  have hxm : ∀ (p : Nat) (x : Fl), (flR N R)[p]? = some x → x.1 < m := fun p x hx => (fg.1.2 p x hx).1
  intro P2 h2
  have fill : ∀ (d v : Nat) (J : zI), v + d = 3700 → eqQ Qft I J → (∀ c, c < v → J.1 523 c = -1) → (∀ J', eqQ Qft I J' → (∀ c, c < 3700 → J'.1 523 c = -1) → P2 (zi 3700) J') → P2 (zi v) J := by
    intro d
    induction d with
    | zero =>
      intro v J hv q h hk
      rw [show v = 3700 by omega] at h ⊢
      exact hk J q h
    | succ d ih =>
      intro v J hv q h hk
      refine h2 _ _ ?_
      rw [if_neg (show ¬ (3700 : Int32) ≤ zi v from fun u => by have := (zi_le (a := 3700) (by decide) (by omega)).mp u; omega), zi_tn (show v < 2147483648 by omega)]
      refine ⟨(zin_iff (by omega)).mpr (by omega), fun I42 e42 v43 e43 => ?_⟩
      rw [e43, zi_succ]
      refine ih (v + 1) I42 (by omega) (by rw [e42]; exact q.zu (Or.inr (by omega))) (fun c hc => ?_) hk
      rw [e42, zu_at]
      by_cases u : c = v
      · rw [if_pos ⟨rfl, u⟩]
      · rw [if_neg (fun w => u w.2)]
        exact h c (by omega)
  refine fill 3700 0 I (by omega) eqQ.rf (fun c hc => by omega) (fun J qJ hJ => ?_)
  refine h2 _ _ ?_
  rw [if_pos (show (3700 : Int32) ≤ zi 3700 by decide)]
  intro I3 e3
  have g3 : I3.1 491 37 = zi R := by rw [e3, zu_at, if_neg (by decide), qJ.1 _ _ (by unfold Qft; omega)]; exact hT
  rw [g3]
  refine ⟨(zin_iff (i := 0) (by decide)).mpr (by decide), fun I4 e4 => ?_⟩
  have g4 : I4.1 491 37 = zi R := by rw [e4, zu_oo (by decide)]; exact g3
  rw [g4, zi_tn (show R < 2147483648 by omega)]
  refine ⟨(zin_iff (by omega)).mpr (by omega), fun I5 e5 => ?_⟩
  have g5 : I5.1 491 37 = zi R := by rw [e5, zu_oo (by decide)]; exact g4
  rw [g5, zi_tn (show R < 2147483648 by omega)]
  refine ⟨(zin_iff (by omega)).mpr (by omega), fun I6 e6 => ?_⟩
  have q6 : eqQ Qft I I6 := by
    rw [e6, e5, e4, e3]
    exact (((qJ.zu (Or.inl ⟨rfl, Or.inl rfl⟩)).zu (Or.inr (by omega))).zu (Or.inr (by omega))).zu (Or.inr (by omega))
  intro P62 h62
  have kp1 : ∀ (A : zI), eqQ Qft I A → RepNM A m N := fun A q => rep.kp ch (q.1 _ _ (by unfold Qft; omega)) (fun a j h1 h2 => q.1 a j (by unfold Qft; omega)) (fun j => q.2 511 j (by unfold Qft; omega))
  have main : ∀ (d p tt : Nat) (w : List (Nat × Nat × Nat)) (A : zI), p + d = (flR N R).length → (flR N R).drop p = flS N w p tt → StkO m p (flR N R) w → tt + tkW N w = n - 1 → StkM A w → LdM A (flR N R) (n - 1) p → (∀ (i : Nat) (x : Fl), (flR N R)[i]? = some x → (i = 0 ∨ x.2.1 < p) → PaM A N (flR N R) i x) → eqQ Qft I A → P62 (zi tt) (zi w.length) A := by
    intro d
    induction d with
    | zero =>
      intro p tt w A hp hdr hso htw hsx hld hpa q
      refine h62 _ _ _ ?_
      have hw : w = [] := by
        have h1 := flS_len hN (p := p) (t := tt) (fun x hx => (hso x hx).1)
        rw [← hdr, List.length_drop] at h1
        exact List.eq_nil_of_length_eq_zero (by omega)
      subst hw
      rw [if_pos (show zi (List.length ([] : List (Nat × Nat × Nat))) ≤ 0 by decide)]
      intro v3 ev3
      rw [hld.1, show p = (flR N R).length by omega] at ev3
      subst ev3
      intro P197 h197
      have hp' : p = (flR N R).length := by omega
      subst hp'
      refine s_ends (P := P197) (K := fun I12 => w_M_fillsRuns I12 (fun I13 => K I13)) (kp1 A q) hN hm hR hlen hxm (fun i x hx => ?_) h197 (fun B qB h522 => ?_)
      · obtain ⟨b1, b2, -⟩ := hld.2.1 i x (List.getElem?_eq_some_iff.mp hx).1 hx
        exact ⟨b1, b2⟩
      · refine hK B (q.tr (qB.mono (fun a j h => Or.inr (by omega)))) ⟨by rw [qB.1 _ _ (by omega)]; exact hld.1, fun i x hi hx => ?_, fun c hc hno => by rw [qB.1 _ _ (by omega)]; exact hld.2.2 c hc hno⟩ (fun i x hx => ⟨h522 i x hx, ?_⟩)
        · obtain ⟨b1, b2, o, b3, b4, b5⟩ := hld.2.1 i x hi hx
          rw [qB.1 521 _ (by omega), qB.1 523 _ (by omega)]
          exact ⟨b1, b2, o, b3, by rw [qB.1 526 _ (by omega)]; exact b4, b5⟩
        · obtain ⟨b1, b2⟩ := hpa i x hx (by
            by_cases u : i = 0
            · exact Or.inl u
            · right
              have := (fg.1.2 i x hx).2 (by omega)
              have := (List.getElem?_eq_some_iff.mp hx).1
              omega)
          refine ⟨fun u => by rw [qB.1 524 _ (by omega)]; exact b1 u, fun u => ?_⟩
          obtain ⟨y, j, c1, c2, c3, c4⟩ := b2 u
          exact ⟨y, j, c1, c2, by rw [qB.1 524 _ (by omega)]; exact c3, by rw [qB.1 525 _ (by omega)]; exact c4⟩
    | succ d ih =>
      intro p tt w A hp hdr hso htw hsx hld hpa q
      refine h62 _ _ _ ?_
      have hx : (flR N R)[p]? = some ((flR N R)[p]'(by omega)) := List.getElem?_eq_getElem (by omega)
      generalize (flR N R)[p]'(by omega) = x at hx
      obtain ⟨c, qq, dd, w', hw, hc, hxe, hdr2, -⟩ := flS_hd hN (fun y hy => (hso y hy).1) hdr hx
      subst hw
      have hwl := flS_len hN (w := (c, qq, dd) :: w') (p := p) (t := tt) (fun x hx => (hso x hx).1)
      rw [← hdr, List.length_drop, List.length_cons] at hwl
      rw [tkW_cons] at htw
      dsimp only at htw
      rw [if_neg (show ¬ zi (List.length ((c, qq, dd) :: w')) ≤ 0 from fun u => by have := (zi_le (b := 0) (by rw [List.length_cons]; omega) (by decide)).mp u; rw [List.length_cons] at this; omega)]
      intro v2 ev2
      rw [List.length_cons, zi_pred (by omega), Nat.add_sub_cancel] at ev2
      subst ev2
      obtain ⟨k1, k2⟩ := hsx
      refine ⟨(zin_iff (by omega)).mpr (by omega), fun v3 ev3 => ?_⟩
      rw [zi_tn (show w'.length < 2147483648 by omega), show A.1 527 w'.length = zi c from k1] at ev3
      subst ev3
      have hcin : vp_in (zi c) 3700 := (zin_iff (by omega)).mpr (by omega)
      rw [zi_tn (show c < 2147483648 by omega)]
      refine ⟨hcin, fun I23 e23 => ?_⟩
      rw [hld.1] at e23
      have g23 : I23.1 491 43 = zi p := by rw [e23, zu_oo (by decide)]; exact hld.1
      rw [g23, zi_tn (show p < 2147483648 by omega)]
      refine ⟨(zin_iff (by omega)).mpr (by omega), fun I24 e24 I25 e25 => ?_⟩
      rw [show I24.1 491 43 = zi p by rw [e24, zu_oo (by decide)]; exact g23, zi_succ] at e25
      refine ⟨hcin, fun I26 e26 => ⟨hcin, ?_⟩⟩
      have o26 : ∀ a j, ¬ (a = 523 ∧ j = c) → ¬ (a = 521 ∧ j = p) → ¬ (a = 491 ∧ j = 43) → ¬ (a = 526 ∧ j = c) → I26.1 a j = A.1 a j := fun a j u1 u2 u3 u4 => by
        rw [e26, zu_at, if_neg u4, e25, zu_at, if_neg u3, e24, zu_at, if_neg u2, e23, zu_at, if_neg u1]
      have q26 : eqQ Qft I I26 := by
        rw [e26, e25, e24, e23]
        exact (((q.zu (Or.inr (by omega))).zu (Or.inr (by omega))).zu (Or.inl ⟨rfl, Or.inl rfl⟩)).zu (Or.inr (by omega))
      have w523 : I26.1 523 c = zi p := by rw [e26, zu_oo (by decide), e25, zu_oo (by decide), e24, zu_oo (by decide), e23, zu_self]
      have w521 : I26.1 521 p = zi c := by rw [e26, zu_oo (by decide), e25, zu_oo (by decide), e24, zu_self]
      have w526 : I26.1 526 c = zi tt := by rw [e26, zu_self]
      have w43 : I26.1 491 43 = zi (p + 1) := by rw [e26, zu_oo (by decide), e25, zu_self]
      have hx1 : x.1 = c := by rw [hxe]; rfl
      have hne : ∀ (i : Nat) (y : Fl), i < p → (flR N R)[i]? = some y → y.1 ≠ c := fun i y hi hy e => by
        have := fg.2.1 i p y x hy hx (e.trans hx1.symm)
        omega
      have ld26 : LdM I26 (flR N R) (n - 1) (p + 1) := by
        refine ⟨w43, fun i y hi hy => ?_, fun c' hc' hno => ?_⟩
        · by_cases u : i = p
          · subst u
            rw [hx] at hy
            cases hy
            refine ⟨by rw [w521, hx1], by rw [hx1, w523], tt, by omega, by rw [hx1]; exact w526, fun h0 => ?_⟩
            rw [hxe] at h0 ⊢
            change 0 ≤ (if ndT (N c) = 0 then (-2 : Int) else (tt : Int)) at h0
            show (if ndT (N c) = 0 then (-2 : Int) else (tt : Int)) = _
            by_cases u0 : ndT (N c) = 0
            · rw [if_pos u0] at h0
              omega
            · rw [if_neg u0]
          · obtain ⟨b1, b2, o, b3, b4, b5⟩ := hld.2.1 i y (by omega) hy
            have hn := hne i y (by omega) hy
            rw [o26 521 i (by omega) (by omega) (by omega) (by omega), o26 523 y.1 (fun v => hn v.2) (by omega) (by omega) (by omega)]
            exact ⟨b1, b2, o, b3, by rw [o26 526 y.1 (by omega) (by omega) (by omega) (fun v => hn v.2)]; exact b4, b5⟩
        · have hcc : c' ≠ c := fun e => hno p x (by omega) hx (hx1.trans e.symm)
          rw [o26 523 c' (fun v => hcc v.2) (by omega) (by omega) (by omega)]
          exact hld.2.2 c' hc' (fun i y hi hy => hno i y (by omega) hy)
      have rep26 := kp1 _ q26
      have nd := rep26.2 c hc
      have hnc : (ndC (N c)).length ≤ 4 := ch c hc
      have hso2 : StkO m (p + 1) (flR N R) ((ndC (N c)).map (fun c' => (c', p, dd + 1)) ++ w') := by
        intro y hy
        rcases List.mem_append.mp hy with hy | hy
        · obtain ⟨z, hz, rfl⟩ := List.mem_map.mp hy
          exact ⟨(show z < m by have := hN.lt hc hz; omega), (show 1 ≤ dd + 1 by omega), fun _ => ⟨(show p < p + 1 by omega), x, hx, by rw [hxe]; rfl⟩⟩
        · obtain ⟨b1, b2, b3⟩ := hso y (List.mem_cons_of_mem _ hy)
          refine ⟨b1, b2, fun u => ?_⟩
          obtain ⟨c1, c2⟩ := b3 u
          exact ⟨by omega, c2⟩
      have htw2 : tt + (if ndR (N c) < 0 then 1 else 0) + tkW N ((ndC (N c)).map (fun c' => (c', p, dd + 1)) ++ w') = n - 1 := by
        rw [tkW_ch]
        rcases hN c hc with ⟨e1, e2, -, e4, -⟩ | ⟨r, s, -, -, e3, -, -, -, -, e8⟩
        · rw [if_pos (by omega), e2]
          have : tkS N [] = 0 := rfl
          omega
        · rw [if_neg (by omega)]
          omega
      intro P125 h125
      have rest : P125 (zi (tt + if ndR (N c) < 0 then 1 else 0)) := by
        refine h125 _ ⟨hcin, fun v4 ev4 => ?_⟩
        rw [show I26.1 512 c = zi (ndL (N c)) from nd.2.2.2.2.1, ndL_len hN hc] at ev4
        subst ev4
        intro P135 h135
        have hwl2 := flS_len hN (p := p + 1) (t := tt + if ndR (N c) < 0 then 1 else 0) (fun x hx => (hso2 x hx).1)
        rw [← hdr2, List.length_drop, List.length_append, List.length_map] at hwl2
        have inner : ∀ (k : Nat) (B : zI), k ≤ (ndC (N c)).length → eqQ Qft I B → LdM B (flR N R) (n - 1) (p + 1) → StkM B (((ndC (N c)).drop k).map (fun c' => (c', p, dd + 1)) ++ w') → (∀ (i : Nat) (y : Fl), (flR N R)[i]? = some y → ((i = 0 ∨ y.2.1 < p) ∨ (1 ≤ i ∧ y.2.1 = p ∧ ∃ j, k ≤ j ∧ (ndC (N c))[j]? = some y.1)) → PaM B N (flR N R) i y) → P135 (zi (((ndC (N c)).drop k).map (fun c' => (c', p, dd + 1)) ++ w').length) (zi k - 1) B := by
          intro k
          induction k with
          | zero =>
            intro B hk qB ldB sxB paB
            refine h135 _ _ _ ?_
            rw [if_pos (show zi 0 - 1 < 0 by decide), List.drop_zero]
            rw [List.drop_zero] at sxB
            refine ih (p + 1) _ _ B (by omega) hdr2 hso2 htw2 sxB ldB (fun i y hy hi => ?_) qB
            by_cases u : i = 0 ∨ y.2.1 < p
            · exact paB i y hy (Or.inl u)
            · have hi1 : 1 ≤ i := by omega
              obtain ⟨y', i', b1, b2, b3, b4, -⟩ := (fl_in hN R hR _ _ _ _ _ _ hy).2.1 hi1
              have hip : i' = p := by omega
              subst hip
              have b3' : (flR N R)[i']? = some y' := b3
              rw [hx] at b3'
              cases b3'
              rw [hx1] at b4
              obtain ⟨j, hj⟩ := List.mem_iff_getElem?.mp b4
              exact paB i y hy (Or.inr ⟨hi1, by omega, j, Nat.zero_le j, hj⟩)
          | succ k ihk =>
            intro B hk qB ldB sxB paB
            refine h135 _ _ _ ?_
            rw [show zi (k + 1) - 1 = zi k from zi_sub (b := 1) (by omega), if_neg (zi_pos (by omega))]
            have hz : (ndC (N c))[k]? = some ((ndC (N c))[k]'(by omega)) := List.getElem?_eq_getElem (by omega)
            have hdk : (ndC (N c)).drop k = ((ndC (N c))[k]'(by omega)) :: (ndC (N c)).drop (k + 1) := List.drop_eq_getElem_cons (by omega)
            generalize (ndC (N c))[k]'(by omega) = z at hz hdk
            have hzm := hN.lt hc (List.mem_of_getElem? hz)
            obtain ⟨i', yz, y1, y2, y3, y4, -⟩ := fl_ch hN hR hx (by rw [hx1]; exact hz)
            rw [show 4 * zi c + zi k = zi (4 * c + k) by rw [show (4 : Int32) = zi 4 from rfl, zi_mul, zi_add]]
            refine ⟨(zin_iff (by omega)).mpr (by omega), fun v5 ev5 => ?_⟩
            rw [zi_tn (show 4 * c + k < 2147483648 by omega), show B.1 513 (4 * c + k) = zi z from ((kp1 _ qB).2 c hc).2.2.2.2.2.1 k z hz] at ev5
            subst ev5
            have hzin : vp_in (zi z) 3700 := (zin_iff (by omega)).mpr (by omega)
            rw [zi_tn (show z < 2147483648 by omega)]
            have hcl : (((ndC (N c)).drop (k + 1)).map (fun c' => (c', p, dd + 1)) ++ w').length = (ndC (N c)).length - (k + 1) + w'.length := by
              rw [List.length_append, List.length_map, List.length_drop]
            rw [hcl]
            refine ⟨hzin, fun I33 e33 => ⟨hzin, fun I34 e34 => ⟨(zin_iff (by omega)).mpr (by omega), fun I35 e35 v2' ev2' v4' ev4' => ?_⟩⟩⟩
            rw [zi_tn (show (ndC (N c)).length - (k + 1) + w'.length < 2147483648 by omega)] at e35
            rw [zi_succ] at ev2'
            subst ev2'
            have e5 : v4' = zi k - 1 := by
              rw [ev4', Int32.sub_eq_add_neg]
            subst e5
            have oB : ∀ a j, ¬ (a = 524 ∧ j = z) → ¬ (a = 525 ∧ j = z) → ¬ (a = 527 ∧ j = (ndC (N c)).length - (k + 1) + w'.length) → I35.1 a j = B.1 a j := fun a j u1 u2 u3 => by
              rw [e35, zu_at, if_neg u3, e34, zu_at, if_neg u2, e33, zu_at, if_neg u1]
            have hcl2 : (((ndC (N c)).drop k).map (fun c' => (c', p, dd + 1)) ++ w').length = (ndC (N c)).length - (k + 1) + w'.length + 1 := by
              rw [List.length_append, List.length_map, List.length_drop]
              omega
            have key := ihk I35 (by omega) (by
              rw [e35, e34, e33]
              exact ((qB.zu (Or.inr (by omega))).zu (Or.inr (by omega))).zu (Or.inr (by omega))) ⟨by rw [oB _ _ (by omega) (by omega) (by omega)]; exact ldB.1, fun i y hi hy => by
                obtain ⟨b1, b2, o, b3, b4, b5⟩ := ldB.2.1 i y hi hy
                rw [oB 521 _ (by omega) (by omega) (by omega), oB 523 _ (by omega) (by omega) (by omega)]
                exact ⟨b1, b2, o, b3, by rw [oB 526 _ (by omega) (by omega) (by omega)]; exact b4, b5⟩, fun c' hc' hno => by
                rw [oB 523 _ (by omega) (by omega) (by omega)]
                exact ldB.2.2 c' hc' hno⟩ (by
              rw [hdk]
              refine ⟨?_, ?_⟩
              · show I35.1 527 (((ndC (N c)).drop (k + 1)).map (fun c' => (c', p, dd + 1)) ++ w').length = _
                rw [hcl, e35, zu_self]
              · refine StkM.kp sxB (fun j hj => ?_)
                change j < (((ndC (N c)).drop (k + 1)).map (fun c' => (c', p, dd + 1)) ++ w').length at hj
                rw [hcl] at hj
                exact oB _ _ (by omega) (by omega) (by omega)) (fun i y hy hor => by
              by_cases uz : y.1 = z
              · have hii := fg.2.1 i i' y yz hy y2 (uz.trans y3.symm)
                subst hii
                have y2' : (flR N R)[i]? = some yz := y2
                rw [hy] at y2'
                cases y2'
                refine ⟨fun u => by omega, fun _ => ⟨x, k, by rw [y4, Nat.zero_add]; exact hx, by rw [hx1, uz]; exact hz, ?_, ?_⟩⟩
                · rw [hx1, uz, e35, zu_oo (by decide), e34, zu_oo (by decide), e33, zu_self]
                · rw [uz, e35, zu_oo (by decide), e34, zu_self]
              · have hb : PaM B N (flR N R) i y := by
                  refine paB i y hy ?_
                  rcases hor with u | ⟨u1, u2, j, u3, u4⟩
                  · exact Or.inl u
                  · by_cases uj : j = k
                    · subst uj
                      rw [hz] at u4
                      exact absurd (Option.some.inj u4).symm uz
                    · exact Or.inr ⟨u1, u2, j, by omega, u4⟩
                obtain ⟨b1, b2⟩ := hb
                refine ⟨fun u => by rw [oB 524 _ (fun v => uz v.2) (by omega) (by omega)]; exact b1 u, fun u => ?_⟩
                obtain ⟨y', j, c1, c2, c3, c4⟩ := b2 u
                exact ⟨y', j, c1, c2, by rw [oB 524 _ (fun v => uz v.2) (by omega) (by omega)]; exact c3, by rw [oB 525 _ (by omega) (fun v => uz v.2) (by omega)]; exact c4⟩)
            rw [hcl2] at key
            exact key
        have hin := inner (ndC (N c)).length I26 (Nat.le_refl _) q26 ld26 (by
          rw [List.drop_length]
          exact StkM.kp k2 (fun j _ => o26 _ _ (by omega) (by omega) (by omega) (by omega))) (fun i y hy hor => by
          rcases hor with u | ⟨-, -, j, u3, u4⟩
          · obtain ⟨b1, b2⟩ := hpa i y hy u
            refine ⟨fun u => by rw [o26 524 _ (by omega) (by omega) (by omega) (by omega)]; exact b1 u, fun u => ?_⟩
            obtain ⟨y', j, c1, c2, c3, c4⟩ := b2 u
            exact ⟨y', j, c1, c2, by rw [o26 524 _ (by omega) (by omega) (by omega) (by omega)]; exact c3, by rw [o26 525 _ (by omega) (by omega) (by omega) (by omega)]; exact c4⟩
          · have := (List.getElem?_eq_some_iff.mp u4).1
            omega)
        rw [List.drop_length] at hin
        exact hin
      rw [show I26.1 509 c = Int32.ofInt (ndR (N c)) from nd.1]
      rcases hN c hc with ⟨e1, -⟩ | ⟨r, s, hr, -, e3', -⟩
      · rw [e1] at rest ⊢
        rw [if_pos (by decide)] at rest
        rw [if_neg (show ¬ (0 : Int32) ≤ Int32.ofInt (-2) by decide)]
        intro v ev
        rw [ev, zi_succ]
        exact rest
      · rw [e3'] at rest ⊢
        rw [if_neg (by omega), Nat.add_zero] at rest
        rw [zi_int r, if_pos (zi_ge (by omega))]
        exact rest
  refine main (flR N R).length 0 0 [(R, 0, 1)] I6 (by omega) ?_ ?_ ?_ ⟨?_, trivial⟩ ⟨?_, fun i x hi _ => by omega, fun c hc hno => ?_⟩ (fun i x hx hi => ?_) q6
  · rw [List.drop_zero]
    show fl N R 0 0 0 1 = fl N R 0 0 0 1 ++ []
    rw [List.append_nil]
  · intro x hx
    cases List.mem_singleton.mp hx
    exact ⟨hR, Nat.le_refl 1, fun u => absurd rfl u⟩
  · rw [tkW_cons]
    show 0 + (ndT (N R) + 0) = n - 1
    omega
  · show I6.1 527 0 = zi R
    rw [e6, zu_oo (by decide), e5, zu_oo (by decide), e4]
    exact zu_self
  · rw [e6, zu_oo (by decide), e5, zu_oo (by decide), e4, zu_oo (by decide), e3, zu_self]
    rfl
  · rw [e6, zu_oo (by decide), e5, zu_oo (by decide), e4, zu_oo (by decide), e3, zu_oo (by decide)]
    exact hJ c hc
  · have hi0 : i = 0 := by omega
    subst hi0
    have h0 : (flR N R)[0]? = some (flH N R 0 0 1) := fl_0 hN hR
    rw [hx] at h0
    cases h0
    refine ⟨fun _ => ?_, fun u => by omega⟩
    show I6.1 524 R = -2
    rw [e6, zu_oo (by decide), e5, zu_self]
/-! ===== the RUNS and the statements that set a NAME: the model ===== -/
/-- how many nodes of RULE 2 -/
def cn2 (N : Nat → Nd) : List Fl → Nat
  | [] => 0
  | x :: L => (if ndR (N x.1) = 2 then 1 else 0) + cn2 N L
/-- their list -/
def st2 (N : Nat → Nd) : List Fl → List Nat
  | [] => []
  | x :: L => if ndR (N x.1) = 2 then x.1 :: st2 N L else st2 N L
theorem st2_len {N : Nat → Nd} : ∀ {L : List Fl}, (st2 N L).length = cn2 N L
  | [] => rfl
  | x :: L => by
    show (if ndR (N x.1) = 2 then x.1 :: st2 N L else st2 N L).length = (if ndR (N x.1) = 2 then 1 else 0) + cn2 N L
    by_cases u : ndR (N x.1) = 2
    · rw [if_pos u, if_pos u, List.length_cons, st2_len, Nat.add_comm]
    · rw [if_neg u, if_neg u, st2_len, Nat.zero_add]
theorem st2_mem {N : Nat → Nd} : ∀ {L : List Fl} {c : Nat}, c ∈ st2 N L → ∃ x ∈ L, x.1 = c ∧ ndR (N c) = 2
  | [], _, h => by cases h
  | x :: L, c, h => by
    have h' : c ∈ (if ndR (N x.1) = 2 then x.1 :: st2 N L else st2 N L) := h
    by_cases u : ndR (N x.1) = 2
    · rw [if_pos u] at h'
      rcases List.mem_cons.mp h' with rfl | h'
      · exact ⟨x, List.mem_cons_self .., rfl, u⟩
      · obtain ⟨y, y1, y2⟩ := st2_mem h'
        exact ⟨y, List.mem_cons_of_mem _ y1, y2⟩
    · rw [if_neg u] at h'
      obtain ⟨y, y1, y2⟩ := st2_mem h'
      exact ⟨y, List.mem_cons_of_mem _ y1, y2⟩
/-- TOKENS, but none of a token itself -/
def wt2 (N : Nat → Nd) (c : Nat) : Nat := if ndR (N c) < 0 then 0 else ndT (N c)
def wtW (N : Nat → Nd) (w : List (Nat × Nat × Nat)) : Nat := (w.map (fun x => wt2 N x.1)).sum
theorem wtW_cons {N : Nat → Nd} {x : Nat × Nat × Nat} {w : List (Nat × Nat × Nat)} : wtW N (x :: w) = wt2 N x.1 + wtW N w := by
  unfold wtW
  rw [List.map_cons, List.sum_cons]
theorem wtW_ch {N : Nat → Nd} {p d : Nat} {w : List (Nat × Nat × Nat)} : ∀ {l : List Nat}, wtW N (l.map (fun c => (c, p, d)) ++ w) = (l.map (wt2 N)).sum + wtW N w
  | [] => (Nat.zero_add _).symm
  | c :: l => by
    rw [List.map_cons, List.cons_append, wtW_cons, wtW_ch, List.map_cons, List.sum_cons, Nat.add_assoc]
theorem wt2_le {N : Nat → Nd} {c : Nat} : wt2 N c ≤ ndT (N c) := by
  unfold wt2
  split <;> omega
theorem wt2_sum {N : Nat → Nd} : ∀ {l : List Nat}, (l.map (wt2 N)).sum ≤ tkS N l
  | [] => Nat.le_refl _
  | c :: l => by
    rw [List.map_cons, List.sum_cons, tkS_cons]
    have := wt2_le (N := N) (c := c)
    have := wt2_sum (N := N) (l := l)
    omega
/-- one of the CHILDREN of a node of RULE 2 is a token -/
theorem wt2_two {m c : Nat} {N : Nat → Nd} (h : NdOk m N) (hc : c < m) (h2 : ndR (N c) = 2) : ((ndC (N c)).map (wt2 N)).sum + 1 ≤ ndT (N c) := by
  rcases h c hc with ⟨e1, -⟩ | ⟨r, s, hr, -, e3, -, -, e6, e7, e8⟩
  · omega
  · have hr2 : r = 2 := by omega
    subst hr2
    have e6' : (ndC (N c)).map (fun c => ndM (N c)) = [5, 7, 2, 8] := e6.trans (by decide +kernel)
    cases hl : ndC (N c) with
    | nil =>
      rw [hl] at e6'
      cases e6'
    | cons z l =>
      rw [hl] at e6' e8
      have hz : ndM (N z) = 5 := (List.cons.inj e6').1
      have hzc : z < c := e7 z (by rw [hl]; exact List.mem_cons_self ..)
      have hzt : ndR (N z) < 0 ∧ ndT (N z) = 1 := by
        rcases h z (by omega) with ⟨f1, -, -, f4, -⟩ | ⟨r', s', f1, -, f3, -⟩
        · exact ⟨by omega, f4⟩
        · have : ndM (N z) = syN r' := by
            unfold ndM
            rw [f3, if_neg (by omega)]
            rfl
          have h5 := (sy_fin r' f1).2
          change syN r' < 5 at h5
          omega
      rw [e8, tkS_cons, List.map_cons, List.sum_cons]
      have hw : wt2 N z = 0 := if_pos hzt.1
      have := wt2_sum (N := N) (l := l)
      omega
theorem cn2_le {m : Nat} {N : Nat → Nd} {F : List Fl} (h : NdOk m N) : ∀ (d p t : Nat) (w : List (Nat × Nat × Nat)), F.length ≤ p + d → (∀ y ∈ w, y.1 < m) → F.drop p = flS N w p t → cn2 N (F.drop p) ≤ wtW N w
  | 0, p, t, w, hd, _, _ => by
    rw [List.drop_of_length_le (by omega)]
    exact Nat.zero_le _
  | d + 1, p, t, w, hd, hw, hdr => by
    by_cases hp : F.length ≤ p
    · rw [List.drop_of_length_le hp]
      exact Nat.zero_le _
    · have hx : F[p]? = some (F[p]'(by omega)) := List.getElem?_eq_getElem (by omega)
      obtain ⟨c, q, dd, w', rfl, hc, hxe, h1, h2⟩ := flS_hd h hw hdr hx
      have i1 := cn2_le h d (p + 1) _ _ (by omega) (fun y hy => by
        rcases List.mem_append.mp hy with hy | hy
        · obtain ⟨z, hz, rfl⟩ := List.mem_map.mp hy
          have := h.lt hc hz
          show z < m
          omega
        · exact hw y (List.mem_cons_of_mem _ hy)) h1
      rw [wtW_ch] at i1
      rw [List.drop_eq_getElem_cons (by omega), hxe, wtW_cons]
      show (if ndR (N c) = 2 then 1 else 0) + cn2 N (F.drop (p + 1)) ≤ wt2 N c + wtW N w'
      by_cases u : ndR (N c) = 2
      · rw [if_pos u]
        have i2 := wt2_two h hc u
        have i3 : wt2 N c = ndT (N c) := if_neg (by omega)
        omega
      · rw [if_neg u]
        rcases h c hc with ⟨e1, e2, -⟩ | ⟨r, s, -, -, e3, -, -, -, -, e8⟩
        · rw [e2] at i1
          change _ ≤ 0 + wtW N w' at i1
          omega
        · have i3 : wt2 N c = ndT (N c) := if_neg (by omega)
          have := wt2_sum (N := N) (l := ndC (N c))
          omega
def setsOf (N : Nat → Nd) (R : Nat) : List Nat := st2 N (flR N R)
theorem sy_run : ∀ r, r < 11 → (syN r = 1 ↔ (r = 2 ∨ r = 3)) := by decide +kernel
def RnM (I : zI) (rs ss : List Nat) : Prop := I.1 491 51 = zi rs.length ∧ I.1 491 53 = zi ss.length ∧ (∀ i r, rs[i]? = some r → I.1 528 i = zi r) ∧ ∀ i r, ss[i]? = some r → I.1 529 i = zi r
def Qrn (a j : Nat) : Prop := (a = 491 ∧ (j = 51 ∨ j = 53)) ∨ a = 528 ∨ a = 529
theorem s_fillsRuns {m R : Nat} {N : Nat → Nd} {I : zI} {K : zI → Prop} (rep : RepNM I m N) (hN : NdOk m N) (hm : m ≤ 3700) (hR : R < m) (hlen : (flR N R).length ≤ 399) (hTk : ndT (N R) ≤ 99) (hF : I.1 491 43 = zi (flR N R).length) (h521 : ∀ (p : Nat) (x : Fl), (flR N R)[p]? = some x → x.1 < m ∧ I.1 521 p = zi x.1 ∧ I.1 522 p = zi (p + x.2.2.2.2) ∧ 1 ≤ x.2.2.2.2 ∧ x.2.2.2.2 ≤ 399)
    (hK : ∀ J, eqQ Qrn I J → RnM J (runsOf N R) (setsOf N R) → K J) : w_M_fillsRuns I K := by
  intro I1 e1 I2 e2
  have hstart : (flR N R).drop 0 = flS N [(R, 0, 1)] 0 0 := by
    rw [List.drop_zero]
    show fl N R 0 0 0 1 = fl N R 0 0 0 1 ++ []
    rw [List.append_nil]
  have hw0 : ∀ y ∈ [(R, 0, 1)], y.1 < m := fun y hy => by cases List.mem_singleton.mp hy; exact hR
  have htot : (runsOf N R).length ≤ 99 := by
    have := rnL_len (F := flR N R) hN 400 0 0 [(R, 0, 1)] hw0 hstart
    rw [tkW_cons] at this
    change (runsOf N R).length ≤ ndT (N R) + 0 at this
    omega
  have hst : (setsOf N R).length ≤ 99 := by
    have := cn2_le (F := flR N R) hN 400 0 0 [(R, 0, 1)] (by omega) hw0 hstart
    rw [List.drop_zero, wtW_cons] at this
    change _ ≤ wt2 N R + 0 at this
    have h2 : (setsOf N R).length = cn2 N (flR N R) := st2_len
    have h3 := wt2_le (N := N) (c := R)
    omega
  intro P14 h14
  have main : ∀ (d i q f : Nat) (rs ss : List Nat) (J : zI), i + d = (flR N R).length → i ≤ (if i < q then q else i) → q ≤ 1000 → (flR N R).length < (if i < q then q else i) + f → eqQ Qrn I J → RnM J rs ss → rs ++ rnL N (flR N R) f (if i < q then q else i) = runsOf N R → ss ++ st2 N ((flR N R).drop i) = setsOf N R → P14 (zi q) (zi i) J := by
    intro d
    induction d with
    | zero =>
      intro i q f rs ss J hi hq hq2 hf qJ rJ her hes
      refine h14 _ _ _ ?_
      rw [qJ.1 491 43 (by unfold Qrn; omega), hF, if_pos ((zi_le (by omega) (by omega)).mpr (by omega))]
      rw [rnL_no (by omega), List.append_nil] at her
      rw [List.drop_of_length_le (by omega)] at hes
      have hes' : ss = setsOf N R := by rw [← hes]; exact (List.append_nil _).symm
      refine hK J qJ ?_
      rw [← her, ← hes']
      exact rJ
    | succ d ih =>
      intro i q f rs ss J hi hq hq2 hf qJ rJ her hes
      refine h14 _ _ _ ?_
      rw [qJ.1 491 43 (by unfold Qrn; omega), hF, if_neg (fun u => by have := (zi_le (by omega) (by omega)).mp u; omega), zi_tn (show i < 2147483648 by omega)]
      have hx : (flR N R)[i]? = some ((flR N R)[i]'(by omega)) := List.getElem?_eq_getElem (by omega)
      have hdr : (flR N R).drop i = (flR N R)[i]'(by omega) :: (flR N R).drop (i + 1) := List.drop_eq_getElem_cons (by omega)
      generalize (flR N R)[i]'(by omega) = x at hx hdr
      obtain ⟨x1, x2, x3, x4, x5⟩ := h521 i x hx
      have hin : vp_in (zi i) 700 := (zin_iff (by omega)).mpr (by omega)
      refine ⟨hin, fun v3 ev3 => ?_⟩
      rw [qJ.1 521 i (by unfold Qrn; omega), x2] at ev3
      subst ev3
      have hcin : vp_in (zi x.1) 3700 := (zin_iff (by omega)).mpr (by omega)
      rw [zi_tn (show x.1 < 2147483648 by omega)]
      refine ⟨hcin, ?_⟩
      have hrule : ∀ A : zI, eqQ Qrn I A → A.1 509 x.1 = Int32.ofInt (ndR (N x.1)) := fun A qA => by
        rw [qA.1 509 _ (by unfold Qrn; omega)]
        exact (rep.2 x.1 x1).1
      have hR2 : Int32.ofInt (ndR (N x.1)) = 2 ↔ ndR (N x.1) = 2 := by
        rcases hN x.1 x1 with ⟨f1, -⟩ | ⟨r, s, f1, -, f3, -⟩
        · rw [f1]
          decide
        · rw [f3, zi_int r]
          constructor
          · intro u
            have := (zi_eq (b := 2) (by omega) (by decide)).mp u
            omega
          · intro u
            rw [show r = 2 by omega]
            rfl
      have hR3 : Int32.ofInt (ndR (N x.1)) = 3 ↔ ndR (N x.1) = 3 := by
        rcases hN x.1 x1 with ⟨f1, -⟩ | ⟨r, s, f1, -, f3, -⟩
        · rw [f1]
          decide
        · rw [f3, zi_int r]
          constructor
          · intro u
            have := (zi_eq (b := 3) (by omega) (by decide)).mp u
            omega
          · intro u
            rw [show r = 3 by omega]
            rfl
      have hM : ndM (N x.1) = 1 ↔ (ndR (N x.1) = 2 ∨ ndR (N x.1) = 3) := by
        rcases hN x.1 x1 with ⟨f1, -⟩ | ⟨r, s, f1, -, f3, -⟩
        · unfold ndM
          rw [f1, if_pos (by decide)]
          omega
        · have h1 := sy_run r f1
          unfold ndM
          rw [f3, if_neg (by omega)]
          show syN ((r : Int).toNat) = 1 ↔ _
          rw [Int.toNat_natCast, h1]
          omega
      intro P59 h59
      -- behind the list of sets
      have part : ∀ (ss2 : List Nat) (A : zI), eqQ Qrn I A → RnM A rs ss2 → ss2 ++ st2 N ((flR N R).drop (i + 1)) = setsOf N R → P59 A := by
        intro ss2 A qA rA hes2
        refine h59 _ ?_
        intro P114 h114
        by_cases hiq : i < q
        · rw [if_pos ((zi_lt (by omega) (by omega)).mpr hiq)]
          refine h114 _ _ (fun v ev => ?_)
          rw [ev, zi_succ]
          rw [if_pos hiq] at her hf hq
          have hmx : (if i + 1 < q then q else i + 1) = q := by
            by_cases u : i + 1 < q
            · rw [if_pos u]
            · rw [if_neg u]
              omega
          exact ih (i + 1) q f rs ss2 A (by omega) (by rw [hmx]; omega) hq2 (by rw [hmx]; omega) qA rA (by rw [hmx]; exact her) hes2
        · rw [if_neg (fun u => hiq ((zi_lt (by omega) (by omega)).mp u))]
          refine ⟨hcin, ?_⟩
          rw [if_neg hiq] at her hf hq
          obtain ⟨f', rfl⟩ : ∃ f', f = f' + 1 := ⟨f - 1, by omega⟩
          rw [rnL_at hx] at her
          intro P87 h87
          have yes : ndM (N x.1) = 1 → P87 := by
            intro hy
            rw [if_pos hy] at her
            have hrs : rs.length < 99 := by
              have := congrArg List.length her
              rw [List.length_append, List.length_cons] at this
              omega
            refine h87 ?_
            rw [rA.1, zi_tn (show rs.length < 2147483648 by omega)]
            refine ⟨(zin_iff (by omega)).mpr (by omega), fun I11 e11 I12 e12 => ⟨hin, fun v ev => ?_⟩⟩
            rw [show I11.1 491 51 = zi rs.length by rw [e11, zu_oo (by decide)]; exact rA.1, zi_succ] at e12
            have q12 : eqQ Qrn I I12 := by
              rw [e12, e11]
              exact (qA.zu (Or.inr (Or.inl rfl))).zu (Or.inl ⟨rfl, Or.inl rfl⟩)
            rw [q12.1 522 i (by unfold Qrn; omega), x3] at ev
            subst ev
            refine h114 _ _ (fun v ev => ?_)
            rw [ev, zi_succ]
            have hmx : (if i + 1 < i + x.2.2.2.2 then i + x.2.2.2.2 else i + 1) = i + x.2.2.2.2 := by
              by_cases u : i + 1 < i + x.2.2.2.2
              · rw [if_pos u]
              · rw [if_neg u]
                omega
            refine ih (i + 1) (i + x.2.2.2.2) f' (rs ++ [x.1]) ss2 I12 (by omega) (by rw [hmx]; omega) (by omega) (by rw [hmx]; omega) q12 ⟨?_, ?_, fun j r hj => ?_, fun j r hj => ?_⟩ (by rw [hmx, List.append_assoc]; exact her) hes2
            · rw [e12, zu_self, List.length_append]
              rfl
            · rw [e12, zu_at, if_neg (by decide), e11, zu_oo (by decide)]
              exact rA.2.1
            · rw [e12, zu_oo (by decide)]
              rcases snoc_at hj with hj | ⟨rfl, rfl⟩
              · have hjl := (List.getElem?_eq_some_iff.mp hj).1
                rw [e11, zu_at, if_neg (by omega)]
                exact rA.2.2.1 j r hj
              · rw [e11, zu_self]
            · rw [e12, zu_oo (by decide), e11, zu_oo (by decide)]
              exact rA.2.2.2 j r hj
          have no : ndM (N x.1) ≠ 1 → P114 (zi q) A := by
            intro hy
            rw [if_neg hy] at her
            refine h114 _ _ (fun v ev => ?_)
            rw [ev, zi_succ]
            have hmx : (if i + 1 < q then q else i + 1) = i + 1 := if_neg (by omega)
            exact ih (i + 1) q f' rs ss2 A (by omega) (by rw [hmx]; omega) hq2 (by rw [hmx]; omega) qA rA (by rw [hmx]; exact her) hes2
          rw [hrule A qA]
          by_cases c2 : ndR (N x.1) = 2
          · rw [if_pos (hR2.mpr c2)]
            exact yes (hM.mpr (Or.inl c2))
          · rw [if_neg (fun u => c2 (hR2.mp u))]
            refine ⟨hcin, ?_⟩
            by_cases c3 : ndR (N x.1) = 3
            · rw [if_pos (hR3.mpr c3)]
              exact yes (hM.mpr (Or.inr c3))
            · rw [if_neg (fun u => c3 (hR3.mp u))]
              exact no (fun u => by rcases hM.mp u with w | w <;> omega)
      rw [hdr] at hes
      have hes' : ss ++ (if ndR (N x.1) = 2 then x.1 :: st2 N ((flR N R).drop (i + 1)) else st2 N ((flR N R).drop (i + 1))) = setsOf N R := hes
      rw [hrule J qJ]
      by_cases c2 : ndR (N x.1) = 2
      · rw [if_pos (hR2.mpr c2)]
        rw [if_pos c2] at hes'
        have hss : ss.length < 99 := by
          have := congrArg List.length hes'
          rw [List.length_append, List.length_cons] at this
          omega
        rw [rJ.2.1, zi_tn (show ss.length < 2147483648 by omega)]
        refine ⟨(zin_iff (by omega)).mpr (by omega), fun I17 e17 I18 e18 => ?_⟩
        rw [show I17.1 491 53 = zi ss.length by rw [e17, zu_oo (by decide)]; exact rJ.2.1, zi_succ] at e18
        refine part (ss ++ [x.1]) I18 ?_ ⟨?_, ?_, fun j r hj => ?_, fun j r hj => ?_⟩ (by rw [List.append_assoc]; exact hes')
        · rw [e18, e17]
          exact (qJ.zu (Or.inr (Or.inr rfl))).zu (Or.inl ⟨rfl, Or.inr rfl⟩)
        · rw [e18, zu_at, if_neg (by decide), e17, zu_oo (by decide)]
          exact rJ.1
        · rw [e18, zu_self, List.length_append]
          rfl
        · rw [e18, zu_oo (by decide), e17, zu_oo (by decide)]
          exact rJ.2.2.1 j r hj
        · rw [e18, zu_oo (by decide)]
          rcases snoc_at hj with hj | ⟨rfl, rfl⟩
          · have hjl := (List.getElem?_eq_some_iff.mp hj).1
            rw [e17, zu_at, if_neg (by omega)]
            exact rJ.2.2.2 j r hj
          · rw [e17, zu_self]
      · rw [if_neg (fun u => c2 (hR2.mp u))]
        rw [if_neg c2] at hes'
        exact part ss J qJ rJ hes'
  refine main (flR N R).length 0 0 400 [] [] I2 (by omega) (by omega) (by omega) (by rw [if_neg (by omega)]; omega) ?_ ⟨?_, ?_, (fun i r hi => by cases hi), (fun i r hi => by cases hi)⟩ (by rw [if_neg (by omega)]; rfl) ?_
  · rw [e2, e1]
    exact (eqQ.rf.zu (Or.inl ⟨rfl, Or.inl rfl⟩)).zu (Or.inl ⟨rfl, Or.inr rfl⟩)
  · rw [e2, zu_at, if_neg (by decide), e1, zu_self]
    rfl
  · rw [e2, zu_self]
    rfl
  · rw [List.drop_zero]
    rfl
/-- what the model sees of a TREE -/
def ViM (I : zI) (N : Nat → Nd) (R n : Nat) : Prop :=
  I.1 491 37 = zi R ∧ LdM I (flR N R) (n - 1) (flR N R).length ∧ (∀ (i : Nat) (x : Fl), (flR N R)[i]? = some x → I.1 522 i = zi (i + x.2.2.2.2) ∧ PaM I N (flR N R) i x) ∧ RnM I (runsOf N R) (setsOf N R)
theorem sz_inR {m R p : Nat} {N : Nat → Nd} {x : Fl} (hN : NdOk m N) (hR : R < m) (hx : (flR N R)[p]? = some x) : x.2.2.2.2 = sz N x.1 ∧ 1 ≤ sz N x.1 ∧ p + sz N x.1 ≤ (flR N R).length := by
  obtain ⟨b1, -, o, -, e4, -, e6⟩ := fl_in hN R hR _ _ _ _ _ _ hx
  have hxm : x.1 < m := by omega
  have hp := sz_pos hN hxm
  refine ⟨by rw [e4]; rfl, hp, ?_⟩
  have h6 := e6 (sz N x.1 - 1) (by omega)
  have h7 : (fl N x.1 x.2.1 (0 + p) (0 + o) x.2.2.2.1)[sz N x.1 - 1]? = some ((fl N x.1 x.2.1 (0 + p) (0 + o) x.2.2.2.1)[sz N x.1 - 1]'(by rw [fl_len hN _ hxm]; omega)) := List.getElem?_eq_getElem _
  rw [h7] at h6
  have h8 := (List.getElem?_eq_some_iff.mp h6).1
  have h9 : (flR N R).length = (fl N R 0 0 0 1).length := rfl
  omega
theorem s_Mtree {m R n : Nat} {og : Nat → Nat} {N : Nat → Nd} {I : zI} {K : zI → Prop} (rep : RepNM I m N) (hN : NdOk m N) (hu : UqE m N) (hm : m ≤ 3700) (t : TreeI m N R n og) (hT : I.1 491 37 = zi R)
    (hK : ∀ J, eqQ Qft I J → ViM J N R n → K J) : w_M_fillsTree I K := by
  have hl : (flR N R).length ≤ 399 := by
    have h1 := t.few hN
    have h2 : (flR N R).length = sz N R := fl_len hN R t.1 _ _ _ _
    omega
  have fg := t.flG hN hu
  refine s_fillsTree rep hN hu hm t hT (fun J qJ ld hpa => ?_)
  refine s_fillsRuns (rep.kp hN.ch (qJ.1 _ _ (by unfold Qft; omega)) (fun a j h1 h2 => qJ.1 a j (by unfold Qft; omega)) (fun j => qJ.2 511 j (by unfold Qft; omega))) hN hm t.1 hl (by have := t.tk hN; have := t.2.2.2.2.2.2.2; omega) ld.1 (fun p x hx => ?_) (fun J2 q2 rn => ?_)
  · obtain ⟨s1, s2, s3⟩ := sz_inR hN t.1 hx
    exact ⟨(fg.1.2 p x hx).1, (ld.2.1 p x (List.getElem?_eq_some_iff.mp hx).1 hx).1, (hpa p x hx).1, by omega, by omega⟩
  · refine hK J2 (qJ.tr (q2.mono (fun a j h => by unfold Qrn at h; unfold Qft; omega))) ⟨by rw [q2.1 _ _ (by unfold Qrn; omega), qJ.1 _ _ (by unfold Qft; omega)]; exact hT, ⟨by rw [q2.1 _ _ (by unfold Qrn; omega)]; exact ld.1, fun i x hi hx => ?_, fun c hc hno => by rw [q2.1 _ _ (by unfold Qrn; omega)]; exact ld.2.2 c hc hno⟩, fun i x hx => ?_, rn⟩
    · obtain ⟨b1, b2, o, b3, b4, b5⟩ := ld.2.1 i x hi hx
      rw [q2.1 521 _ (by unfold Qrn; omega), q2.1 523 _ (by unfold Qrn; omega)]
      exact ⟨b1, b2, o, b3, by rw [q2.1 526 _ (by unfold Qrn; omega)]; exact b4, b5⟩
    · obtain ⟨b1, b2, b3⟩ := hpa i x hx
      rw [q2.1 522 _ (by unfold Qrn; omega)]
      refine ⟨b1, fun u => by rw [q2.1 524 _ (by unfold Qrn; omega)]; exact b2 u, fun u => ?_⟩
      obtain ⟨y, j, c1, c2, c3, c4⟩ := b3 u
      exact ⟨y, j, c1, c2, by rw [q2.1 524 _ (by unfold Qrn; omega)]; exact c3, by rw [q2.1 525 _ (by unfold Qrn; omega)]; exact c4⟩
