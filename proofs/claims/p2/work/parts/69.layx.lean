/-! ===== a tree laid flat: the class ===== -/
theorem s_childrenOf {m c : Nat} {N : Nat → Nd} {I : zI} {K : Int32 → Prop} (rep : RepNX I m N) (hN : NdOk m N) (hm : m ≤ 3400) (hc : c < m) (hK : K (zi (ndC (N c)).length)) : w_Nodes_childrenOf (zi c) I K := by
  unfold w_Nodes_childrenOf
  have nd := rep.2 c hc
  refine (w_get (by decide)).mpr ?_
  rw [rg_in (by decide) (show c < 3400 by omega), show I.1 (25 + 1) c = Int32.ofInt (ndR (N c)) from nd.1]
  rcases hN c hc with ⟨e1, e2, -⟩ | ⟨r, s, hr, -, e3, -, -, e6, -⟩
  · rw [e1]
    refine s_lengthOf_neg (by decide) ?_
    rw [e2] at hK
    exact hK
  · rw [e3, zi_int r]
    refine s_lengthOf hr ?_
    have h1 := congrArg List.length e6
    rw [List.length_map, (rh_fin r hr).1] at h1
    rw [h1] at hK
    exact hK
theorem s_childOf {m c k z : Nat} {N : Nat → Nd} {I : zI} {K : Int32 → Prop} (rep : RepNX I m N) (hm : m ≤ 3400) (hc : c < m) (hch : (ndC (N c)).length ≤ 4) (hk : (ndC (N c))[k]? = some z) (hK : K (zi z)) : w_Nodes_childOf (zi c) (zi k) I K := by
  unfold w_Nodes_childOf
  have nd := rep.2 c hc
  have hkl := (List.getElem?_eq_some_iff.mp hk).1
  rw [show zi c * 4 + zi k = zi (c * 4 + k) by rw [show (4 : Int32) = zi 4 from rfl, zi_mul, zi_add]]
  refine (w_get (by decide)).mpr ?_
  rw [rg_in (by decide) (show c * 4 + k < 13600 by omega), show I.1 (41 + 1) (c * 4 + k) = zi z by
    rw [Nat.mul_comm]
    exact nd.2.2.2.2.2.1 k z hk]
  exact hK
theorem s_isToken {m c : Nat} {N : Nat → Nd} {I : zI} {K : Int32 → Prop} (rep : RepNX I m N) (hN : NdOk m N) (hm : m ≤ 3400) (hc : c < m) (hK : K (if ndR (N c) < 0 then 1 else 0)) : w_Nodes_isToken (zi c) I K := by
  unfold w_Nodes_isToken
  have nd := rep.2 c hc
  refine (w_get (by decide)).mpr ?_
  rw [rg_in (by decide) (show c < 3400 by omega), show I.1 (25 + 1) c = Int32.ofInt (ndR (N c)) from nd.1]
  rcases hN c hc with ⟨e1, -⟩ | ⟨r, s, hr, -, e3, -⟩
  · rw [e1] at hK ⊢
    rw [if_pos (by decide)] at hK
    rw [if_neg (show ¬ (0 : Int32) ≤ Int32.ofInt (-2) by decide)]
    exact hK
  · rw [e3] at hK ⊢
    rw [if_neg (by omega)] at hK
    rw [zi_int r, if_pos (zi_ge (by omega))]
    exact hK
def Qlf (a j : Nat) : Prop := Qly a j ∨ a = 57 ∨ a = 59
def StkO (m p : Nat) (F : List Fl) (w : List (Nat × Nat × Nat)) : Prop := ∀ x ∈ w, x.1 < m ∧ 1 ≤ x.2.2 ∧ (x.2.2 ≠ 1 → x.2.1 < p ∧ ∃ y : Fl, F[x.2.1]? = some y ∧ y.2.2.2.1 + 1 = x.2.2)
theorem s_layFlat {m R : Nat} {N : Nat → Nd} {I : zI} {K : zI → Prop} (rep : RepNX I m N) (hN : NdOk m N) (hm : m ≤ 3400) (hR : R < m) (hT : I.1 43 13 = zi R) (hlen : (flR N R).length ≤ 399) (htk : ∀ c, c < m → ndT (N c) ≤ 1000) (hu : ∀ (p q : Nat) (x y : Fl), (flR N R)[p]? = some x → (flR N R)[q]? = some y → x.1 = y.1 → p = q) (hpl : PlX I)
    (hK : ∀ J, eqQ Qlf I J → LdX J (flR N R) (flR N R).length → PlX J → K J) : w_TreeView_layFlat I K := by
  unfold w_TreeView_layFlat
  intro I1 e1
  have g1 : I1.1 43 13 = zi R := by rw [e1, zu_at, if_neg (by decide)]; exact hT
  refine (w_set (by decide)).mpr ?_
  rw [g1, show rs I1 (56 + 1) 400 0 (zi R) = zu I1 57 0 (zi R) from rs_in (i := 0) (by decide) (by decide)]
  generalize e2 : zu I1 57 0 (zi R) = I2
  refine (w_set (by decide)).mpr ?_
  rw [show rs I2 (58 + 1) 400 0 (-1) = zu I2 59 0 (-1) from rs_in (i := 0) (by decide) (by decide)]
  generalize e3 : zu I2 59 0 (-1) = I3
  have q3 : eqQ Qlf I I3 := by
    rw [← e3, ← e2, e1]
    exact ((eqQ.rf.zu (Or.inl (Or.inl ⟨rfl, rfl⟩))).zu (Or.inr (Or.inl rfl))).zu (Or.inr (Or.inr rfl))
  intro P32 h32
  have main : ∀ (d p t : Nat) (w : List (Nat × Nat × Nat)) (J : zI), p + d = (flR N R).length → (flR N R).drop p = flS N w p t → StkO m p (flR N R) w → StkX J w → LdX J (flR N R) p → PlX J → eqQ Qlf I J → P32 (zi w.length) (zi t) (zi p) J := by
    intro d
    induction d with
    | zero =>
      intro p t w J hp hdr hso hsx hld hpj hq
      refine h32 _ _ _ _ ?_
      have hw : w = [] := by
        have h1 := flS_len hN (p := p) (t := t) (fun x hx => (hso x hx).1)
        rw [← hdr, List.length_drop] at h1
        exact List.eq_nil_of_length_eq_zero (by omega)
      subst hw
      have hJ : K J := hK J hq (by rw [show (flR N R).length = p by omega]; exact hld) hpj
      by_cases u : (400 : Int32) ≤ zi p
      · rw [if_pos u]
        exact hJ
      · rw [if_neg u, if_pos (show zi (List.length ([] : List (Nat × Nat × Nat))) ≤ 0 by decide)]
        exact hJ
    | succ d ih =>
      intro p t w J hp hdr hso hsx hld hpj hq
      refine h32 _ _ _ _ ?_
      cases w with
      | nil =>
        have h1 := congrArg List.length hdr
        rw [List.length_drop] at h1
        change _ = 0 at h1
        omega
      | cons x w =>
        obtain ⟨c, q, dd⟩ := x
        obtain ⟨hc, hd1, hq1⟩ := hso _ (List.mem_cons_self ..)
        dsimp only at hc hd1 hq1
        have hstep := flS_step (q := q) (d := dd) (p := p) (t := t) (w := w) hN hc
        rw [hstep] at hdr
        have hx : (flR N R)[p]? = some (flH N c q t dd) := by
          have h1 : ((flR N R).drop p)[0]? = some (flH N c q t dd) := by
            rw [hdr]
            rfl
          rw [List.getElem?_drop] at h1
          exact h1
        have hdr2 : (flR N R).drop (p + 1) = flS N ((ndC (N c)).map (fun c' => (c', p, dd + 1)) ++ w) (p + 1) (t + if ndR (N c) < 0 then 1 else 0) := by
          rw [← List.drop_drop, hdr]
          rfl
        have hwl := flS_len hN (w := (c, q, dd) :: w) (p := p) (t := t) (fun x hx => (hso x hx).1)
        rw [hstep, ← hdr, List.length_drop, List.length_cons] at hwl
        rw [if_neg (show ¬ (400 : Int32) ≤ zi p from fun u => by have := (zi_le (a := 400) (by decide) (by omega)).mp u; omega), if_neg (show ¬ zi (List.length ((c, q, dd) :: w)) ≤ 0 from fun u => by have := (zi_le (b := 0) (by rw [List.length_cons]; omega) (by decide)).mp u; rw [List.length_cons] at this; omega)]
        intro v1 ev1
        rw [List.length_cons, zi_pred (by omega), Nat.add_sub_cancel] at ev1
        subst ev1
        obtain ⟨k1, k2, k3⟩ := hsx
        refine (w_get (by decide)).mpr ?_
        rw [rg_in (by decide) (show w.length < 400 by omega), show J.1 (56 + 1) w.length = zi c from k1]
        refine (w_get (by decide)).mpr ?_
        rw [rg_in (by decide) (show w.length < 400 by omega), show J.1 (58 + 1) w.length = pqI dd q from k2]
        have ch := hN.ch
        have kp1 : ∀ (A B : zI), eqQ Qlf A B → RepNX A m N → RepNX B m N := fun A B hAB r => r.kp ch (fun a j h1 h2 _ => hAB.1 a j (by unfold Qlf Qly; omega))
        have repJ := kp1 _ _ hq rep
        refine s_layNode repJ hN hm hc (by omega) hld hx hu (htk c hc) hd1 hq1 hpj (fun J2 q2 ld2 pl2 => ?_)
        have q2' : eqQ Qlf I J2 := hq.tr (q2.mono (fun a j h => Or.inl h))
        have rep2 := kp1 _ _ q2' rep
        refine s_isToken rep2 hN hm hc ?_
        intro P89 h89
        have rest : ∀ t13 : Int32, t13 = zi (if ndR (N c) < 0 then 1 else 0) → P89 t13 := by
          intro t13 et
          refine h89 _ ?_
          intro v2 ev2
          rw [et, zi_add] at ev2
          subst ev2
          refine s_childrenOf rep2 hN hm hc ?_
          intro v5 ev5
          subst ev5
          have hnc : (ndC (N c)).length ≤ 4 := ch c hc
          have hso2 : StkO m (p + 1) (flR N R) ((ndC (N c)).map (fun c' => (c', p, dd + 1)) ++ w) := by
            intro x hx'
            rcases List.mem_append.mp hx' with hx' | hx'
            · obtain ⟨z, hz, rfl⟩ := List.mem_map.mp hx'
              exact ⟨(show z < m by have := hN.lt hc hz; omega), (show 1 ≤ dd + 1 by omega), fun _ => ⟨(show p < p + 1 by omega), flH N c q t dd, hx, rfl⟩⟩
            · obtain ⟨b1, b2, b3⟩ := hso x (List.mem_cons_of_mem _ hx')
              refine ⟨b1, b2, fun u => ?_⟩
              obtain ⟨c1, c2⟩ := b3 u
              exact ⟨by omega, c2⟩
          have hwl2 := flS_len hN (p := p + 1) (t := t + if ndR (N c) < 0 then 1 else 0) (fun x hx => (hso2 x hx).1)
          rw [← hdr2, List.length_drop, List.length_append, List.length_map] at hwl2
          intro P104 h104
          have inner : ∀ (k : Nat) (A : zI), k ≤ (ndC (N c)).length → eqQ Qlf I A → LdX A (flR N R) (p + 1) → PlX A → StkX A (((ndC (N c)).drop k).map (fun c' => (c', p, dd + 1)) ++ w) → P104 (zi (((ndC (N c)).drop k).map (fun c' => (c', p, dd + 1)) ++ w).length) (zi k - 1) A := by
            intro k
            induction k with
            | zero =>
              intro A hk qA ldA plA sxA
              refine h104 _ _ _ ?_
              rw [if_pos (show zi 0 - 1 < 0 by decide)]
              intro v3 ev3
              rw [ev3, zi_succ]
              rw [List.drop_zero] at sxA ⊢
              exact ih (p + 1) _ _ A (by omega) hdr2 hso2 sxA ldA plA qA
            | succ k ihk =>
              intro A hk qA ldA plA sxA
              refine h104 _ _ _ ?_
              rw [show zi (k + 1) - 1 = zi k from zi_sub (b := 1) (by omega), if_neg (zi_pos (by omega))]
              have hz : (ndC (N c))[k]? = some ((ndC (N c))[k]'(by omega)) := List.getElem?_eq_getElem (by omega)
              refine s_childOf (kp1 _ _ qA rep) hm hc hnc hz ?_
              have hcl : (((ndC (N c)).drop (k + 1)).map (fun c' => (c', p, dd + 1)) ++ w).length = (ndC (N c)).length - (k + 1) + w.length := by
                rw [List.length_append, List.length_map, List.length_drop]
              rw [hcl]
              have hlt : (ndC (N c)).length - (k + 1) + w.length < 400 := by omega
              refine (w_set (by decide)).mpr ?_
              rw [rs_in (by decide) hlt]
              generalize ea : zu A (56 + 1) ((ndC (N c)).length - (k + 1) + w.length) (zi ((ndC (N c))[k]'(by omega))) = A1
              refine (w_set (by decide)).mpr ?_
              rw [show A1.1 43 12 - 1 = zi p by
                rw [← ea, zu_oo (by decide), ldA.1]
                exact zi_sub (b := 1) (by omega), rs_in (by decide) hlt]
              generalize eb : zu A1 (58 + 1) ((ndC (N c)).length - (k + 1) + w.length) (zi p) = A2
              intro v1' ev1' v5' ev5'
              rw [zi_succ] at ev1'
              subst ev1'
              have e5 : v5' = zi k - 1 := by
                rw [ev5', Int32.sub_eq_add_neg]
              subst e5
              have hdk : (ndC (N c)).drop k = ((ndC (N c))[k]'(by omega)) :: (ndC (N c)).drop (k + 1) := List.drop_eq_getElem_cons (by omega)
              have hcl2 : (((ndC (N c)).drop k).map (fun c' => (c', p, dd + 1)) ++ w).length = (ndC (N c)).length - (k + 1) + w.length + 1 := by
                rw [List.length_append, List.length_map, List.length_drop]
                omega
              have oA : ∀ a j, ¬ (a = 57 ∧ j = (ndC (N c)).length - (k + 1) + w.length) → ¬ (a = 59 ∧ j = (ndC (N c)).length - (k + 1) + w.length) → A2.1 a j = A.1 a j := fun a j u v => by rw [← eb, zu_at, if_neg v, ← ea, zu_at, if_neg u]
              have key := ihk A2 (by omega) (by
                rw [← eb, ← ea]
                exact (qA.zu (Or.inr (Or.inl rfl))).zu (Or.inr (Or.inr rfl))) ⟨by rw [oA _ _ (by omega) (by omega)]; exact ldA.1, fun i x hi hx' => by
                  rw [oA _ _ (by omega) (by omega), oA _ _ (by omega) (by omega), oA _ _ (by omega) (by omega), oA _ _ (by omega) (by omega), oA _ _ (by omega) (by omega), oA _ _ (by omega) (by omega)]
                  exact ldA.2 i x hi hx'⟩ (fun c' hc' => by rw [oA _ _ (by omega) (by omega)]; exact plA c' hc') (by
                  rw [hdk]
                  refine ⟨?_, ?_, ?_⟩
                  · show A2.1 57 (((ndC (N c)).drop (k + 1)).map (fun c' => (c', p, dd + 1)) ++ w).length = _
                    rw [hcl, ← eb, zu_oo (by decide), ← ea, zu_self]
                  · show A2.1 59 (((ndC (N c)).drop (k + 1)).map (fun c' => (c', p, dd + 1)) ++ w).length = _
                    rw [hcl, ← eb, zu_self]
                    exact (show pqI (dd + 1) p = zi p from if_neg (by omega)).symm
                  · refine StkX.kp sxA (fun j hj => ?_)
                    change j < (((ndC (N c)).drop (k + 1)).map (fun c' => (c', p, dd + 1)) ++ w).length at hj
                    rw [hcl] at hj
                    exact ⟨oA _ _ (by omega) (by omega), oA _ _ (by omega) (by omega)⟩)
              rw [hcl2] at key
              exact key
          have hin := inner (ndC (N c)).length J2 (Nat.le_refl _) q2' ld2 pl2 (by
            rw [List.drop_length]
            refine StkX.kp k3 (fun j _ => ⟨q2.1 _ _ (by unfold Qly; omega), q2.1 _ _ (by unfold Qly; omega)⟩))
          rw [List.drop_length] at hin
          exact hin
        by_cases u : ndR (N c) < 0
        · rw [if_pos u] at rest ⊢
          rw [if_neg (show ¬ (1 : Int32) = 0 by decide)]
          exact rest 1 rfl
        · rw [if_neg u] at rest ⊢
          rw [if_pos (show (0 : Int32) = 0 from rfl)]
          exact rest 0 rfl
  refine main (flR N R).length 0 0 [(R, 0, 1)] I3 (by omega) ?_ ?_ ⟨?_, ?_, trivial⟩ ⟨?_, fun i x hi _ => by omega⟩ (fun c hc => ?_) q3
  · rw [List.drop_zero]
    show fl N R 0 0 0 1 = fl N R 0 0 0 1 ++ []
    rw [List.append_nil]
  · intro x hx
    cases List.mem_singleton.mp hx
    exact ⟨hR, Nat.le_refl 1, fun u => absurd rfl u⟩
  · show I3.1 57 0 = zi R
    rw [← e3, zu_oo (by decide), ← e2, zu_self]
  · show I3.1 59 0 = pqI 1 0
    rw [← e3, zu_self]
    rfl
  · rw [← e3, zu_oo (by decide), ← e2, zu_oo (by decide), e1, zu_self]
    rfl
  · rw [← e3, zu_oo (by decide), ← e2, zu_oo (by decide), e1, zu_oo (by decide)]
    exact hpl c hc
