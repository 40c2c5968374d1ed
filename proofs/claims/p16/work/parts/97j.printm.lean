/-! ===== print: the model ===== -/
def Qpp (a j : Nat) : Prop := a = 543 ∨ a = 544 ∨ (a = 491 ∧ j = 80)
/-- bytes that are printed of what lies there; places it comes to take; steps -/
def bB (N : Nat → Nd) (e : Nat) : Nat := if 1000 ≤ e then 8 * ndT (N (e - 1000)) else 1
def bP (N : Nat → Nd) (e : Nat) : Nat := if 1000 ≤ e then sz N (e - 1000) + ndT (N (e - 1000)) else 1
def bM (N : Nat → Nd) (e : Nat) : Nat := if 1000 ≤ e then 2 * (sz N (e - 1000) + ndT (N (e - 1000))) else 1
def sB (N : Nat → Nd) (w : List Nat) : Nat := (w.map (bB N)).sum
def sP (N : Nat → Nd) (w : List Nat) : Nat := (w.map (bP N)).sum
def sM (N : Nat → Nd) (w : List Nat) : Nat := (w.map (bM N)).sum
theorem sB_cons {N : Nat → Nd} {e : Nat} {w : List Nat} : sB N (e :: w) = bB N e + sB N w := by
  unfold sB
  rw [List.map_cons, List.sum_cons]
theorem sP_cons {N : Nat → Nd} {e : Nat} {w : List Nat} : sP N (e :: w) = bP N e + sP N w := by
  unfold sP
  rw [List.map_cons, List.sum_cons]
theorem sM_cons {N : Nat → Nd} {e : Nat} {w : List Nat} : sM N (e :: w) = bM N e + sM N w := by
  unfold sM
  rw [List.map_cons, List.sum_cons]
theorem bB_nd {N : Nat → Nd} {c : Nat} : bB N (1000 + c) = 8 * ndT (N c) := by
  unfold bB
  rw [if_pos (by omega), Nat.add_sub_cancel_left]
theorem bP_nd {N : Nat → Nd} {c : Nat} : bP N (1000 + c) = sz N c + ndT (N c) := by
  unfold bP
  rw [if_pos (by omega), Nat.add_sub_cancel_left]
theorem bM_nd {N : Nat → Nd} {c : Nat} : bM N (1000 + c) = 2 * (sz N c + ndT (N c)) := by
  unfold bM
  rw [if_pos (by omega), Nat.add_sub_cancel_left]
theorem b_by {N : Nat → Nd} {e : Nat} (h : e < 1000) : bB N e = 1 ∧ bP N e = 1 ∧ bM N e = 1 := by
  unfold bB bP bM
  rw [if_neg (by omega), if_neg (by omega), if_neg (by omega)]
  exact ⟨rfl, rfl, rfl⟩
/-- children laid there, the first on top -/
theorem s_ch {N : Nat → Nd} {w : List Nat} : ∀ {l : List Nat}, sB N (l.map (fun c => 1000 + c) ++ w) = 8 * tkS N l + sB N w ∧ sP N (l.map (fun c => 1000 + c) ++ w) = szS N l + tkS N l + sP N w ∧ sM N (l.map (fun c => 1000 + c) ++ w) = 2 * (szS N l + tkS N l) + sM N w
  | [] => by
    have h1 : tkS N [] = 0 := rfl
    have h2 : szS N [] = 0 := rfl
    rw [h1, h2]
    show sB N w = _ ∧ sP N w = _ ∧ sM N w = _
    omega
  | c :: l => by
    obtain ⟨i1, i2, i3⟩ := s_ch (l := l)
    rw [List.map_cons, List.cons_append, sB_cons, sP_cons, sM_cons, i1, i2, i3, bB_nd, bP_nd, bM_nd, tkS_cons, szS_cons]
    omega
def StkP (I : zI) : List Nat → Prop
  | [] => True
  | e :: w => I.1 543 w.length = zi e ∧ StkP I w
theorem StkP.kp {I J : zI} : ∀ {w : List Nat}, StkP I w → (∀ j, j < w.length → J.1 543 j = I.1 543 j) → StkP J w
  | [], _, _ => trivial
  | e :: w, h, q => ⟨(q w.length (Nat.lt_succ_self _)).trans h.1, h.2.kp (fun j hj => q j (Nat.lt_succ_of_lt hj))⟩
theorem r_pushes {e : Nat} {w : List Nat} {I : zI} {K : Int32 → zI → Prop} (hl : w.length < 700) (h : StkP I w) (hK : ∀ J, eqQ Qpp I J → J.1 491 80 = I.1 491 80 → StkP J (e :: w) → K (zi (e :: w).length) J) : w_M_pushes (zi w.length) (zi e) I K := by
  unfold w_M_pushes
  refine ⟨(zin_iff (by omega)).mpr (by omega), fun I1 e1 => ?_⟩
  rw [zi_tn (show w.length < 2147483648 by omega)] at e1
  rw [zi_succ]
  refine hK I1 (by rw [e1]; exact eqQ.rf.zu (Or.inl rfl)) (by rw [e1, zu_oo (by decide)]) ⟨by rw [e1, zu_self], h.kp (fun j hj => by rw [e1, zu_at, if_neg (by omega)])⟩
theorem r_says {k : Nat} {v : Int32} {I : zI} {K : zI → Prop} (hk : k < 1000) (h80 : I.1 491 80 = zi k) (hK : ∀ J, eqQ Qpp I J → J.1 491 80 = zi (k + 1) → (∀ j, J.1 543 j = I.1 543 j) → K J) : w_M_says v I K := by
  unfold w_M_says
  rw [h80]
  refine ⟨(zin_iff (by omega)).mpr (by omega), fun I1 e1 I2 e2 => ?_⟩
  have g : I1.1 491 80 = zi k := by rw [e1, zu_oo (by decide)]; exact h80
  rw [g, zi_succ] at e2
  refine hK I2 ?_ (by rw [e2, zu_self]) (fun j => by rw [e2, zu_oo (by decide), e1, zu_oo (by decide)])
  rw [e2, e1]
  exact (eqQ.rf.zu (Or.inr (Or.inl rfl))).zu (Or.inr (Or.inr ⟨rfl, rfl⟩))
/-- where the good tokens are -/
def GdW (I : zI) (n : Nat) : Prop := ∀ o, o < n → ∃ pl wd, I.1 505 o = zi pl ∧ I.1 506 o = zi wd ∧ wd ≤ 8 ∧ pl + wd ≤ 300
theorem RM.gdw {I : zI} {x : Sg} (hv : Iv x) (h : RM I x) : GdW I (lexL (moG (sgC x))).length := by
  intro o ho
  have o2 := hv.2.2.2.2.2.2.2.1.2.1
  obtain ⟨k1, k2, k3, k4, k5⟩ := kd_ok o2
  obtain ⟨u1, u2⟩ := h.2.2.2.2.2.2.2.1.2.2.2.2.2.2.1
  have hy := k5 o ho
  obtain ⟨q1, q2⟩ := lex_ok o2.2.1 _ (List.mem_of_getElem? hy)
  have l300 := o2.1
  obtain ⟨-, w2, w3, -⟩ := u2 o _ hy
  exact ⟨_, _, w2, w3, q1.2.1, by omega⟩
theorem GdW.kp {I J : zI} {n : Nat} (h : GdW I n) (e : ∀ a j, a = 505 ∨ a = 506 → J.1 a j = I.1 a j) : GdW J n := fun o ho => by
  obtain ⟨pl, wd, a, b, c⟩ := h o ho
  exact ⟨pl, wd, by rw [e 505 _ (Or.inl rfl)]; exact a, by rw [e 506 _ (Or.inr rfl)]; exact b, c⟩
theorem r_saysToken {c p d k m R n : Nat} {N : Nat → Nd} {og : Nat → Nat} {I : zI} {K : zI → Prop} (V : Vw I m R n N og) (G : GdW I n) (hI : InP N R c p d) (hT : ndT (N c) = 1) (hk : k + 8 ≤ 1000) (h80 : I.1 491 80 = zi k) (hK : ∀ J k', eqQ Qpp I J → k' ≤ k + 8 → J.1 491 80 = zi k' → (∀ j, J.1 543 j = I.1 543 j) → K J) : w_M_saysToken (zi c) I K := by
  obtain ⟨l1, l2, l3, l4, l5, l6, l7⟩ := V.len
  have hm := V.2.2.1
  obtain ⟨i1, -⟩ := V.inp hI
  obtain ⟨o, o1, o2, o3⟩ := V.fst hI
  have o4 := o3 (by omega)
  obtain ⟨pl, wd, g1, g2, g3, g4⟩ := G o (by omega)
  unfold w_M_saysToken
  refine ⟨(zin_iff (by omega)).mpr (by omega), fun v2 ev2 => ?_⟩
  rw [zi_tn (show c < 2147483648 by omega), o2] at ev2
  rw [ev2]
  have hin : vp_in (zi o) 110 := (zin_iff (by omega)).mpr (by omega)
  refine ⟨hin, fun v3 ev3 => ?_⟩
  rw [zi_tn (show o < 2147483648 by omega)] at ev3 ⊢
  rw [g1] at ev3
  intro P14 h14
  have main : ∀ (e i : Nat) (J : zI), i + e = pl + wd → pl ≤ i → eqQ Qpp I J → J.1 491 80 = zi (k + (i - pl)) → (∀ j, J.1 543 j = I.1 543 j) → P14 (zi i) J := by
    intro e
    induction e with
    | zero =>
      intro i J hi hp q q80 q3
      refine h14 _ _ ⟨hin, hin, ?_⟩
      rw [show J.1 505 o = zi pl by rw [q.1 505 o (by unfold Qpp; omega)]; exact g1, show J.1 506 o = zi wd by rw [q.1 506 o (by unfold Qpp; omega)]; exact g2, zi_add, if_pos ((zi_le (by omega) (by omega)).mpr (by omega))]
      exact hK J _ q (by omega) q80 q3
    | succ e ih =>
      intro i J hi hp q q80 q3
      refine h14 _ _ ⟨hin, hin, ?_⟩
      rw [show J.1 505 o = zi pl by rw [q.1 505 o (by unfold Qpp; omega)]; exact g1, show J.1 506 o = zi wd by rw [q.1 506 o (by unfold Qpp; omega)]; exact g2, zi_add, if_neg (fun u => by have := (zi_le (by omega) (by omega)).mp u; omega)]
      refine ⟨(zin_iff (by omega)).mpr (by omega), ?_⟩
      refine r_says (k := k + (i - pl)) (by omega) q80 (fun J2 qq e80 e3 => ?_)
      intro v ev
      rw [ev, zi_succ]
      refine ih (i + 1) J2 (by omega) (by omega) (q.tr qq) ?_ (fun j => (e3 j).trans (q3 j))
      rw [e80, show k + (i + 1 - pl) = k + (i - pl) + 1 by omega]
  rw [ev3]
  exact main wd pl I (by omega) (Nat.le_refl _) eqQ.rf (by rw [Nat.sub_self]; exact h80) (fun _ => rfl)
