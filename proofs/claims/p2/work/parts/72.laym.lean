/-! ===== a tree laid flat: the model ===== -/
/-- a node's parent and which CHILD it is -/
def PaM (I : zI) (N : Nat → Nd) (F : List Fl) (i : Nat) (x : Fl) : Prop :=
  (i = 0 → I.1 524 x.1 = -2) ∧ (1 ≤ i → ∃ (y : Fl) (j : Nat), F[x.2.1]? = some y ∧ (ndC (N y.1))[j]? = some x.1 ∧ I.1 524 x.1 = zi y.1 ∧ I.1 525 x.1 = zi j)
def FlT (F : List Fl) (tot : Nat) (I : zI) (x : Fl) : Prop := ∃ o, o ≤ tot ∧ I.1 526 x.1 = zi o ∧ (0 ≤ x.2.2.1 → x.2.2.1 = (o : Int))
/-- what is laid: the first p places -/
def LdM (I : zI) (F : List Fl) (tot p : Nat) : Prop :=
  I.1 491 43 = zi p ∧ (∀ (i : Nat) (x : Fl), i < p → F[i]? = some x → I.1 521 i = zi x.1 ∧ I.1 523 x.1 = zi i ∧ FlT F tot I x) ∧ ∀ c, c < 3700 → (∀ (i : Nat) (x : Fl), i < p → F[i]? = some x → x.1 ≠ c) → I.1 523 c = -1
def StkM (I : zI) : List (Nat × Nat × Nat) → Prop
  | [] => True
  | x :: w => I.1 527 w.length = zi x.1 ∧ StkM I w
theorem StkM.kp {I J : zI} : ∀ {w : List (Nat × Nat × Nat)}, StkM I w → (∀ j, j < w.length → J.1 527 j = I.1 527 j) → StkM J w
  | [], _, _ => trivial
  | x :: w, h, e => by
    obtain ⟨h1, h3⟩ := h
    exact ⟨(e w.length (Nat.lt_succ_self _)).trans h1, h3.kp (fun j hj => e j (Nat.lt_succ_of_lt hj))⟩
def Qft (a j : Nat) : Prop := (a = 491 ∧ (j = 43 ∨ j = 51 ∨ j = 53)) ∨ (521 ≤ a ∧ a ≤ 529)
theorem ndL_len {m c : Nat} {N : Nat → Nd} (hN : NdOk m N) (hc : c < m) : ndL (N c) = (ndC (N c)).length := by
  unfold ndL
  rcases hN c hc with ⟨e1, e2, -⟩ | ⟨r, s, hr, -, e3, -, -, e6, -⟩
  · rw [e1, e2, if_pos (by decide)]
    rfl
  · have h1 := congrArg List.length e6
    rw [List.length_map, (rh_fin r hr).1] at h1
    rw [e3, if_neg (by omega), h1]
    rfl
theorem szS_last {N : Nat → Nd} {l : List Nat} {z : Nat} (h : l[l.length - 1]? = some z) : szS N (l.take (l.length - 1)) + sz N z = szS N l := by
  have hl := (List.getElem?_eq_some_iff.mp h).1
  have e : l = l.take (l.length - 1) ++ [z] := by
    have h1 := List.take_append_drop (l.length - 1) l
    rw [List.drop_eq_getElem_cons hl, show l.length - 1 + 1 = l.length by omega, List.drop_length] at h1
    rw [(List.getElem?_eq_some_iff.mp h).2] at h1
    exact h1.symm
  have h2 : szS N (l.take (l.length - 1) ++ [z]) = szS N (l.take (l.length - 1)) + sz N z := by
    unfold szS
    simp
  rw [← h2, ← e]
/-- the second half: where each node's subtree ends -/
theorem s_ends {m R : Nat} {N : Nat → Nd} {I : zI} {K : zI → Prop} {P : Int32 → zI → Prop} (rep : RepNM I m N) (hN : NdOk m N) (hm : m ≤ 3700) (hR : R < m) (hlen : (flR N R).length ≤ 399) (hxm : ∀ (p : Nat) (x : Fl), (flR N R)[p]? = some x → x.1 < m) (h521 : ∀ (i : Nat) (x : Fl), (flR N R)[i]? = some x → I.1 521 i = zi x.1 ∧ I.1 523 x.1 = zi i)
    (hP : ∀ (v3_11 : Int32) (I_12 : zI), ((if v3_11 < 0 then K I_12 else (vp_in v3_11 700 ∧ (∀ v4_14, v4_14 = (I_12.1 521 (Int32.toNatClampNeg v3_11)) → vp_in v4_14 3700 ∧ (∀ v5_15, v5_15 = (I_12.1 512 (Int32.toNatClampNeg v4_14)) → ∀ (P258 : Int32 → Prop), (∀ (t_16 : Int32), (vp_in v3_11 700 ∧ (∀ I_17, I_17 = (zu I_12 522 (Int32.toNatClampNeg v3_11) t_16) → ∀ v3_18, v3_18 = (v3_11 + (-1)) → P v3_18 I_17)) → P258 t_16) → (if v5_15 = 0 then (P258 (v3_11 + 1)) else (vp_in (((4 * v4_14) + v5_15) - 1) 14800 ∧ (vp_in (I_12.1 513 (Int32.toNatClampNeg (((4 * v4_14) + v5_15) - 1))) 3700 ∧ (vp_in (I_12.1 523 (Int32.toNatClampNeg (I_12.1 513 (Int32.toNatClampNeg (((4 * v4_14) + v5_15) - 1))))) 700 ∧ (P258 (I_12.1 522 (Int32.toNatClampNeg (I_12.1 523 (Int32.toNatClampNeg (I_12.1 513 (Int32.toNatClampNeg (((4 * v4_14) + v5_15) - 1))))))))))))))))) → P v3_11 I_12)
    (hK : ∀ J, eqQ (fun a _ => a = 522) I J → (∀ (i : Nat) (x : Fl), (flR N R)[i]? = some x → J.1 522 i = zi (i + x.2.2.2.2)) → K J) : P (zi (flR N R).length - 1) I := by
  have main : ∀ (k : Nat) (J : zI), k ≤ (flR N R).length → eqQ (fun a _ => a = 522) I J → (∀ (i : Nat) (x : Fl), k ≤ i → (flR N R)[i]? = some x → J.1 522 i = zi (i + x.2.2.2.2)) → P (zi k - 1) J := by
    intro k
    induction k with
    | zero =>
      intro J hk q hJ
      refine hP _ _ ?_
      rw [if_pos (show zi 0 - 1 < 0 by decide)]
      exact hK J q (fun i x hx => hJ i x (Nat.zero_le i) hx)
    | succ k ih =>
      intro J hk q hJ
      refine hP _ _ ?_
      rw [show zi (k + 1) - 1 = zi k from zi_sub (b := 1) (by omega), if_neg (zi_pos (by omega)), zi_tn (show k < 2147483648 by omega)]
      have hx : (flR N R)[k]? = some ((flR N R)[k]'(by omega)) := List.getElem?_eq_getElem (by omega)
      generalize (flR N R)[k]'(by omega) = x at hx
      have hc := hxm k x hx
      have hsz : x.2.2.2.2 = sz N x.1 := by
        obtain ⟨-, -, o, -, e4, -⟩ := fl_in hN R hR _ _ _ _ _ _ hx
        rw [e4]
        rfl
      refine ⟨(zin_iff (by omega)).mpr (by omega), fun v4 ev4 => ?_⟩
      rw [q.1 521 k (by omega), (h521 k x hx).1] at ev4
      subst ev4
      refine ⟨(zin_iff (by omega)).mpr (by omega), fun v5 ev5 => ?_⟩
      have nd := rep.2 x.1 hc
      rw [zi_tn (show x.1 < 2147483648 by omega), q.1 512 _ (by omega), show I.1 512 x.1 = zi (ndL (N x.1)) from nd.2.2.2.2.1, ndL_len hN hc] at ev5
      subst ev5
      have hch := hN.ch x.1 hc
      intro P258 h258
      have rest : P258 (zi (k + x.2.2.2.2)) := by
        refine h258 _ ⟨(zin_iff (by omega)).mpr (by omega), fun I17 e17 v ev => ?_⟩
        have e5 : v = zi k - 1 := by
          rw [ev, Int32.sub_eq_add_neg]
        subst e5
        refine ih I17 (by omega) (by rw [e17]; exact q.zu rfl) (fun i y hi hy => ?_)
        rw [e17, zu_at]
        by_cases u : i = k
        · subst u
          rw [hx] at hy
          cases hy
          rw [if_pos ⟨rfl, rfl⟩]
        · rw [if_neg (fun w => u w.2)]
          exact hJ i y (by omega) hy
      by_cases h0 : (ndC (N x.1)).length = 0
      · rw [h0, if_pos (show zi 0 = 0 from rfl), zi_succ]
        have hnil := List.eq_nil_of_length_eq_zero h0
        have h1 := sz_eq hN hc
        rw [hnil] at h1
        rw [hsz, h1] at rest
        exact rest
      · rw [if_neg (show ¬ zi (ndC (N x.1)).length = 0 from fun u => h0 ((zi_eq (b := 0) (by omega) (by decide)).mp u))]
        have hz : (ndC (N x.1))[(ndC (N x.1)).length - 1]? = some ((ndC (N x.1))[(ndC (N x.1)).length - 1]'(by omega)) := List.getElem?_eq_getElem (by omega)
        generalize (ndC (N x.1))[(ndC (N x.1)).length - 1]'(by omega) = z at hz
        have hzm := hN.lt hc (List.mem_of_getElem? hz)
        obtain ⟨i', y, y1, y2, y3, y4, -⟩ := fl_ch hN hR hx hz
        have hl := szS_last (N := N) hz
        have hse := sz_eq hN hc
        have hi'l := (List.getElem?_eq_some_iff.mp y2).1
        have hi'l2 : i' < (flR N R).length := hi'l
        have hysz : y.2.2.2.2 = sz N z := by
          obtain ⟨-, -, o, -, e4, -⟩ := fl_in hN R hR _ _ _ _ _ _ y2
          rw [e4, y3]
          rfl
        rw [show 4 * zi x.1 + zi (ndC (N x.1)).length - 1 = zi (4 * x.1 + ((ndC (N x.1)).length - 1)) by
          rw [show (4 : Int32) = zi 4 from rfl, zi_mul, zi_add, show (1 : Int32) = zi 1 from rfl, zi_sub (by omega), show 4 * x.1 + (ndC (N x.1)).length - 1 = 4 * x.1 + ((ndC (N x.1)).length - 1) by omega], zi_tn (show 4 * x.1 + ((ndC (N x.1)).length - 1) < 2147483648 by omega), show J.1 513 (4 * x.1 + ((ndC (N x.1)).length - 1)) = zi z by rw [q.1 513 _ (by omega)]; exact nd.2.2.2.2.2.1 _ z hz, zi_tn (show z < 2147483648 by omega), show J.1 523 z = zi i' by rw [q.1 523 _ (by omega), ← y3]; exact (h521 i' y y2).2, zi_tn (show i' < 2147483648 by omega), hJ i' y (by omega) y2, hysz]
        refine ⟨(zin_iff (by omega)).mpr (by omega), (zin_iff (by omega)).mpr (by omega), (zin_iff (by omega)).mpr (by omega), ?_⟩
        rw [show i' + sz N z = k + x.2.2.2.2 by omega]
        exact rest
  exact main (flR N R).length I (Nat.le_refl _) eqQ.rf (fun i x hi hx => by have := (List.getElem?_eq_some_iff.mp hx).1; omega)
