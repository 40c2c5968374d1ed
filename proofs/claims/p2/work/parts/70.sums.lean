/-! ===== sizes: the class ===== -/
/-- the sizes of those whose parent is at the place i -/
def sumP (i : Nat) : List Fl → Nat
  | [] => 0
  | x :: L => (if x.2.2.2.1 ≠ 1 ∧ x.2.1 = i then x.2.2.2.2 else 0) + sumP i L
theorem sumP_app {i : Nat} : ∀ {L M : List Fl}, sumP i (L ++ M) = sumP i L + sumP i M
  | [], M => (Nat.zero_add _).symm
  | x :: L, M => by
    show _ + sumP i (L ++ M) = _ + sumP i L + sumP i M
    rw [sumP_app, Nat.add_assoc]
theorem sumP_flL {f : Nat → Nat → Nat → List Fl} {N : Nat → Nd} {i : Nat} : ∀ {l : List Nat} {p t : Nat}, (∀ c ∈ l, ∀ p' t', p ≤ p' → sumP i (f c p' t') = 0) → sumP i (flL f N l p t) = 0
  | [], _, _, _ => rfl
  | c :: l, p, t, h => by
    show sumP i (f c p t ++ flL f N l (p + sz N c) (t + ndT (N c))) = 0
    rw [sumP_app, h c (List.mem_cons_self ..) p t (Nat.le_refl p), sumP_flL (fun x hx p' t' hp => h x (List.mem_cons_of_mem _ hx) p' t' (by omega))]
/-- of a subtree behind the place i only its root may have its parent there -/
theorem sumP_fl {m i : Nat} {N : Nat → Nd} (h : NdOk m N) (c : Nat) : c < m → ∀ q p t dep, 1 ≤ dep → i < p → sumP i (fl N c q p t dep) = if dep ≠ 1 ∧ q = i then sz N c else 0 := by
  induction c using Nat.strongRecOn with
  | ind c ih =>
    intro hc q p t dep hd hi
    rw [fl_eq h hc]
    show (if dep ≠ 1 ∧ q = i then sz N c else 0) + sumP i (flL _ N (ndC (N c)) (p + 1) t) = _
    rw [sumP_flL (fun x hx p' t' hp => ?_), Nat.add_zero]
    rw [ih x (h.lt hc hx) (by have := h.lt hc hx; omega) p p' t' (dep + 1) (by omega) (by omega), if_neg (by omega)]
def sumW (N : Nat → Nd) (i : Nat) : List (Nat × Nat × Nat) → Nat
  | [] => 0
  | x :: w => (if x.2.2 ≠ 1 ∧ x.2.1 = i then sz N x.1 else 0) + sumW N i w
theorem sumW_app {N : Nat → Nd} {i : Nat} : ∀ {L M : List (Nat × Nat × Nat)}, sumW N i (L ++ M) = sumW N i L + sumW N i M
  | [], M => (Nat.zero_add _).symm
  | x :: L, M => by
    show _ + sumW N i (L ++ M) = _ + sumW N i L + sumW N i M
    rw [sumW_app, Nat.add_assoc]
theorem sumP_flS {m i : Nat} {N : Nat → Nd} (h : NdOk m N) : ∀ {w : List (Nat × Nat × Nat)} {p t : Nat}, (∀ x ∈ w, x.1 < m ∧ 1 ≤ x.2.2) → i < p → sumP i (flS N w p t) = sumW N i w
  | [], _, _, _, _ => rfl
  | x :: w, p, t, hw, hi => by
    obtain ⟨h1, h2⟩ := hw x (List.mem_cons_self ..)
    show sumP i (fl N x.1 x.2.1 p t x.2.2 ++ flS N w (p + sz N x.1) (t + ndT (N x.1))) = _ + sumW N i w
    rw [sumP_app, sumP_fl h x.1 h1 _ _ _ _ h2 hi, sumP_flS h (fun y hy => hw y (List.mem_cons_of_mem _ hy)) (by omega)]
theorem sumW_ch {N : Nat → Nd} {p d : Nat} : ∀ {l : List Nat}, sumW N p (l.map (fun c => (c, p, d + 2))) = szS N l
  | [] => rfl
  | c :: l => by
    show (if d + 2 ≠ 1 ∧ p = p then sz N c else 0) + sumW N p (l.map (fun c => (c, p, d + 2))) = _
    rw [if_pos ⟨by omega, rfl⟩, sumW_ch, szS_cons]
theorem sumW_no {N : Nat → Nd} {i : Nat} : ∀ {w : List (Nat × Nat × Nat)}, (∀ x ∈ w, x.2.2 ≠ 1 → x.2.1 < i) → sumW N i w = 0
  | [], _ => rfl
  | x :: w, h => by
    show (if x.2.2 ≠ 1 ∧ x.2.1 = i then sz N x.1 else 0) + sumW N i w = 0
    rw [if_neg (fun u => by have := h x (List.mem_cons_self ..) u.1; omega), sumW_no (fun y hy => h y (List.mem_cons_of_mem _ hy))]
/-- at each place the rest of a flat tree is what waits -/
theorem flR_at {m R : Nat} {N : Nat → Nd} (h : NdOk m N) (hR : R < m) : ∀ p, p ≤ (flR N R).length → ∃ (w : List (Nat × Nat × Nat)) (t : Nat), (flR N R).drop p = flS N w p t ∧ StkO m p (flR N R) w
  | 0, _ => by
    refine ⟨[(R, 0, 1)], 0, ?_, fun x hx => ?_⟩
    · rw [List.drop_zero]
      show fl N R 0 0 0 1 = fl N R 0 0 0 1 ++ []
      rw [List.append_nil]
    · cases List.mem_singleton.mp hx
      exact ⟨hR, Nat.le_refl 1, fun u => absurd rfl u⟩
  | p + 1, hp => by
    obtain ⟨w, t, hdr, hso⟩ := flR_at h hR p (by omega)
    cases w with
    | nil =>
      have h1 := congrArg List.length hdr
      rw [List.length_drop] at h1
      change _ = 0 at h1
      omega
    | cons x w =>
      obtain ⟨c, q, dd⟩ := x
      obtain ⟨hc, hd1, hq1⟩ := hso _ (List.mem_cons_self ..)
      dsimp only at hc hd1 hq1
      rw [flS_step h hc] at hdr
      have hx : (flR N R)[p]? = some (flH N c q t dd) := by
        have h1 : ((flR N R).drop p)[0]? = some (flH N c q t dd) := by
          rw [hdr]
          rfl
        rw [List.getElem?_drop] at h1
        exact h1
      refine ⟨_, _, by rw [← List.drop_drop, hdr]; rfl, fun x hx' => ?_⟩
      rcases List.mem_append.mp hx' with hx' | hx'
      · obtain ⟨z, hz, rfl⟩ := List.mem_map.mp hx'
        exact ⟨(show z < m by have := h.lt hc hz; omega), (show 1 ≤ dd + 1 by omega), fun _ => ⟨(show p < p + 1 by omega), flH N c q t dd, hx, rfl⟩⟩
      · obtain ⟨b1, b2, b3⟩ := hso x (List.mem_cons_of_mem _ hx')
        refine ⟨b1, b2, fun u => ?_⟩
        obtain ⟨c1, c2⟩ := b3 u
        exact ⟨by omega, c2⟩
/-- the sizes of a node's CHILDREN and 1 are its size -/
theorem sumP_at {m R p : Nat} {N : Nat → Nd} {x : Fl} (h : NdOk m N) (hR : R < m) (hx : (flR N R)[p]? = some x) : 1 + sumP p ((flR N R).drop (p + 1)) = x.2.2.2.2 := by
  have hp := (List.getElem?_eq_some_iff.mp hx).1
  obtain ⟨w, t, hdr, hso⟩ := flR_at h hR p (by omega)
  cases w with
  | nil =>
    have h1 := congrArg List.length hdr
    rw [List.length_drop] at h1
    change _ = 0 at h1
    omega
  | cons y w =>
    obtain ⟨c, q, dd⟩ := y
    obtain ⟨hc, hd1, hq1⟩ := hso _ (List.mem_cons_self ..)
    dsimp only at hc hd1 hq1
    rw [flS_step h hc] at hdr
    have hx2 : (flR N R)[p]? = some (flH N c q t dd) := by
      have h1 : ((flR N R).drop p)[0]? = some (flH N c q t dd) := by
        rw [hdr]
        rfl
      rw [List.getElem?_drop] at h1
      exact h1
    rw [hx] at hx2
    cases hx2
    rw [← List.drop_drop, hdr]
    show 1 + sumP p (flS N ((ndC (N c)).map (fun c' => (c', p, dd + 1)) ++ w) (p + 1) _) = sz N c
    obtain ⟨d0, rfl⟩ : ∃ d0, dd = d0 + 1 := ⟨dd - 1, by omega⟩
    rw [sumP_flS h (fun y hy => ?_) (by omega), sumW_app, sumW_ch, sumW_no (fun y hy u => ((hso y (List.mem_cons_of_mem _ hy)).2.2 u).1), sz_eq h hc]
    · rfl
    · rcases List.mem_append.mp hy with hy | hy
      · obtain ⟨z, hz, rfl⟩ := List.mem_map.mp hy
        exact ⟨(show z < m by have := h.lt hc hz; omega), (show 1 ≤ d0 + 1 + 1 by omega)⟩
      · have := hso y (List.mem_cons_of_mem _ hy)
        exact ⟨this.1, this.2.1⟩
def Qsu (a j : Nat) : Prop := a = 55 ∨ a = 61 ∨ (a = 43 ∧ (j = 14 ∨ j = 15))
theorem s_sumUp {m R : Nat} {N : Nat → Nd} {I : zI} {K : zI → Prop} (hN : NdOk m N) (hm : m ≤ 3400) (hR : R < m) (hlen : (flR N R).length ≤ 399) (hF : LdX I (flR N R) (flR N R).length) (hpar : ∀ (p : Nat) (x : Fl), (flR N R)[p]? = some x → x.1 < m ∧ (x.2.2.2.1 ≠ 1 → x.2.1 < p))
    (hK : ∀ J, eqQ Qsu I J → (∀ (p : Nat) (x : Fl), (flR N R)[p]? = some x → J.1 55 p = zi x.2.2.2.2) → K J) : w_TreeView_sumUp I K := by
  unfold w_TreeView_sumUp
  refine s_fill (by decide) (fun I1 q1 v1 I2 e2 I3 e3 v ev => ?_)
  have q3 : eqQ Qsu I I3 := by
    rw [e3, e2]
    refine eqQ.zu (eqQ.zu ⟨fun a j u => (congrFun (q1 a (by unfold Qsu at u; omega)).1 j), fun a j u => (congrFun (q1 a (by unfold Qsu at u; omega)).2 j)⟩ (Or.inr (Or.inr ⟨rfl, Or.inl rfl⟩))) (Or.inr (Or.inr ⟨rfl, Or.inr rfl⟩))
  rw [q3.1 43 12 (by unfold Qsu; omega), hF.1] at ev
  subst ev
  have h55 : ∀ j, I3.1 55 j = I.1 55 j := fun j => by
    rw [e3, zu_oo (by decide), e2, zu_oo (by decide)]
    exact congrFun (q1 55 (by omega)).1 j
  intro P28 h28
  have main : ∀ (k : Nat) (J : zI), k ≤ (flR N R).length → eqQ Qsu I J → (∀ (i : Nat) (x : Fl), (flR N R)[i]? = some x → J.1 55 i = zi (1 + sumP i ((flR N R).drop (if i < k then k else i + 1)))) → P28 (zi k - 1) J := by
    intro k
    induction k with
    | zero =>
      intro J hk qJ hr
      refine h28 _ _ ?_
      rw [if_pos (show zi 0 - 1 < 0 by decide)]
      refine hK J qJ (fun p x hx => ?_)
      rw [hr p x hx, if_neg (by omega), sumP_at hN hR hx]
    | succ k ih =>
      intro J hk qJ hr
      refine h28 _ _ ?_
      rw [show zi (k + 1) - 1 = zi k from zi_sub (b := 1) (by omega), if_neg (zi_pos (by omega))]
      have hx : (flR N R)[k]? = some ((flR N R)[k]'(by omega)) := List.getElem?_eq_getElem (by omega)
      generalize hxe : (flR N R)[k]'(by omega) = x at hx
      obtain ⟨f1, f2, f3, f4, f5, f6⟩ := hF.2 k x (by omega) hx
      obtain ⟨hxm, hxp⟩ := hpar k x hx
      refine (w_get (by decide)).mpr ?_
      rw [rg_in (by decide) (show k < 400 by omega), show J.1 (44 + 1) k = zi x.1 by rw [qJ.1 _ _ (by unfold Qsu; omega)]; exact f1]
      refine (w_get (by decide)).mpr ?_
      rw [rg_in (by decide) (show k < 400 by omega), show J.1 (48 + 1) k = pqI x.2.2.2.1 x.2.1 by rw [qJ.1 _ _ (by unfold Qsu; omega)]; exact f3]
      refine (w_get (by decide)).mpr ?_
      have hrk := hr k x hx
      rw [if_pos (Nat.lt_succ_self k), sumP_at hN hR hx] at hrk
      rw [rg_in (by decide) (show k < 400 by omega), show J.1 (54 + 1) k = zi x.2.2.2.2 from hrk]
      refine (w_add (by decide)).mpr ?_
      have hdk : (flR N R).drop k = x :: (flR N R).drop (k + 1) := by
        rw [← hxe]
        exact List.drop_eq_getElem_cons (by omega)
      have fin : ∀ J2 : zI, eqQ Qsu I J2 → (∀ (i : Nat) (y : Fl), (flR N R)[i]? = some y → J2.1 55 i = zi (1 + sumP i ((flR N R).drop (if i < k then k else i + 1)))) → w_Row_get 25 3400 (zi x.1) J2 (fun r_11 => w_Row_add 60 11 r_11 1 J2 (fun I_12 => w_Row_get 52 400 (zi k) I_12 (fun r_13 => ∀ I_14, I_14 = (zu I_12 43 14 (if (I_12.1 43 14) < r_13 then r_13 else (I_12.1 43 14))) → ∀ I_15, I_15 = (zu I_14 43 15 (if zi x.1 < (I_14.1 43 15) then zi x.1 else (I_14.1 43 15))) → ∀ v1_16, v1_16 = (zi k + (-1)) → P28 v1_16 I_15))) := by
        intro J2 qJ2 hr2
        refine (w_get (by decide)).mpr ((w_add (by decide)).mpr ((w_get (by decide)).mpr ?_))
        intro I14 e14 I15 e15 v' ev'
        have e5 : v' = zi k - 1 := by
          rw [ev', Int32.sub_eq_add_neg]
        subst e5
        have o55 : ∀ j, I15.1 55 j = J2.1 55 j := fun j => by
          rw [e15, zu_oo (by decide), e14, zu_oo (by decide), rs_o (by decide)]
        refine ih I15 (by omega) ?_ (fun i y hy => by rw [o55]; exact hr2 i y hy)
        rw [e15, e14]
        refine eqQ.zu (eqQ.zu ?_ (Or.inr (Or.inr ⟨rfl, Or.inl rfl⟩))) (Or.inr (Or.inr ⟨rfl, Or.inr rfl⟩))
        refine ⟨fun a j u => ?_, fun a j u => ?_⟩
        · rw [rs_o (by unfold Qsu at u; omega)]
          exact qJ2.1 a j u
        · rw [rs_2]
          exact qJ2.2 a j u
      by_cases hd : x.2.2.2.1 = 1
      · rw [show pqI x.2.2.2.1 x.2.1 = -1 from if_pos hd, rs_neg (by decide)]
        refine fin J qJ (fun i y hy => ?_)
        rw [hr i y hy]
        by_cases u : i < k
        · rw [if_pos u, if_pos (by omega), hdk]
          show _ = zi (1 + ((if x.2.2.2.1 ≠ 1 ∧ x.2.1 = i then x.2.2.2.2 else 0) + sumP i ((flR N R).drop (k + 1))))
          rw [if_neg (fun w => w.1 hd), Nat.zero_add]
        · rw [if_neg u]
          by_cases u2 : i < k + 1
          · rw [if_pos u2, show i = k by omega]
          · rw [if_neg u2]
      · have hq := hxp hd
        rw [show pqI x.2.2.2.1 x.2.1 = zi x.2.1 from if_neg hd, rs_in (by decide) (show x.2.1 < 400 by omega), rg_in (by decide) (show x.2.1 < 400 by omega)]
        have hy0 : (flR N R)[x.2.1]? = some ((flR N R)[x.2.1]'(by omega)) := List.getElem?_eq_getElem (by omega)
        have hrq := hr _ _ hy0
        rw [if_pos (by omega)] at hrq
        rw [show J.1 (54 + 1) x.2.1 = _ from hrq, zi_add]
        refine fin _ (qJ.zu (Or.inl rfl)) (fun i y hy => ?_)
        rw [zu_at]
        by_cases ui : i = x.2.1
        · subst ui
          rw [if_pos ⟨rfl, rfl⟩, if_pos hq, hdk]
          show _ = zi (1 + ((if x.2.2.2.1 ≠ 1 ∧ x.2.1 = x.2.1 then x.2.2.2.2 else 0) + sumP x.2.1 ((flR N R).drop (k + 1))))
          rw [if_pos ⟨hd, rfl⟩, show 1 + sumP x.2.1 ((flR N R).drop (k + 1)) + x.2.2.2.2 = 1 + (x.2.2.2.2 + sumP x.2.1 ((flR N R).drop (k + 1))) by omega]
        · rw [if_neg (fun w => ui w.2), hr i y hy]
          by_cases u : i < k
          · rw [if_pos u, if_pos (by omega), hdk]
            show _ = zi (1 + ((if x.2.2.2.1 ≠ 1 ∧ x.2.1 = i then x.2.2.2.2 else 0) + sumP i ((flR N R).drop (k + 1))))
            rw [if_neg (fun w => ui w.2.symm), Nat.zero_add]
          · rw [if_neg u]
            by_cases u2 : i < k + 1
            · rw [if_pos u2, show i = k by omega]
            · rw [if_neg u2]
  refine main (flR N R).length I3 (Nat.le_refl _) q3 (fun i x hx => ?_)
  have hi := (List.getElem?_eq_some_iff.mp hx).1
  rw [h55, (hF.2 i x hi hx).2.2.2.2.2, if_pos hi, List.drop_length]
  rfl
