/-! ===== the RUNS; the class looks at a TREE ===== -/
def rnL (N : Nat → Nd) (F : List Fl) : Nat → Nat → List Nat
  | 0, _ => []
  | d + 1, p => match F[p]? with
    | none => []
    | some x => if ndM (N x.1) = 1 then x.1 :: rnL N F d (p + x.2.2.2.2) else rnL N F d (p + 1)
theorem rnL_at {N : Nat → Nd} {F : List Fl} {d p : Nat} {x : Fl} (h : F[p]? = some x) : rnL N F (d + 1) p = if ndM (N x.1) = 1 then x.1 :: rnL N F d (p + x.2.2.2.2) else rnL N F d (p + 1) := by
  show (match F[p]? with
    | none => []
    | some x => if ndM (N x.1) = 1 then x.1 :: rnL N F d (p + x.2.2.2.2) else rnL N F d (p + 1)) = _
  rw [h]
theorem rnL_no {N : Nat → Nd} {F : List Fl} {d p : Nat} (h : F.length ≤ p) : rnL N F d p = [] := by
  cases d with
  | zero => rfl
  | succ d =>
    show (match F[p]? with
      | none => []
      | some x => if ndM (N x.1) = 1 then x.1 :: rnL N F d (p + x.2.2.2.2) else rnL N F d (p + 1)) = _
    rw [List.getElem?_eq_none h]
def runsOf (N : Nat → Nd) (R : Nat) : List Nat := rnL N (flR N R) 400 0
def tkW (N : Nat → Nd) (w : List (Nat × Nat × Nat)) : Nat := (w.map (fun x => ndT (N x.1))).sum
theorem tkW_cons {N : Nat → Nd} {x : Nat × Nat × Nat} {w : List (Nat × Nat × Nat)} : tkW N (x :: w) = ndT (N x.1) + tkW N w := by
  unfold tkW
  rw [List.map_cons, List.sum_cons]
theorem tkW_ch {N : Nat → Nd} {p d : Nat} {w : List (Nat × Nat × Nat)} : ∀ {l : List Nat}, tkW N (l.map (fun c => (c, p, d)) ++ w) = tkS N l + tkW N w
  | [] => (Nat.zero_add _).symm
  | c :: l => by
    rw [List.map_cons, List.cons_append, tkW_cons, tkW_ch, tkS_cons, Nat.add_assoc]
theorem flS_hd {m p t : Nat} {N : Nat → Nd} {F : List Fl} {w : List (Nat × Nat × Nat)} {x : Fl} (h : NdOk m N) (hw : ∀ y ∈ w, y.1 < m) (hdr : F.drop p = flS N w p t) (hx : F[p]? = some x) : ∃ c q dd w', w = (c, q, dd) :: w' ∧ c < m ∧ x = flH N c q t dd ∧ F.drop (p + 1) = flS N ((ndC (N c)).map (fun c' => (c', p, dd + 1)) ++ w') (p + 1) (t + if ndR (N c) < 0 then 1 else 0) ∧ F.drop (p + sz N c) = flS N w' (p + sz N c) (t + ndT (N c)) := by
  have h0 : (F.drop p)[0]? = some x := by
    rw [List.getElem?_drop]
    exact hx
  cases w with
  | nil =>
    rw [hdr] at h0
    cases h0
  | cons y w =>
    obtain ⟨c, q, dd⟩ := y
    have hc := hw _ (List.mem_cons_self ..)
    dsimp only at hc
    refine ⟨c, q, dd, w, rfl, hc, ?_, ?_, ?_⟩
    · rw [hdr, flS_step h hc] at h0
      cases h0
      rfl
    · rw [← List.drop_drop, hdr, flS_step h hc]
      rfl
    · rw [← List.drop_drop, hdr]
      show (fl N c q p t dd ++ flS N w (p + sz N c) (t + ndT (N c))).drop (sz N c) = _
      rw [List.drop_append, fl_len h c hc, List.drop_of_length_le (by rw [fl_len h c hc]; exact Nat.le_refl _), Nat.sub_self, List.nil_append]
      rfl
theorem rnL_len {m : Nat} {N : Nat → Nd} {F : List Fl} (h : NdOk m N) : ∀ (d p t : Nat) (w : List (Nat × Nat × Nat)), (∀ y ∈ w, y.1 < m) → F.drop p = flS N w p t → (rnL N F d p).length ≤ tkW N w
  | 0, _, _, _, _, _ => Nat.zero_le _
  | d + 1, p, t, w, hw, hdr => by
    cases hx : F[p]? with
    | none =>
      rw [rnL_no (List.getElem?_eq_none_iff.mp hx)]
      exact Nat.zero_le _
    | some x =>
      obtain ⟨c, q, dd, w', rfl, hc, rfl, h1, h2⟩ := flS_hd h hw hdr hx
      have hw' : ∀ y ∈ w', y.1 < m := fun y hy => hw y (List.mem_cons_of_mem _ hy)
      rw [rnL_at hx, tkW_cons]
      by_cases u : ndM (N c) = 1
      · rw [if_pos (show ndM (N (flH N c q t dd).1) = 1 from u), List.length_cons]
        have i1 := rnL_len h d (p + sz N c) (t + ndT (N c)) w' hw' h2
        have i2 := tok1 h c hc (Or.inl (by omega))
        show (rnL N F d (p + sz N c)).length + 1 ≤ _
        dsimp only
        omega
      · rw [if_neg (show ¬ ndM (N (flH N c q t dd).1) = 1 from u)]
        have i1 := rnL_len h d (p + 1) _ _ (fun y hy => by
          rcases List.mem_append.mp hy with hy | hy
          · obtain ⟨z, hz, rfl⟩ := List.mem_map.mp hy
            have := h.lt hc hz
            show z < m
            omega
          · exact hw' y hy) h1
        rw [tkW_ch] at i1
        have i2 : tkS N (ndC (N c)) ≤ ndT (N c) := by
          rcases h c hc with ⟨-, e2, -, e4, -⟩ | ⟨r, s, -, -, -, -, -, -, -, e8⟩
          · rw [e2]
            exact Nat.zero_le _
          · rw [e8]
            exact Nat.le_refl _
        dsimp only
        omega
def RnX (I : zI) (rs : List Nat) : Prop := I.1 43 11 = zi rs.length ∧ ∀ i r, rs[i]? = some r → I.1 63 i = zi r
def Qru (a j : Nat) : Prop := (a = 43 ∧ j = 11) ∨ a = 63
theorem s_findRuns {m R : Nat} {N : Nat → Nd} {I : zI} {K : zI → Prop} (rep : RepNX I m N) (hN : NdOk m N) (hm : m ≤ 3400) (hR : R < m) (hlen : (flR N R).length ≤ 399) (hF : I.1 43 12 = zi (flR N R).length) (h45 : ∀ (p : Nat) (x : Fl), (flR N R)[p]? = some x → x.1 < m ∧ I.1 45 p = zi x.1 ∧ I.1 55 p = zi x.2.2.2.2 ∧ 1 ≤ x.2.2.2.2 ∧ x.2.2.2.2 ≤ 399) (hTk : ndT (N R) ≤ 99)
    (hK : ∀ J, eqQ Qru I J → RnX J (runsOf N R) → K J) : w_TreeView_findRuns I K := by
  unfold w_TreeView_findRuns
  intro I1 e1
  have htot : (runsOf N R).length ≤ 99 := by
    have := rnL_len (F := flR N R) hN 400 0 0 [(R, 0, 1)] (fun y hy => by cases List.mem_singleton.mp hy; exact hR) (by
      rw [List.drop_zero]
      show fl N R 0 0 0 1 = fl N R 0 0 0 1 ++ []
      rw [List.append_nil])
    rw [tkW_cons] at this
    change (runsOf N R).length ≤ ndT (N R) + 0 at this
    omega
  intro P7 h7
  have main : ∀ (d p : Nat) (rs : List Nat) (J : zI), (flR N R).length < p + d → p ≤ 1000 → eqQ Qru I J → RnX J rs → rs ++ rnL N (flR N R) d p = runsOf N R → P7 (zi p) J := by
    intro d
    induction d with
    | zero =>
      intro p rs J hp hp2 qJ rJ he
      refine h7 _ _ ?_
      rw [qJ.1 _ _ (by unfold Qru; omega), hF, if_pos ((zi_le (by omega) (by omega)).mpr (by omega))]
      rw [show rnL N (flR N R) 0 p = [] from rfl, List.append_nil] at he
      exact hK J qJ (by rw [← he]; exact rJ)
    | succ d ih =>
      intro p rs J hp hp2 qJ rJ he
      refine h7 _ _ ?_
      rw [qJ.1 43 12 (by unfold Qru; omega), hF]
      by_cases hpl : (flR N R).length ≤ p
      · rw [if_pos ((zi_le (by omega) (by omega)).mpr hpl)]
        rw [rnL_no hpl, List.append_nil] at he
        exact hK J qJ (by rw [← he]; exact rJ)
      rw [if_neg (fun u => hpl ((zi_le (by omega) (by omega)).mp u))]
      have hx : (flR N R)[p]? = some ((flR N R)[p]'(by omega)) := List.getElem?_eq_getElem (by omega)
      generalize (flR N R)[p]'(by omega) = x at hx
      obtain ⟨x1, x2, x3, x4, x5⟩ := h45 p x hx
      have nd := rep.2 x.1 x1
      rw [rnL_at hx] at he
      refine (w_get (by decide)).mpr ?_
      rw [rg_in (by decide) (show p < 400 by omega), show J.1 (44 + 1) p = zi x.1 by rw [qJ.1 _ _ (by unfold Qru; omega)]; exact x2]
      refine (w_get (by decide)).mpr ?_
      rw [rg_in (by decide) (show x.1 < 3400 by omega), show J.1 (27 + 1) x.1 = zi (ndM (N x.1)) by rw [qJ.1 _ _ (by unfold Qru; omega)]; exact nd.2.1]
      have hsy := hN.sym x.1 x1
      intro P44 h44
      by_cases hs : ndM (N x.1) = 1
      · rw [hs, if_pos (show zi 1 = 1 from rfl)]
        rw [if_pos hs] at he
        refine h44 _ ?_
        intro P71 h71
        rw [if_neg (show ¬ (1 : Int32) = 0 by decide)]
        refine (w_set (by decide)).mpr ?_
        have hrs : rs.length < 99 := by
          have := congrArg List.length he
          rw [List.length_append, List.length_cons] at this
          omega
        rw [rJ.1, rs_in (by decide) (show rs.length < 100 by omega)]
        generalize e12 : zu J (62 + 1) rs.length (zi x.1) = I12
        intro I13 e13
        rw [show I12.1 43 11 = zi rs.length by rw [← e12, zu_oo (by decide)]; exact rJ.1, zi_succ] at e13
        have q13 : eqQ Qru I I13 := by
          rw [e13, ← e12]
          exact (qJ.zu (Or.inr rfl)).zu (Or.inl ⟨rfl, rfl⟩)
        refine h71 _ ?_
        intro P92 h92
        rw [if_neg (show ¬ (1 : Int32) = 0 by decide)]
        refine (w_get (by decide)).mpr ?_
        rw [rg_in (by decide) (show p < 400 by omega), show I13.1 (54 + 1) p = zi x.2.2.2.2 by rw [q13.1 _ _ (by unfold Qru; omega)]; exact x3]
        have hmax : (if 1 < zi x.2.2.2.2 then zi x.2.2.2.2 else 1) = zi x.2.2.2.2 := by
          by_cases u : 1 < zi x.2.2.2.2
          · rw [if_pos u]
          · rw [if_neg u]
            have : ¬ 1 < x.2.2.2.2 := fun w => u ((zi_lt (a := 1) (by decide) (by omega)).mpr w)
            rw [show x.2.2.2.2 = 1 by omega]
            rfl
        rw [hmax]
        refine h92 _ ?_
        intro v ev
        rw [zi_add] at ev
        subst ev
        refine ih (p + x.2.2.2.2) (rs ++ [x.1]) I13 (by omega) (by omega) q13 ⟨?_, fun i r hi => ?_⟩ ?_
        · rw [e13, zu_self, List.length_append]
          rfl
        · rw [e13, zu_oo (by decide)]
          rcases snoc_at hi with hi | ⟨rfl, rfl⟩
          · have hil := (List.getElem?_eq_some_iff.mp hi).1
            rw [← e12, zu_at, if_neg (by omega)]
            exact rJ.2 i r hi
          · rw [← e12, zu_self]
        · rw [List.append_assoc]
          exact he
      · rw [if_neg (show ¬ zi (ndM (N x.1)) = 1 from fun u => hs ((zi_eq (b := 1) (by omega) (by decide)).mp u))]
        rw [if_neg hs] at he
        refine h44 _ ?_
        intro P71 h71
        rw [if_pos rfl]
        refine h71 _ ?_
        intro P92 h92
        rw [if_pos rfl]
        refine h92 _ ?_
        intro v ev
        rw [ev, zi_succ]
        exact ih (p + 1) rs J (by omega) (by omega) qJ rJ he
  refine main 400 0 [] I1 (by omega) (by omega) (by rw [e1]; exact eqQ.rf.zu (Or.inl ⟨rfl, rfl⟩)) ⟨by rw [e1, zu_self]; rfl, fun i r hi => by cases hi⟩ rfl
/-- what the class sees of a TREE -/
def ViX (I : zI) (N : Nat → Nd) (R : Nat) : Prop :=
  I.1 43 13 = zi R ∧ FlX I (flR N R) ∧ (∀ (p : Nat) (x : Fl), (flR N R)[p]? = some x → I.1 53 p = zi x.2.2.2.1 ∧ I.1 55 p = zi x.2.2.2.2) ∧ RnX I (runsOf N R) ∧ PlX I
def Qvi (a j : Nat) : Prop := (a = 43 ∧ (11 ≤ j ∧ j ≤ 15)) ∨ (45 ≤ a ∧ a ≤ 63)
/-- a node's depth is 1 in the first place alone -/
theorem fl_dep {m R : Nat} {N : Nat → Nd} (h : NdOk m N) (hR : R < m) : ∀ (p : Nat) (x : Fl), (flR N R)[p]? = some x → 1 ≤ x.2.2.2.1 ∧ (x.2.2.2.1 = 1 ↔ p = 0) := by
  intro p
  induction p using Nat.strongRecOn with
  | ind p ih =>
    intro x hx
    by_cases u : p = 0
    · subst u
      have h0 := fl_0 (q := 0) (p := 0) (t := 0) (dep := 1) h hR
      have hx' : (fl N R 0 0 0 1)[0]? = some x := hx
      rw [h0] at hx'
      cases hx'
      exact ⟨Nat.le_refl 1, ⟨fun _ => rfl, fun _ => rfl⟩⟩
    · obtain ⟨y, i', b1, b2, b3, b4, b5⟩ := (fl_in h R hR _ _ _ _ _ _ hx).2.1 (by omega)
      have := (ih i' b1 y b3).1
      exact ⟨by omega, ⟨fun e => by omega, fun e => absurd e u⟩⟩
theorem s_lookAt {m R n a : Nat} {og : Nat → Nat} {N : Nat → Nd} {I : zI} {K : zI → Prop} (rep : RepNX I m N) (hN : NdOk m N) (hu : UqE m N) (hm : m ≤ 3400) (t : TreeI m N R n og) (htk : ∀ c, c < m → ndT (N c) ≤ 1000) (hpl : PlX I) (hT : I.1 a 7 = zi R)
    (hK : ∀ J, eqQ Qvi I J → ViX J N R → K J) : w_TreeView_lookAt a I K := by
  unfold w_TreeView_lookAt
  intro I1 e1
  rw [hT] at e1
  have fg := t.flG hN hu
  have hsz := t.few hN
  have hl : (flR N R).length = sz N R := fl_len hN R t.1 _ _ _ _
  have ch := hN.ch
  have q1 : eqQ Qvi I I1 := by
    rw [e1]
    exact eqQ.rf.zu (Or.inl (by omega))
  refine s_layFlat (rep.kp ch (fun a j h1 h2 _ => q1.1 a j (by unfold Qvi; omega))) hN hm t.1 (by rw [e1, zu_self]) (by omega) htk fg.2.1 (fun c hc => by obtain ⟨p, p1, p2⟩ := hpl c hc; exact ⟨p, p1, by rw [e1, zu_oo (by decide)]; exact p2⟩) (fun J2 q2 ld2 pl2 => ?_)
  refine s_sumUp hN hm t.1 (by omega) ld2 (fun p x hx => ?_) (fun J3 q3 r3 => ?_)
  · obtain ⟨b1, b2⟩ := fg.1.2 p x hx
    refine ⟨b1, fun u => b2 (Nat.pos_of_ne_zero (fun v => u ((fl_dep hN t.1 p x hx).2.mpr v)))⟩
  · have q13 : eqQ Qvi I J3 := (q1.tr (q2.mono (fun a j h => by unfold Qlf Qly at h; unfold Qvi; omega))).tr (q3.mono (fun a j h => by unfold Qsu at h; unfold Qvi; omega))
    have f3 : ∀ (p : Nat) (x : Fl), (flR N R)[p]? = some x → J3.1 45 p = zi x.1 ∧ J3.1 47 x.1 = zi p ∧ J3.1 49 p = pqI x.2.2.2.1 x.2.1 ∧ J3.1 51 p = Int32.ofInt x.2.2.1 ∧ J3.1 53 p = zi x.2.2.2.1 := fun p x hx => by
      obtain ⟨c1, c2, c3, c4, c5, c6⟩ := ld2.2 p x (List.getElem?_eq_some_iff.mp hx).1 hx
      rw [q3.1 45 _ (by unfold Qsu; omega), q3.1 47 _ (by unfold Qsu; omega), q3.1 49 _ (by unfold Qsu; omega), q3.1 51 _ (by unfold Qsu; omega), q3.1 53 _ (by unfold Qsu; omega)]
      exact ⟨c1, c2, c3, c4, c5⟩
    refine s_findRuns (rep.kp ch (fun a j h1 h2 _ => q13.1 a j (by unfold Qvi; omega))) hN hm t.1 (by omega) (by rw [q3.1 _ _ (by unfold Qsu; omega)]; exact ld2.1) (fun p x hx => ?_) ?_ (fun J4 q4 rn4 => ?_)
    · have b1 := (fg.1.2 p x hx).1
      obtain ⟨-, -, o, -, e4, -, e6⟩ := fl_in hN R t.1 _ _ _ _ _ _ hx
      have hs : x.2.2.2.2 = sz N x.1 := by
        rw [e4]
        rfl
      have hp := sz_pos hN b1
      have hle : sz N x.1 ≤ 399 := by
        have h6 := e6 (sz N x.1 - 1) (by omega)
        have h7 : (fl N x.1 x.2.1 (0 + p) (0 + o) x.2.2.2.1)[sz N x.1 - 1]? = some ((fl N x.1 x.2.1 (0 + p) (0 + o) x.2.2.2.1)[sz N x.1 - 1]'(by rw [fl_len hN _ b1]; omega)) := List.getElem?_eq_getElem _
        rw [h7] at h6
        have := (List.getElem?_eq_some_iff.mp h6).1
        have hl2 : (fl N R 0 0 0 1).length = sz N R := fl_len hN R t.1 _ _ _ _
        omega
      exact ⟨b1, (f3 p x hx).1, r3 p x hx, by omega, by omega⟩
    · have := t.tk hN
      have := t.2.2.2.2.2.2.2
      omega
    · refine hK J4 (q13.tr (q4.mono (fun a j h => by unfold Qru at h; unfold Qvi; omega))) ⟨?_, ⟨?_, fun p x hx => ?_⟩, fun p x hx => ?_, rn4, fun c hc => ?_⟩
      · rw [q4.1 _ _ (by unfold Qru; omega), q3.1 _ _ (by unfold Qsu; omega), q2.1 _ _ (by unfold Qlf Qly; omega), e1, zu_self]
      · rw [q4.1 _ _ (by unfold Qru; omega), q3.1 _ _ (by unfold Qsu; omega)]
        exact ld2.1
      · obtain ⟨c1, c2, c3, c4, c5⟩ := f3 p x hx
        rw [q4.1 45 _ (by unfold Qru; omega), q4.1 47 _ (by unfold Qru; omega), q4.1 49 _ (by unfold Qru; omega), q4.1 51 _ (by unfold Qru; omega)]
        refine ⟨c1, c2, fun u => ?_, c4⟩
        rw [c3]
        exact if_neg (fun v => by have := (fl_dep hN t.1 p x hx).2.mp v; omega)
      · obtain ⟨c1, c2, c3, c4, c5⟩ := f3 p x hx
        rw [q4.1 53 _ (by unfold Qru; omega), q4.1 55 _ (by unfold Qru; omega)]
        exact ⟨c5, r3 p x hx⟩
      · obtain ⟨p, p1, p2⟩ := pl2 c hc
        exact ⟨p, p1, by rw [q4.1 47 c (by unfold Qru; omega), q3.1 47 c (by unfold Qsu; omega)]; exact p2⟩
