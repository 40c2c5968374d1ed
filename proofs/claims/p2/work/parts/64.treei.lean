/-! ===== a TREE over a good TEXT's TOKENS ===== -/
theorem nd_at {l : List Nat} : l.Nodup ↔ ∀ i j a : Nat, i < j → l[i]? = some a → l[j]? = some a → False := by
  unfold List.Nodup
  rw [List.pairwise_iff_getElem]
  constructor
  · intro h i j a hij hi hj
    obtain ⟨h1, e1⟩ := List.getElem?_eq_some_iff.mp hi
    obtain ⟨h2, e2⟩ := List.getElem?_eq_some_iff.mp hj
    exact h i j h1 h2 hij (e1.trans e2.symm)
  · intro h i j h1 h2 hij e
    exact h i j l[i] hij (List.getElem?_eq_getElem h1) (by rw [e]; exact List.getElem?_eq_getElem h2)
/-- its root R; the TOKENS' nodes og 0 .. og (n - 1), END's is the last -/
def TreeI (m : Nat) (N : Nat → Nd) (R n : Nat) (og : Nat → Nat) : Prop :=
  R < m ∧ ndM (N R) = 0 ∧ yl N R = (List.range (n - 1)).map og ∧ (∀ i j, i < n → j < n → og i = og j → i = j) ∧ (∀ i, i < n → og i < m ∧ ndR (N (og i)) = -2) ∧ (∀ z ∈ yl N R, 0 ≤ ndS (N z)) ∧ 1 ≤ n ∧ n ≤ 100
def flR (N : Nat → Nd) (R : Nat) : List Fl := fl N R 0 0 0 1
theorem TreeI.tk {m R n : Nat} {N : Nat → Nd} {og : Nat → Nat} (h : NdOk m N) (t : TreeI m N R n og) : ndT (N R) = n - 1 := by
  rw [← yl_len h R t.1, t.2.2.1, List.length_map, List.length_range]
theorem TreeI.few {m R n : Nat} {N : Nat → Nd} {og : Nat → Nat} (h : NdOk m N) (t : TreeI m N R n og) : sz N R ≤ 248 := by
  have h1 := sz_le h R t.1
  have h2 := t.tk h
  rw [t.2.1, h2] at h1
  have h3 := t.2.2.2.2.2.2.2
  have h4 : cS 0 = 2 := rfl
  omega
theorem yl_tok {m c : Nat} {N : Nat → Nd} (h : NdOk m N) (hc : c < m) (hr : ndR (N c) = -2) : yl N c = [c] := by
  rw [yl_eq h hc, if_pos (by omega)]
theorem TreeI.flG {m R n : Nat} {N : Nat → Nd} {og : Nat → Nat} (h : NdOk m N) (hu : UqE m N) (t : TreeI m N R n og) : FlG m (flR N R) N n := by
  have htk := t.tk h
  have hsz := t.few h
  obtain ⟨t1, t2, t3, t4, t5, t6, t7, t8⟩ := t
  have hlen : (flR N R).length = sz N R := fl_len h R t1 _ _ _ _
  have hmap : (flR N R).map (fun x => x.1) = po N R := fl_map h R t1 _ _ _ _
  have hnd : (yl N R).Nodup := by
    rw [t3]
    refine nd_at.mpr (fun i j a hij hi hj => ?_)
    have h1 := (List.getElem?_eq_some_iff.mp hi).1
    have h2 := (List.getElem?_eq_some_iff.mp hj).1
    rw [List.length_map, List.length_range] at h1 h2
    rw [List.getElem?_map, List.getElem?_range h1] at hi
    rw [List.getElem?_map, List.getElem?_range h2] at hj
    have := t4 i j (by omega) (by omega) (Option.some.inj (hi.trans hj.symm))
    omega
  have hpo := po_nodup h hu R t1 hnd
  refine ⟨⟨by omega, fun p x hp => ?_⟩, fun p q x y hp hq e => ?_, fun p x hp => ?_⟩
  · obtain ⟨a1, a2, -⟩ := fl_in h R t1 _ _ _ _ _ _ hp
    refine ⟨by omega, fun u => ?_⟩
    obtain ⟨y, i', b1, b2, -⟩ := a2 u
    omega
  · have hp2 := (List.getElem?_eq_some_iff.mp hp).1
    have e1 : (po N R)[p]? = some x.1 := by rw [← hmap, List.getElem?_map, hp]; rfl
    have e2 : (po N R)[q]? = some y.1 := by rw [← hmap, List.getElem?_map, hq]; rfl
    rw [← e] at e2
    rcases Nat.lt_trichotomy p q with u | u | u
    · exact absurd e2 (fun w => nd_at.mp hpo p q _ u e1 w)
    · exact u
    · exact absurd e1 (fun w => nd_at.mp hpo q p _ u e2 w)
  · obtain ⟨a1, a2, o, a3, a4, a5, a6⟩ := fl_in h R t1 _ _ _ _ _ _ hp
    have hx : x.1 < m := by omega
    have hf : x.2.2.1 = if ndT (N x.1) = 0 then (-2 : Int) else ((0 + o : Nat) : Int) := by
      rw [a4]
      rfl
    refine ⟨?_, ?_, fun u => ?_⟩
    · by_cases c : ndT (N x.1) = 0
      · rw [if_pos c] at hf
        exact Or.inl hf
      · rw [if_neg c] at hf
        exact Or.inr ⟨0 + o, hf, by omega, by omega⟩
    · rcases h x.1 hx with ⟨e1, -, -, -, e5⟩ | ⟨r, s, -, e2, -, e4, -⟩
      · rcases e5 with e5 | e5
        · have hin : x.1 ∈ po N R := by
            rw [← hmap]
            exact List.mem_map.mpr ⟨x, List.mem_of_getElem? hp, rfl⟩
          have := t6 x.1 (po_yl h R t1 x.1 hin x.1 (by rw [yl_tok h hx e1]; exact List.mem_singleton.mpr rfl))
          omega
        · exact e5
      · exact ⟨s, e2, e4⟩
    · obtain ⟨y, i', b1, b2, b3, b4, b5⟩ := a2 u
      have hy := (fl_in h R t1 _ _ _ _ _ _ b3).1
      have hym : y.1 < m := by omega
      rw [Nat.zero_add] at b2
      rcases h y.1 hym with ⟨-, e2, -⟩ | ⟨r, s, e1, -, e3, -, -, -, -, e8⟩
      · rw [e2] at b4
        cases b4
      · refine ⟨y, r, by rw [b2]; exact b3, e1, e3, fun hx0 => ?_⟩
        have hTx : 1 ≤ ndT (N x.1) := by
          refine Nat.pos_of_ne_zero (fun c => ?_)
          rw [if_pos c] at hf
          omega
        have hTy : ndT (N y.1) ≠ 0 := by
          have := tkS_mem (N := N) b4
          omega
        obtain ⟨-, -, o', -, c4, -⟩ := fl_in h R t1 _ _ _ _ _ _ b3
        have hfy : y.2.2.1 = if ndT (N y.1) = 0 then (-2 : Int) else ((0 + o' : Nat) : Int) := by
          rw [c4]
          rfl
        rw [hfy, if_neg hTy]
        omega
/-- the TOKENS ahead of END are in it, END is not -/
theorem TreeI.tok {m R n j : Nat} {N : Nat → Nd} {og : Nat → Nat} (h : NdOk m N) (t : TreeI m N R n og) (hj : j + 1 < n) : ∃ (p : Nat) (x : Fl), (flR N R)[p]? = some x ∧ x.1 = og j ∧ 1 ≤ p ∧ x.2.2.1 = (j : Int) := by
  obtain ⟨t1, t2, t3, t4, t5, t6, t7, t8⟩ := t
  have hy : (yl N R)[j]? = some (og j) := by
    rw [t3, List.getElem?_map, List.getElem?_range (by omega)]
    rfl
  obtain ⟨i, x, e1, e2, e3⟩ := fl_tok h R t1 0 0 0 1 j (og j) hy
  refine ⟨i, x, e1, e2, Nat.pos_of_ne_zero (fun u => ?_), by rw [e3, Nat.zero_add]⟩
  subst u
  rw [fl_0 h t1] at e1
  cases e1
  have hR : R = og j := e2
  have := (t5 j (by omega)).2
  rw [← hR] at this
  unfold ndM at t2
  rw [this, if_pos (by decide)] at t2
  omega
theorem TreeI.fin {m R n : Nat} {N : Nat → Nd} {og : Nat → Nat} (h : NdOk m N) (t : TreeI m N R n og) : ∀ (p : Nat) (x : Fl), (flR N R)[p]? = some x → x.1 ≠ og (n - 1) := by
  obtain ⟨t1, t2, t3, t4, t5, t6, t7, t8⟩ := t
  intro p x hp e
  have hmap : (flR N R).map (fun x => x.1) = po N R := fl_map h R t1 _ _ _ _
  have hin : x.1 ∈ po N R := by
    rw [← hmap]
    exact List.mem_map.mpr ⟨x, List.mem_of_getElem? hp, rfl⟩
  obtain ⟨h1, h2⟩ := t5 (n - 1) (by omega)
  rw [← e] at h1 h2
  have := po_yl h R t1 x.1 hin x.1 (by rw [yl_tok h h1 h2]; exact List.mem_singleton.mpr rfl)
  rw [t3] at this
  obtain ⟨k, hk, hk2⟩ := List.mem_map.mp this
  have hk3 := List.mem_range.mp hk
  rw [e] at hk2
  have := t4 k (n - 1) (by omega) (by omega) hk2
  omega
