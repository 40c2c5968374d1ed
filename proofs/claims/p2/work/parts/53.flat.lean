/-! ===== the tree laid flat: the class's rows ===== -/
/-- a node laid flat: its number, its parent's place, its first token (none: -2), its depth, its size -/
abbrev Fl : Type := Nat × Nat × Int × Nat × Nat
def FlX (I : zI) (F : List Fl) : Prop :=
  I.1 43 12 = zi F.length ∧ ∀ (p : Nat) (x : Fl), F[p]? = some x → I.1 45 p = zi x.1 ∧ I.1 47 x.1 = zi p ∧ (1 ≤ p → I.1 49 p = zi x.2.1) ∧ I.1 51 p = Int32.ofInt x.2.2.1
/-- numbers of nodes, places of parents -/
def FlOk (m : Nat) (F : List Fl) : Prop := F.length ≤ 400 ∧ ∀ (p : Nat) (x : Fl), F[p]? = some x → x.1 < m ∧ (1 ≤ p → x.2.1 < p)
theorem s_has {m c : Nat} {N : Nat → Nd} {I : zI} {K : Int32 → Prop} (rep : RepNX I m N) (hm : m ≤ 3400) (hc : c < m) (hK : K 1) : w_Nodes_has (zi c) I K := by
  unfold w_Nodes_has
  rw [if_neg (zi_pos (by omega)), rep.1, if_neg (fun u => by have := (zi_le (by omega) (by omega)).mp u; omega)]
  exact hK
theorem s_holds {m p : Nat} {x : Fl} {F : List Fl} {N : Nat → Nd} {I : zI} {K : Int32 → Prop} (rep : RepNX I m N) (hm : m ≤ 3400) (hF : FlX I F) (ok : FlOk m F) (hp : F[p]? = some x) (hK : K 1) : w_TreeView_holds (zi x.1) I K := by
  unfold w_TreeView_holds
  have hpl := (List.getElem?_eq_some_iff.mp hp).1
  have hx := (ok.2 p x hp).1
  have hl := ok.1
  obtain ⟨f1, f2, f3, f4⟩ := hF.2 p x hp
  refine s_has rep hm hx ?_
  rw [if_neg (by decide)]
  refine (w_get (by decide)).mpr ?_
  rw [rg_in (by decide) (show x.1 < 3400 by omega), show I.1 (46 + 1) x.1 = zi p from f2, hF.1, if_neg (fun u => by have := (zi_le (by omega) (by omega)).mp u; omega)]
  refine (w_get (by decide)).mpr ?_
  rw [rg_in (by decide) (show p < 400 by omega), show I.1 (44 + 1) p = zi x.1 from f1, if_pos rfl]
  exact hK
theorem s_firstOf {m p : Nat} {x : Fl} {F : List Fl} {N : Nat → Nd} {I : zI} {K : Int32 → Prop} (rep : RepNX I m N) (hm : m ≤ 3400) (hF : FlX I F) (ok : FlOk m F) (hp : F[p]? = some x) (hK : K (Int32.ofInt x.2.2.1)) : w_TreeView_firstOf (zi x.1) I K := by
  unfold w_TreeView_firstOf
  have hpl := (List.getElem?_eq_some_iff.mp hp).1
  have hx := (ok.2 p x hp).1
  have hl := ok.1
  obtain ⟨f1, f2, f3, f4⟩ := hF.2 p x hp
  refine s_holds rep hm hF ok hp ?_
  rw [if_neg (by decide)]
  refine (w_get (by decide)).mpr ?_
  rw [rg_in (by decide) (show x.1 < 3400 by omega), show I.1 (46 + 1) x.1 = zi p from f2]
  refine (w_get (by decide)).mpr ?_
  rw [rg_in (by decide) (show p < 400 by omega), show I.1 (50 + 1) p = Int32.ofInt x.2.2.1 from f4]
  exact hK
theorem s_parentOf0 {m : Nat} {x : Fl} {F : List Fl} {N : Nat → Nd} {I : zI} {K : Int32 → Prop} (rep : RepNX I m N) (hm : m ≤ 3400) (hF : FlX I F) (ok : FlOk m F) (hp : F[0]? = some x) (hr : I.1 43 13 = zi x.1) (hK : K (-2)) : w_TreeView_parentOf (zi x.1) I K := by
  unfold w_TreeView_parentOf
  refine s_holds rep hm hF ok hp ?_
  rw [if_neg (by decide), if_pos hr.symm]
  exact hK
theorem s_parentOf {m p R : Nat} {x y : Fl} {F : List Fl} {N : Nat → Nd} {I : zI} {K : Int32 → Prop} (rep : RepNX I m N) (hm : m ≤ 3400) (hF : FlX I F) (ok : FlOk m F) (hp : F[p]? = some x) (h1 : 1 ≤ p) (hr : I.1 43 13 = zi R) (hR : R < m) (hne : x.1 ≠ R) (hy : F[x.2.1]? = some y) (hK : K (zi y.1)) : w_TreeView_parentOf (zi x.1) I K := by
  unfold w_TreeView_parentOf
  have hpl := (List.getElem?_eq_some_iff.mp hp).1
  obtain ⟨hx, hq⟩ := ok.2 p x hp
  have hq := hq h1
  have hl := ok.1
  obtain ⟨f1, f2, f3, f4⟩ := hF.2 p x hp
  obtain ⟨g1, g2, g3, g4⟩ := hF.2 _ y hy
  refine s_holds rep hm hF ok hp ?_
  rw [if_neg (by decide), hr, if_neg (fun u => hne ((zi_eq (by omega) (by omega)).mp u))]
  refine (w_get (by decide)).mpr ?_
  rw [rg_in (by decide) (show x.1 < 3400 by omega), show I.1 (46 + 1) x.1 = zi p from f2]
  refine (w_get (by decide)).mpr ?_
  rw [rg_in (by decide) (show p < 400 by omega), show I.1 (48 + 1) p = zi x.2.1 from f3 h1]
  refine (w_get (by decide)).mpr ?_
  rw [rg_in (by decide) (show x.2.1 < 400 by omega), show I.1 (44 + 1) x.2.1 = zi y.1 from g1]
  exact hK
