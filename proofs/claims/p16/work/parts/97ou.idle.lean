/-! ===== reads within a statement ===== -/
def rdB (N : Nat → Nd) (v : Int64) (c : Nat) : Bool := decide (ndR (N c) = 8 ∧ nmC N c = v)
/-- whether a NAME is read in a node or below -/
def hasN (N : Nat → Nd) (v : Int64) (e : Nat) : Bool := (po N e).any (rdB N v)
theorem ntU {N : Nat → Nd} {L : Int64 → Int32} {v : Int64} : ∀ (l : List Fl) (u : UaZ), (ntR N L l u).1 v = if l.any (fun y => rdB N v y.1) = true then none else u.1 v
  | [], _ => rfl
  | y :: l, u => by
    show (ntR N L l (nt1 N L y u)).1 v = _
    rw [ntU l, List.any_cons]
    by_cases c : l.any (fun y => rdB N v y.1) = true
    · rw [if_pos c, c, Bool.or_true, if_pos rfl]
    · rw [if_neg c, Bool.eq_false_iff.mpr c, Bool.or_false]
      unfold nt1 rdB
      by_cases u8 : ndR (N y.1) = 8
      · rw [if_pos u8]
        show up6 u.1 (nmC N y.1) none v = _
        by_cases e : v = nmC N y.1
        · rw [e, up6_s, if_pos (decide_eq_true ⟨u8, rfl⟩)]
        · rw [up6_o e, if_neg (fun w => e (of_decide_eq_true w).2.symm)]
      · rw [if_neg u8, if_neg (fun w => u8 (of_decide_eq_true w).1)]
theorem seg_has {m R p : Nat} {N : Nat → Nd} {x : Fl} {v : Int64} (hN : NdOk m N) (hR : R < m) (hx : (flR N R)[p]? = some x) (h2 : ndR (N x.1) = 2) : (((flR N R).drop (p + 3)).take (sz N (chN (N x.1) 2))).any (fun y => rdB N v y.1) = hasN N v (chN (N x.1) 2) := by
  obtain ⟨-, -, -, -, -, -, f, f1, f2, -⟩ := st_e hN hR hx h2
  have h := seg_po hN hR f1
  rw [f2] at h
  unfold hasN
  rw [← h]
  have e : ((((flR N R).drop (p + 3)).take (sz N (chN (N x.1) 2))).map (fun y => y.1)).any (rdB N v) = (((flR N R).drop (p + 3)).take (sz N (chN (N x.1) 2))).any (fun y => rdB N v y.1) := List.any_map
  exact e.symm
/-! ===== idle ones: as a function ===== -/
def idB (N : Nat → Nd) (s : Nat) : List Nat → Bool
  | [] => false
  | t :: r => if hasN N (nmC N s) (chN (N t) 2) = true then false else if nmC N t = nmC N s then true else idB N s r
def opB (N : Nat → Nd) (s : Nat) : List Nat → Bool
  | [] => true
  | t :: r => if hasN N (nmC N s) (chN (N t) 2) = true ∨ nmC N t = nmC N s then false else opB N s r
def idN (N : Nat → Nd) : List Nat → List Nat
  | [] => []
  | s :: r => if idB N s r = true then s :: idN N r else idN N r
def pdL (N : Nat → Nd) (pl : Nat → Nat) (v : Int64) : List Nat → Option Nat
  | [] => none
  | s :: r => match pdL N pl v r with
    | some p => some p
    | none => if nmC N s = v ∧ opB N s r = true then some (pl s) else none
def optL : Option Nat → List Nat
  | some p => [p]
  | none => []
theorem op_sn {N : Nat → Nd} {s q : Nat} : ∀ {l : List Nat}, opB N s (l ++ [q]) = if hasN N (nmC N s) (chN (N q) 2) = true ∨ nmC N q = nmC N s then false else opB N s l
  | [] => rfl
  | t :: l => by
    show (if hasN N (nmC N s) (chN (N t) 2) = true ∨ nmC N t = nmC N s then false else opB N s (l ++ [q])) = if hasN N (nmC N s) (chN (N q) 2) = true ∨ nmC N q = nmC N s then false else (if hasN N (nmC N s) (chN (N t) 2) = true ∨ nmC N t = nmC N s then false else opB N s l)
    rw [op_sn]
    by_cases c1 : hasN N (nmC N s) (chN (N t) 2) = true ∨ nmC N t = nmC N s
    · rw [if_pos c1, if_pos c1]
      split <;> rfl
    · rw [if_neg c1, if_neg c1]
theorem id_sn {N : Nat → Nd} {s q : Nat} : ∀ {l : List Nat}, idB N s (l ++ [q]) = true ↔ (idB N s l = true ∨ (opB N s l = true ∧ ¬ hasN N (nmC N s) (chN (N q) 2) = true ∧ nmC N q = nmC N s))
  | [] => by
    show (if hasN N (nmC N s) (chN (N q) 2) = true then false else if nmC N q = nmC N s then true else false) = true ↔ (false = true ∨ (true = true ∧ _ ∧ _))
    by_cases c1 : hasN N (nmC N s) (chN (N q) 2) = true
    · rw [if_pos c1]
      exact ⟨fun h => absurd h (by decide), fun h => by
        rcases h with h | ⟨-, h, -⟩
        · exact h
        · exact absurd c1 h⟩
    · rw [if_neg c1]
      by_cases c2 : nmC N q = nmC N s
      · rw [if_pos c2]
        exact ⟨fun _ => Or.inr ⟨rfl, c1, c2⟩, fun _ => rfl⟩
      · rw [if_neg c2]
        exact ⟨fun h => absurd h (by decide), fun h => by
          rcases h with h | ⟨-, -, h⟩
          · exact h
          · exact absurd h c2⟩
  | t :: l => by
    show (if hasN N (nmC N s) (chN (N t) 2) = true then false else if nmC N t = nmC N s then true else idB N s (l ++ [q])) = true ↔ ((if hasN N (nmC N s) (chN (N t) 2) = true then false else if nmC N t = nmC N s then true else idB N s l) = true ∨ ((if hasN N (nmC N s) (chN (N t) 2) = true ∨ nmC N t = nmC N s then false else opB N s l) = true ∧ ¬ hasN N (nmC N s) (chN (N q) 2) = true ∧ nmC N q = nmC N s))
    by_cases c1 : hasN N (nmC N s) (chN (N t) 2) = true
    · rw [if_pos c1, if_pos c1, if_pos (Or.inl c1)]
      exact ⟨fun h => absurd h (by decide), fun h => by
        rcases h with h | ⟨h, -⟩
        · exact h
        · exact h⟩
    · rw [if_neg c1, if_neg c1]
      by_cases c2 : nmC N t = nmC N s
      · rw [if_pos c2, if_pos c2]
        exact ⟨fun _ => Or.inl rfl, fun _ => rfl⟩
      · rw [if_neg c2, if_neg c2, if_neg (fun h => by
          rcases h with h | h
          · exact c1 h
          · exact c2 h)]
        exact id_sn
theorem id_op {N : Nat → Nd} {s : Nat} : ∀ {l : List Nat}, idB N s l = true → opB N s l = false
  | [], h => by cases h
  | t :: l, h => by
    have h' : (if hasN N (nmC N s) (chN (N t) 2) = true then false else if nmC N t = nmC N s then true else idB N s l) = true := h
    show (if hasN N (nmC N s) (chN (N t) 2) = true ∨ nmC N t = nmC N s then false else opB N s l) = false
    by_cases c1 : hasN N (nmC N s) (chN (N t) 2) = true
    · rw [if_pos (Or.inl c1)]
    · rw [if_neg c1] at h'
      by_cases c2 : nmC N t = nmC N s
      · rw [if_pos (Or.inr c2)]
      · rw [if_neg c2] at h'
        rw [id_op h']
        split <;> rfl
theorem op_pd {N : Nat → Nd} {pl : Nat → Nat} {s : Nat} : ∀ {l : List Nat}, opB N s l = true → pdL N pl (nmC N s) l = none
  | [], _ => rfl
  | t :: l, h => by
    have h' : (if hasN N (nmC N s) (chN (N t) 2) = true ∨ nmC N t = nmC N s then false else opB N s l) = true := h
    by_cases c1 : hasN N (nmC N s) (chN (N t) 2) = true ∨ nmC N t = nmC N s
    · rw [if_pos c1] at h'
      cases h'
    · rw [if_neg c1] at h'
      show (match pdL N pl (nmC N s) l with | some p => some p | none => if nmC N t = nmC N s ∧ opB N t l = true then some (pl t) else none) = none
      rw [op_pd h']
      show (if nmC N t = nmC N s ∧ opB N t l = true then some (pl t) else none) = none
      rw [if_neg (fun w => c1 (Or.inr w.1))]
theorem pd_sn {N : Nat → Nd} {pl : Nat → Nat} {v : Int64} {q : Nat} : ∀ {l : List Nat}, pdL N pl v (l ++ [q]) = if nmC N q = v then some (pl q) else if hasN N v (chN (N q) 2) = true then none else pdL N pl v l
  | [] => by
    show (if nmC N q = v ∧ true = true then some (pl q) else none) = if nmC N q = v then some (pl q) else if hasN N v (chN (N q) 2) = true then none else none
    by_cases c1 : nmC N q = v
    · rw [if_pos ⟨c1, rfl⟩, if_pos c1]
    · rw [if_neg (fun w => c1 w.1), if_neg c1]
      split <;> rfl
  | s :: l => by
    show (match pdL N pl v (l ++ [q]) with | some p => some p | none => if nmC N s = v ∧ opB N s (l ++ [q]) = true then some (pl s) else none) = if nmC N q = v then some (pl q) else if hasN N v (chN (N q) 2) = true then none else (match pdL N pl v l with | some p => some p | none => if nmC N s = v ∧ opB N s l = true then some (pl s) else none)
    rw [pd_sn]
    by_cases c1 : nmC N q = v
    · rw [if_pos c1, if_pos c1]
    · rw [if_neg c1, if_neg c1]
      by_cases c2 : hasN N v (chN (N q) 2) = true
      · rw [if_pos c2, if_pos c2]
        show (if nmC N s = v ∧ opB N s (l ++ [q]) = true then some (pl s) else none) = none
        rw [if_neg (fun w => by
          have w2 := w.2
          rw [op_sn, if_pos (Or.inl (by rw [w.1]; exact c2))] at w2
          cases w2)]
      · rw [if_neg c2, if_neg c2]
        cases hp : pdL N pl v l with
        | some p => rfl
        | none =>
          show (if nmC N s = v ∧ opB N s (l ++ [q]) = true then some (pl s) else none) = (if nmC N s = v ∧ opB N s l = true then some (pl s) else none)
          by_cases c3 : nmC N s = v
          · have hno : ¬ (hasN N (nmC N s) (chN (N q) 2) = true ∨ nmC N q = nmC N s) := by
              rw [c3]
              exact fun w => w.elim c2 c1
            rw [op_sn, if_neg hno]
          · rw [if_neg (fun w => c3 w.1), if_neg (fun w => c3 w.1)]
theorem idN_sn {N : Nat → Nd} {pl : Nat → Nat} {q : Nat} : ∀ {l : List Nat}, ((idN N (l ++ [q])).map pl).Perm ((idN N l).map pl ++ optL (if hasN N (nmC N q) (chN (N q) 2) = true then none else pdL N pl (nmC N q) l))
  | [] => by
    show (([] : List Nat)).Perm ([] ++ optL (if hasN N (nmC N q) (chN (N q) 2) = true then none else none))
    split <;> exact List.Perm.refl _
  | s :: l => by
    have ih := idN_sn (N := N) (pl := pl) (q := q) (l := l)
    show ((if idB N s (l ++ [q]) = true then s :: idN N (l ++ [q]) else idN N (l ++ [q])).map pl).Perm ((if idB N s l = true then s :: idN N l else idN N l).map pl ++ optL (if hasN N (nmC N q) (chN (N q) 2) = true then none else (match pdL N pl (nmC N q) l with | some p => some p | none => if nmC N s = nmC N q ∧ opB N s l = true then some (pl s) else none)))
    by_cases c1 : idB N s l = true
    · rw [if_pos (id_sn.mpr (Or.inl c1)), if_pos c1, List.map_cons, List.map_cons, List.cons_append]
      refine (List.Perm.cons _ ih).trans ?_
      have e : (match pdL N pl (nmC N q) l with | some p => some p | none => if nmC N s = nmC N q ∧ opB N s l = true then some (pl s) else none) = pdL N pl (nmC N q) l := by
        cases hp : pdL N pl (nmC N q) l with
        | some p => rfl
        | none =>
          show (if nmC N s = nmC N q ∧ opB N s l = true then some (pl s) else none) = none
          rw [if_neg (fun w => by
            rw [id_op c1] at w
            exact absurd w.2 (by decide))]
      exact List.Perm.cons _ (by rw [e] <;> exact List.Perm.refl _)
    · rw [if_neg c1]
      by_cases c2 : opB N s l = true ∧ ¬ hasN N (nmC N s) (chN (N q) 2) = true ∧ nmC N q = nmC N s
      · obtain ⟨d1, d2, d3⟩ := c2
        rw [if_pos (id_sn.mpr (Or.inr ⟨d1, d2, d3⟩)), List.map_cons, d3, if_neg d2]
        rw [d3, if_neg d2, op_pd d1] at ih
        rw [op_pd d1]
        show (pl s :: (idN N (l ++ [q])).map pl).Perm ((idN N l).map pl ++ optL (if nmC N s = nmC N s ∧ opB N s l = true then some (pl s) else none))
        rw [if_pos ⟨rfl, d1⟩]
        have ih' : ((idN N (l ++ [q])).map pl).Perm ((idN N l).map pl) := by
          have := ih
          change ((idN N (l ++ [q])).map pl).Perm ((idN N l).map pl ++ []) at this
          rw [List.append_nil] at this
          exact this
        exact (List.Perm.cons _ ih').trans (List.perm_append_singleton _ _).symm
      · rw [if_neg (fun w => by
          rcases id_sn.mp w with w | w
          · exact c1 w
          · exact c2 w)]
        have e : (if hasN N (nmC N q) (chN (N q) 2) = true then none else (match pdL N pl (nmC N q) l with | some p => some p | none => if nmC N s = nmC N q ∧ opB N s l = true then some (pl s) else none)) = (if hasN N (nmC N q) (chN (N q) 2) = true then none else pdL N pl (nmC N q) l) := by
          by_cases c3 : hasN N (nmC N q) (chN (N q) 2) = true
          · rw [if_pos c3, if_pos c3]
          · rw [if_neg c3, if_neg c3]
            cases hp : pdL N pl (nmC N q) l with
            | some p => rfl
            | none =>
              show (if nmC N s = nmC N q ∧ opB N s l = true then some (pl s) else none) = none
              rw [if_neg (fun w => c2 ⟨w.2, by rw [w.1]; exact c3, w.1.symm⟩)]
        rw [e]
        exact ih
/-- what the class has of idle ones -/
theorem ruAt_d {m R : Nat} {N : Nat → Nd} {pl : Nat → Nat} (hN : NdOk m N) (hR : R < m) (hpl : ∀ (p : Nat) (x : Fl), (flR N R)[p]? = some x → pl x.1 = p) : ∀ p, p ≤ (flR N R).length → (∀ v, (ruQ (ruAt N (flR N R) p)).1 v = pdL N pl v (st2 N ((flR N R).take p))) ∧ (ruD (ruAt N (flR N R) p)).Perm ((idN N (st2 N ((flR N R).take p))).map pl)
  | 0, _ => ⟨fun _ => rfl, List.Perm.refl _⟩
  | p + 1, hp => by
    obtain ⟨i1, i2⟩ := ruAt_d hN hR hpl p (by omega)
    have hx : (flR N R)[p]? = some ((flR N R)[p]'(by omega)) := List.getElem?_eq_getElem (by omega)
    generalize (flR N R)[p]'(by omega) = x at hx
    rw [ruAt_s hx, st2_sn hx]
    by_cases u : ndR (N x.1) = 2
    · rw [if_pos u, if_pos u]
      have hU : ∀ v, (ntR N (ruL (ruAt N (flR N R) p)) (((flR N R).drop (p + 3)).take (sz N (chN (N x.1) 2))) (ruQ (ruAt N (flR N R) p))).1 v = if hasN N v (chN (N x.1) 2) = true then none else pdL N pl v (st2 N ((flR N R).take p)) := fun v => by
        rw [ntU, seg_has hN hR hx u, i1 v]
      constructor
      · intro v
        rw [pd_sn]
        show up6 (ntR N (ruL (ruAt N (flR N R) p)) (((flR N R).drop (p + 3)).take (sz N (chN (N x.1) 2))) (ruQ (ruAt N (flR N R) p))).1 (nmC N x.1) (some p) v = _
        by_cases e : v = nmC N x.1
        · rw [e, up6_s, if_pos rfl, hpl p x hx]
        · rw [up6_o e, if_neg (fun w => e w.symm), hU v]
      · refine List.Perm.trans ?_ (idN_sn (N := N) (pl := pl) (q := x.1) (l := st2 N ((flR N R).take p))).symm
        show (dnD (ruD (ruAt N (flR N R) p)) ((ntR N (ruL (ruAt N (flR N R) p)) (((flR N R).drop (p + 3)).take (sz N (chN (N x.1) 2))) (ruQ (ruAt N (flR N R) p))).1 (nmC N x.1))).Perm _
        rw [hU]
        generalize (if hasN N (nmC N x.1) (chN (N x.1) 2) = true then none else pdL N pl (nmC N x.1) (st2 N ((flR N R).take p))) = w
        cases w with
        | none =>
          show (ruD (ruAt N (flR N R) p)).Perm (_ ++ [])
          rw [List.append_nil]
          exact i2
        | some q =>
          exact List.Perm.append_right [q] i2
    · rw [if_neg u, if_neg u, List.append_nil]
      exact ⟨i1, i2⟩
theorem mnD_pm {l k : List Nat} (h : l.Perm k) : mnD l = mnD k := by
  induction h with
  | nil => rfl
  | cons x _ ih =>
    show min x _ = min x _
    rw [ih]
  | swap x y l =>
    show min y (min x (mnD l)) = min x (min y (mnD l))
    omega
  | trans _ _ a b => exact a.trans b
theorem idN_sub {N : Nat → Nd} : ∀ {l : List Nat}, (idN N l).Sublist l
  | [] => List.Sublist.slnil
  | s :: l => by
    show (if idB N s l = true then s :: idN N l else idN N l).Sublist (s :: l)
    split
    · exact List.Sublist.cons₂ _ idN_sub
    · exact List.Sublist.cons _ idN_sub
theorem st2_pw {N : Nat → Nd} {pl : Nat → Nat} : ∀ (L : List Fl) (k : Nat), (∀ (i : Nat) (x : Fl), L[i]? = some x → pl x.1 = k + i) → (st2 N L).Pairwise (fun a b => pl a < pl b) ∧ ∀ s ∈ st2 N L, k ≤ pl s
  | [], _, _ => ⟨List.Pairwise.nil, fun s hs => by cases hs⟩
  | x :: L, k, h => by
    obtain ⟨i1, i2⟩ := st2_pw (N := N) (pl := pl) L (k + 1) (fun i y hy => by
      have := h (i + 1) y (by rw [List.getElem?_cons_succ]; exact hy)
      omega)
    have h0 := h 0 x rfl
    show (if ndR (N x.1) = 2 then x.1 :: st2 N L else st2 N L).Pairwise (fun a b => pl a < pl b) ∧ ∀ s ∈ (if ndR (N x.1) = 2 then x.1 :: st2 N L else st2 N L), k ≤ pl s
    by_cases u : ndR (N x.1) = 2
    · rw [if_pos u]
      refine ⟨List.pairwise_cons.mpr ⟨fun s hs => by have := i2 s hs; omega, i1⟩, fun s hs => ?_⟩
      rcases List.mem_cons.mp hs with rfl | hs
      · omega
      · have := i2 s hs
        omega
    · rw [if_neg u]
      exact ⟨i1, fun s hs => by have := i2 s hs; omega⟩
theorem mnD_hd {a : Nat} : ∀ {l : List Nat}, (∀ b ∈ l, a ≤ b) → a ≤ 400 → mnD (a :: l) = a := by
  intro l h ha
  have : a ≤ mnD l := by
    induction l with
    | nil => exact ha
    | cons b l ih =>
      have h1 := h b (List.mem_cons_self ..)
      have h2 := ih (fun c hc => h c (List.mem_cons_of_mem _ hc))
      show a ≤ min b (mnD l)
      omega
  show min a (mnD l) = a
  omega
/-- idle: how many; the first -/
theorem idle_is {x : Sg} (hv : Iv x) : (ruD (ruR x)).length = (idN (sgN x) (setsOf (sgN x) (moR (sgC x)))).length ∧ ∀ f l, idN (sgN x) (setsOf (sgN x) (moR (sgC x))) = f :: l → (ffA x (mnD (ruD (ruR x)))).1 = f := by
  have f248 := hv.f248
  have hpl : ∀ (p : Nat) (f : Fl), (FF x)[p]? = some f → (fun c => (plT x c).getD 0) f.1 = p := fun p f hp => by
    show (plT x f.1).getD 0 = p
    rw [plT_at hv hp]
    rfl
  have h := (ruAt_d (pl := fun c => (plT x c).getD 0) hv.2.1 hv.tr.1 hpl (FF x).length (Nat.le_refl _)).2
  rw [List.take_length] at h
  have hd : (ruD (ruR x)).Perm ((idN (sgN x) (setsOf (sgN x) (moR (sgC x)))).map (fun c => (plT x c).getD 0)) := h
  constructor
  · rw [hd.length_eq, List.length_map]
  · intro f l e
    rw [mnD_pm hd, e, List.map_cons]
    have pw := (st2_pw (N := sgN x) (pl := fun c => (plT x c).getD 0) (FF x) 0 (fun i y hy => (hpl i y hy).trans (Nat.zero_add i).symm)).1
    have pw2 := List.Pairwise.sublist (idN_sub (N := sgN x)) pw
    change (idN (sgN x) (setsOf (sgN x) (moR (sgC x)))).Pairwise _ at pw2
    rw [e] at pw2
    have pw3 := (List.pairwise_cons.mp pw2).1
    have hf : f ∈ setsOf (sgN x) (moR (sgC x)) := List.Sublist.subset (idN_sub (N := sgN x)) (by rw [e]; exact List.mem_cons_self ..)
    obtain ⟨y, y1, y2, -⟩ := st2_mem hf
    obtain ⟨p, hp⟩ := List.mem_iff_getElem?.mp y1
    have hp' : (FF x)[p]? = some y := hp
    have hpl2 := (List.getElem?_eq_some_iff.mp hp').1
    have e2 : (plT x f).getD 0 = p := by
      rw [← y2]
      exact hpl p y hp'
    rw [mnD_hd (fun b hb => by
      obtain ⟨c, hc, rfl⟩ := List.mem_map.mp hb
      exact Nat.le_of_lt (pw3 c hc)) (by show (plT x f).getD 0 ≤ 400; omega)]
    show (ffA x ((plT x f).getD 0)).1 = f
    rw [e2, ffA_at hp', y2]
/-! ===== sets, idle: the model ===== -/
theorem u_MsetName {m R n i s : Nat} {og : Nat → Nat} {N : Nat → Nd} {I : zI} {K : Int64 → Prop} (V : Vw I m R n N og) (hs : (setsOf N R)[i]? = some s) (h : K (nmC N s)) : w_M_setName (zi i) I K := by
  have hm := V.2.2.1
  have hi := (List.getElem?_eq_some_iff.mp hs).1
  obtain ⟨n1, n2⟩ := V.nset
  obtain ⟨x, x1, x2, x3⟩ := st2_mem (List.mem_of_getElem? hs)
  obtain ⟨p, hp⟩ := List.mem_iff_getElem?.mp x1
  rw [← x2] at x3
  obtain ⟨e1, e2, e3, e4, e5, e6, -⟩ := st_e V.2.1 V.2.2.2.1.1 hp x3
  obtain ⟨hxm, -⟩ := fl_szin V.2.1 V.2.2.2.1.1 hp
  unfold w_M_setName
  refine ⟨(zin_iff (by omega)).mpr (by omega), ?_⟩
  rw [zi_tn (show i < 2147483648 by omega), show I.1 529 i = zi s from V.2.2.2.2.1.2.2.2.2.2.2 i s hs, ← x2]
  refine s_MchildOf (k := 0) V.1 (by omega) hxm (V.2.1.ch _ hxm) e6 ?_
  refine ⟨(zin_iff (by omega)).mpr (by omega), ?_⟩
  rw [zi_tn (show chN (N x.1) 0 < 2147483648 by omega), show I.2 511 (chN (N x.1) 0) = nmV N (chN (N x.1) 0) from ((V.1.2 _ e2).2.2.2.2.2.2 (nd_tk5 V.2.1 e2 (by omega)).1).2]
  rw [← x2] at h
  exact h
theorem u_sets {x : Sg} {a : Int32} {I : zI} {K : Int32 → Prop} (hv : Iv x) (hR : RM I x) (h : K (vSets x a)) : w_M_sets a I K := by
  have V := hR.view hv
  obtain ⟨n1, n2⟩ := V.nset
  have l100 : nG x ≤ 100 := hv.2.2.2.2.2.2.2.1.2.1.2.2
  unfold vSets at h
  refine u_isGoodName hv hR (fun i hi e e2 h5 g7 => ?_) (fun e => ?_)
  · rw [e2] at h
    dsimp only at h
    rw [show ruT (ruR x) (nmV (sgN x) (moO (sgC x) i)) = tmL (sgN x) (nmV (sgN x) (moO (sgC x) i)) (setsOf (sgN x) (moR (sgC x))) from ruN_l.2.2 _] at h
    rw [if_neg (by decide), e]
    intro P14 h14
    have main : ∀ (d k c : Nat), k + d = (setsOf (sgN x) (moR (sgC x))).length → c + tmL (sgN x) (nmV (sgN x) (moO (sgC x) i)) ((setsOf (sgN x) (moR (sgC x))).drop k) = tmL (sgN x) (nmV (sgN x) (moO (sgC x) i)) (setsOf (sgN x) (moR (sgC x))) → P14 (zi c) (zi k) := by
      intro d
      induction d with
      | zero =>
        intro k c hk hc
        refine h14 _ _ ?_
        rw [n1, if_pos ((zi_le (by omega) (by omega)).mpr (by omega))]
        rw [List.drop_of_length_le (by omega)] at hc
        change c + 0 = _ at hc
        rw [Nat.add_zero] at hc
        rw [hc]
        exact h
      | succ d ih =>
        intro k c hk hc
        refine h14 _ _ ?_
        rw [n1, if_neg (fun u => by have := (zi_le (by omega) (by omega)).mp u; omega)]
        have hs : (setsOf (sgN x) (moR (sgC x)))[k]? = some ((setsOf (sgN x) (moR (sgC x)))[k]'(by omega)) := List.getElem?_eq_getElem (by omega)
        have hdr : (setsOf (sgN x) (moR (sgC x))).drop k = (setsOf (sgN x) (moR (sgC x)))[k]'(by omega) :: (setsOf (sgN x) (moR (sgC x))).drop (k + 1) := List.drop_eq_getElem_cons (by omega)
        generalize (setsOf (sgN x) (moR (sgC x)))[k]'(by omega) = s at hs hdr
        rw [hdr] at hc
        have hc' : c + ((if nmC (sgN x) s = nmV (sgN x) (moO (sgC x) i) then 1 else 0) + tmL (sgN x) (nmV (sgN x) (moO (sgC x) i)) ((setsOf (sgN x) (moR (sgC x))).drop (k + 1))) = _ := hc
        refine u_MsetName V hs ⟨(zin_iff (by omega)).mpr (by omega), ?_⟩
        rw [zi_tn (show i < 2147483648 by omega), g7]
        intro P40 h40
        by_cases u : nmC (sgN x) s = nmV (sgN x) (moO (sgC x) i)
        · rw [if_pos u] at hc'
          rw [if_pos (lg_cmp0.mpr u)]
          intro v ev
          refine h40 _ (fun v' ev' => ?_)
          rw [ev', ev, zi_succ, zi_succ]
          exact ih (k + 1) (c + 1) (by omega) (by omega)
        · rw [if_neg u] at hc'
          rw [if_neg (fun w => u (lg_cmp0.mp w))]
          refine h40 _ (fun v' ev' => ?_)
          rw [ev', zi_succ]
          exact ih (k + 1) c (by omega) (by omega)
    exact main (setsOf (sgN x) (moR (sgC x))).length 0 0 (by omega) (by rw [List.drop_zero, Nat.zero_add])
  · rw [e] at h
    rw [if_pos rfl]
    exact h
theorem u_MdoesRead {m R n i s : Nat} {og : Nat → Nat} {N : Nat → Nd} {v : Int64} {I : zI} {K : Int32 → Prop} (V : Vw I m R n N og) (hs : (setsOf N R)[i]? = some s) (h : K (b01 (hasN N v (chN (N s) 2)))) : w_M_doesRead (zi i) v I K := by
  obtain ⟨l1, l2, l3, l4, l5, l6, l7⟩ := V.len
  have hm := V.2.2.1
  have hi := (List.getElem?_eq_some_iff.mp hs).1
  obtain ⟨n1, n2⟩ := V.nset
  obtain ⟨x, x1, x2, x3⟩ := st2_mem (List.mem_of_getElem? hs)
  obtain ⟨p, hp⟩ := List.mem_iff_getElem?.mp x1
  rw [← x2] at x3 h
  obtain ⟨e1, e2, e3, e4, e5, e6, f, f1, f2, f3⟩ := st_e V.2.1 V.2.2.2.1.1 hp x3
  obtain ⟨hxm, -⟩ := fl_szin V.2.1 V.2.2.2.1.1 hp
  have hfl := (List.getElem?_eq_some_iff.mp f1).1
  obtain ⟨s1, s2, s3⟩ := sz_inR V.2.1 V.2.2.2.1.1 f1
  obtain ⟨t1, t2, t3⟩ := V.2.2.2.2.1.tv (p + 3) f f1
  rw [f2] at t2 s1 s2 s3
  rw [s1] at t3
  have hin : vp_in (zi (p + 3)) 700 := (zin_iff (by omega)).mpr (by omega)
  unfold w_M_doesRead
  refine ⟨(zin_iff (by omega)).mpr (by omega), ?_⟩
  rw [zi_tn (show i < 2147483648 by omega), show I.1 529 i = zi s from V.2.2.2.2.1.2.2.2.2.2.2 i s hs, ← x2]
  refine s_MchildOf (k := 2) V.1 (by omega) hxm (V.2.1.ch _ hxm) e5 ?_
  refine ⟨(zin_iff (by omega)).mpr (by omega), fun v4 ev4 => ?_⟩
  rw [zi_tn (show chN (N x.1) 2 < 2147483648 by omega), t2] at ev4
  intro P22 h22
  rw [ev4] at h22 ⊢
  rw [← seg_has V.2.1 V.2.2.2.1.1 hp x3] at h
  have main : ∀ (d q : Nat), q + d = p + 3 + sz N (chN (N x.1) 2) → K (b01 ((((flR N R).drop q).take d).any (fun y => rdB N v y.1))) → P22 (zi q) := by
    intro d
    induction d with
    | zero =>
      intro q hq hK
      refine h22 _ ⟨hin, ?_⟩
      rw [zi_tn (show p + 3 < 2147483648 by omega), t3, if_pos ((zi_le (by omega) (by omega)).mpr (by omega))]
      rw [List.take_zero] at hK
      exact hK
    | succ d ih =>
      intro q hq hK
      have hy : (flR N R)[q]? = some ((flR N R)[q]'(by omega)) := List.getElem?_eq_getElem (by omega)
      have hdr : (flR N R).drop q = (flR N R)[q]'(by omega) :: (flR N R).drop (q + 1) := List.drop_eq_getElem_cons (by omega)
      generalize (flR N R)[q]'(by omega) = y at hy hdr
      rw [hdr, List.take_succ_cons, List.any_cons] at hK
      obtain ⟨hym, -⟩ := fl_szin V.2.1 V.2.2.2.1.1 hy
      obtain ⟨w1, w2, w3⟩ := V.2.2.2.2.1.tv q y hy
      have hq7 : vp_in (zi q) 700 := (zin_iff (by omega)).mpr (by omega)
      refine h22 _ ⟨hin, ?_⟩
      rw [zi_tn (show p + 3 < 2147483648 by omega), t3, if_neg (fun u => by have := (zi_le (by omega) (by omega)).mp u; omega)]
      refine ⟨hq7, ?_⟩
      rw [zi_tn (show q < 2147483648 by omega), w1]
      refine ⟨(zin_iff (by omega)).mpr (by omega), ?_⟩
      intro P75 h75
      have nx : K (b01 ((((flR N R).drop (q + 1)).take d).any (fun y => rdB N v y.1))) → P75 := fun hK' => h75 (fun v' ev => by
        rw [ev, zi_succ]
        exact ih (q + 1) (by omega) hK')
      rw [zi_tn (show y.1 < 2147483648 by omega), show I.1 509 y.1 = Int32.ofInt (ndR (N y.1)) from (V.1.2 _ hym).1]
      by_cases u : ndR (N y.1) = 8
      · rw [if_pos (show Int32.ofInt (ndR (N y.1)) = 8 by rw [u]; rfl)]
        obtain ⟨c1, c2, c3⟩ := chN_is (k := 0) (y := 5) V.2.1 hym (show ndR (N y.1) = ((8 : Nat) : Int) from u) rfl
        have hcm : chN (N y.1) 0 < m := by omega
        refine ⟨hq7, s_MchildOf (k := 0) V.1 (by omega) hym (V.2.1.ch _ hym) c1 ⟨(zin_iff (by omega)).mpr (by omega), ?_⟩⟩
        rw [zi_tn (show chN (N y.1) 0 < 2147483648 by omega), show I.2 511 (chN (N y.1) 0) = nmC N y.1 from ((V.1.2 _ hcm).2.2.2.2.2.2 (nd_tk5 V.2.1 hcm (by omega)).1).2]
        by_cases e : nmC N y.1 = v
        · rw [if_pos (lg_cmp0.mpr e)]
          rw [show rdB N v y.1 = true from decide_eq_true ⟨u, e⟩, Bool.true_or] at hK
          exact hK
        · rw [if_neg (fun w => e (lg_cmp0.mp w))]
          rw [show rdB N v y.1 = false from decide_eq_false (fun w => e w.2), Bool.false_or] at hK
          exact nx hK
      · rw [if_neg (show ¬ Int32.ofInt _ = 8 from fun w => u ((rl_eq (r := 8) V.2.1 hym (by decide)).mp w))]
        rw [show rdB N v y.1 = false from decide_eq_false (fun w => u w.1), Bool.false_or] at hK
        exact nx hK
  exact main (sz N (chN (N x.1) 2)) (p + 3) rfl h
theorem u_MisIdle {m R n i s : Nat} {og : Nat → Nat} {N : Nat → Nd} {I : zI} {K : Int32 → Prop} (V : Vw I m R n N og) (hs : (setsOf N R)[i]? = some s) (h : K (b01 (idB N s ((setsOf N R).drop (i + 1))))) : w_M_isIdle (zi i) I K := by
  have hi := (List.getElem?_eq_some_iff.mp hs).1
  obtain ⟨n1, n2⟩ := V.nset
  intro v2 ev2
  rw [zi_succ] at ev2
  subst ev2
  intro P4 h4
  have main : ∀ (d k : Nat), k + d = (setsOf N R).length → K (b01 (idB N s ((setsOf N R).drop k))) → P4 (zi k) := by
    intro d
    induction d with
    | zero =>
      intro k hk hK
      refine h4 _ ?_
      rw [n1, if_pos ((zi_le (by omega) (by omega)).mpr (by omega))]
      rw [List.drop_of_length_le (by omega)] at hK
      exact hK
    | succ d ih =>
      intro k hk hK
      have ht : (setsOf N R)[k]? = some ((setsOf N R)[k]'(by omega)) := List.getElem?_eq_getElem (by omega)
      have hdr : (setsOf N R).drop k = (setsOf N R)[k]'(by omega) :: (setsOf N R).drop (k + 1) := List.drop_eq_getElem_cons (by omega)
      generalize (setsOf N R)[k]'(by omega) = t at ht hdr
      rw [hdr] at hK
      have hK' : K (b01 (if hasN N (nmC N s) (chN (N t) 2) = true then false else if nmC N t = nmC N s then true else idB N s ((setsOf N R).drop (k + 1)))) := hK
      refine h4 _ ?_
      rw [n1, if_neg (fun u => by have := (zi_le (by omega) (by omega)).mp u; omega)]
      refine u_MsetName V hs (u_MdoesRead V ht ?_)
      by_cases c1 : hasN N (nmC N s) (chN (N t) 2) = true
      · rw [if_pos c1] at hK'
        rw [c1, if_neg (show ¬ b01 true = 0 by decide)]
        exact hK'
      · rw [if_neg c1] at hK'
        rw [Bool.eq_false_iff.mpr c1, if_pos (show b01 false = 0 from rfl)]
        refine u_MsetName V ht (u_MsetName V hs ?_)
        by_cases c2 : nmC N t = nmC N s
        · rw [if_pos c2] at hK'
          rw [if_pos (lg_cmp0.mpr c2)]
          exact hK'
        · rw [if_neg c2] at hK'
          rw [if_neg (fun w => c2 (lg_cmp0.mp w))]
          intro v ev
          rw [ev, zi_succ]
          exact ih (k + 1) (by omega) hK'
  exact main ((setsOf N R).length - (i + 1)) (i + 1) (by omega) h
def hdI : List Nat → Int32
  | [] => -2
  | s :: _ => zi s
theorem u_idle {x : Sg} {b : Int32} {I : zI} {K : Int32 → Prop} (hv : Iv x) (hR : RM I x) (h : K (vIdle x b)) : w_M_idle b I K := by
  have V := hR.view hv
  obtain ⟨n1, n2⟩ := V.nset
  obtain ⟨d1, d2⟩ := idle_is hv
  have hN1 : ∀ l : List Nat, idN (sgN x) (setsOf (sgN x) (moR (sgC x))) = l → vIdle x b = if b = 0 then zi l.length else if b = 1 then hdI l else -1 := fun l hl => by
    unfold vIdle
    rw [d1, hl]
    cases l with
    | nil =>
      rw [if_pos (show ([] : List Nat).length = 0 from rfl)]
      rfl
    | cons f l =>
      rw [d2 f l hl, List.length_cons, if_neg (Nat.succ_ne_zero _)]
      rfl
  have hv2 := hN1 _ rfl
  generalize hl : idN (sgN x) (setsOf (sgN x) (moR (sgC x))) = l at hv2
  rw [hv2] at h
  unfold w_M_idle
  have main : (∀ w, (b = 0 → w = zi l.length) → (b = 1 → w = hdI l) → K w) → ∀ v4_2, v4_2 = ((I.1 491 53) - 1) → ∀ (P24 : Int32 → Int32 → Int32 → Prop), (∀ (v2_3 : Int32) (v3_4 : Int32) (v4_5 : Int32), ((if v4_5 < 0 then (if b = 0 then K v2_3 else K v3_4) else (w_M_isIdle v4_5 I (fun r_7 => ∀ (P52 : Int32 → Int32 → Prop), (∀ (v2_8 : Int32) (v3_9 : Int32), (∀ v4_10, v4_10 = (v4_5 + (-1)) → P24 v2_8 v3_9 v4_10) → P52 v2_8 v3_9) → (if r_7 = 0 then P52 v2_3 v3_4 else (∀ v2_11, v2_11 = (v2_3 + 1) → vp_in v4_5 110 ∧ (∀ v3_12, v3_12 = (I.1 529 (Int32.toNatClampNeg v4_5)) → P52 v2_11 v3_12))))))) → P24 v2_3 v3_4 v4_5) → (b = 0 ∨ b = 1) → P24 0 (-2) v4_2 := by
    intro hK v4 ev4 P24 h24 hb
    have go : ∀ k, k ≤ (setsOf (sgN x) (moR (sgC x))).length → P24 (zi (idN (sgN x) ((setsOf (sgN x) (moR (sgC x))).drop k)).length) (hdI (idN (sgN x) ((setsOf (sgN x) (moR (sgC x))).drop k))) (zi k - 1) := by
      intro k
      induction k with
      | zero =>
        intro _
        refine h24 _ _ _ ?_
        rw [if_pos (show zi 0 - 1 < 0 by decide), List.drop_zero, hl]
        by_cases c0 : b = 0
        · rw [if_pos c0]
          exact hK _ (fun _ => rfl) (fun w => by rw [c0] at w; exact absurd w (by decide))
        · rw [if_neg c0]
          exact hK _ (fun w => absurd w c0) (fun _ => rfl)
      | succ k ih =>
        intro hk
        have ih' := ih (by omega)
        have hs : (setsOf (sgN x) (moR (sgC x)))[k]? = some ((setsOf (sgN x) (moR (sgC x)))[k]'(by omega)) := List.getElem?_eq_getElem (by omega)
        have hdr : (setsOf (sgN x) (moR (sgC x))).drop k = (setsOf (sgN x) (moR (sgC x)))[k]'(by omega) :: (setsOf (sgN x) (moR (sgC x))).drop (k + 1) := List.drop_eq_getElem_cons (by omega)
        generalize (setsOf (sgN x) (moR (sgC x)))[k]'(by omega) = s at hs hdr
        refine h24 _ _ _ ?_
        rw [show zi (k + 1) - 1 = zi k from zi_sub (b := 1) (by omega), if_neg (zi_pos (by omega))]
        rw [hdr] at ih'
        have ih2 : P24 (zi (if idB (sgN x) s ((setsOf (sgN x) (moR (sgC x))).drop (k + 1)) = true then s :: idN (sgN x) ((setsOf (sgN x) (moR (sgC x))).drop (k + 1)) else idN (sgN x) ((setsOf (sgN x) (moR (sgC x))).drop (k + 1))).length) (hdI (if idB (sgN x) s ((setsOf (sgN x) (moR (sgC x))).drop (k + 1)) = true then s :: idN (sgN x) ((setsOf (sgN x) (moR (sgC x))).drop (k + 1)) else idN (sgN x) ((setsOf (sgN x) (moR (sgC x))).drop (k + 1)))) (zi k - 1) := ih'
        refine u_MisIdle V hs ?_
        intro P52 h52
        by_cases c : idB (sgN x) s ((setsOf (sgN x) (moR (sgC x))).drop (k + 1)) = true
        · rw [if_pos c] at ih2
          rw [c, if_neg (show ¬ b01 true = 0 by decide)]
          intro v ev
          refine ⟨(zin_iff (by omega)).mpr (by omega), fun v3 ev3 => ?_⟩
          rw [zi_tn (show k < 2147483648 by omega), show I.1 529 k = zi s from V.2.2.2.2.1.2.2.2.2.2.2 k s hs] at ev3
          refine h52 _ _ (fun v' ev' => ?_)
          rw [ev', ev3, ev, zi_succ, show zi k + (-1) = zi k - 1 from (Int32.sub_eq_add_neg ..).symm]
          exact ih2
        · rw [if_neg c] at ih2
          rw [Bool.eq_false_iff.mpr c, if_pos (show b01 false = 0 from rfl)]
          refine h52 _ _ (fun v' ev' => ?_)
          rw [ev', show zi k + (-1) = zi k - 1 from (Int32.sub_eq_add_neg ..).symm]
          exact ih2
    have := go _ (Nat.le_refl _)
    rw [List.drop_of_length_le (Nat.le_refl _)] at this
    rw [ev4, n1]
    exact this
  refine u_in (n := 2) (by decide) (fun j hj ej _ => ?_) (fun ej => ?_)
  · rw [if_neg (by decide)]
    intro v4 ev4 P24 h24
    match j, hj with
    | 0, _ =>
      have e0 : b = 0 := ej
      rw [if_pos e0] at h
      refine main (fun w h0 _ => by rw [h0 e0]; exact h) v4 ev4 P24 h24 (Or.inl e0)
    | 1, _ =>
      have e1 : b = 1 := ej
      rw [if_neg (by rw [e1]; decide), if_pos e1] at h
      refine main (fun w _ h1 => by rw [h1 e1]; exact h) v4 ev4 P24 h24 (Or.inr e1)
  · rw [if_pos rfl]
    have no : ∀ j : Nat, j < 2 → b ≠ zi j := fun j hj u => by
      rw [u, ixI_some (by decide) hj] at ej
      cases ej
    rw [if_neg (show ¬ b = 0 from no 0 (by decide)), if_neg (show ¬ b = 1 from no 1 (by decide))] at h
    exact h
