/-! ===== PAIRS ===== -/
theorem div_fin : ∀ p, p < 200 → zi p / 2 = zi (p / 2) := by decide +kernel
/-- there already, or one more -/
def fmP (a b : Nat) (pl : List (Nat × Nat)) : Nat × List (Nat × Nat) := match pl.findIdx? (fun p => p == (a, b)) with
  | some i => (i, pl)
  | none => (pl.length, pl ++ [(a, b)])
/-- the ROW of a part of the RUNS -/
def layR (rs : List Nat) : Nat → Nat → Nat → List (Nat × Nat) → Nat × List (Nat × Nat)
  | 0, f, _, pl => (rs.getD f 0, pl)
  | d + 1, f, part, pl => if part ≤ 1 then (rs.getD f 0, pl) else
    (10000 + (fmP (layR rs d f ((part + 1) / 2) pl).1 (layR rs d (f + (part + 1) / 2) (part - (part + 1) / 2) (layR rs d f ((part + 1) / 2) pl).2).1 (layR rs d (f + (part + 1) / 2) (part - (part + 1) / 2) (layR rs d f ((part + 1) / 2) pl).2).2).1,
      (fmP (layR rs d f ((part + 1) / 2) pl).1 (layR rs d (f + (part + 1) / 2) (part - (part + 1) / 2) (layR rs d f ((part + 1) / 2) pl).2).1 (layR rs d (f + (part + 1) / 2) (part - (part + 1) / 2) (layR rs d f ((part + 1) / 2) pl).2).2).2)
def PrU (pl : List (Nat × Nat)) : Prop := ∀ (i j : Nat) (p : Nat × Nat), pl[i]? = some p → pl[j]? = some p → i = j
theorem fmp_at {pl : List (Nat × Nat)} {a b i : Nat} (h : pl.findIdx? (fun p => p == (a, b)) = some i) : pl[i]? = some (a, b) := by
  obtain ⟨h1, h2, -⟩ := List.findIdx?_eq_some_iff_getElem.mp h
  rw [List.getElem?_eq_getElem h1, beq_iff_eq.mp h2]
theorem fmp_no {pl : List (Nat × Nat)} {a b : Nat} (h : pl.findIdx? (fun p => p == (a, b)) = none) : ∀ i : Nat, pl[i]? ≠ some (a, b) := by
  intro i hi
  have := List.findIdx?_eq_none_iff.mp h (a, b) (List.mem_of_getElem? hi)
  rw [beq_self_eq_true] at this
  cases this
theorem fmp_is {pl : List (Nat × Nat)} (hu : PrU pl) {a b i : Nat} (h : pl[i]? = some (a, b)) : fmP a b pl = (i, pl) := by
  unfold fmP
  cases e : pl.findIdx? (fun p => p == (a, b)) with
  | none => exact absurd h (fmp_no e i)
  | some j =>
    rw [hu j i _ (fmp_at e) h]
theorem fmp_new {pl : List (Nat × Nat)} {a b : Nat} (h : ∀ i : Nat, pl[i]? ≠ some (a, b)) : fmP a b pl = (pl.length, pl ++ [(a, b)]) := by
  unfold fmP
  cases e : pl.findIdx? (fun p => p == (a, b)) with
  | none => rfl
  | some j => exact absurd (fmp_at e) (h j)
theorem fmp_ok {pl : List (Nat × Nat)} (hu : PrU pl) (a b : Nat) : PrU (fmP a b pl).2 ∧ pl.length ≤ (fmP a b pl).2.length ∧ (fmP a b pl).2.length ≤ pl.length + 1 ∧ (fmP a b pl).1 < (fmP a b pl).2.length := by
  unfold fmP
  cases e : pl.findIdx? (fun p => p == (a, b)) with
  | some j =>
    have := (List.getElem?_eq_some_iff.mp (fmp_at e)).1
    exact ⟨hu, Nat.le_refl _, Nat.le_succ _, this⟩
  | none =>
    have h := fmp_no e
    refine ⟨fun i j p hi hj => ?_, ?_, ?_, ?_⟩
    · rcases snoc_at hi with hi | ⟨i1, i2⟩
      · rcases snoc_at hj with hj | ⟨j1, j2⟩
        · exact hu i j p hi hj
        · rw [j2] at hi
          exact absurd hi (h i)
      · rcases snoc_at hj with hj | ⟨j1, j2⟩
        · rw [i2] at hj
          exact absurd hj (h j)
        · omega
    · show pl.length ≤ (pl ++ [(a, b)]).length
      rw [List.length_append]
      omega
    · show (pl ++ [(a, b)]).length ≤ pl.length + 1
      rw [List.length_append]
      exact Nat.le_refl _
    · show pl.length < (pl ++ [(a, b)]).length
      rw [List.length_append]
      show pl.length < pl.length + 1
      omega
/-- what a ROW is: a node, or a PAIR -/
def rowV (v n : Nat) : Prop := v < 3400 ∨ (10000 ≤ v ∧ v < 10000 + n)
theorem layR_ok {rs : List Nat} (hrs : ∀ r ∈ rs, r < 3400) : ∀ (d f part : Nat) (pl : List (Nat × Nat)), 1 ≤ part → PrU pl → PrU (layR rs d f part pl).2 ∧ pl.length ≤ (layR rs d f part pl).2.length ∧ (layR rs d f part pl).2.length + 1 ≤ pl.length + part ∧ rowV (layR rs d f part pl).1 (layR rs d f part pl).2.length
  | 0, f, part, pl, h1, hu => by
    refine ⟨hu, Nat.le_refl _, Nat.add_le_add_left h1 _, Or.inl ?_⟩
    show rs.getD f 0 < 3400
    rw [List.getD_eq_getElem?_getD]
    cases e : rs[f]? with
    | none => exact (by decide : 0 < 3400)
    | some r => exact hrs r (List.mem_of_getElem? e)
  | d + 1, f, part, pl, h1, hu => by
    have hL : layR rs (d + 1) f part pl = if part ≤ 1 then (rs.getD f 0, pl) else
      (10000 + (fmP (layR rs d f ((part + 1) / 2) pl).1 (layR rs d (f + (part + 1) / 2) (part - (part + 1) / 2) (layR rs d f ((part + 1) / 2) pl).2).1 (layR rs d (f + (part + 1) / 2) (part - (part + 1) / 2) (layR rs d f ((part + 1) / 2) pl).2).2).1,
      (fmP (layR rs d f ((part + 1) / 2) pl).1 (layR rs d (f + (part + 1) / 2) (part - (part + 1) / 2) (layR rs d f ((part + 1) / 2) pl).2).1 (layR rs d (f + (part + 1) / 2) (part - (part + 1) / 2) (layR rs d f ((part + 1) / 2) pl).2).2).2) := rfl
    by_cases hp : part ≤ 1
    · rw [if_pos hp] at hL
      rw [hL]
      refine ⟨hu, Nat.le_refl _, Nat.add_le_add_left h1 _, Or.inl ?_⟩
      show rs.getD f 0 < 3400
      rw [List.getD_eq_getElem?_getD]
      cases e : rs[f]? with
      | none => exact (by decide : 0 < 3400)
      | some r => exact hrs r (List.mem_of_getElem? e)
    · rw [if_neg hp] at hL
      rw [hL]
      obtain ⟨a1, a2, a3, a4⟩ := layR_ok hrs d f ((part + 1) / 2) pl (by omega) hu
      obtain ⟨b1, b2, b3, b4⟩ := layR_ok hrs d (f + (part + 1) / 2) (part - (part + 1) / 2) (layR rs d f ((part + 1) / 2) pl).2 (by omega) a1
      obtain ⟨c1, c2, c3, c4⟩ := fmp_ok b1 (layR rs d f ((part + 1) / 2) pl).1 (layR rs d (f + (part + 1) / 2) (part - (part + 1) / 2) (layR rs d f ((part + 1) / 2) pl).2).1
      refine ⟨c1, by dsimp only; omega, by dsimp only; omega, Or.inr ⟨by dsimp only; omega, by dsimp only; omega⟩⟩
/-- of the PAIRS ahead of the k-th the last whose first half is v, and 1; none: 0 -/
def lastF (pl : List (Nat × Nat)) (v : Nat) : Nat → Nat
  | 0 => 0
  | k + 1 => if (pl.getD k (0, 0)).1 = v then k + 1 else lastF pl v k
theorem lastF_le {pl : List (Nat × Nat)} {v : Nat} : ∀ k, lastF pl v k ≤ k
  | 0 => Nat.le_refl _
  | k + 1 => by
    show (if (pl.getD k (0, 0)).1 = v then k + 1 else lastF pl v k) ≤ k + 1
    have := lastF_le (pl := pl) (v := v) k
    split <;> omega
theorem lastF_is {pl : List (Nat × Nat)} {v a : Nat} : ∀ k, lastF pl v k = a + 1 → (pl.getD a (0, 0)).1 = v ∧ a < k ∧ ∀ j, a < j → j < k → (pl.getD j (0, 0)).1 ≠ v
  | 0, h => by
    change 0 = a + 1 at h
    omega
  | k + 1, h => by
    have h' : (if (pl.getD k (0, 0)).1 = v then k + 1 else lastF pl v k) = a + 1 := h
    by_cases u : (pl.getD k (0, 0)).1 = v
    · rw [if_pos u] at h'
      rw [show a = k by omega]
      exact ⟨u, Nat.lt_succ_self _, fun j h1 h2 => by omega⟩
    · rw [if_neg u] at h'
      obtain ⟨b1, b2, b3⟩ := lastF_is k h'
      refine ⟨b1, by omega, fun j h1 h2 => ?_⟩
      by_cases w : j = k
      · rw [w]
        exact u
      · exact b3 j h1 (by omega)
theorem lastF_no {pl : List (Nat × Nat)} {v : Nat} : ∀ k, lastF pl v k = 0 → ∀ j, j < k → (pl.getD j (0, 0)).1 ≠ v
  | 0, _, j, hj => by omega
  | k + 1, h, j, hj => by
    have h' : (if (pl.getD k (0, 0)).1 = v then k + 1 else lastF pl v k) = 0 := h
    by_cases u : (pl.getD k (0, 0)).1 = v
    · rw [if_pos u] at h'
      omega
    · rw [if_neg u] at h'
      by_cases w : j = k
      · rw [w]
        exact u
      · exact lastF_no k h' j (by omega)
theorem lastF_cg {pl pl' : List (Nat × Nat)} {v : Nat} : ∀ k, (∀ j, j < k → pl'.getD j (0, 0) = pl.getD j (0, 0)) → lastF pl' v k = lastF pl v k
  | 0, _ => rfl
  | k + 1, h => by
    show (if (pl'.getD k (0, 0)).1 = v then k + 1 else lastF pl' v k) = (if (pl.getD k (0, 0)).1 = v then k + 1 else lastF pl v k)
    rw [h k (by omega), lastF_cg k (fun j hj => h j (by omega))]
def plc (v : Nat) : Nat := if 10000 ≤ v then v - 10000 + 3400 else v
def PrX (I : zI) (pl : List (Nat × Nat)) : Prop :=
  I.1 88 4 = zi pl.length ∧ (∀ (i : Nat) (p : Nat × Nat), pl[i]? = some p → I.1 90 i = zi p.1 ∧ I.1 92 i = zi p.2 ∧ I.1 94 i = zi (lastF pl p.1 i)) ∧ (∀ v, rowV v 4000 → I.1 96 (plc v) = zi (lastF pl v pl.length)) ∧ ∀ (i : Nat) (p : Nat × Nat), pl[i]? = some p → p.1 < 14000 ∧ p.2 < 14000
def Qpr (a j : Nat) : Prop := (a = 88 ∧ j = 4) ∨ a = 90 ∨ a = 92 ∨ a = 94 ∨ a = 96
theorem s_findOrMake {a b : Nat} {pl : List (Nat × Nat)} {I : zI} {K : Int32 → zI → Prop} (hP : PrX I pl) (hu : PrU pl) (ha : rowV a 4000) (hb : rowV b 4000) (hl : pl.length < 4000)
    (hK : ∀ J, eqQ Qpr I J → PrX J (fmP a b pl).2 → K (zi (fmP a b pl).1) J) : w_Pairs_findOrMake (zi a) (zi b) I K := by
  intro P20 h20
  obtain ⟨f1, f2, f3, f4⟩ := id hP
  have ha14 : a < 14000 := by unfold rowV at ha; omega
  have hb14 : b < 14000 := by unfold rowV at hb; omega
  have hpl : plc a < 7400 := by
    unfold plc
    unfold rowV at ha
    split <;> omega
  have rest : P20 (zi (plc a)) := by
    refine h20 _ ((w_get (by decide)).mpr ?_)
    rw [rg_in (by decide) hpl, show I.1 (95 + 1) (plc a) = zi (lastF pl a pl.length) from f3 a ha]
    intro P34 h34
    have make : (∀ i : Nat, pl[i]? ≠ some (a, b)) → (w_Row_set 89 4000 (I.1 88 4) (zi a) I (fun I_5 => w_Row_set 91 4000 (I_5.1 88 4) (zi b) I_5 (fun I_6 => w_Row_get 95 7400 (zi (plc a)) I_6 (fun r_7 => w_Row_set 93 4000 (I_6.1 88 4) r_7 I_6 (fun I_8 => w_Row_set 95 7400 (zi (plc a)) ((I_8.1 88 4) + 1) I_8 (fun I_9 => ∀ I_10, I_10 = (zu I_9 88 4 ((I_9.1 88 4) + 1)) → K ((I_10.1 88 4) - 1) I_10)))))) := by
      intro hno
      refine (w_set (by decide)).mpr ?_
      rw [f1, rs_in (by decide) hl]
      generalize e5 : zu I (89 + 1) pl.length (zi a) = I5
      have g5 : I5.1 88 4 = zi pl.length := by rw [← e5, zu_oo (by decide)]; exact f1
      refine (w_set (by decide)).mpr ?_
      rw [g5, rs_in (by decide) hl]
      generalize e6 : zu I5 (91 + 1) pl.length (zi b) = I6
      have g6 : I6.1 88 4 = zi pl.length := by rw [← e6, zu_oo (by decide)]; exact g5
      refine (w_get (by decide)).mpr ?_
      rw [rg_in (by decide) hpl, show I6.1 (95 + 1) (plc a) = zi (lastF pl a pl.length) by rw [← e6, zu_oo (by decide), ← e5, zu_oo (by decide)]; exact f3 a ha]
      refine (w_set (by decide)).mpr ?_
      rw [g6, rs_in (by decide) hl]
      generalize e8 : zu I6 (93 + 1) pl.length (zi (lastF pl a pl.length)) = I8
      have g8 : I8.1 88 4 = zi pl.length := by rw [← e8, zu_oo (by decide)]; exact g6
      refine (w_set (by decide)).mpr ?_
      rw [g8, rs_in (by decide) hpl, zi_succ]
      generalize e9 : zu I8 (95 + 1) (plc a) (zi (pl.length + 1)) = I9
      have g9 : I9.1 88 4 = zi pl.length := by rw [← e9, zu_oo (by decide)]; exact g8
      intro I10 e10
      rw [g9, zi_succ] at e10
      have g10 : I10.1 88 4 = zi (pl.length + 1) := by rw [e10, zu_self]
      rw [g10, show zi (pl.length + 1) - 1 = zi pl.length from zi_sub (b := 1) (by omega)]
      have hfm := fmp_new hno
      have hK' := hK I10
      rw [hfm] at hK'
      have v90 : ∀ j, I10.1 90 j = if j = pl.length then zi a else I.1 90 j := fun j => by
        rw [e10, zu_oo (by decide), ← e9, zu_oo (by decide), ← e8, zu_oo (by decide), ← e6, zu_oo (by decide), ← e5, zu_at]
        by_cases u : j = pl.length
        · rw [if_pos ⟨rfl, u⟩, if_pos u]
        · rw [if_neg (fun v => u v.2), if_neg u]
      have v92 : ∀ j, I10.1 92 j = if j = pl.length then zi b else I.1 92 j := fun j => by
        rw [e10, zu_oo (by decide), ← e9, zu_oo (by decide), ← e8, zu_oo (by decide), ← e6, zu_at]
        by_cases u : j = pl.length
        · rw [if_pos ⟨rfl, u⟩, if_pos u]
        · rw [if_neg (fun v => u v.2), if_neg u, ← e5, zu_oo (by decide)]
      have v94 : ∀ j, I10.1 94 j = if j = pl.length then zi (lastF pl a pl.length) else I.1 94 j := fun j => by
        rw [e10, zu_oo (by decide), ← e9, zu_oo (by decide), ← e8, zu_at]
        by_cases u : j = pl.length
        · rw [if_pos ⟨rfl, u⟩, if_pos u]
        · rw [if_neg (fun v => u v.2), if_neg u, ← e6, zu_oo (by decide), ← e5, zu_oo (by decide)]
      have v96 : ∀ j, I10.1 96 j = if j = plc a then zi (pl.length + 1) else I.1 96 j := fun j => by
        rw [e10, zu_oo (by decide), ← e9, zu_at]
        by_cases u : j = plc a
        · rw [if_pos ⟨rfl, u⟩, if_pos u]
        · rw [if_neg (fun v => u v.2), if_neg u, ← e8, zu_oo (by decide), ← e6, zu_oo (by decide), ← e5, zu_oo (by decide)]
      have hgd : ∀ j, j < pl.length → (pl ++ [(a, b)]).getD j (0, 0) = pl.getD j (0, 0) := fun j hj => by
        rw [List.getD_eq_getElem?_getD, List.getD_eq_getElem?_getD, List.getElem?_append_left hj]
      have hgl : (pl ++ [(a, b)]).getD pl.length (0, 0) = (a, b) := by
        rw [List.getD_eq_getElem?_getD, List.getElem?_append_right (Nat.le_refl _), Nat.sub_self]
        rfl
      have hln : (pl ++ [(a, b)]).length = pl.length + 1 := List.length_append
      refine hK' ?_ ⟨by rw [g10, hln], fun i p hi => ?_, fun v hv => ?_, fun i p hi => ?_⟩
      · rw [e10, ← e9, ← e8, ← e6, ← e5]
        exact ((((eqQ.rf.zu (Or.inr (Or.inl rfl))).zu (Or.inr (Or.inr (Or.inl rfl)))).zu (Or.inr (Or.inr (Or.inr (Or.inl rfl))))).zu (Or.inr (Or.inr (Or.inr (Or.inr rfl))))).zu (Or.inl ⟨rfl, rfl⟩)
      · rw [v90, v92, v94]
        rcases snoc_at hi with hi | ⟨rfl, rfl⟩
        · have hil := (List.getElem?_eq_some_iff.mp hi).1
          rw [if_neg (by omega), if_neg (by omega), if_neg (by omega), lastF_cg i (fun j hj => hgd j (by omega))]
          exact f2 i p hi
        · rw [if_pos rfl, if_pos rfl, if_pos rfl, lastF_cg pl.length (fun j hj => hgd j hj)]
          exact ⟨rfl, rfl, rfl⟩
      · rw [v96, hln]
        show _ = zi (if ((pl ++ [(a, b)]).getD pl.length (0, 0)).1 = v then pl.length + 1 else lastF (pl ++ [(a, b)]) v pl.length)
        rw [hgl, lastF_cg pl.length (fun j hj => hgd j hj)]
        by_cases u : v = a
        · rw [u, if_pos rfl, if_pos rfl]
        · rw [if_neg (show ¬ plc v = plc a from fun w => u (by
            unfold plc at w
            unfold rowV at hv ha
            split at w <;> split at w <;> omega)), if_neg (show ¬ (a, b).1 = v from fun w => u w.symm)]
          exact f3 v hv
      · rcases snoc_at hi with hi | ⟨rfl, rfl⟩
        · exact f4 i p hi
        · exact ⟨ha14, hb14⟩
    have main : ∀ (d k i : Nat), lastF pl a k ≤ d → k ≤ pl.length → i + lastF pl a k ≤ pl.length → (∀ j : Nat, k ≤ j → pl[j]? ≠ some (a, b)) → P34 (zi (lastF pl a k)) (zi i) := by
      intro d
      induction d with
      | zero =>
        intro k i h0 hk hi hno
        refine h34 _ _ ?_
        intro P86 h86
        have h0' : lastF pl a k = 0 := by omega
        have hall : ∀ j : Nat, pl[j]? ≠ some (a, b) := fun j hj => by
          by_cases u : j < k
          · have := lastF_no k h0' j u
            rw [List.getD_eq_getElem?_getD, hj] at this
            exact this rfl
          · exact hno j (by omega) hj
        rw [h0', if_pos (show zi 0 ≤ 0 by decide)]
        by_cases u : (4000 : Int32) ≤ zi i
        · rw [if_pos u]
          exact h86 (make hall)
        · rw [if_neg u]
          exact h86 (make hall)
      | succ d ih =>
        intro k i h0 hk hi hno
        cases he : lastF pl a k with
        | zero =>
          have := ih k i (by omega) hk hi hno
          rw [he] at this
          exact this
        | succ e =>
          obtain ⟨b1, b2, b3⟩ := lastF_is k he
          refine h34 _ _ ?_
          intro P86 h86
          rw [if_neg (show ¬ (4000 : Int32) ≤ zi i from fun u => by have := (zi_le (a := 4000) (by decide) (by omega)).mp u; omega), if_neg (show ¬ zi (e + 1) ≤ 0 from fun u => by have := (zi_le (b := 0) (by omega) (by decide)).mp u; omega), show zi (e + 1) - 1 = zi e from zi_sub (b := 1) (by omega)]
          have hp : pl[e]? = some (pl[e]'(by omega)) := List.getElem?_eq_getElem (by omega)
          generalize pl[e]'(by omega) = p at hp
          have hp1 : p.1 = a := by
            rw [List.getD_eq_getElem?_getD, hp] at b1
            exact b1
          obtain ⟨c1, c2, c3⟩ := f2 e p hp
          refine (w_get (by decide)).mpr ?_
          rw [rg_in (by decide) (show e < 4000 by omega), show I.1 (91 + 1) e = zi p.2 from c2]
          by_cases u : p.2 = b
          · rw [if_pos (show zi p.2 = zi b by rw [u])]
            have hfm := fmp_is hu (show pl[e]? = some (a, b) by rw [hp, ← hp1, ← u])
            rw [hfm] at hK
            exact hK I eqQ.rf hP
          · rw [if_neg (fun w => u ((zi_eq (by have := (f4 e p hp).2; omega) (by omega)).mp w))]
            refine (w_get (by decide)).mpr ?_
            rw [rg_in (by decide) (show e < 4000 by omega), show I.1 (93 + 1) e = zi (lastF pl p.1 e) from c3, hp1]
            intro v ev
            rw [ev, zi_succ]
            have := lastF_le (pl := pl) (v := a) e
            refine ih e (i + 1) (by omega) (by omega) (by omega) (fun j hj hj2 => ?_)
            by_cases w : j = e
            · rw [w, hp] at hj2
              exact u (by rw [Option.some.inj hj2])
            · by_cases w2 : j < k
              · have := b3 j (by omega) w2
                rw [List.getD_eq_getElem?_getD, hj2] at this
                exact this rfl
              · exact hno j (by omega) hj2
    exact main pl.length pl.length 0 (lastF_le _) (Nat.le_refl _) (by have := lastF_le (pl := pl) (v := a) pl.length; omega) (fun j hj hj2 => by have := (List.getElem?_eq_some_iff.mp hj2).1; omega)
  unfold plc at rest
  by_cases u : 10000 ≤ a
  · rw [if_pos (show (10000 : Int32) ≤ zi a from (zi_le (a := 10000) (by decide) (by omega)).mpr u)]
    rw [if_pos u] at rest
    rw [show zi a - 10000 + 3400 = zi (a - 10000 + 3400) by rw [show (10000 : Int32) = zi 10000 from rfl, zi_sub u, show (3400 : Int32) = zi 3400 from rfl, zi_add]]
    exact rest
  · rw [if_neg (show ¬ (10000 : Int32) ≤ zi a from fun w => u ((zi_le (a := 10000) (by decide) (by omega)).mp w))]
    rw [if_neg u] at rest
    exact rest
theorem s_layPart {rs : List Nat} (hrs : ∀ r ∈ rs, r < 3400) (hrl : rs.length ≤ 100) : ∀ (dd lev f part : Nat) (pl : List (Nat × Nat)) (I : zI) (K : Int32 → zI → Prop), lev + dd = 9 → 1 ≤ part → part ≤ 2 ^ dd → f + part ≤ rs.length → pl.length + part ≤ 4000 → PrU pl → PrX I pl → (∀ i r, rs[i]? = some r → I.1 63 i = zi r) → (∀ J, eqQ Qpr I J → PrX J (layR rs dd f part pl).2 → K (zi (layR rs dd f part pl).1) J) → w_Pairs_layPart (dd + 1) 62 100 (zi f) (zi part) (zi lev) I K := by
  intro dd
  induction dd with
  | zero =>
    intro lev f part pl I K hlev h1 h2 hf hpl hu hP hR hK P12 h12
    have hp1 : part = 1 := by
      change part ≤ 1 at h2
      omega
    subst hp1
    rw [if_pos (show zi 1 ≤ 1 by decide)]
    refine h12 ((w_get (by decide)).mpr ?_)
    have hr : rs[f]? = some (rs[f]'(by omega)) := List.getElem?_eq_getElem (by omega)
    rw [rg_in (by decide) (show f < 100 by omega), show I.1 (62 + 1) f = zi (rs.getD f 0) by
      rw [List.getD_eq_getElem?_getD, hr]
      exact hR f _ hr]
    exact hK I eqQ.rf hP
  | succ dd ih =>
    intro lev f part pl I K hlev h1 h2 hf hpl hu hP hR hK P12 h12
    have hL : layR rs (dd + 1) f part pl = if part ≤ 1 then (rs.getD f 0, pl) else
      (10000 + (fmP (layR rs dd f ((part + 1) / 2) pl).1 (layR rs dd (f + (part + 1) / 2) (part - (part + 1) / 2) (layR rs dd f ((part + 1) / 2) pl).2).1 (layR rs dd (f + (part + 1) / 2) (part - (part + 1) / 2) (layR rs dd f ((part + 1) / 2) pl).2).2).1,
      (fmP (layR rs dd f ((part + 1) / 2) pl).1 (layR rs dd (f + (part + 1) / 2) (part - (part + 1) / 2) (layR rs dd f ((part + 1) / 2) pl).2).1 (layR rs dd (f + (part + 1) / 2) (part - (part + 1) / 2) (layR rs dd f ((part + 1) / 2) pl).2).2).2) := rfl
    by_cases hp : part ≤ 1
    · rw [if_pos hp] at hL
      rw [hL] at hK
      have hp1 : part = 1 := by omega
      subst hp1
      rw [if_pos (show zi 1 ≤ 1 by decide)]
      refine h12 ((w_get (by decide)).mpr ?_)
      have hr : rs[f]? = some (rs[f]'(by omega)) := List.getElem?_eq_getElem (by omega)
      rw [rg_in (by decide) (show f < 100 by omega), show I.1 (62 + 1) f = zi (rs.getD f 0) by
        rw [List.getD_eq_getElem?_getD, hr]
        exact hR f _ hr]
      exact hK I eqQ.rf hP
    · rw [if_neg hp] at hL
      rw [hL] at hK
      rw [if_neg (show ¬ zi part ≤ 1 from fun u => hp ((zi_le (b := 1) (by omega) (by decide)).mp u)), if_pos (show zi lev ≤ 8 from (zi_le (b := 8) (by omega) (by decide)).mpr (by omega))]
      intro v ev
      rw [zi_succ, div_fin _ (by omega)] at ev
      subst ev
      rw [zi_succ]
      have hpow : 2 ^ (dd + 1) = 2 * 2 ^ dd := by rw [Nat.pow_succ, Nat.mul_comm]
      obtain ⟨a1, a2, a3, a4⟩ := layR_ok hrs dd f ((part + 1) / 2) pl (by omega) hu
      refine ih (lev + 1) f ((part + 1) / 2) pl I _ (by omega) (by omega) (by omega) (by omega) (by omega) hu hP hR (fun J qJ pJ => ?_)
      obtain ⟨b1, b2, b3, b4⟩ := layR_ok hrs dd (f + (part + 1) / 2) (part - (part + 1) / 2) (layR rs dd f ((part + 1) / 2) pl).2 (by omega) a1
      rw [zi_add, zi_sub (show (part + 1) / 2 ≤ part by omega)]
      refine ih (lev + 1) (f + (part + 1) / 2) (part - (part + 1) / 2) _ J _ (by omega) (by omega) (by omega) (by omega) (by omega) a1 pJ (fun i r hi => by rw [qJ.1 63 i (by unfold Qpr; omega)]; exact hR i r hi) (fun J2 q2 p2 => ?_)
      refine s_findOrMake p2 b1 (by unfold rowV at *; omega) (by unfold rowV at *; omega) (by omega) (fun J3 q3 p3 => ?_)
      rw [show (10000 : Int32) = zi 10000 from rfl, zi_add]
      exact hK J3 ((qJ.tr q2).tr q3) p3
/-- the ROW of all RUNS -/
def rowI (rs : List Nat) (pl : List (Nat × Nat)) : Int32 := if rs.length = 0 then -2 else zi (layR rs 9 0 rs.length pl).1
/-- the ROW of all RUNS; PAIRS then -/
def layAllR (rs : List Nat) (pl : List (Nat × Nat)) : List (Nat × Nat) := if rs.length = 0 then pl else (layR rs 9 0 rs.length pl).2
theorem s_layAll {rs : List Nat} {pl : List (Nat × Nat)} {I : zI} {K : Int32 → zI → Prop} (hrs : ∀ r ∈ rs, r < 3400) (hrl : rs.length ≤ 99) (hpl : pl.length + 99 ≤ 4000) (hu : PrU pl) (hP : PrX I pl) (hR : ∀ i r, rs[i]? = some r → I.1 63 i = zi r) (hK : ∀ J : zI, eqQ Qpr I J → PrX J (layAllR rs pl) → K (rowI rs pl) J) : w_Pairs_layAll 62 100 (zi rs.length) I K := by
  unfold w_Pairs_layAll
  unfold layAllR rowI at hK
  by_cases h0 : rs.length = 0
  · rw [h0, if_pos (show zi 0 = 0 from rfl)]
    rw [if_pos h0, if_pos h0] at hK
    exact hK I eqQ.rf hP
  · rw [if_neg (show ¬ zi rs.length = 0 from fun u => h0 ((zi_eq (b := 0) (by omega) (by decide)).mp u))]
    rw [if_neg h0, if_neg h0] at hK
    exact s_layPart hrs (by omega) 9 0 0 rs.length pl I _ (by omega) (by omega) (by omega) (by omega) (by omega) hu hP hR (fun J q p => hK J q p)
/-! ===== PAIRS: the model ===== -/
def PrM (I : zI) (pl : List (Nat × Nat)) : Prop :=
  I.1 491 59 = zi pl.length ∧ (∀ (i : Nat) (p : Nat × Nat), pl[i]? = some p → I.1 533 i = zi p.1 ∧ I.1 534 i = zi p.2) ∧ ∀ (i : Nat) (p : Nat × Nat), pl[i]? = some p → p.1 < 15000 ∧ p.2 < 15000
def Qpm (a j : Nat) : Prop := (a = 491 ∧ j = 59) ∨ a = 533 ∨ a = 534
theorem s_pairOf {a b : Nat} {pl : List (Nat × Nat)} {I : zI} {K : Int32 → zI → Prop} (hP : PrM I pl) (hu : PrU pl) (ha : a < 15000) (hb : b < 15000) (hl : pl.length < 4100)
    (hK : ∀ J, eqQ Qpm I J → PrM J (fmP a b pl).2 → K (zi (fmP a b pl).1) J) : w_M_pairOf (zi a) (zi b) I K := by
  obtain ⟨f1, f2, f3⟩ := id hP
  intro P2 h2
  have main : ∀ (d k : Nat), k + d = pl.length → (∀ j : Nat, j < k → pl[j]? ≠ some (a, b)) → P2 (zi k) := by
    intro d
    induction d with
    | zero =>
      intro k hk hno
      refine h2 _ ?_
      have hall : ∀ j : Nat, pl[j]? ≠ some (a, b) := fun j hj => by
        have := (List.getElem?_eq_some_iff.mp hj).1
        exact hno j (by omega) hj
      have hfm := fmp_new hall
      rw [hfm] at hK
      rw [f1, if_pos ((zi_le (by omega) (by omega)).mpr (by omega)), zi_tn (show pl.length < 2147483648 by omega)]
      refine ⟨(zin_iff (by omega)).mpr (by omega), fun I2 e2 => ?_⟩
      have g2 : I2.1 491 59 = zi pl.length := by rw [e2, zu_oo (by decide)]; exact f1
      rw [g2, zi_tn (show pl.length < 2147483648 by omega)]
      refine ⟨(zin_iff (by omega)).mpr (by omega), fun I3 e3 I4 e4 => ?_⟩
      rw [show I3.1 491 59 = zi pl.length by rw [e3, zu_oo (by decide)]; exact g2, zi_succ] at e4
      have g4 : I4.1 491 59 = zi (pl.length + 1) := by rw [e4, zu_self]
      rw [g4, show zi (pl.length + 1) - 1 = zi pl.length from zi_sub (b := 1) (by omega)]
      refine hK I4 ?_ ⟨by rw [g4, List.length_append]; rfl, fun i p hi => ?_, fun i p hi => ?_⟩
      · rw [e4, e3, e2]
        exact ((eqQ.rf.zu (Or.inr (Or.inl rfl))).zu (Or.inr (Or.inr rfl))).zu (Or.inl ⟨rfl, rfl⟩)
      · rw [e4, zu_oo (by decide), zu_oo (by decide)]
        rcases snoc_at hi with hi | ⟨rfl, rfl⟩
        · have hil := (List.getElem?_eq_some_iff.mp hi).1
          rw [e3, zu_oo (by decide), zu_at, if_neg (by omega), e2, zu_at, if_neg (by omega), zu_oo (by decide)]
          exact f2 i p hi
        · rw [e3, zu_oo (by decide), zu_self, e2, zu_self]
          exact ⟨rfl, rfl⟩
      · rcases snoc_at hi with hi | ⟨rfl, rfl⟩
        · exact f3 i p hi
        · exact ⟨ha, hb⟩
    | succ d ih =>
      intro k hk hno
      refine h2 _ ?_
      rw [f1, if_neg (fun u => by have := (zi_le (by omega) (by omega)).mp u; omega), zi_tn (show k < 2147483648 by omega)]
      have hkin : vp_in (zi k) 4100 := (zin_iff (by omega)).mpr (by omega)
      refine ⟨hkin, ?_⟩
      have hp : pl[k]? = some (pl[k]'(by omega)) := List.getElem?_eq_getElem (by omega)
      generalize pl[k]'(by omega) = p at hp
      obtain ⟨c1, c2⟩ := f2 k p hp
      obtain ⟨c3, c4⟩ := f3 k p hp
      intro P32 h32
      have no : ¬ (p.1 = a ∧ p.2 = b) → P32 := fun u => h32 (fun v ev => by
        rw [ev, zi_succ]
        refine ih (k + 1) (by omega) (fun j hj hj2 => ?_)
        by_cases w : j = k
        · rw [w, hp] at hj2
          have := Option.some.inj hj2
          exact u ⟨by rw [this], by rw [this]⟩
        · exact hno j (by omega) hj2)
      rw [c1, c2]
      by_cases u1 : p.1 = a
      · rw [if_pos (show zi p.1 = zi a by rw [u1])]
        refine ⟨hkin, ?_⟩
        by_cases u2 : p.2 = b
        · rw [if_pos (show zi p.2 = zi b by rw [u2])]
          have hfm := fmp_is hu (show pl[k]? = some (a, b) by rw [hp, ← u1, ← u2])
          rw [hfm] at hK
          exact hK I eqQ.rf hP
        · rw [if_neg (fun w => u2 ((zi_eq (by omega) (by omega)).mp w))]
          exact no (fun w => u2 w.2)
      · rw [if_neg (fun w => u1 ((zi_eq (by omega) (by omega)).mp w))]
        exact no (fun w => u1 w.1)
  exact main pl.length 0 (by omega) (fun j hj => by omega)
/-- how deep the laying of a part goes -/
def dpF : Nat → Nat → Nat
  | 0, _ => 0
  | d + 1, part => if part ≤ 1 then 0 else 1 + max (dpF d ((part + 1) / 2)) (dpF d (part - (part + 1) / 2))
theorem dpF_le : ∀ d part, dpF d part ≤ d
  | 0, _ => Nat.le_refl _
  | d + 1, part => by
    show (if part ≤ 1 then 0 else 1 + max (dpF d ((part + 1) / 2)) (dpF d (part - (part + 1) / 2))) ≤ d + 1
    have h1 := dpF_le d ((part + 1) / 2)
    have h2 := dpF_le d (part - (part + 1) / 2)
    split <;> omega
/-- what the laying of a part may change: its own place on the stack and those above -/
def Qrw (q a j : Nat) : Prop := (a = 491 ∧ (j = 59 ∨ j = 65)) ∨ a = 533 ∨ a = 534 ∨ (535 ≤ a ∧ a ≤ 537 ∧ q ≤ j)
theorem s_rowPart {rs : List Nat} {K : Int32 → zI → Prop} {P43 : Int32 → Int32 → zI → Prop} (hrs : ∀ r ∈ rs, r < 3400) (hrl : rs.length ≤ 100)
    (h43 : ∀ (v1_5 : Int32) (v2_6 : Int32) (I_7 : zI), ((if v1_5 ≤ 0 then K v2_6 I_7 else (vp_in (v1_5 - 1) 20 ∧ (∀ v3_8, v3_8 = (I_7.1 535 (Int32.toNatClampNeg (v1_5 - 1))) → vp_in (v1_5 - 1) 20 ∧ (∀ v4_9, v4_9 = (I_7.1 536 (Int32.toNatClampNeg (v1_5 - 1))) → ∀ v5_10, v5_10 = (v3_8 + (((v4_9 - v3_8) + 1) / 2)) → ∀ (P95 : zI → Prop), (∀ (I_11 : zI), ((if (v4_9 - v3_8) = 1 then (vp_in v3_8 110 ∧ (∀ v2_29, v2_29 = (I_11.1 528 (Int32.toNatClampNeg v3_8)) → ∀ v1_30, v1_30 = (v1_5 + (-1)) → P43 v1_30 v2_29 I_11)) else (if v2_6 = (-1) then (vp_in (v1_5 - 1) 20 ∧ (∀ (P138 : Int32 → Prop), (∀ (t_18 : Int32), (∀ (P156 : Int32 → Prop), (∀ (t_19 : Int32), (vp_in v1_5 20 ∧ (∀ I_20, I_20 = (zu I_11 535 (Int32.toNatClampNeg v1_5) t_19) → ∀ (P174 : Int32 → Prop), (∀ (t_21 : Int32), (vp_in v1_5 20 ∧ (∀ I_22, I_22 = (zu I_20 536 (Int32.toNatClampNeg v1_5) t_21) → vp_in v1_5 20 ∧ (∀ I_23, I_23 = (zu I_22 537 (Int32.toNatClampNeg v1_5) (-1)) → ∀ v1_24, v1_24 = (v1_5 + 1) → P43 v1_24 v2_6 I_23))) → P174 t_21) → (if t_18 = 0 then P174 v5_10 else P174 v4_9))) → P156 t_19) → (if t_18 = 0 then P156 v3_8 else P156 v5_10)) → P138 t_18) → (if (I_11.1 537 (Int32.toNatClampNeg (v1_5 - 1))) = (-1) then P138 0 else P138 1))) else (vp_in (v1_5 - 1) 20 ∧ (if (I_11.1 537 (Int32.toNatClampNeg (v1_5 - 1))) = (-1) then (vp_in (v1_5 - 1) 20 ∧ (∀ I_16, I_16 = (zu I_11 537 (Int32.toNatClampNeg (v1_5 - 1)) v2_6) → P43 v1_5 (-1) I_16)) else (vp_in (v1_5 - 1) 20 ∧ (w_M_pairOf (I_11.1 537 (Int32.toNatClampNeg (v1_5 - 1))) v2_6 I_11 (fun r_12 I_13 => ∀ v2_14, v2_14 = (10000 + r_12) → ∀ v1_15, v1_15 = (v1_5 + (-1)) → P43 v1_15 v2_14 I_13)))))))) → P95 I_11) → (if (v1_5 - 1) ≤ (I_7.1 491 65) then P95 I_7 else (∀ I_32, I_32 = (zu I_7 491 65 (v1_5 - 1)) → P95 I_32))))))) → P43 v1_5 v2_6 I_7) : ∀ (dd q f part : Nat) (pl : List (Nat × Nat)) (I : zI) (n0 : Nat), n0 ≤ 20 → I.1 491 65 = zi n0 → q + dd ≤ 9 → 1 ≤ part → part ≤ 2 ^ dd → f + part ≤ rs.length → pl.length + part ≤ 4100 → PrU pl → PrM I pl → (∀ i r, rs[i]? = some r → I.1 528 i = zi r) → I.1 535 q = zi f → I.1 536 q = zi (f + part) → I.1 537 q = -1 → (∀ J, eqQ (Qrw q) I J → PrM J (layR rs dd f part pl).2 → J.1 491 65 = zi (max n0 (q + dpF dd part)) → P43 (zi q) (zi (layR rs dd f part pl).1) J) → P43 (zi (q + 1)) (-1) I := by
  have visit : ∀ (q f part : Nat) (v2_6 : Int32) (J : zI) (n0 : Nat), n0 ≤ 20 → J.1 491 65 = zi n0 → q ≤ 9 → f + part ≤ 100 → 1 ≤ part → J.1 535 q = zi f → J.1 536 q = zi (f + part) → (∀ (v1_5 v3_8 v4_9 v5_10 : Int32) (I_11 : zI), eqQ (fun a j => a = 491 ∧ j = 65) J I_11 → I_11.1 491 65 = zi (max n0 q) → v1_5 = zi (q + 1) → v1_5 - 1 = zi q → v3_8 = zi f → v4_9 = zi (f + part) → v5_10 = zi (f + (part + 1) / 2) → v4_9 - v3_8 = zi part → vp_in (zi q) 20 → ((if (v4_9 - v3_8) = 1 then (vp_in v3_8 110 ∧ (∀ v2_29, v2_29 = (I_11.1 528 (Int32.toNatClampNeg v3_8)) → ∀ v1_30, v1_30 = (v1_5 + (-1)) → P43 v1_30 v2_29 I_11)) else (if v2_6 = (-1) then (vp_in (v1_5 - 1) 20 ∧ (∀ (P138 : Int32 → Prop), (∀ (t_18 : Int32), (∀ (P156 : Int32 → Prop), (∀ (t_19 : Int32), (vp_in v1_5 20 ∧ (∀ I_20, I_20 = (zu I_11 535 (Int32.toNatClampNeg v1_5) t_19) → ∀ (P174 : Int32 → Prop), (∀ (t_21 : Int32), (vp_in v1_5 20 ∧ (∀ I_22, I_22 = (zu I_20 536 (Int32.toNatClampNeg v1_5) t_21) → vp_in v1_5 20 ∧ (∀ I_23, I_23 = (zu I_22 537 (Int32.toNatClampNeg v1_5) (-1)) → ∀ v1_24, v1_24 = (v1_5 + 1) → P43 v1_24 v2_6 I_23))) → P174 t_21) → (if t_18 = 0 then P174 v5_10 else P174 v4_9))) → P156 t_19) → (if t_18 = 0 then P156 v3_8 else P156 v5_10)) → P138 t_18) → (if (I_11.1 537 (Int32.toNatClampNeg (v1_5 - 1))) = (-1) then P138 0 else P138 1))) else (vp_in (v1_5 - 1) 20 ∧ (if (I_11.1 537 (Int32.toNatClampNeg (v1_5 - 1))) = (-1) then (vp_in (v1_5 - 1) 20 ∧ (∀ I_16, I_16 = (zu I_11 537 (Int32.toNatClampNeg (v1_5 - 1)) v2_6) → P43 v1_5 (-1) I_16)) else (vp_in (v1_5 - 1) 20 ∧ (w_M_pairOf (I_11.1 537 (Int32.toNatClampNeg (v1_5 - 1))) v2_6 I_11 (fun r_12 I_13 => ∀ v2_14, v2_14 = (10000 + r_12) → ∀ v1_15, v1_15 = (v1_5 + (-1)) → P43 v1_15 v2_14 I_13))))))))) → P43 (zi (q + 1)) v2_6 J := by
    intro q f part v2 J n0 hn0 gn0 hq hf h1 g1 g2 h
    refine h43 _ _ _ ?_
    rw [if_neg (show ¬ zi (q + 1) ≤ 0 from fun u => by have := (zi_le (b := 0) (by omega) (by decide)).mp u; omega)]
    have e0 : zi (q + 1) - 1 = zi q := zi_sub (b := 1) (by omega)
    have hin : vp_in (zi q) 20 := (zin_iff (by omega)).mpr (by omega)
    rw [e0, zi_tn (show q < 2147483648 by omega)]
    refine ⟨hin, fun v3 ev3 => ⟨hin, fun v4 ev4 v5 ev5 => ?_⟩⟩
    rw [g1] at ev3
    rw [g2] at ev4
    have e1 : v4 - v3 = zi part := by
      rw [ev4, ev3, zi_sub (by omega)]
      congr 1
      omega
    have e2 : v5 = zi (f + (part + 1) / 2) := by rw [ev5, e1, zi_succ, div_fin _ (by omega), ev3, zi_add]
    intro P95 h95
    have fin : ∀ A : zI, eqQ (fun a j => a = 491 ∧ j = 65) J A → A.1 491 65 = zi (max n0 q) → P95 A := fun A qA aD => by
      refine h95 _ ?_
      have := h (zi (q + 1)) v3 v4 v5 A qA aD rfl e0 ev3 ev4 e2 e1 hin
      rw [e0, zi_tn (show q < 2147483648 by omega)] at this
      exact this
    by_cases u : zi q ≤ J.1 491 65
    · rw [if_pos u]
      rw [gn0] at u
      exact fin J eqQ.rf (by rw [gn0, Nat.max_eq_left ((zi_le (by omega) (by omega)).mp u)])
    · rw [if_neg u]
      intro I32 e32
      rw [gn0] at u
      refine fin I32 ?_ ?_
      · rw [e32]
        exact eqQ.rf.zu ⟨rfl, rfl⟩
      · have hle : n0 ≤ q := by
          by_cases w : q ≤ n0
          · exact absurd ((zi_le (by omega) (by omega)).mpr w) u
          · omega
        rw [e32, zu_self, Nat.max_eq_right hle]
  have pkp : ∀ (A B : zI) (pl : List (Nat × Nat)), PrM A pl → (∀ a j, (a = 491 ∧ j = 59) ∨ a = 533 ∨ a = 534 → B.1 a j = A.1 a j) → PrM B pl := fun A B pl h e => ⟨by rw [e 491 59 (by omega)]; exact h.1, fun i p hi => by rw [e 533 i (by omega), e 534 i (by omega)]; exact h.2.1 i p hi, h.2.2⟩
  intro dd
  induction dd with
  | zero =>
    intro q f part pl I n0 hn0 gn0 hq h1 h2 hf hpl hu hP hR g1 g2 g3 hK
    have hp1 : part = 1 := by
      change part ≤ 1 at h2
      omega
    subst hp1
    refine visit q f 1 (-1) I n0 hn0 gn0 (by omega) (by omega) (by omega) g1 g2 (fun v1 v3 v4 v5 A qA aD x1 x2 x3 x4 x5 x6 x7 => ?_)
    rw [if_pos (show v4 - v3 = 1 by rw [x6]; rfl), x3, zi_tn (show f < 2147483648 by omega)]
    refine ⟨(zin_iff (by omega)).mpr (by omega), fun v2 ev2 v1' ev1' => ?_⟩
    have hr : rs[f]? = some (rs[f]'(by omega)) := List.getElem?_eq_getElem (by omega)
    rw [qA.1 528 f (by omega), show I.1 528 f = zi (rs.getD f 0) by
      rw [List.getD_eq_getElem?_getD, hr]
      exact hR f _ hr] at ev2
    rw [x1, zi_pred (by omega), Nat.add_sub_cancel] at ev1'
    rw [ev2, ev1']
    exact hK A (qA.mono (fun a j h => Or.inl (by omega))) (pkp I A pl hP (fun a j h => qA.1 a j (by omega))) aD
  | succ dd ih =>
    intro q f part pl I n0 hn0 gn0 hq h1 h2 hf hpl hu hP hR g1 g2 g3 hK
    have hL : layR rs (dd + 1) f part pl = if part ≤ 1 then (rs.getD f 0, pl) else
      (10000 + (fmP (layR rs dd f ((part + 1) / 2) pl).1 (layR rs dd (f + (part + 1) / 2) (part - (part + 1) / 2) (layR rs dd f ((part + 1) / 2) pl).2).1 (layR rs dd (f + (part + 1) / 2) (part - (part + 1) / 2) (layR rs dd f ((part + 1) / 2) pl).2).2).1,
      (fmP (layR rs dd f ((part + 1) / 2) pl).1 (layR rs dd (f + (part + 1) / 2) (part - (part + 1) / 2) (layR rs dd f ((part + 1) / 2) pl).2).1 (layR rs dd (f + (part + 1) / 2) (part - (part + 1) / 2) (layR rs dd f ((part + 1) / 2) pl).2).2).2) := rfl
    by_cases hp : part ≤ 1
    · rw [if_pos hp] at hL
      rw [hL] at hK
      have hp1 : part = 1 := by omega
      subst hp1
      refine visit q f 1 (-1) I n0 hn0 gn0 (by omega) (by omega) (by omega) g1 g2 (fun v1 v3 v4 v5 A qA aD x1 x2 x3 x4 x5 x6 x7 => ?_)
      rw [if_pos (show v4 - v3 = 1 by rw [x6]; rfl), x3, zi_tn (show f < 2147483648 by omega)]
      refine ⟨(zin_iff (by omega)).mpr (by omega), fun v2 ev2 v1' ev1' => ?_⟩
      have hr : rs[f]? = some (rs[f]'(by omega)) := List.getElem?_eq_getElem (by omega)
      rw [qA.1 528 f (by omega), show I.1 528 f = zi (rs.getD f 0) by
        rw [List.getD_eq_getElem?_getD, hr]
        exact hR f _ hr] at ev2
      rw [x1, zi_pred (by omega), Nat.add_sub_cancel] at ev1'
      rw [ev2, ev1']
      exact hK A (qA.mono (fun a j h => Or.inl (by omega))) (pkp I A pl hP (fun a j h => qA.1 a j (by omega))) aD
    · rw [if_neg hp] at hL
      rw [hL] at hK
      have hpow : 2 ^ (dd + 1) = 2 * 2 ^ dd := by rw [Nat.pow_succ, Nat.mul_comm]
      obtain ⟨a1, a2, a3, a4⟩ := layR_ok hrs dd f ((part + 1) / 2) pl (by omega) hu
      obtain ⟨b1, b2, b3, b4⟩ := layR_ok hrs dd (f + (part + 1) / 2) (part - (part + 1) / 2) (layR rs dd f ((part + 1) / 2) pl).2 (by omega) a1
      have hne : ∀ v4 v3 : Int32, v4 - v3 = zi part → ¬ v4 - v3 = 1 := fun v4 v3 e u => by
        rw [e] at u
        have := (zi_eq (b := 1) (by omega) (by decide)).mp u
        omega
      have hneg : ∀ v : Nat, v < 20000 → ¬ zi v = -1 := fun v hv u => by
        have := zi_pos (show v < 2147483648 by omega)
        rw [u] at this
        exact this (by decide)
      have hin1 : vp_in (zi (q + 1)) 20 := (zin_iff (by omega)).mpr (by omega)
      have hqw : ∀ a j : Nat, 535 ≤ a → a ≤ 537 → q ≤ j → Qrw q a j := fun a j u1 u2 u3 => Or.inr (Or.inr (Or.inr ⟨u1, u2, u3⟩))
      have h65 : ∀ a j : Nat, a = 491 ∧ j = 65 → Qrw q a j := fun a j h => Or.inl ⟨h.1, Or.inr h.2⟩
      -- the first half
      have l1 := dpF_le dd ((part + 1) / 2)
      have l2 := dpF_le dd (part - (part + 1) / 2)
      refine visit q f part (-1) I n0 hn0 gn0 (by omega) (by omega) h1 g1 g2 (fun v1 v3 v4 v5 A qA aD x1 x2 x3 x4 x5 x6 x7 => ?_)
      rw [if_neg (hne v4 v3 x6), if_pos rfl, x2, zi_tn (show q < 2147483648 by omega)]
      refine ⟨x7, ?_⟩
      rw [qA.1 537 q (by omega), g3]
      intro P138 h138
      rw [if_pos rfl]
      refine h138 _ ?_
      intro P156 h156
      rw [if_pos rfl]
      refine h156 _ ?_
      rw [x1, zi_tn (show q + 1 < 2147483648 by omega)]
      refine ⟨hin1, fun I20 e20 => ?_⟩
      intro P174 h174
      rw [if_pos rfl]
      refine h174 _ ⟨hin1, fun I22 e22 => ⟨hin1, fun I23 e23 v1' ev1' => ?_⟩⟩
      rw [zi_succ] at ev1'
      subst ev1'
      have o23 : ∀ a j, ¬ (535 ≤ a ∧ a ≤ 537 ∧ j = q + 1) → I23.1 a j = A.1 a j := fun a j u => by
        rw [e23, zu_at, if_neg (by omega), e22, zu_at, if_neg (by omega), e20, zu_at, if_neg (by omega)]
      have q23 : eqQ (Qrw q) I I23 := by
        rw [e23, e22, e20]
        exact (((qA.mono h65).zu (hqw _ _ (by omega) (by omega) (by omega))).zu (hqw _ _ (by omega) (by omega) (by omega))).zu (hqw _ _ (by omega) (by omega) (by omega))
      refine ih (q + 1) f ((part + 1) / 2) pl I23 (max n0 q) (by omega) (by rw [o23 _ _ (by omega)]; exact aD) (by omega) (by omega) (by omega) (by omega) (by omega) hu (pkp I I23 pl hP (fun a j h => by rw [o23 _ _ (by omega)]; exact qA.1 a j (by omega))) (fun i r hi => by rw [o23 _ _ (by omega), qA.1 528 i (by omega)]; exact hR i r hi) ?_ ?_ ?_ (fun J qJ pJ jD => ?_)
      · rw [e23, zu_oo (by decide), e22, zu_oo (by decide), e20, zu_self, x3]
      · rw [e23, zu_oo (by decide), e22, zu_self, x5]
      · rw [e23, zu_self]
      have jR : ∀ i r, rs[i]? = some r → J.1 528 i = zi r := fun i r hi => by
        rw [qJ.1 528 i (by unfold Qrw; omega), o23 _ _ (by omega), qA.1 528 i (by omega)]
        exact hR i r hi
      have jo : ∀ a, 535 ≤ a → a ≤ 537 → J.1 a q = I.1 a q := fun a u1 u2 => by
        rw [qJ.1 a q (by unfold Qrw; omega), o23 _ _ (by omega), qA.1 a q (by omega)]
      have qIJ : eqQ (Qrw q) I J := q23.tr (qJ.mono (fun a j h => by unfold Qrw at h ⊢; omega))
      -- its ROW is kept
      refine visit q f part _ J (max (max n0 q) (q + 1 + dpF dd ((part + 1) / 2))) (by omega) jD (by omega) (by omega) h1 (by rw [jo _ (by decide) (by decide)]; exact g1) (by rw [jo _ (by decide) (by decide)]; exact g2) (fun v1 v3 v4 v5 B qB bD y1 y2 y3 y4 y5 y6 y7 => ?_)
      have hva : (layR rs dd f ((part + 1) / 2) pl).1 < 15000 := by unfold rowV at a4; omega
      rw [if_neg (hne v4 v3 y6), if_neg (hneg _ (by omega)), y2, zi_tn (show q < 2147483648 by omega)]
      refine ⟨y7, ?_⟩
      rw [qB.1 537 q (by omega), jo _ (by decide) (by decide), g3, if_pos rfl]
      refine ⟨y7, fun I16 e16 => ?_⟩
      rw [y1]
      have o16 : ∀ a j, ¬ (a = 537 ∧ j = q) → I16.1 a j = B.1 a j := fun a j u => by rw [e16, zu_at, if_neg u]
      have q16 : eqQ (Qrw q) I I16 := by
        rw [e16]
        exact (qIJ.tr (qB.mono h65)).zu (hqw _ _ (by omega) (by omega) (by omega))
      -- the second half
      refine visit q f part (-1) I16 (max (max (max n0 q) (q + 1 + dpF dd ((part + 1) / 2))) q) (by omega) (by rw [o16 _ _ (by omega)]; exact bD) (by omega) (by omega) h1 (by rw [o16 _ _ (by omega), qB.1 535 q (by omega), jo _ (by decide) (by decide)]; exact g1) (by rw [o16 _ _ (by omega), qB.1 536 q (by omega), jo _ (by decide) (by decide)]; exact g2) (fun v1 v3 v4 v5 C qC cD z1 z2 z3 z4 z5 z6 z7 => ?_)
      rw [if_neg (hne v4 v3 z6), if_pos rfl, z2, zi_tn (show q < 2147483648 by omega)]
      refine ⟨z7, ?_⟩
      have c537 : C.1 537 q = zi (layR rs dd f ((part + 1) / 2) pl).1 := by rw [qC.1 537 q (by omega), e16, zu_self]
      rw [c537]
      intro P138' h138'
      rw [if_neg (hneg _ (by omega))]
      refine h138' _ ?_
      intro P156' h156'
      rw [if_neg (by decide)]
      refine h156' _ ?_
      rw [z1, zi_tn (show q + 1 < 2147483648 by omega)]
      refine ⟨hin1, fun I20' e20' => ?_⟩
      intro P174' h174'
      rw [if_neg (by decide)]
      refine h174' _ ⟨hin1, fun I22' e22' => ⟨hin1, fun I23' e23' v1' ev1' => ?_⟩⟩
      rw [zi_succ] at ev1'
      subst ev1'
      have o23' : ∀ a j, ¬ (535 ≤ a ∧ a ≤ 537 ∧ j = q + 1) → I23'.1 a j = C.1 a j := fun a j u => by
        rw [e23', zu_at, if_neg (by omega), e22', zu_at, if_neg (by omega), e20', zu_at, if_neg (by omega)]
      have q23' : eqQ (Qrw q) I I23' := by
        rw [e23', e22', e20']
        exact (((q16.tr (qC.mono h65)).zu (hqw _ _ (by omega) (by omega) (by omega))).zu (hqw _ _ (by omega) (by omega) (by omega))).zu (hqw _ _ (by omega) (by omega) (by omega))
      refine ih (q + 1) (f + (part + 1) / 2) (part - (part + 1) / 2) _ I23' (max (max (max (max n0 q) (q + 1 + dpF dd ((part + 1) / 2))) q) q) (by omega) (by rw [o23' _ _ (by omega)]; exact cD) (by omega) (by omega) (by omega) (by omega) (by omega) a1 (pkp J I23' _ pJ (fun a j h => by rw [o23' _ _ (by omega), qC.1 a j (by omega), o16 _ _ (by omega), qB.1 a j (by omega)])) (fun i r hi => by rw [o23' _ _ (by omega), qC.1 528 i (by omega), o16 _ _ (by omega), qB.1 528 i (by omega)]; exact jR i r hi) ?_ ?_ ?_ (fun M qM pM mD => ?_)
      · rw [e23', zu_oo (by decide), e22', zu_oo (by decide), e20', zu_self, z5]
      · rw [e23', zu_oo (by decide), e22', zu_self, z4, show f + (part + 1) / 2 + (part - (part + 1) / 2) = f + part by omega]
      · rw [e23', zu_self]
      -- the PAIR
      have m537 : M.1 537 q = zi (layR rs dd f ((part + 1) / 2) pl).1 := by rw [qM.1 537 q (by unfold Qrw; omega), o23' _ _ (by omega)]; exact c537
      have mo : ∀ a, 535 ≤ a → a ≤ 536 → M.1 a q = I.1 a q := fun a u1 u2 => by
        rw [qM.1 a q (by unfold Qrw; omega), o23' _ _ (by omega), qC.1 a q (by omega), o16 _ _ (by omega), qB.1 a q (by omega), jo a (by omega) (by omega)]
      refine visit q f part _ M (max (max (max (max (max n0 q) (q + 1 + dpF dd ((part + 1) / 2))) q) q) (q + 1 + dpF dd (part - (part + 1) / 2))) (by omega) mD (by omega) (by omega) h1 (by rw [mo _ (by decide) (by decide)]; exact g1) (by rw [mo _ (by decide) (by decide)]; exact g2) (fun v1 v3 v4 v5 D qD dD w1 w2 w3 w4 w5 w6 w7 => ?_)
      have hvb : (layR rs dd (f + (part + 1) / 2) (part - (part + 1) / 2) (layR rs dd f ((part + 1) / 2) pl).2).1 < 15000 := by unfold rowV at b4; omega
      rw [if_neg (hne v4 v3 w6), if_neg (hneg _ (by omega)), w2, zi_tn (show q < 2147483648 by omega)]
      refine ⟨w7, ?_⟩
      rw [qD.1 537 q (by omega), m537, if_neg (hneg _ (by omega))]
      refine ⟨w7, s_pairOf (pkp M D _ pM (fun a j h => qD.1 a j (by omega))) b1 hva hvb (by omega) (fun E qE pE v2' ev2' v1' ev1' => ?_)⟩
      rw [show (10000 : Int32) = zi 10000 from rfl, zi_add] at ev2'
      rw [w1, zi_pred (by omega), Nat.add_sub_cancel] at ev1'
      rw [ev2', ev1']
      exact hK E (((q23'.tr (qM.mono (fun a j h => by unfold Qrw at h ⊢; omega))).tr (qD.mono h65)).tr (qE.mono (fun a j h => by unfold Qpm at h; unfold Qrw; omega))) pE (by
        have e : dpF (dd + 1) part = 1 + max (dpF dd ((part + 1) / 2)) (dpF dd (part - (part + 1) / 2)) := if_neg hp
        rw [qE.1 491 65 (by unfold Qpm; omega), dD, e]
        congr 1
        omega)
def Qro (a j : Nat) : Prop := (a = 491 ∧ (j = 59 ∨ j = 65)) ∨ (533 ≤ a ∧ a ≤ 537)
theorem s_rowNow {rs : List Nat} {pl : List (Nat × Nat)} {I : zI} {K : Int32 → zI → Prop} (hrs : ∀ r ∈ rs, r < 3400) (hrl : rs.length ≤ 99) (hpl : pl.length + 99 ≤ 4100) (hu : PrU pl) (hP : PrM I pl) (hR0 : I.1 491 51 = zi rs.length) (hR : ∀ i r, rs[i]? = some r → I.1 528 i = zi r) (hK : ∀ J : zI, eqQ Qro I J → PrM J (layAllR rs pl) → (rs.length ≠ 0 → J.1 491 65 = zi (dpF 9 rs.length)) → (rs.length = 0 → J = I) → K (rowI rs pl) J) : w_M_rowNow I K := by
  unfold w_M_rowNow
  unfold layAllR rowI at hK
  rw [hR0]
  by_cases h0 : rs.length = 0
  · rw [h0, if_pos (show zi 0 = 0 from rfl)]
    rw [if_pos h0, if_pos h0] at hK
    exact hK I eqQ.rf hP (fun u => absurd h0 u) (fun _ => rfl)
  · rw [if_neg (show ¬ zi rs.length = 0 from fun u => h0 ((zi_eq (b := 0) (by omega) (by decide)).mp u))]
    rw [if_neg h0, if_neg h0] at hK
    have hin0 : vp_in 0 20 := (zin_iff (i := 0) (by decide)).mpr (by decide)
    intro I1 e1
    refine ⟨hin0, fun I2 e2 => ⟨hin0, fun I3 e3 => ⟨hin0, fun I4 e4 => ?_⟩⟩⟩
    rw [show I2.1 491 51 = zi rs.length by rw [e2, zu_oo (by decide), e1, zu_at, if_neg (by decide)]; exact hR0] at e3
    have q4 : eqQ Qro I I4 := by
      rw [e4, e3, e2, e1]
      exact (((eqQ.rf.zu (Or.inl ⟨rfl, Or.inr rfl⟩)).zu (Or.inr (by omega))).zu (Or.inr (by omega))).zu (Or.inr (by omega))
    have o4 : ∀ a j, ¬ (a = 491 ∧ j = 65) → ¬ (535 ≤ a ∧ a ≤ 537) → I4.1 a j = I.1 a j := fun a j u v => by
      rw [e4, zu_oo (by omega), e3, zu_oo (by omega), e2, zu_oo (by omega), e1, zu_at, if_neg u]
    intro P43 h43
    refine s_rowPart hrs (by omega) h43 9 0 0 rs.length pl I4 0 (by omega) (by rw [e4, zu_oo (by decide), e3, zu_oo (by decide), e2, zu_oo (by decide), e1]; exact zu_self) (by omega) (by omega) (by omega) (by omega) (by omega) hu ⟨by rw [o4 _ _ (by omega) (by omega)]; exact hP.1, fun i p hi => by rw [o4 _ _ (by omega) (by omega), o4 _ _ (by omega) (by omega)]; exact hP.2.1 i p hi, hP.2.2⟩ (fun i r hi => by rw [o4 _ _ (by omega) (by omega)]; exact hR i r hi) ?_ ?_ ?_ (fun J qJ pJ jD => ?_)
    · rw [e4, zu_oo (by decide), e3, zu_oo (by decide), e2]
      exact zu_self
    · rw [e4, zu_oo (by decide), e3, Nat.zero_add]
      exact zu_self
    · rw [e4]
      exact zu_self
    · refine h43 _ _ _ ?_
      rw [if_pos (show zi 0 ≤ 0 by decide)]
      exact hK J (q4.tr (qJ.mono (fun a j h => by unfold Qrw at h; unfold Qro; omega))) pJ (fun _ => by rw [jD, Nat.zero_max, Nat.zero_add]) (fun u => absurd u h0)
/-! ===== loops by numbers ===== -/
theorem i_succ {v b : Int32} (h : v < b) : (v + 1).toInt = v.toInt + 1 := by
  have h1 := Int32.lt_iff_toInt_lt.mp h
  have h2 := b.toInt_lt
  have h3 := v.le_toInt
  rw [Int32.toInt_add, show (1 : Int32).toInt = 1 from rfl]
  exact Int.bmod_eq_of_le (by omega) (by omega)
theorem i_pred {v : Int32} (h : 0 ≤ v) : (v + (-1)).toInt = v.toInt - 1 := by
  have h1 : (0 : Int) ≤ v.toInt := by simpa using Int32.le_iff_toInt_le.mp h
  have h2 := v.toInt_lt
  rw [Int32.toInt_add, show (-1 : Int32).toInt = -1 from rfl]
  exact Int.bmod_eq_of_le (by omega) (by omega)
theorem up_loop {P : Int32 → zI → Prop} {b : Int32} {inv : zI → Prop} (step : ∀ v J, v < b → inv J → (∀ J', inv J' → P (v + 1) J') → P v J) (stop : ∀ v J, b ≤ v → inv J → P v J) : ∀ v J, inv J → P v J := by
  have main : ∀ (n : Nat) (v : Int32) (J : zI), (b.toInt - v.toInt).toNat ≤ n → inv J → P v J := by
    intro n
    induction n with
    | zero =>
      intro v J hn hJ
      refine stop v J (Int32.le_iff_toInt_le.mpr (by omega)) hJ
    | succ n ih =>
      intro v J hn hJ
      by_cases hv : v < b
      · refine step v J hv hJ (fun J' hJ' => ih (v + 1) J' ?_ hJ')
        have h1 := Int32.lt_iff_toInt_lt.mp hv
        rw [i_succ hv]
        omega
      · exact stop v J (Int32.not_lt.mp hv) hJ
  exact fun v J => main _ v J (Nat.le_refl _)
theorem dn_loop {P : Int32 → zI → Prop} {a : Int32} {inv : zI → Prop} (ha : 0 ≤ a) (step : ∀ v J, a ≤ v → inv J → (∀ J', inv J' → P (v + (-1)) J') → P v J) (stop : ∀ v J, v < a → inv J → P v J) : ∀ v J, inv J → P v J := by
  have main : ∀ (n : Nat) (v : Int32) (J : zI), (v.toInt - a.toInt + 1).toNat ≤ n → inv J → P v J := by
    intro n
    induction n with
    | zero =>
      intro v J hn hJ
      refine stop v J (Int32.lt_iff_toInt_lt.mpr (by omega)) hJ
    | succ n ih =>
      intro v J hn hJ
      by_cases hv : v < a
      · exact stop v J hv hJ
      · have hav := Int32.not_lt.mp hv
        refine step v J hav hJ (fun J' hJ' => ih (v + (-1)) J' ?_ hJ')
        have h1 := Int32.le_iff_toInt_le.mp hav
        rw [i_pred (Int32.le_trans ha hav)]
        omega
  exact fun v J => main _ v J (Nat.le_refl _)
theorem eqQ.rs {Q : Nat → Nat → Prop} {I J : zI} {a n : Nat} {i v : Int32} (h : eqQ Q I J) (hQ : ∀ j, Q a j) : eqQ Q I (rs J a n i v) := by
  unfold Jvm.Pilot.@@N@@.rs
  split
  · exact h
  · split
    · exact h
    · exact h.zu (hQ _)
theorem eqX.q {Q : Nat → Nat → Prop} {I J L : zI} {lo hi : Nat} (h : eqQ Q I J) (h2 : eqX lo hi J L) (hQ : ∀ a j, lo ≤ a → a < hi → Q a j) : eqQ Q I L :=
  h.tr ⟨fun a j u => congrFun (h2 a (by
    by_cases c : a < lo
    · exact Or.inl c
    · by_cases d : hi ≤ a
      · exact Or.inr d
      · exact absurd (hQ a j (by omega) (by omega)) u)).1 j, fun a j u => congrFun (h2 a (by
    by_cases c : a < lo
    · exact Or.inl c
    · by_cases d : hi ≤ a
      · exact Or.inr d
      · exact absurd (hQ a j (by omega) (by omega)) u)).2 j⟩
/-! ===== all statements RUN, the class: it returns, and changes its own rows alone ===== -/
def Qrr (a j : Nat) : Prop := 69 ≤ a ∧ a ≤ 87
theorem r_lengthOf {r : Int32} {I : zI} {K : Int32 → Prop} (h : ∀ v, K v) : w_Desk_lengthOf r I K := by
  by_cases h0 : r < 0
  · exact s_lengthOf_neg h0 (h _)
  · obtain ⟨a, ha, rfl⟩ := zi_of (Int32.not_lt.mp h0)
    by_cases h1 : a < 11
    · exact s_lengthOf h1 (h _)
    · unfold w_Desk_lengthOf
      rw [if_neg h0, if_pos (show (11 : Int32) ≤ zi a from (zi_le (a := 11) (by decide) ha).mpr (by omega))]
      exact h _
theorem r_clear {I : zI} {K : zI → Prop} (hK : ∀ J, eqQ Qrr I J → K J) : w_Runner_clear I K := by
  unfold w_Runner_clear
  refine s_fill (by decide) (fun I1 q1 _ => s_fill (by decide) (fun I2 q2 _ => s_fill (by decide) (fun I3 q3 _ => s_fill (by decide) (fun I4 q4 _ => s_fill (by decide) (fun I5 q5 _ => ?_)))))
  intro I6 e6 I7 e7 I8 e8
  have hq : eqQ Qrr I I5 := ((((eqX.q eqQ.rf q1 (fun a j h1 h2 => ⟨by omega, by omega⟩)) |> fun h => eqX.q h q2 (fun a j h1 h2 => ⟨by omega, by omega⟩)) |> fun h => eqX.q h q3 (fun a j h1 h2 => ⟨by omega, by omega⟩)) |> fun h => eqX.q h q4 (fun a j h1 h2 => ⟨by omega, by omega⟩)) |> fun h => eqX.q h q5 (fun a j h1 h2 => ⟨by omega, by omega⟩)
  refine hK I8 ?_
  rw [e8, e7, e6]
  exact ((hq.zu ⟨by decide, by decide⟩).zu ⟨by decide, by decide⟩).zu ⟨by decide, by decide⟩
theorem r_sameBytes {a b : Int32} {I : zI} {K : Int32 → Prop} (h1 : K 1) (h0 : K 0) : w_Nodes_sameBytes a b I K := by
  unfold w_Nodes_sameBytes
  refine (w_get (by decide)).mpr ((w_get (by decide)).mpr ?_)
  split
  · refine (w_get (by decide)).mpr ((w_get (by decide)).mpr ?_)
    split
    · refine (w_get (by decide)).mpr ((w_get (by decide)).mpr ?_)
      split
      · refine (w_get (by decide)).mpr ((w_get (by decide)).mpr ?_)
        split
        · exact h1
        · exact h0
      · exact h0
    · exact h0
  · exact h0
theorem r_findNames {a : Nat} {I : zI} {K : zI → Prop} (ha : a < 69 ∨ 87 < a) (hK : ∀ J, eqQ Qrr I J → K J) : w_Runner_findNames a I K := by
  intro P2 h2
  refine up_loop (P := P2) (b := I.1 a 6) (inv := fun J => eqQ Qrr I J) (fun v J hv hJ ih => ?_) (fun v J hv hJ => ?_) 0 I eqQ.rf
  · refine h2 _ _ ?_
    rw [hJ.1 a 6 (by unfold Qrr; omega), if_neg (Int32.not_le.mpr hv)]
    refine (w_get (by decide)).mpr ?_
    intro P22 h22
    have stop : ∀ w : Int32, w_Row_set 70 100 v w J (fun I_5 => ∀ v2_6, v2_6 = (v + 1) → P2 v2_6 I_5) := fun w => by
      refine (w_set (by decide)).mpr (fun v' ev => ?_)
      rw [ev]
      exact ih _ (hJ.rs (fun j => ⟨by decide, by decide⟩))
    refine up_loop (P := fun w _ => P22 w) (b := v) (inv := fun _ => True) (fun w _ hw _ ih2 => ?_) (fun w _ hw _ => ?_) 0 I trivial
    · refine h22 _ ?_
      intro P53 h53
      rw [if_neg (Int32.not_le.mpr hw)]
      refine (w_get (by decide)).mpr (r_sameBytes ?_ ?_)
      · rw [if_neg (by decide)]
        exact h53 (stop w)
      · rw [if_pos rfl]
        intro v' ev
        rw [ev]
        exact ih2 I trivial
    · refine h22 _ ?_
      intro P53 h53
      rw [if_pos hw]
      exact h53 (stop w)
  · refine h2 _ _ ?_
    rw [hJ.1 a 6 (by unfold Qrr; omega), if_pos hv]
    exact hK J hJ
theorem r_valueOf {a : Int32} {I : zI} {K : Int32 → Prop} (h : ∀ v, K v) : w_Runner_valueOf a I K := (w_get (by decide)).mpr ((w_get (by decide)).mpr (h _))
theorem zb_or {x y : Int32} (hx : zb x) (hy : zb y) : zb (x ||| y) := by
  rcases hx with rfl | rfl <;> rcases hy with rfl | rfl <;> first | exact Or.inl (by decide) | exact Or.inr (by decide)
theorem r_recordReads {a1 a2 a3 : Int32} {I : zI} {K : Int32 → zI → Prop} (hK : ∀ v J, eqQ Qrr I J → K v J) : w_Runner_recordReads a1 a2 a3 I K := by
  unfold w_Runner_recordReads
  refine (w_get (by decide)).mpr ?_
  intro P16 h16
  have rest : ∀ t : Int32, P16 t := by
    intro t
    refine h16 t ?_
    intro P37 h37
    have rest2 : ∀ I3, eqQ Qrr I I3 → P37 I3 := by
      intro I3 q3
      refine h37 I3 ((w_get (by decide)).mpr ?_)
      intro v5 ev5 P55 h55
      have loop := up_loop (P := fun v J => ∀ v5 v6, zb v6 → P55 v5 v6 v J) (b := a3) (inv := fun J => eqQ Qrr I J) (fun v J hv hJ ih v5 v6 hz => by
        refine h55 _ _ _ _ ?_
        rw [if_neg (Int32.not_le.mpr hv)]
        refine (w_get (by decide)).mpr ((w_get (by decide)).mpr ?_)
        intro P149 h149
        have nxt : ∀ (w5 w6 : Int32) (L : zI), zb w6 → eqQ Qrr I L → P149 w5 w6 L := fun w5 w6 L hz hL => by
          refine h149 _ _ _ (fun v' ev => ?_)
          rw [ev]
          exact ih L hL w5 w6 hz
        split
        · refine (w_get (by decide)).mpr (r_valueOf (fun r20 => ?_))
          intro P132 h132
          have put : ∀ u : Int32, zb u → P132 u := fun u hu => by
            refine h132 _ (fun w6 e6 => (w_set (by decide)).mpr (fun w5 e5 => ?_))
            rw [e6]
            exact nxt _ _ _ (zb_or hz hu) (hJ.rs (fun j => ⟨by decide, by decide⟩))
          intro P131 h131
          split
          · refine (w_get (by decide)).mpr ?_
            split
            · exact h131 (put 0 (Or.inl rfl))
            · exact put 1 (Or.inr rfl)
          · exact h131 (put 0 (Or.inl rfl))
        · exact nxt _ _ _ hz hJ) (fun v J hv hJ v5 v6 hz => by
        refine h55 _ _ _ _ ?_
        rw [if_pos hv]
        intro P170 h170
        have fin : ∀ t, P170 t := fun t => h170 t (fun I11 e11 => ⟨hz, hK _ _ (by rw [e11]; exact hJ.zu ⟨by decide, by decide⟩)⟩)
        split
        · exact fin _
        · exact fin _)
      exact loop a2 I3 q3 v5 0 (Or.inl rfl)
    split
    · exact rest2 I eqQ.rf
    · exact (w_set (by decide)).mpr (rest2 _ (eqQ.rf.rs (fun j => ⟨by decide, by decide⟩)))
  split
  · exact rest 1
  · exact rest 0
theorem r_noteReads {a1 a2 : Int32} {I : zI} {K : zI → Prop} (hK : ∀ J, eqQ Qrr I J → K J) : w_Runner_noteReads a1 a2 I K := by
  intro P2 h2
  refine up_loop (P := P2) (b := a2) (inv := fun J => eqQ Qrr I J) (fun v J hv hJ ih => ?_) (fun v J hv hJ => ?_) a1 I eqQ.rf
  · refine h2 _ _ ?_
    rw [if_neg (Int32.not_le.mpr hv)]
    refine (w_get (by decide)).mpr ((w_get (by decide)).mpr ?_)
    intro P86 h86
    have nxt : ∀ L, eqQ Qrr I L → P86 L := fun L hL => h86 L (fun v' ev => by rw [ev]; exact ih L hL)
    split
    · refine (w_get (by decide)).mpr ((w_get (by decide)).mpr ((w_get (by decide)).mpr ((w_set (by decide)).mpr ((w_set (by decide)).mpr ?_))))
      exact nxt _ ((hJ.rs (fun j => ⟨by decide, by decide⟩)).rs (fun j => ⟨by decide, by decide⟩))
    · exact nxt J hJ
  · refine h2 _ _ ?_
    rw [if_pos hv]
    exact hK J hJ
theorem r_numberOf {a : Int32} {I : zI} {K : Int32 → Prop} (hK : ∀ v, K v) : w_Runner_numberOf a I K := by
  intro P5 h5
  have st : ∀ (s : Int32), ¬ s < 0 → (∀ v, P5 v (s + (-8))) → ∀ v, P5 v s := by
    intro s hs hn v
    refine h5 _ _ ?_
    rw [if_neg hs]
    intro v3 ev3 P34 h34
    have nx : ∀ t, P34 t := fun t => h34 t (fun v2 e2 => by rw [e2]; exact hn t)
    split
    · exact nx _
    · exact nx _
  refine st 24 (by decide) (st 16 (by decide) (st 8 (by decide) (st 0 (by decide) (fun v => ?_)))) 0
  refine h5 _ _ ?_
  rw [if_pos (by decide)]
  exact hK v
theorem r_worthAt {a : Int32} {I : zI} {K : Int32 → Prop} (hK : ∀ v, K v) : w_Runner_worthAt a I K := by
  intro v2 ev2
  refine (w_get (by decide)).mpr (fun v3 ev3 => (w_get (by decide)).mpr ((w_get (by decide)).mpr ?_))
  intro P120 h120
  have h : P120 := h120 ((w_get (by decide)).mpr (hK _))
  split
  · exact (w_get (by decide)).mpr ((w_get (by decide)).mpr (hK _))
  · split
    · exact h
    · split
      · exact (w_get (by decide)).mpr ((w_get (by decide)).mpr (hK _))
      · split
        · exact h
        · split
          · exact (w_get (by decide)).mpr ((w_get (by decide)).mpr ((w_get (by decide)).mpr (hK _)))
          · split
            · exact (w_get (by decide)).mpr ((w_get (by decide)).mpr (r_numberOf (fun v => hK v)))
            · split
              · exact (w_get (by decide)).mpr (hK _)
              · exact hK _
theorem r_evaluate {a1 a2 : Int32} {I : zI} {K : zI → Prop} (h0 : 0 ≤ a1) (hK : ∀ J, eqQ Qrr I J → K J) : w_Runner_evaluate a1 a2 I K := by
  intro v3 ev3 P4 h4
  refine dn_loop (P := P4) (a := a1) (inv := fun J => eqQ Qrr I J) h0 (fun v J hv hJ ih => ?_) (fun v J hv hJ => ?_) v3 I eqQ.rf
  · refine h4 _ _ ?_
    rw [if_neg (Int32.not_lt.mpr hv)]
    refine r_worthAt (fun w => (w_set (by decide)).mpr (fun v' ev => ?_))
    rw [ev]
    exact ih _ (hJ.rs (fun j => ⟨by decide, by decide⟩))
  · refine h4 _ _ ?_
    rw [if_pos hv]
    exact hK J hJ
theorem r_setName {a1 a2 a3 : Int32} {I : zI} {K : zI → Prop} (hK : ∀ J, eqQ Qrr I J → K J) : w_Runner_setName a1 a2 a3 I K := by
  refine (w_get (by decide)).mpr ((w_get (by decide)).mpr ?_)
  intro P52 h52
  have nx : ∀ L, eqQ Qrr I L → P52 L := fun L hL => h52 L ((w_set (by decide)).mpr ((w_get (by decide)).mpr ((w_set (by decide)).mpr ((w_add (by decide)).mpr ((w_set (by decide)).mpr (hK _ ((((hL.rs (fun j => ⟨by decide, by decide⟩)).rs (fun j => ⟨by decide, by decide⟩)).rs (fun j => ⟨by decide, by decide⟩)).rs (fun j => ⟨by decide, by decide⟩))))))))
  split
  · exact nx I eqQ.rf
  · intro I9 e9
    refine (w_get (by decide)).mpr (fun I11 e11 => nx I11 ?_)
    rw [e11, e9]
    exact (eqQ.rf.zu ⟨by decide, by decide⟩).zu ⟨by decide, by decide⟩
theorem r_runStatement {p : Nat} {a2 : Int32} {I : zI} {K : zI → Prop} (hp : p < 1000) (hK : ∀ J, eqQ Qrr I J → K J) : w_Runner_runStatement (zi p) a2 I K := by
  refine (w_get (by decide)).mpr (fun v4 ev4 => (w_get (by decide)).mpr (fun v5 ev5 => ?_))
  have h0 : 0 ≤ v4 := by
    rw [ev4, show (3 : Int32) = zi 3 from rfl, zi_add]
    exact zi_ge (by omega)
  intro P55 h55
  have st : ∀ (t : Int32) (L : zI), eqQ Qrr I L → P55 t L := by
    intro t L hL
    refine h55 _ _ ?_
    intro P91 h91
    have nx : ∀ M, eqQ Qrr I M → P91 M := fun M hM => h91 M (r_noteReads (fun A qA => r_evaluate h0 (fun B qB => (w_get (by decide)).mpr ((w_get (by decide)).mpr (r_setName (fun C qC => hK C (((hM.tr qA).tr qB).tr qC)))))))
    split
    · exact nx L hL
    · intro P81 h81
      have yes : P81 := h81 (fun I13 e13 => nx I13 (by rw [e13]; exact hL.zu ⟨by decide, by decide⟩))
      split
      · refine (w_get (by decide)).mpr ?_
        split
        · exact yes
        · exact nx L hL
      · exact yes
  intro P54 h54
  split
  · exact h54 I (st 0 I eqQ.rf)
  · refine r_recordReads (fun v J qJ => ?_)
    split
    · exact h54 J (st 0 J qJ)
    · exact st 1 J qJ
theorem r_sumUp {I : zI} {K : zI → Prop} (hK : ∀ J, eqQ Qrr I J → K J) : w_Runner_sumUp I K := by
  intro I1 e1 P7 h7
  have q1 : eqQ Qrr I I1 := by
    rw [e1]
    exact eqQ.rf.zu ⟨by decide, by decide⟩
  refine up_loop (P := P7) (b := I.1 43 12) (inv := fun J => eqQ Qrr I J) (fun v J hv hJ ih => ?_) (fun v J hv hJ => ?_) 0 I1 q1
  · refine h7 _ _ ?_
    rw [hJ.1 43 12 (by unfold Qrr; omega), if_neg (Int32.not_le.mpr hv)]
    refine (w_get (by decide)).mpr ((w_get (by decide)).mpr ?_)
    intro P49 h49
    have nx : ∀ t, P49 t := by
      intro t
      refine h49 t ?_
      intro P71 h71
      have n2 : ∀ u, P71 u := fun u => h71 u (fun I17 e17 v' ev => by
        rw [ev]
        exact ih I17 (by rw [e17]; exact hJ.zu ⟨by decide, by decide⟩))
      split
      · exact n2 _
      · exact (w_get (by decide)).mpr (n2 _)
    split
    · exact nx _
    · exact nx _
  · refine h7 _ _ ?_
    rw [hJ.1 43 12 (by unfold Qrr; omega), if_pos hv]
    intro I4 e4 P88 h88
    have q4 : eqQ Qrr I I4 := by
      rw [e4]
      exact hJ.zu ⟨by decide, by decide⟩
    refine up_loop (P := P88) (b := 100) (inv := fun J => eqQ Qrr I J) (fun v J hv hJ ih => ?_) (fun v J hv hJ => ?_) 0 I4 q4
    · refine h88 _ _ ?_
      rw [if_neg (Int32.not_le.mpr hv)]
      refine (w_get (by decide)).mpr ?_
      intro P115 h115
      have nx : ∀ t, P115 t := fun t => h115 t (fun I9 e9 v' ev => by
        rw [ev]
        exact ih I9 (by rw [e9]; exact hJ.zu ⟨by decide, by decide⟩))
      split
      · exact nx _
      · exact nx _
    · refine h88 _ _ ?_
      rw [if_pos hv]
      exact hK J hJ
theorem r_runAll {a n : Nat} {e : Int32} {I : zI} {K : zI → Prop} (ha : a < 69 ∨ 87 < a) (hn : I.1 43 12 = zi n) (hn2 : n < 1000) (hK : ∀ J, eqQ Qrr I J → K J) : w_Runner_runAll a e I K := by
  refine r_clear (fun A qA => r_findNames ha (fun B qB => ?_))
  intro P11 h11
  have main : ∀ (d p : Nat) (J : zI), p + d = n → eqQ Qrr I J → P11 (zi p) J := by
    intro d
    induction d with
    | zero =>
      intro p J hp hJ
      refine h11 _ _ ?_
      rw [hJ.1 43 12 (by unfold Qrr; omega), hn, if_pos ((zi_le (by omega) (by omega)).mpr (by omega))]
      exact r_evaluate (by decide) (fun C qC => r_sumUp (fun D qD => hK D ((hJ.tr qC).tr qD)))
    | succ d ih =>
      intro p J hp hJ
      refine h11 _ _ ?_
      rw [hJ.1 43 12 (by unfold Qrr; omega), hn, if_neg (fun u => by have := (zi_le (by omega) (by omega)).mp u; omega)]
      refine (w_get (by decide)).mpr ((w_get (by decide)).mpr ?_)
      intro P53 h53
      have nx : ∀ L, eqQ Qrr I L → P53 L := fun L hL => h53 L (fun v ev => by
        rw [ev, zi_succ]
        exact ih (p + 1) L (by omega) hL)
      split
      · exact r_runStatement (by omega) (fun C qC => nx C (hJ.tr qC))
      · exact nx J hJ
  exact main n 0 B (by omega) (qA.tr qB)
