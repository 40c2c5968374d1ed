/-! ===== PAIRS ===== -/
theorem div_fin : ∀ p, p < 200 → zi p / 2 = zi (p / 2) := by decide +kernel
/-- there already, or one more -/
def fmP (a b : Nat) (pl : List (Nat × Nat)) : Nat × List (Nat × Nat) := match pl.findIdx? (fun p => p == (a, b)) with
  | some i => (i, pl)
  | none => (pl.length, pl ++ [(a, b)])
/-- the ROW of a part of the RUNS -/
def layR (rs : List Nat) : Nat → Nat → Nat → List (Nat × Nat) → Nat × List (Nat × Nat)
  | 0, f, _, pl => (rs.getD f 0, pl)
  | d + 1, f, part, pl => if part ≤ 1 then (rs.getD f 0, pl) else
    (10000 + (fmP (layR rs d f ((part + 1) / 2) pl).1 (layR rs d (f + (part + 1) / 2) (part - (part + 1) / 2) (layR rs d f ((part + 1) / 2) pl).2).1 (layR rs d (f + (part + 1) / 2) (part - (part + 1) / 2) (layR rs d f ((part + 1) / 2) pl).2).2).1,
      (fmP (layR rs d f ((part + 1) / 2) pl).1 (layR rs d (f + (part + 1) / 2) (part - (part + 1) / 2) (layR rs d f ((part + 1) / 2) pl).2).1 (layR rs d (f + (part + 1) / 2) (part - (part + 1) / 2) (layR rs d f ((part + 1) / 2) pl).2).2).2)
def PrU (pl : List (Nat × Nat)) : Prop := ∀ (i j : Nat) (p : Nat × Nat), pl[i]? = some p → pl[j]? = some p → i = j
theorem fmp_at {pl : List (Nat × Nat)} {a b i : Nat} (h : pl.findIdx? (fun p => p == (a, b)) = some i) : pl[i]? = some (a, b) := by
  obtain ⟨h1, h2, -⟩ := List.findIdx?_eq_some_iff_getElem.mp h
  rw [List.getElem?_eq_getElem h1, beq_iff_eq.mp h2]
theorem fmp_no {pl : List (Nat × Nat)} {a b : Nat} (h : pl.findIdx? (fun p => p == (a, b)) = none) : ∀ i : Nat, pl[i]? ≠ some (a, b) := by
  intro i hi
  have := List.findIdx?_eq_none_iff.mp h (a, b) (List.mem_of_getElem? hi)
  rw [beq_self_eq_true] at this
  cases this
theorem fmp_is {pl : List (Nat × Nat)} (hu : PrU pl) {a b i : Nat} (h : pl[i]? = some (a, b)) : fmP a b pl = (i, pl) := by
  unfold fmP
  cases e : pl.findIdx? (fun p => p == (a, b)) with
  | none => exact absurd h (fmp_no e i)
  | some j =>
    rw [hu j i _ (fmp_at e) h]
theorem fmp_new {pl : List (Nat × Nat)} {a b : Nat} (h : ∀ i : Nat, pl[i]? ≠ some (a, b)) : fmP a b pl = (pl.length, pl ++ [(a, b)]) := by
  unfold fmP
  cases e : pl.findIdx? (fun p => p == (a, b)) with
  | none => rfl
  | some j => exact absurd (fmp_at e) (h j)
theorem fmp_ok {pl : List (Nat × Nat)} (hu : PrU pl) (a b : Nat) : PrU (fmP a b pl).2 ∧ pl.length ≤ (fmP a b pl).2.length ∧ (fmP a b pl).2.length ≤ pl.length + 1 ∧ (fmP a b pl).1 < (fmP a b pl).2.length := by
  unfold fmP
  cases e : pl.findIdx? (fun p => p == (a, b)) with
  | some j =>
    have := (List.getElem?_eq_some_iff.mp (fmp_at e)).1
    exact ⟨hu, Nat.le_refl _, Nat.le_succ _, this⟩
  | none =>
    have h := fmp_no e
    refine ⟨fun i j p hi hj => ?_, ?_, ?_, ?_⟩
    · rcases snoc_at hi with hi | ⟨i1, i2⟩
      · rcases snoc_at hj with hj | ⟨j1, j2⟩
        · exact hu i j p hi hj
        · rw [j2] at hi
          exact absurd hi (h i)
      · rcases snoc_at hj with hj | ⟨j1, j2⟩
        · rw [i2] at hj
          exact absurd hj (h j)
        · omega
    · show pl.length ≤ (pl ++ [(a, b)]).length
      rw [List.length_append]
      omega
    · show (pl ++ [(a, b)]).length ≤ pl.length + 1
      rw [List.length_append]
      exact Nat.le_refl _
    · show pl.length < (pl ++ [(a, b)]).length
      rw [List.length_append]
      show pl.length < pl.length + 1
      omega
/-- what a ROW is: a node, or a PAIR -/
def rowV (v n : Nat) : Prop := v < 3400 ∨ (10000 ≤ v ∧ v < 10000 + n)
theorem layR_ok {rs : List Nat} (hrs : ∀ r ∈ rs, r < 3400) : ∀ (d f part : Nat) (pl : List (Nat × Nat)), 1 ≤ part → PrU pl → PrU (layR rs d f part pl).2 ∧ pl.length ≤ (layR rs d f part pl).2.length ∧ (layR rs d f part pl).2.length + 1 ≤ pl.length + part ∧ rowV (layR rs d f part pl).1 (layR rs d f part pl).2.length
  | 0, f, part, pl, h1, hu => by
    refine ⟨hu, Nat.le_refl _, Nat.add_le_add_left h1 _, Or.inl ?_⟩
    show rs.getD f 0 < 3400
    rw [List.getD_eq_getElem?_getD]
    cases e : rs[f]? with
    | none => exact (by decide : 0 < 3400)
    | some r => exact hrs r (List.mem_of_getElem? e)
  | d + 1, f, part, pl, h1, hu => by
    have hL : layR rs (d + 1) f part pl = if part ≤ 1 then (rs.getD f 0, pl) else
      (10000 + (fmP (layR rs d f ((part + 1) / 2) pl).1 (layR rs d (f + (part + 1) / 2) (part - (part + 1) / 2) (layR rs d f ((part + 1) / 2) pl).2).1 (layR rs d (f + (part + 1) / 2) (part - (part + 1) / 2) (layR rs d f ((part + 1) / 2) pl).2).2).1,
      (fmP (layR rs d f ((part + 1) / 2) pl).1 (layR rs d (f + (part + 1) / 2) (part - (part + 1) / 2) (layR rs d f ((part + 1) / 2) pl).2).1 (layR rs d (f + (part + 1) / 2) (part - (part + 1) / 2) (layR rs d f ((part + 1) / 2) pl).2).2).2) := rfl
    by_cases hp : part ≤ 1
    · rw [if_pos hp] at hL
      rw [hL]
      refine ⟨hu, Nat.le_refl _, Nat.add_le_add_left h1 _, Or.inl ?_⟩
      show rs.getD f 0 < 3400
      rw [List.getD_eq_getElem?_getD]
      cases e : rs[f]? with
      | none => exact (by decide : 0 < 3400)
      | some r => exact hrs r (List.mem_of_getElem? e)
    · rw [if_neg hp] at hL
      rw [hL]
      obtain ⟨a1, a2, a3, a4⟩ := layR_ok hrs d f ((part + 1) / 2) pl (by omega) hu
      obtain ⟨b1, b2, b3, b4⟩ := layR_ok hrs d (f + (part + 1) / 2) (part - (part + 1) / 2) (layR rs d f ((part + 1) / 2) pl).2 (by omega) a1
      obtain ⟨c1, c2, c3, c4⟩ := fmp_ok b1 (layR rs d f ((part + 1) / 2) pl).1 (layR rs d (f + (part + 1) / 2) (part - (part + 1) / 2) (layR rs d f ((part + 1) / 2) pl).2).1
      refine ⟨c1, by dsimp only; omega, by dsimp only; omega, Or.inr ⟨by dsimp only; omega, by dsimp only; omega⟩⟩
/-- of the PAIRS ahead of the k-th the last whose first half is v, and 1; none: 0 -/
def lastF (pl : List (Nat × Nat)) (v : Nat) : Nat → Nat
  | 0 => 0
  | k + 1 => if (pl.getD k (0, 0)).1 = v then k + 1 else lastF pl v k
theorem lastF_le {pl : List (Nat × Nat)} {v : Nat} : ∀ k, lastF pl v k ≤ k
  | 0 => Nat.le_refl _
  | k + 1 => by
    show (if (pl.getD k (0, 0)).1 = v then k + 1 else lastF pl v k) ≤ k + 1
    have := lastF_le (pl := pl) (v := v) k
    split <;> omega
theorem lastF_is {pl : List (Nat × Nat)} {v a : Nat} : ∀ k, lastF pl v k = a + 1 → (pl.getD a (0, 0)).1 = v ∧ a < k ∧ ∀ j, a < j → j < k → (pl.getD j (0, 0)).1 ≠ v
  | 0, h => by
    change 0 = a + 1 at h
    omega
  | k + 1, h => by
    have h' : (if (pl.getD k (0, 0)).1 = v then k + 1 else lastF pl v k) = a + 1 := h
    by_cases u : (pl.getD k (0, 0)).1 = v
    · rw [if_pos u] at h'
      rw [show a = k by omega]
      exact ⟨u, Nat.lt_succ_self _, fun j h1 h2 => by omega⟩
    · rw [if_neg u] at h'
      obtain ⟨b1, b2, b3⟩ := lastF_is k h'
      refine ⟨b1, by omega, fun j h1 h2 => ?_⟩
      by_cases w : j = k
      · rw [w]
        exact u
      · exact b3 j h1 (by omega)
theorem lastF_no {pl : List (Nat × Nat)} {v : Nat} : ∀ k, lastF pl v k = 0 → ∀ j, j < k → (pl.getD j (0, 0)).1 ≠ v
  | 0, _, j, hj => by omega
  | k + 1, h, j, hj => by
    have h' : (if (pl.getD k (0, 0)).1 = v then k + 1 else lastF pl v k) = 0 := h
    by_cases u : (pl.getD k (0, 0)).1 = v
    · rw [if_pos u] at h'
      omega
    · rw [if_neg u] at h'
      by_cases w : j = k
      · rw [w]
        exact u
      · exact lastF_no k h' j (by omega)
theorem lastF_cg {pl pl' : List (Nat × Nat)} {v : Nat} : ∀ k, (∀ j, j < k → pl'.getD j (0, 0) = pl.getD j (0, 0)) → lastF pl' v k = lastF pl v k
  | 0, _ => rfl
  | k + 1, h => by
    show (if (pl'.getD k (0, 0)).1 = v then k + 1 else lastF pl' v k) = (if (pl.getD k (0, 0)).1 = v then k + 1 else lastF pl v k)
    rw [h k (by omega), lastF_cg k (fun j hj => h j (by omega))]
def plc (v : Nat) : Nat := if 10000 ≤ v then v - 10000 + 3400 else v
def PrX (I : zI) (pl : List (Nat × Nat)) : Prop :=
  I.1 88 4 = zi pl.length ∧ (∀ (i : Nat) (p : Nat × Nat), pl[i]? = some p → I.1 90 i = zi p.1 ∧ I.1 92 i = zi p.2 ∧ I.1 94 i = zi (lastF pl p.1 i)) ∧ (∀ v, rowV v 4000 → I.1 96 (plc v) = zi (lastF pl v pl.length)) ∧ ∀ (i : Nat) (p : Nat × Nat), pl[i]? = some p → p.1 < 14000 ∧ p.2 < 14000
def Qpr (a j : Nat) : Prop := (a = 88 ∧ j = 4) ∨ a = 90 ∨ a = 92 ∨ a = 94 ∨ a = 96
theorem s_findOrMake {a b : Nat} {pl : List (Nat × Nat)} {I : zI} {K : Int32 → zI → Prop} (hP : PrX I pl) (hu : PrU pl) (ha : rowV a 4000) (hb : rowV b 4000) (hl : pl.length < 4000)
    (hK : ∀ J, eqQ Qpr I J → PrX J (fmP a b pl).2 → K (zi (fmP a b pl).1) J) : w_Pairs_findOrMake (zi a) (zi b) I K := by
  intro P20 h20
  obtain ⟨f1, f2, f3, f4⟩ := id hP
  have ha14 : a < 14000 := by unfold rowV at ha; omega
  have hb14 : b < 14000 := by unfold rowV at hb; omega
  have hpl : plc a < 7400 := by
    unfold plc
    unfold rowV at ha
    split <;> omega
  have rest : P20 (zi (plc a)) := by
    refine h20 _ ((w_get (by decide)).mpr ?_)
    rw [rg_in (by decide) hpl, show I.1 (95 + 1) (plc a) = zi (lastF pl a pl.length) from f3 a ha]
    intro P34 h34
    have make : (∀ i : Nat, pl[i]? ≠ some (a, b)) → (w_Row_set 89 4000 (I.1 88 4) (zi a) I (fun I_5 => w_Row_set 91 4000 (I_5.1 88 4) (zi b) I_5 (fun I_6 => w_Row_get 95 7400 (zi (plc a)) I_6 (fun r_7 => w_Row_set 93 4000 (I_6.1 88 4) r_7 I_6 (fun I_8 => w_Row_set 95 7400 (zi (plc a)) ((I_8.1 88 4) + 1) I_8 (fun I_9 => ∀ I_10, I_10 = (zu I_9 88 4 ((I_9.1 88 4) + 1)) → K ((I_10.1 88 4) - 1) I_10)))))) := by
      intro hno
      refine (w_set (by decide)).mpr ?_
      rw [f1, rs_in (by decide) hl]
      generalize e5 : zu I (89 + 1) pl.length (zi a) = I5
      have g5 : I5.1 88 4 = zi pl.length := by rw [← e5, zu_oo (by decide)]; exact f1
      refine (w_set (by decide)).mpr ?_
      rw [g5, rs_in (by decide) hl]
      generalize e6 : zu I5 (91 + 1) pl.length (zi b) = I6
      have g6 : I6.1 88 4 = zi pl.length := by rw [← e6, zu_oo (by decide)]; exact g5
      refine (w_get (by decide)).mpr ?_
      rw [rg_in (by decide) hpl, show I6.1 (95 + 1) (plc a) = zi (lastF pl a pl.length) by rw [← e6, zu_oo (by decide), ← e5, zu_oo (by decide)]; exact f3 a ha]
      refine (w_set (by decide)).mpr ?_
      rw [g6, rs_in (by decide) hl]
      generalize e8 : zu I6 (93 + 1) pl.length (zi (lastF pl a pl.length)) = I8
      have g8 : I8.1 88 4 = zi pl.length := by rw [← e8, zu_oo (by decide)]; exact g6
      refine (w_set (by decide)).mpr ?_
      rw [g8, rs_in (by decide) hpl, zi_succ]
      generalize e9 : zu I8 (95 + 1) (plc a) (zi (pl.length + 1)) = I9
      have g9 : I9.1 88 4 = zi pl.length := by rw [← e9, zu_oo (by decide)]; exact g8
      intro I10 e10
      rw [g9, zi_succ] at e10
      have g10 : I10.1 88 4 = zi (pl.length + 1) := by rw [e10, zu_self]
      rw [g10, show zi (pl.length + 1) - 1 = zi pl.length from zi_sub (b := 1) (by omega)]
      have hfm := fmp_new hno
      have hK' := hK I10
      rw [hfm] at hK'
      have v90 : ∀ j, I10.1 90 j = if j = pl.length then zi a else I.1 90 j := fun j => by
        rw [e10, zu_oo (by decide), ← e9, zu_oo (by decide), ← e8, zu_oo (by decide), ← e6, zu_oo (by decide), ← e5, zu_at]
        by_cases u : j = pl.length
        · rw [if_pos ⟨rfl, u⟩, if_pos u]
        · rw [if_neg (fun v => u v.2), if_neg u]
      have v92 : ∀ j, I10.1 92 j = if j = pl.length then zi b else I.1 92 j := fun j => by
        rw [e10, zu_oo (by decide), ← e9, zu_oo (by decide), ← e8, zu_oo (by decide), ← e6, zu_at]
        by_cases u : j = pl.length
        · rw [if_pos ⟨rfl, u⟩, if_pos u]
        · rw [if_neg (fun v => u v.2), if_neg u, ← e5, zu_oo (by decide)]
      have v94 : ∀ j, I10.1 94 j = if j = pl.length then zi (lastF pl a pl.length) else I.1 94 j := fun j => by
        rw [e10, zu_oo (by decide), ← e9, zu_oo (by decide), ← e8, zu_at]
        by_cases u : j = pl.length
        · rw [if_pos ⟨rfl, u⟩, if_pos u]
        · rw [if_neg (fun v => u v.2), if_neg u, ← e6, zu_oo (by decide), ← e5, zu_oo (by decide)]
      have v96 : ∀ j, I10.1 96 j = if j = plc a then zi (pl.length + 1) else I.1 96 j := fun j => by
        rw [e10, zu_oo (by decide), ← e9, zu_at]
        by_cases u : j = plc a
        · rw [if_pos ⟨rfl, u⟩, if_pos u]
        · rw [if_neg (fun v => u v.2), if_neg u, ← e8, zu_oo (by decide), ← e6, zu_oo (by decide), ← e5, zu_oo (by decide)]
      have hgd : ∀ j, j < pl.length → (pl ++ [(a, b)]).getD j (0, 0) = pl.getD j (0, 0) := fun j hj => by
        rw [List.getD_eq_getElem?_getD, List.getD_eq_getElem?_getD, List.getElem?_append_left hj]
      have hgl : (pl ++ [(a, b)]).getD pl.length (0, 0) = (a, b) := by
        rw [List.getD_eq_getElem?_getD, List.getElem?_append_right (Nat.le_refl _), Nat.sub_self]
        rfl
      have hln : (pl ++ [(a, b)]).length = pl.length + 1 := List.length_append
      refine hK' ?_ ⟨by rw [g10, hln], fun i p hi => ?_, fun v hv => ?_, fun i p hi => ?_⟩
      · rw [e10, ← e9, ← e8, ← e6, ← e5]
        exact ((((eqQ.rf.zu (Or.inr (Or.inl rfl))).zu (Or.inr (Or.inr (Or.inl rfl)))).zu (Or.inr (Or.inr (Or.inr (Or.inl rfl))))).zu (Or.inr (Or.inr (Or.inr (Or.inr rfl))))).zu (Or.inl ⟨rfl, rfl⟩)
      · rw [v90, v92, v94]
        rcases snoc_at hi with hi | ⟨rfl, rfl⟩
        · have hil := (List.getElem?_eq_some_iff.mp hi).1
          rw [if_neg (by omega), if_neg (by omega), if_neg (by omega), lastF_cg i (fun j hj => hgd j (by omega))]
          exact f2 i p hi
        · rw [if_pos rfl, if_pos rfl, if_pos rfl, lastF_cg pl.length (fun j hj => hgd j hj)]
          exact ⟨rfl, rfl, rfl⟩
      · rw [v96, hln]
        show _ = zi (if ((pl ++ [(a, b)]).getD pl.length (0, 0)).1 = v then pl.length + 1 else lastF (pl ++ [(a, b)]) v pl.length)
        rw [hgl, lastF_cg pl.length (fun j hj => hgd j hj)]
        by_cases u : v = a
        · rw [u, if_pos rfl, if_pos rfl]
        · rw [if_neg (show ¬ plc v = plc a from fun w => u (by
            unfold plc at w
            unfold rowV at hv ha
            split at w <;> split at w <;> omega)), if_neg (show ¬ (a, b).1 = v from fun w => u w.symm)]
          exact f3 v hv
      · rcases snoc_at hi with hi | ⟨rfl, rfl⟩
        · exact f4 i p hi
        · exact ⟨ha14, hb14⟩
    have main : ∀ (d k i : Nat), lastF pl a k ≤ d → k ≤ pl.length → i + lastF pl a k ≤ pl.length → (∀ j : Nat, k ≤ j → pl[j]? ≠ some (a, b)) → P34 (zi (lastF pl a k)) (zi i) := by
      intro d
      induction d with
      | zero =>
        intro k i h0 hk hi hno
        refine h34 _ _ ?_
        intro P86 h86
        have h0' : lastF pl a k = 0 := by omega
        have hall : ∀ j : Nat, pl[j]? ≠ some (a, b) := fun j hj => by
          by_cases u : j < k
          · have := lastF_no k h0' j u
            rw [List.getD_eq_getElem?_getD, hj] at this
            exact this rfl
          · exact hno j (by omega) hj
        rw [h0', if_pos (show zi 0 ≤ 0 by decide)]
        by_cases u : (4000 : Int32) ≤ zi i
        · rw [if_pos u]
          exact h86 (make hall)
        · rw [if_neg u]
          exact h86 (make hall)
      | succ d ih =>
        intro k i h0 hk hi hno
        cases he : lastF pl a k with
        | zero =>
          have := ih k i (by omega) hk hi hno
          rw [he] at this
          exact this
        | succ e =>
          obtain ⟨b1, b2, b3⟩ := lastF_is k he
          refine h34 _ _ ?_
          intro P86 h86
          rw [if_neg (show ¬ (4000 : Int32) ≤ zi i from fun u => by have := (zi_le (a := 4000) (by decide) (by omega)).mp u; omega), if_neg (show ¬ zi (e + 1) ≤ 0 from fun u => by have := (zi_le (b := 0) (by omega) (by decide)).mp u; omega), show zi (e + 1) - 1 = zi e from zi_sub (b := 1) (by omega)]
          have hp : pl[e]? = some (pl[e]'(by omega)) := List.getElem?_eq_getElem (by omega)
          generalize pl[e]'(by omega) = p at hp
          have hp1 : p.1 = a := by
            rw [List.getD_eq_getElem?_getD, hp] at b1
            exact b1
          obtain ⟨c1, c2, c3⟩ := f2 e p hp
          refine (w_get (by decide)).mpr ?_
          rw [rg_in (by decide) (show e < 4000 by omega), show I.1 (91 + 1) e = zi p.2 from c2]
          by_cases u : p.2 = b
          · rw [if_pos (show zi p.2 = zi b by rw [u])]
            have hfm := fmp_is hu (show pl[e]? = some (a, b) by rw [hp, ← hp1, ← u])
            rw [hfm] at hK
            exact hK I eqQ.rf hP
          · rw [if_neg (fun w => u ((zi_eq (by have := (f4 e p hp).2; omega) (by omega)).mp w))]
            refine (w_get (by decide)).mpr ?_
            rw [rg_in (by decide) (show e < 4000 by omega), show I.1 (93 + 1) e = zi (lastF pl p.1 e) from c3, hp1]
            intro v ev
            rw [ev, zi_succ]
            have := lastF_le (pl := pl) (v := a) e
            refine ih e (i + 1) (by omega) (by omega) (by omega) (fun j hj hj2 => ?_)
            by_cases w : j = e
            · rw [w, hp] at hj2
              exact u (by rw [Option.some.inj hj2])
            · by_cases w2 : j < k
              · have := b3 j (by omega) w2
                rw [List.getD_eq_getElem?_getD, hj2] at this
                exact this rfl
              · exact hno j (by omega) hj2
    exact main pl.length pl.length 0 (lastF_le _) (Nat.le_refl _) (by have := lastF_le (pl := pl) (v := a) pl.length; omega) (fun j hj hj2 => by have := (List.getElem?_eq_some_iff.mp hj2).1; omega)
  unfold plc at rest
  by_cases u : 10000 ≤ a
  · rw [if_pos (show (10000 : Int32) ≤ zi a from (zi_le (a := 10000) (by decide) (by omega)).mpr u)]
    rw [if_pos u] at rest
    rw [show zi a - 10000 + 3400 = zi (a - 10000 + 3400) by rw [show (10000 : Int32) = zi 10000 from rfl, zi_sub u, show (3400 : Int32) = zi 3400 from rfl, zi_add]]
    exact rest
  · rw [if_neg (show ¬ (10000 : Int32) ≤ zi a from fun w => u ((zi_le (a := 10000) (by decide) (by omega)).mp w))]
    rw [if_neg u] at rest
    exact rest
theorem s_layPart {rs : List Nat} (hrs : ∀ r ∈ rs, r < 3400) (hrl : rs.length ≤ 100) : ∀ (dd lev f part : Nat) (pl : List (Nat × Nat)) (I : zI) (K : Int32 → zI → Prop), lev + dd = 9 → 1 ≤ part → part ≤ 2 ^ dd → f + part ≤ rs.length → pl.length + part ≤ 4000 → PrU pl → PrX I pl → (∀ i r, rs[i]? = some r → I.1 63 i = zi r) → (∀ J, eqQ Qpr I J → PrX J (layR rs dd f part pl).2 → K (zi (layR rs dd f part pl).1) J) → w_Pairs_layPart (dd + 1) 62 100 (zi f) (zi part) (zi lev) I K := by
  intro dd
  induction dd with
  | zero =>
    intro lev f part pl I K hlev h1 h2 hf hpl hu hP hR hK P12 h12
    have hp1 : part = 1 := by
      change part ≤ 1 at h2
      omega
    subst hp1
    rw [if_pos (show zi 1 ≤ 1 by decide)]
    refine h12 ((w_get (by decide)).mpr ?_)
    have hr : rs[f]? = some (rs[f]'(by omega)) := List.getElem?_eq_getElem (by omega)
    rw [rg_in (by decide) (show f < 100 by omega), show I.1 (62 + 1) f = zi (rs.getD f 0) by
      rw [List.getD_eq_getElem?_getD, hr]
      exact hR f _ hr]
    exact hK I eqQ.rf hP
  | succ dd ih =>
    intro lev f part pl I K hlev h1 h2 hf hpl hu hP hR hK P12 h12
    have hL : layR rs (dd + 1) f part pl = if part ≤ 1 then (rs.getD f 0, pl) else
      (10000 + (fmP (layR rs dd f ((part + 1) / 2) pl).1 (layR rs dd (f + (part + 1) / 2) (part - (part + 1) / 2) (layR rs dd f ((part + 1) / 2) pl).2).1 (layR rs dd (f + (part + 1) / 2) (part - (part + 1) / 2) (layR rs dd f ((part + 1) / 2) pl).2).2).1,
      (fmP (layR rs dd f ((part + 1) / 2) pl).1 (layR rs dd (f + (part + 1) / 2) (part - (part + 1) / 2) (layR rs dd f ((part + 1) / 2) pl).2).1 (layR rs dd (f + (part + 1) / 2) (part - (part + 1) / 2) (layR rs dd f ((part + 1) / 2) pl).2).2).2) := rfl
    by_cases hp : part ≤ 1
    · rw [if_pos hp] at hL
      rw [hL] at hK
      have hp1 : part = 1 := by omega
      subst hp1
      rw [if_pos (show zi 1 ≤ 1 by decide)]
      refine h12 ((w_get (by decide)).mpr ?_)
      have hr : rs[f]? = some (rs[f]'(by omega)) := List.getElem?_eq_getElem (by omega)
      rw [rg_in (by decide) (show f < 100 by omega), show I.1 (62 + 1) f = zi (rs.getD f 0) by
        rw [List.getD_eq_getElem?_getD, hr]
        exact hR f _ hr]
      exact hK I eqQ.rf hP
    · rw [if_neg hp] at hL
      rw [hL] at hK
      rw [if_neg (show ¬ zi part ≤ 1 from fun u => hp ((zi_le (b := 1) (by omega) (by decide)).mp u)), if_pos (show zi lev ≤ 8 from (zi_le (b := 8) (by omega) (by decide)).mpr (by omega))]
      intro v ev
      rw [zi_succ, div_fin _ (by omega)] at ev
      subst ev
      rw [zi_succ]
      have hpow : 2 ^ (dd + 1) = 2 * 2 ^ dd := by rw [Nat.pow_succ, Nat.mul_comm]
      obtain ⟨a1, a2, a3, a4⟩ := layR_ok hrs dd f ((part + 1) / 2) pl (by omega) hu
      refine ih (lev + 1) f ((part + 1) / 2) pl I _ (by omega) (by omega) (by omega) (by omega) (by omega) hu hP hR (fun J qJ pJ => ?_)
      obtain ⟨b1, b2, b3, b4⟩ := layR_ok hrs dd (f + (part + 1) / 2) (part - (part + 1) / 2) (layR rs dd f ((part + 1) / 2) pl).2 (by omega) a1
      rw [zi_add, zi_sub (show (part + 1) / 2 ≤ part by omega)]
      refine ih (lev + 1) (f + (part + 1) / 2) (part - (part + 1) / 2) _ J _ (by omega) (by omega) (by omega) (by omega) (by omega) a1 pJ (fun i r hi => by rw [qJ.1 63 i (by unfold Qpr; omega)]; exact hR i r hi) (fun J2 q2 p2 => ?_)
      refine s_findOrMake p2 b1 (by unfold rowV at *; omega) (by unfold rowV at *; omega) (by omega) (fun J3 q3 p3 => ?_)
      rw [show (10000 : Int32) = zi 10000 from rfl, zi_add]
      exact hK J3 ((qJ.tr q2).tr q3) p3
/-- the ROW of all RUNS -/
def rowI (rs : List Nat) (pl : List (Nat × Nat)) : Int32 := if rs.length = 0 then -2 else zi (layR rs 9 0 rs.length pl).1
/-- the ROW of all RUNS; PAIRS then -/
def layAllR (rs : List Nat) (pl : List (Nat × Nat)) : List (Nat × Nat) := if rs.length = 0 then pl else (layR rs 9 0 rs.length pl).2
theorem s_layAll {rs : List Nat} {pl : List (Nat × Nat)} {I : zI} {K : Int32 → zI → Prop} (hrs : ∀ r ∈ rs, r < 3400) (hrl : rs.length ≤ 99) (hpl : pl.length + 99 ≤ 4000) (hu : PrU pl) (hP : PrX I pl) (hR : ∀ i r, rs[i]? = some r → I.1 63 i = zi r) (hK : ∀ J : zI, eqQ Qpr I J → PrX J (layAllR rs pl) → K (rowI rs pl) J) : w_Pairs_layAll 62 100 (zi rs.length) I K := by
  unfold w_Pairs_layAll
  unfold layAllR rowI at hK
  by_cases h0 : rs.length = 0
  · rw [h0, if_pos (show zi 0 = 0 from rfl)]
    rw [if_pos h0, if_pos h0] at hK
    exact hK I eqQ.rf hP
  · rw [if_neg (show ¬ zi rs.length = 0 from fun u => h0 ((zi_eq (b := 0) (by omega) (by decide)).mp u))]
    rw [if_neg h0, if_neg h0] at hK
    exact s_layPart hrs (by omega) 9 0 0 rs.length pl I _ (by omega) (by omega) (by omega) (by omega) (by omega) hu hP hR (fun J q p => hK J q p)
/-! ===== PAIRS: the model ===== -/
def PrM (I : zI) (pl : List (Nat × Nat)) : Prop :=
  I.1 491 59 = zi pl.length ∧ (∀ (i : Nat) (p : Nat × Nat), pl[i]? = some p → I.1 533 i = zi p.1 ∧ I.1 534 i = zi p.2) ∧ ∀ (i : Nat) (p : Nat × Nat), pl[i]? = some p → p.1 < 15000 ∧ p.2 < 15000
def Qpm (a j : Nat) : Prop := (a = 491 ∧ j = 59) ∨ a = 533 ∨ a = 534
theorem s_pairOf {a b : Nat} {pl : List (Nat × Nat)} {I : zI} {K : Int32 → zI → Prop} (hP : PrM I pl) (hu : PrU pl) (ha : a < 15000) (hb : b < 15000) (hl : pl.length < 4100)
    (hK : ∀ J, eqQ Qpm I J → PrM J (fmP a b pl).2 → K (zi (fmP a b pl).1) J) : w_M_pairOf (zi a) (zi b) I K := by
  obtain ⟨f1, f2, f3⟩ := id hP
  intro P2 h2
  have main : ∀ (d k : Nat), k + d = pl.length → (∀ j : Nat, j < k → pl[j]? ≠ some (a, b)) → P2 (zi k) := by
    intro d
    induction d with
    | zero =>
      intro k hk hno
      refine h2 _ ?_
      have hall : ∀ j : Nat, pl[j]? ≠ some (a, b) := fun j hj => by
        have := (List.getElem?_eq_some_iff.mp hj).1
        exact hno j (by omega) hj
      have hfm := fmp_new hall
      rw [hfm] at hK
      rw [f1, if_pos ((zi_le (by omega) (by omega)).mpr (by omega)), zi_tn (show pl.length < 2147483648 by omega)]
      refine ⟨(zin_iff (by omega)).mpr (by omega), fun I2 e2 => ?_⟩
      have g2 : I2.1 491 59 = zi pl.length := by rw [e2, zu_oo (by decide)]; exact f1
      rw [g2, zi_tn (show pl.length < 2147483648 by omega)]
      refine ⟨(zin_iff (by omega)).mpr (by omega), fun I3 e3 I4 e4 => ?_⟩
      rw [show I3.1 491 59 = zi pl.length by rw [e3, zu_oo (by decide)]; exact g2, zi_succ] at e4
      have g4 : I4.1 491 59 = zi (pl.length + 1) := by rw [e4, zu_self]
      rw [g4, show zi (pl.length + 1) - 1 = zi pl.length from zi_sub (b := 1) (by omega)]
      refine hK I4 ?_ ⟨by rw [g4, List.length_append]; rfl, fun i p hi => ?_, fun i p hi => ?_⟩
      · rw [e4, e3, e2]
        exact ((eqQ.rf.zu (Or.inr (Or.inl rfl))).zu (Or.inr (Or.inr rfl))).zu (Or.inl ⟨rfl, rfl⟩)
      · rw [e4, zu_oo (by decide), zu_oo (by decide)]
        rcases snoc_at hi with hi | ⟨rfl, rfl⟩
        · have hil := (List.getElem?_eq_some_iff.mp hi).1
          rw [e3, zu_oo (by decide), zu_at, if_neg (by omega), e2, zu_at, if_neg (by omega), zu_oo (by decide)]
          exact f2 i p hi
        · rw [e3, zu_oo (by decide), zu_self, e2, zu_self]
          exact ⟨rfl, rfl⟩
      · rcases snoc_at hi with hi | ⟨rfl, rfl⟩
        · exact f3 i p hi
        · exact ⟨ha, hb⟩
    | succ d ih =>
      intro k hk hno
      refine h2 _ ?_
      rw [f1, if_neg (fun u => by have := (zi_le (by omega) (by omega)).mp u; omega), zi_tn (show k < 2147483648 by omega)]
      have hkin : vp_in (zi k) 4100 := (zin_iff (by omega)).mpr (by omega)
      refine ⟨hkin, ?_⟩
      have hp : pl[k]? = some (pl[k]'(by omega)) := List.getElem?_eq_getElem (by omega)
      generalize pl[k]'(by omega) = p at hp
      obtain ⟨c1, c2⟩ := f2 k p hp
      obtain ⟨c3, c4⟩ := f3 k p hp
      intro P32 h32
      have no : ¬ (p.1 = a ∧ p.2 = b) → P32 := fun u => h32 (fun v ev => by
        rw [ev, zi_succ]
        refine ih (k + 1) (by omega) (fun j hj hj2 => ?_)
        by_cases w : j = k
        · rw [w, hp] at hj2
          have := Option.some.inj hj2
          exact u ⟨by rw [this], by rw [this]⟩
        · exact hno j (by omega) hj2)
      rw [c1, c2]
      by_cases u1 : p.1 = a
      · rw [if_pos (show zi p.1 = zi a by rw [u1])]
        refine ⟨hkin, ?_⟩
        by_cases u2 : p.2 = b
        · rw [if_pos (show zi p.2 = zi b by rw [u2])]
          have hfm := fmp_is hu (show pl[k]? = some (a, b) by rw [hp, ← u1, ← u2])
          rw [hfm] at hK
          exact hK I eqQ.rf hP
        · rw [if_neg (fun w => u2 ((zi_eq (by omega) (by omega)).mp w))]
          exact no (fun w => u2 w.2)
      · rw [if_neg (fun w => u1 ((zi_eq (by omega) (by omega)).mp w))]
        exact no (fun w => u1 w.1)
  exact main pl.length 0 (by omega) (fun j hj => by omega)
/-- how deep the laying of a part goes -/
def dpF : Nat → Nat → Nat
  | 0, _ => 0
  | d + 1, part => if part ≤ 1 then 0 else 1 + max (dpF d ((part + 1) / 2)) (dpF d (part - (part + 1) / 2))
theorem dpF_le : ∀ d part, dpF d part ≤ d
  | 0, _ => Nat.le_refl _
  | d + 1, part => by
    show (if part ≤ 1 then 0 else 1 + max (dpF d ((part + 1) / 2)) (dpF d (part - (part + 1) / 2))) ≤ d + 1
    have h1 := dpF_le d ((part + 1) / 2)
    have h2 := dpF_le d (part - (part + 1) / 2)
    split <;> omega
/-- what the laying of a part may change: its own place on the stack and those above -/
def Qrw (q a j : Nat) : Prop := (a = 491 ∧ (j = 59 ∨ j = 65)) ∨ a = 533 ∨ a = 534 ∨ (535 ≤ a ∧ a ≤ 537 ∧ q ≤ j)
theorem s_rowPart {rs : List Nat} {K : Int32 → zI → Prop} {P43 : Int32 → Int32 → zI → Prop} (hrs : ∀ r ∈ rs, r < 3400) (hrl : rs.length ≤ 100)
    (h43 : ∀ (v1_5 : Int32) (v2_6 : Int32) (I_7 : zI), ((if v1_5 ≤ 0 then K v2_6 I_7 else (vp_in (v1_5 - 1) 20 ∧ (∀ v3_8, v3_8 = (I_7.1 535 (Int32.toNatClampNeg (v1_5 - 1))) → vp_in (v1_5 - 1) 20 ∧ (∀ v4_9, v4_9 = (I_7.1 536 (Int32.toNatClampNeg (v1_5 - 1))) → ∀ v5_10, v5_10 = (v3_8 + (((v4_9 - v3_8) + 1) / 2)) → ∀ (P95 : zI → Prop), (∀ (I_11 : zI), ((if (v4_9 - v3_8) = 1 then (vp_in v3_8 110 ∧ (∀ v2_29, v2_29 = (I_11.1 528 (Int32.toNatClampNeg v3_8)) → ∀ v1_30, v1_30 = (v1_5 + (-1)) → P43 v1_30 v2_29 I_11)) else (if v2_6 = (-1) then (vp_in (v1_5 - 1) 20 ∧ (∀ (P138 : Int32 → Prop), (∀ (t_18 : Int32), (∀ (P156 : Int32 → Prop), (∀ (t_19 : Int32), (vp_in v1_5 20 ∧ (∀ I_20, I_20 = (zu I_11 535 (Int32.toNatClampNeg v1_5) t_19) → ∀ (P174 : Int32 → Prop), (∀ (t_21 : Int32), (vp_in v1_5 20 ∧ (∀ I_22, I_22 = (zu I_20 536 (Int32.toNatClampNeg v1_5) t_21) → vp_in v1_5 20 ∧ (∀ I_23, I_23 = (zu I_22 537 (Int32.toNatClampNeg v1_5) (-1)) → ∀ v1_24, v1_24 = (v1_5 + 1) → P43 v1_24 v2_6 I_23))) → P174 t_21) → (if t_18 = 0 then P174 v5_10 else P174 v4_9))) → P156 t_19) → (if t_18 = 0 then P156 v3_8 else P156 v5_10)) → P138 t_18) → (if (I_11.1 537 (Int32.toNatClampNeg (v1_5 - 1))) = (-1) then P138 0 else P138 1))) else (vp_in (v1_5 - 1) 20 ∧ (if (I_11.1 537 (Int32.toNatClampNeg (v1_5 - 1))) = (-1) then (vp_in (v1_5 - 1) 20 ∧ (∀ I_16, I_16 = (zu I_11 537 (Int32.toNatClampNeg (v1_5 - 1)) v2_6) → P43 v1_5 (-1) I_16)) else (vp_in (v1_5 - 1) 20 ∧ (w_M_pairOf (I_11.1 537 (Int32.toNatClampNeg (v1_5 - 1))) v2_6 I_11 (fun r_12 I_13 => ∀ v2_14, v2_14 = (10000 + r_12) → ∀ v1_15, v1_15 = (v1_5 + (-1)) → P43 v1_15 v2_14 I_13)))))))) → P95 I_11) → (if (v1_5 - 1) ≤ (I_7.1 491 65) then P95 I_7 else (∀ I_32, I_32 = (zu I_7 491 65 (v1_5 - 1)) → P95 I_32))))))) → P43 v1_5 v2_6 I_7) : ∀ (dd q f part : Nat) (pl : List (Nat × Nat)) (I : zI) (n0 : Nat), n0 ≤ 20 → I.1 491 65 = zi n0 → q + dd ≤ 9 → 1 ≤ part → part ≤ 2 ^ dd → f + part ≤ rs.length → pl.length + part ≤ 4100 → PrU pl → PrM I pl → (∀ i r, rs[i]? = some r → I.1 528 i = zi r) → I.1 535 q = zi f → I.1 536 q = zi (f + part) → I.1 537 q = -1 → (∀ J, eqQ (Qrw q) I J → PrM J (layR rs dd f part pl).2 → J.1 491 65 = zi (max n0 (q + dpF dd part)) → P43 (zi q) (zi (layR rs dd f part pl).1) J) → P43 (zi (q + 1)) (-1) I := by
  have visit : ∀ (q f part : Nat) (v2_6 : Int32) (J : zI) (n0 : Nat), n0 ≤ 20 → J.1 491 65 = zi n0 → q ≤ 9 → f + part ≤ 100 → 1 ≤ part → J.1 535 q = zi f → J.1 536 q = zi (f + part) → (∀ (v1_5 v3_8 v4_9 v5_10 : Int32) (I_11 : zI), eqQ (fun a j => a = 491 ∧ j = 65) J I_11 → I_11.1 491 65 = zi (max n0 q) → v1_5 = zi (q + 1) → v1_5 - 1 = zi q → v3_8 = zi f → v4_9 = zi (f + part) → v5_10 = zi (f + (part + 1) / 2) → v4_9 - v3_8 = zi part → vp_in (zi q) 20 → ((if (v4_9 - v3_8) = 1 then (vp_in v3_8 110 ∧ (∀ v2_29, v2_29 = (I_11.1 528 (Int32.toNatClampNeg v3_8)) → ∀ v1_30, v1_30 = (v1_5 + (-1)) → P43 v1_30 v2_29 I_11)) else (if v2_6 = (-1) then (vp_in (v1_5 - 1) 20 ∧ (∀ (P138 : Int32 → Prop), (∀ (t_18 : Int32), (∀ (P156 : Int32 → Prop), (∀ (t_19 : Int32), (vp_in v1_5 20 ∧ (∀ I_20, I_20 = (zu I_11 535 (Int32.toNatClampNeg v1_5) t_19) → ∀ (P174 : Int32 → Prop), (∀ (t_21 : Int32), (vp_in v1_5 20 ∧ (∀ I_22, I_22 = (zu I_20 536 (Int32.toNatClampNeg v1_5) t_21) → vp_in v1_5 20 ∧ (∀ I_23, I_23 = (zu I_22 537 (Int32.toNatClampNeg v1_5) (-1)) → ∀ v1_24, v1_24 = (v1_5 + 1) → P43 v1_24 v2_6 I_23))) → P174 t_21) → (if t_18 = 0 then P174 v5_10 else P174 v4_9))) → P156 t_19) → (if t_18 = 0 then P156 v3_8 else P156 v5_10)) → P138 t_18) → (if (I_11.1 537 (Int32.toNatClampNeg (v1_5 - 1))) = (-1) then P138 0 else P138 1))) else (vp_in (v1_5 - 1) 20 ∧ (if (I_11.1 537 (Int32.toNatClampNeg (v1_5 - 1))) = (-1) then (vp_in (v1_5 - 1) 20 ∧ (∀ I_16, I_16 = (zu I_11 537 (Int32.toNatClampNeg (v1_5 - 1)) v2_6) → P43 v1_5 (-1) I_16)) else (vp_in (v1_5 - 1) 20 ∧ (w_M_pairOf (I_11.1 537 (Int32.toNatClampNeg (v1_5 - 1))) v2_6 I_11 (fun r_12 I_13 => ∀ v2_14, v2_14 = (10000 + r_12) → ∀ v1_15, v1_15 = (v1_5 + (-1)) → P43 v1_15 v2_14 I_13))))))))) → P43 (zi (q + 1)) v2_6 J := by
    intro q f part v2 J n0 hn0 gn0 hq hf h1 g1 g2 h
    refine h43 _ _ _ ?_
    rw [if_neg (show ¬ zi (q + 1) ≤ 0 from fun u => by have := (zi_le (b := 0) (by omega) (by decide)).mp u; omega)]
    have e0 : zi (q + 1) - 1 = zi q := zi_sub (b := 1) (by omega)
    have hin : vp_in (zi q) 20 := (zin_iff (by omega)).mpr (by omega)
    rw [e0, zi_tn (show q < 2147483648 by omega)]
    refine ⟨hin, fun v3 ev3 => ⟨hin, fun v4 ev4 v5 ev5 => ?_⟩⟩
    rw [g1] at ev3
    rw [g2] at ev4
    have e1 : v4 - v3 = zi part := by
      rw [ev4, ev3, zi_sub (by omega)]
      congr 1
      omega
    have e2 : v5 = zi (f + (part + 1) / 2) := by rw [ev5, e1, zi_succ, div_fin _ (by omega), ev3, zi_add]
    intro P95 h95
    have fin : ∀ A : zI, eqQ (fun a j => a = 491 ∧ j = 65) J A → A.1 491 65 = zi (max n0 q) → P95 A := fun A qA aD => by
      refine h95 _ ?_
      have := h (zi (q + 1)) v3 v4 v5 A qA aD rfl e0 ev3 ev4 e2 e1 hin
      rw [e0, zi_tn (show q < 2147483648 by omega)] at this
      exact this
    by_cases u : zi q ≤ J.1 491 65
    · rw [if_pos u]
      rw [gn0] at u
      exact fin J eqQ.rf (by rw [gn0, Nat.max_eq_left ((zi_le (by omega) (by omega)).mp u)])
    · rw [if_neg u]
      intro I32 e32
      rw [gn0] at u
      refine fin I32 ?_ ?_
      · rw [e32]
        exact eqQ.rf.zu ⟨rfl, rfl⟩
      · have hle : n0 ≤ q := by
          by_cases w : q ≤ n0
          · exact absurd ((zi_le (by omega) (by omega)).mpr w) u
          · omega
        rw [e32, zu_self, Nat.max_eq_right hle]
  have pkp : ∀ (A B : zI) (pl : List (Nat × Nat)), PrM A pl → (∀ a j, (a = 491 ∧ j = 59) ∨ a = 533 ∨ a = 534 → B.1 a j = A.1 a j) → PrM B pl := fun A B pl h e => ⟨by rw [e 491 59 (by omega)]; exact h.1, fun i p hi => by rw [e 533 i (by omega), e 534 i (by omega)]; exact h.2.1 i p hi, h.2.2⟩
  intro dd
  induction dd with
  | zero =>
    intro q f part pl I n0 hn0 gn0 hq h1 h2 hf hpl hu hP hR g1 g2 g3 hK
    have hp1 : part = 1 := by
      change part ≤ 1 at h2
      omega
    subst hp1
    refine visit q f 1 (-1) I n0 hn0 gn0 (by omega) (by omega) (by omega) g1 g2 (fun v1 v3 v4 v5 A qA aD x1 x2 x3 x4 x5 x6 x7 => ?_)
    rw [if_pos (show v4 - v3 = 1 by rw [x6]; rfl), x3, zi_tn (show f < 2147483648 by omega)]
    refine ⟨(zin_iff (by omega)).mpr (by omega), fun v2 ev2 v1' ev1' => ?_⟩
    have hr : rs[f]? = some (rs[f]'(by omega)) := List.getElem?_eq_getElem (by omega)
    rw [qA.1 528 f (by omega), show I.1 528 f = zi (rs.getD f 0) by
      rw [List.getD_eq_getElem?_getD, hr]
      exact hR f _ hr] at ev2
    rw [x1, zi_pred (by omega), Nat.add_sub_cancel] at ev1'
    rw [ev2, ev1']
    exact hK A (qA.mono (fun a j h => Or.inl (by omega))) (pkp I A pl hP (fun a j h => qA.1 a j (by omega))) aD
  | succ dd ih =>
    intro q f part pl I n0 hn0 gn0 hq h1 h2 hf hpl hu hP hR g1 g2 g3 hK
    have hL : layR rs (dd + 1) f part pl = if part ≤ 1 then (rs.getD f 0, pl) else
      (10000 + (fmP (layR rs dd f ((part + 1) / 2) pl).1 (layR rs dd (f + (part + 1) / 2) (part - (part + 1) / 2) (layR rs dd f ((part + 1) / 2) pl).2).1 (layR rs dd (f + (part + 1) / 2) (part - (part + 1) / 2) (layR rs dd f ((part + 1) / 2) pl).2).2).1,
      (fmP (layR rs dd f ((part + 1) / 2) pl).1 (layR rs dd (f + (part + 1) / 2) (part - (part + 1) / 2) (layR rs dd f ((part + 1) / 2) pl).2).1 (layR rs dd (f + (part + 1) / 2) (part - (part + 1) / 2) (layR rs dd f ((part + 1) / 2) pl).2).2).2) := rfl
    by_cases hp : part ≤ 1
    · rw [if_pos hp] at hL
      rw [hL] at hK
      have hp1 : part = 1 := by omega
      subst hp1
      refine visit q f 1 (-1) I n0 hn0 gn0 (by omega) (by omega) (by omega) g1 g2 (fun v1 v3 v4 v5 A qA aD x1 x2 x3 x4 x5 x6 x7 => ?_)
      rw [if_pos (show v4 - v3 = 1 by rw [x6]; rfl), x3, zi_tn (show f < 2147483648 by omega)]
      refine ⟨(zin_iff (by omega)).mpr (by omega), fun v2 ev2 v1' ev1' => ?_⟩
      have hr : rs[f]? = some (rs[f]'(by omega)) := List.getElem?_eq_getElem (by omega)
      rw [qA.1 528 f (by omega), show I.1 528 f = zi (rs.getD f 0) by
        rw [List.getD_eq_getElem?_getD, hr]
        exact hR f _ hr] at ev2
      rw [x1, zi_pred (by omega), Nat.add_sub_cancel] at ev1'
      rw [ev2, ev1']
      exact hK A (qA.mono (fun a j h => Or.inl (by omega))) (pkp I A pl hP (fun a j h => qA.1 a j (by omega))) aD
    · rw [if_neg hp] at hL
      rw [hL] at hK
      have hpow : 2 ^ (dd + 1) = 2 * 2 ^ dd := by rw [Nat.pow_succ, Nat.mul_comm]
      obtain ⟨a1, a2, a3, a4⟩ := layR_ok hrs dd f ((part + 1) / 2) pl (by omega) hu
      obtain ⟨b1, b2, b3, b4⟩ := layR_ok hrs dd (f + (part + 1) / 2) (part - (part + 1) / 2) (layR rs dd f ((part + 1) / 2) pl).2 (by omega) a1
      have hne : ∀ v4 v3 : Int32, v4 - v3 = zi part → ¬ v4 - v3 = 1 := fun v4 v3 e u => by
        rw [e] at u
        have := (zi_eq (b := 1) (by omega) (by decide)).mp u
        omega
      have hneg : ∀ v : Nat, v < 20000 → ¬ zi v = -1 := fun v hv u => by
        have := zi_pos (show v < 2147483648 by omega)
        rw [u] at this
        exact this (by decide)
      have hin1 : vp_in (zi (q + 1)) 20 := (zin_iff (by omega)).mpr (by omega)
      have hqw : ∀ a j : Nat, 535 ≤ a → a ≤ 537 → q ≤ j → Qrw q a j := fun a j u1 u2 u3 => Or.inr (Or.inr (Or.inr ⟨u1, u2, u3⟩))
      have h65 : ∀ a j : Nat, a = 491 ∧ j = 65 → Qrw q a j := fun a j h => Or.inl ⟨h.1, Or.inr h.2⟩
      -- the first half
      have l1 := dpF_le dd ((part + 1) / 2)
      have l2 := dpF_le dd (part - (part + 1) / 2)
      refine visit q f part (-1) I n0 hn0 gn0 (by omega) (by omega) h1 g1 g2 (fun v1 v3 v4 v5 A qA aD x1 x2 x3 x4 x5 x6 x7 => ?_)
      rw [if_neg (hne v4 v3 x6), if_pos rfl, x2, zi_tn (show q < 2147483648 by omega)]
      refine ⟨x7, ?_⟩
      rw [qA.1 537 q (by omega), g3]
      intro P138 h138
      rw [if_pos rfl]
      refine h138 _ ?_
      intro P156 h156
      rw [if_pos rfl]
      refine h156 _ ?_
      rw [x1, zi_tn (show q + 1 < 2147483648 by omega)]
      refine ⟨hin1, fun I20 e20 => ?_⟩
      intro P174 h174
      rw [if_pos rfl]
      refine h174 _ ⟨hin1, fun I22 e22 => ⟨hin1, fun I23 e23 v1' ev1' => ?_⟩⟩
      rw [zi_succ] at ev1'
      subst ev1'
      have o23 : ∀ a j, ¬ (535 ≤ a ∧ a ≤ 537 ∧ j = q + 1) → I23.1 a j = A.1 a j := fun a j u => by
        rw [e23, zu_at, if_neg (by omega), e22, zu_at, if_neg (by omega), e20, zu_at, if_neg (by omega)]
      have q23 : eqQ (Qrw q) I I23 := by
        rw [e23, e22, e20]
        exact (((qA.mono h65).zu (hqw _ _ (by omega) (by omega) (by omega))).zu (hqw _ _ (by omega) (by omega) (by omega))).zu (hqw _ _ (by omega) (by omega) (by omega))
      refine ih (q + 1) f ((part + 1) / 2) pl I23 (max n0 q) (by omega) (by rw [o23 _ _ (by omega)]; exact aD) (by omega) (by omega) (by omega) (by omega) (by omega) hu (pkp I I23 pl hP (fun a j h => by rw [o23 _ _ (by omega)]; exact qA.1 a j (by omega))) (fun i r hi => by rw [o23 _ _ (by omega), qA.1 528 i (by omega)]; exact hR i r hi) ?_ ?_ ?_ (fun J qJ pJ jD => ?_)
      · rw [e23, zu_oo (by decide), e22, zu_oo (by decide), e20, zu_self, x3]
      · rw [e23, zu_oo (by decide), e22, zu_self, x5]
      · rw [e23, zu_self]
      have jR : ∀ i r, rs[i]? = some r → J.1 528 i = zi r := fun i r hi => by
        rw [qJ.1 528 i (by unfold Qrw; omega), o23 _ _ (by omega), qA.1 528 i (by omega)]
        exact hR i r hi
      have jo : ∀ a, 535 ≤ a → a ≤ 537 → J.1 a q = I.1 a q := fun a u1 u2 => by
        rw [qJ.1 a q (by unfold Qrw; omega), o23 _ _ (by omega), qA.1 a q (by omega)]
      have qIJ : eqQ (Qrw q) I J := q23.tr (qJ.mono (fun a j h => by unfold Qrw at h ⊢; omega))
      -- its ROW is kept
      refine visit q f part _ J (max (max n0 q) (q + 1 + dpF dd ((part + 1) / 2))) (by omega) jD (by omega) (by omega) h1 (by rw [jo _ (by decide) (by decide)]; exact g1) (by rw [jo _ (by decide) (by decide)]; exact g2) (fun v1 v3 v4 v5 B qB bD y1 y2 y3 y4 y5 y6 y7 => ?_)
      have hva : (layR rs dd f ((part + 1) / 2) pl).1 < 15000 := by unfold rowV at a4; omega
      rw [if_neg (hne v4 v3 y6), if_neg (hneg _ (by omega)), y2, zi_tn (show q < 2147483648 by omega)]
      refine ⟨y7, ?_⟩
      rw [qB.1 537 q (by omega), jo _ (by decide) (by decide), g3, if_pos rfl]
      refine ⟨y7, fun I16 e16 => ?_⟩
      rw [y1]
      have o16 : ∀ a j, ¬ (a = 537 ∧ j = q) → I16.1 a j = B.1 a j := fun a j u => by rw [e16, zu_at, if_neg u]
      have q16 : eqQ (Qrw q) I I16 := by
        rw [e16]
        exact (qIJ.tr (qB.mono h65)).zu (hqw _ _ (by omega) (by omega) (by omega))
      -- the second half
      refine visit q f part (-1) I16 (max (max (max n0 q) (q + 1 + dpF dd ((part + 1) / 2))) q) (by omega) (by rw [o16 _ _ (by omega)]; exact bD) (by omega) (by omega) h1 (by rw [o16 _ _ (by omega), qB.1 535 q (by omega), jo _ (by decide) (by decide)]; exact g1) (by rw [o16 _ _ (by omega), qB.1 536 q (by omega), jo _ (by decide) (by decide)]; exact g2) (fun v1 v3 v4 v5 C qC cD z1 z2 z3 z4 z5 z6 z7 => ?_)
      rw [if_neg (hne v4 v3 z6), if_pos rfl, z2, zi_tn (show q < 2147483648 by omega)]
      refine ⟨z7, ?_⟩
      have c537 : C.1 537 q = zi (layR rs dd f ((part + 1) / 2) pl).1 := by rw [qC.1 537 q (by omega), e16, zu_self]
      rw [c537]
      intro P138' h138'
      rw [if_neg (hneg _ (by omega))]
      refine h138' _ ?_
      intro P156' h156'
      rw [if_neg (by decide)]
      refine h156' _ ?_
      rw [z1, zi_tn (show q + 1 < 2147483648 by omega)]
      refine ⟨hin1, fun I20' e20' => ?_⟩
      intro P174' h174'
      rw [if_neg (by decide)]
      refine h174' _ ⟨hin1, fun I22' e22' => ⟨hin1, fun I23' e23' v1' ev1' => ?_⟩⟩
      rw [zi_succ] at ev1'
      subst ev1'
      have o23' : ∀ a j, ¬ (535 ≤ a ∧ a ≤ 537 ∧ j = q + 1) → I23'.1 a j = C.1 a j := fun a j u => by
        rw [e23', zu_at, if_neg (by omega), e22', zu_at, if_neg (by omega), e20', zu_at, if_neg (by omega)]
      have q23' : eqQ (Qrw q) I I23' := by
        rw [e23', e22', e20']
        exact (((q16.tr (qC.mono h65)).zu (hqw _ _ (by omega) (by omega) (by omega))).zu (hqw _ _ (by omega) (by omega) (by omega))).zu (hqw _ _ (by omega) (by omega) (by omega))
      refine ih (q + 1) (f + (part + 1) / 2) (part - (part + 1) / 2) _ I23' (max (max (max (max n0 q) (q + 1 + dpF dd ((part + 1) / 2))) q) q) (by omega) (by rw [o23' _ _ (by omega)]; exact cD) (by omega) (by omega) (by omega) (by omega) (by omega) a1 (pkp J I23' _ pJ (fun a j h => by rw [o23' _ _ (by omega), qC.1 a j (by omega), o16 _ _ (by omega), qB.1 a j (by omega)])) (fun i r hi => by rw [o23' _ _ (by omega), qC.1 528 i (by omega), o16 _ _ (by omega), qB.1 528 i (by omega)]; exact jR i r hi) ?_ ?_ ?_ (fun M qM pM mD => ?_)
      · rw [e23', zu_oo (by decide), e22', zu_oo (by decide), e20', zu_self, z5]
      · rw [e23', zu_oo (by decide), e22', zu_self, z4, show f + (part + 1) / 2 + (part - (part + 1) / 2) = f + part by omega]
      · rw [e23', zu_self]
      -- the PAIR
      have m537 : M.1 537 q = zi (layR rs dd f ((part + 1) / 2) pl).1 := by rw [qM.1 537 q (by unfold Qrw; omega), o23' _ _ (by omega)]; exact c537
      have mo : ∀ a, 535 ≤ a → a ≤ 536 → M.1 a q = I.1 a q := fun a u1 u2 => by
        rw [qM.1 a q (by unfold Qrw; omega), o23' _ _ (by omega), qC.1 a q (by omega), o16 _ _ (by omega), qB.1 a q (by omega), jo a (by omega) (by omega)]
      refine visit q f part _ M (max (max (max (max (max n0 q) (q + 1 + dpF dd ((part + 1) / 2))) q) q) (q + 1 + dpF dd (part - (part + 1) / 2))) (by omega) mD (by omega) (by omega) h1 (by rw [mo _ (by decide) (by decide)]; exact g1) (by rw [mo _ (by decide) (by decide)]; exact g2) (fun v1 v3 v4 v5 D qD dD w1 w2 w3 w4 w5 w6 w7 => ?_)
      have hvb : (layR rs dd (f + (part + 1) / 2) (part - (part + 1) / 2) (layR rs dd f ((part + 1) / 2) pl).2).1 < 15000 := by unfold rowV at b4; omega
      rw [if_neg (hne v4 v3 w6), if_neg (hneg _ (by omega)), w2, zi_tn (show q < 2147483648 by omega)]
      refine ⟨w7, ?_⟩
      rw [qD.1 537 q (by omega), m537, if_neg (hneg _ (by omega))]
      refine ⟨w7, s_pairOf (pkp M D _ pM (fun a j h => qD.1 a j (by omega))) b1 hva hvb (by omega) (fun E qE pE v2' ev2' v1' ev1' => ?_)⟩
      rw [show (10000 : Int32) = zi 10000 from rfl, zi_add] at ev2'
      rw [w1, zi_pred (by omega), Nat.add_sub_cancel] at ev1'
      rw [ev2', ev1']
      exact hK E (((q23'.tr (qM.mono (fun a j h => by unfold Qrw at h ⊢; omega))).tr (qD.mono h65)).tr (qE.mono (fun a j h => by unfold Qpm at h; unfold Qrw; omega))) pE (by
        have e : dpF (dd + 1) part = 1 + max (dpF dd ((part + 1) / 2)) (dpF dd (part - (part + 1) / 2)) := if_neg hp
        rw [qE.1 491 65 (by unfold Qpm; omega), dD, e]
        congr 1
        omega)
def Qro (a j : Nat) : Prop := (a = 491 ∧ (j = 59 ∨ j = 65)) ∨ (533 ≤ a ∧ a ≤ 537)
theorem s_rowNow {rs : List Nat} {pl : List (Nat × Nat)} {I : zI} {K : Int32 → zI → Prop} (hrs : ∀ r ∈ rs, r < 3400) (hrl : rs.length ≤ 99) (hpl : pl.length + 99 ≤ 4100) (hu : PrU pl) (hP : PrM I pl) (hR0 : I.1 491 51 = zi rs.length) (hR : ∀ i r, rs[i]? = some r → I.1 528 i = zi r) (hK : ∀ J : zI, eqQ Qro I J → PrM J (layAllR rs pl) → (rs.length ≠ 0 → J.1 491 65 = zi (dpF 9 rs.length)) → (rs.length = 0 → J = I) → K (rowI rs pl) J) : w_M_rowNow I K := by
  unfold w_M_rowNow
  unfold layAllR rowI at hK
  rw [hR0]
  by_cases h0 : rs.length = 0
  · rw [h0, if_pos (show zi 0 = 0 from rfl)]
    rw [if_pos h0, if_pos h0] at hK
    exact hK I eqQ.rf hP (fun u => absurd h0 u) (fun _ => rfl)
  · rw [if_neg (show ¬ zi rs.length = 0 from fun u => h0 ((zi_eq (b := 0) (by omega) (by decide)).mp u))]
    rw [if_neg h0, if_neg h0] at hK
    have hin0 : vp_in 0 20 := (zin_iff (i := 0) (by decide)).mpr (by decide)
    intro I1 e1
    refine ⟨hin0, fun I2 e2 => ⟨hin0, fun I3 e3 => ⟨hin0, fun I4 e4 => ?_⟩⟩⟩
    rw [show I2.1 491 51 = zi rs.length by rw [e2, zu_oo (by decide), e1, zu_at, if_neg (by decide)]; exact hR0] at e3
    have q4 : eqQ Qro I I4 := by
      rw [e4, e3, e2, e1]
      exact (((eqQ.rf.zu (Or.inl ⟨rfl, Or.inr rfl⟩)).zu (Or.inr (by omega))).zu (Or.inr (by omega))).zu (Or.inr (by omega))
    have o4 : ∀ a j, ¬ (a = 491 ∧ j = 65) → ¬ (535 ≤ a ∧ a ≤ 537) → I4.1 a j = I.1 a j := fun a j u v => by
      rw [e4, zu_oo (by omega), e3, zu_oo (by omega), e2, zu_oo (by omega), e1, zu_at, if_neg u]
    intro P43 h43
    refine s_rowPart hrs (by omega) h43 9 0 0 rs.length pl I4 0 (by omega) (by rw [e4, zu_oo (by decide), e3, zu_oo (by decide), e2, zu_oo (by decide), e1]; exact zu_self) (by omega) (by omega) (by omega) (by omega) (by omega) hu ⟨by rw [o4 _ _ (by omega) (by omega)]; exact hP.1, fun i p hi => by rw [o4 _ _ (by omega) (by omega), o4 _ _ (by omega) (by omega)]; exact hP.2.1 i p hi, hP.2.2⟩ (fun i r hi => by rw [o4 _ _ (by omega) (by omega)]; exact hR i r hi) ?_ ?_ ?_ (fun J qJ pJ jD => ?_)
    · rw [e4, zu_oo (by decide), e3, zu_oo (by decide), e2]
      exact zu_self
    · rw [e4, zu_oo (by decide), e3, Nat.zero_add]
      exact zu_self
    · rw [e4]
      exact zu_self
    · refine h43 _ _ _ ?_
      rw [if_pos (show zi 0 ≤ 0 by decide)]
      exact hK J (q4.tr (qJ.mono (fun a j h => by unfold Qrw at h; unfold Qro; omega))) pJ (fun _ => by rw [jD, Nat.zero_max, Nat.zero_add]) (fun u => absurd u h0)
/-! ===== loops by numbers ===== -/
theorem i_succ {v b : Int32} (h : v < b) : (v + 1).toInt = v.toInt + 1 := by
  have h1 := Int32.lt_iff_toInt_lt.mp h
  have h2 := b.toInt_lt
  have h3 := v.le_toInt
  rw [Int32.toInt_add, show (1 : Int32).toInt = 1 from rfl]
  exact Int.bmod_eq_of_le (by omega) (by omega)
theorem i_pred {v : Int32} (h : 0 ≤ v) : (v + (-1)).toInt = v.toInt - 1 := by
  have h1 : (0 : Int) ≤ v.toInt := by simpa using Int32.le_iff_toInt_le.mp h
  have h2 := v.toInt_lt
  rw [Int32.toInt_add, show (-1 : Int32).toInt = -1 from rfl]
  exact Int.bmod_eq_of_le (by omega) (by omega)
theorem up_loop {P : Int32 → zI → Prop} {b : Int32} {inv : zI → Prop} (step : ∀ v J, v < b → inv J → (∀ J', inv J' → P (v + 1) J') → P v J) (stop : ∀ v J, b ≤ v → inv J → P v J) : ∀ v J, inv J → P v J := by
  have main : ∀ (n : Nat) (v : Int32) (J : zI), (b.toInt - v.toInt).toNat ≤ n → inv J → P v J := by
    intro n
    induction n with
    | zero =>
      intro v J hn hJ
      refine stop v J (Int32.le_iff_toInt_le.mpr (by omega)) hJ
    | succ n ih =>
      intro v J hn hJ
      by_cases hv : v < b
      · refine step v J hv hJ (fun J' hJ' => ih (v + 1) J' ?_ hJ')
        have h1 := Int32.lt_iff_toInt_lt.mp hv
        rw [i_succ hv]
        omega
      · exact stop v J (Int32.not_lt.mp hv) hJ
  exact fun v J => main _ v J (Nat.le_refl _)
theorem dn_loop {P : Int32 → zI → Prop} {a : Int32} {inv : zI → Prop} (ha : 0 ≤ a) (step : ∀ v J, a ≤ v → inv J → (∀ J', inv J' → P (v + (-1)) J') → P v J) (stop : ∀ v J, v < a → inv J → P v J) : ∀ v J, inv J → P v J := by
  have main : ∀ (n : Nat) (v : Int32) (J : zI), (v.toInt - a.toInt + 1).toNat ≤ n → inv J → P v J := by
    intro n
    induction n with
    | zero =>
      intro v J hn hJ
      refine stop v J (Int32.lt_iff_toInt_lt.mpr (by omega)) hJ
    | succ n ih =>
      intro v J hn hJ
      by_cases hv : v < a
      · exact stop v J hv hJ
      · have hav := Int32.not_lt.mp hv
        refine step v J hav hJ (fun J' hJ' => ih (v + (-1)) J' ?_ hJ')
        have h1 := Int32.le_iff_toInt_le.mp hav
        rw [i_pred (Int32.le_trans ha hav)]
        omega
  exact fun v J => main _ v J (Nat.le_refl _)
theorem eqQ.rs {Q : Nat → Nat → Prop} {I J : zI} {a n : Nat} {i v : Int32} (h : eqQ Q I J) (hQ : ∀ j, Q a j) : eqQ Q I (rs J a n i v) := by
  unfold Jvm.Pilot.@@N@@.rs
  split
  · exact h
  · split
    · exact h
    · exact h.zu (hQ _)
theorem eqX.q {Q : Nat → Nat → Prop} {I J L : zI} {lo hi : Nat} (h : eqQ Q I J) (h2 : eqX lo hi J L) (hQ : ∀ a j, lo ≤ a → a < hi → Q a j) : eqQ Q I L :=
  h.tr ⟨fun a j u => congrFun (h2 a (by
    by_cases c : a < lo
    · exact Or.inl c
    · by_cases d : hi ≤ a
      · exact Or.inr d
      · exact absurd (hQ a j (by omega) (by omega)) u)).1 j, fun a j u => congrFun (h2 a (by
    by_cases c : a < lo
    · exact Or.inl c
    · by_cases d : hi ≤ a
      · exact Or.inr d
      · exact absurd (hQ a j (by omega) (by omega)) u)).2 j⟩
/-! ===== all statements RUN, the class: it returns, and changes its own rows alone ===== -/
def Qrr (a j : Nat) : Prop := 69 ≤ a ∧ a ≤ 87
theorem r_lengthOf {r : Int32} {I : zI} {K : Int32 → Prop} (h : ∀ v, K v) : w_Desk_lengthOf r I K := by
  by_cases h0 : r < 0
  · exact s_lengthOf_neg h0 (h _)
  · obtain ⟨a, ha, rfl⟩ := zi_of (Int32.not_lt.mp h0)
    by_cases h1 : a < 11
    · exact s_lengthOf h1 (h _)
    · unfold w_Desk_lengthOf
      rw [if_neg h0, if_pos (show (11 : Int32) ≤ zi a from (zi_le (a := 11) (by decide) ha).mpr (by omega))]
      exact h _
theorem r_sameBytes {a b : Int32} {I : zI} {K : Int32 → Prop} (h1 : K 1) (h0 : K 0) : w_Nodes_sameBytes a b I K := by
  unfold w_Nodes_sameBytes
  refine (w_get (by decide)).mpr ((w_get (by decide)).mpr ?_)
  split
  · refine (w_get (by decide)).mpr ((w_get (by decide)).mpr ?_)
    split
    · refine (w_get (by decide)).mpr ((w_get (by decide)).mpr ?_)
      split
      · refine (w_get (by decide)).mpr ((w_get (by decide)).mpr ?_)
        split
        · exact h1
        · exact h0
      · exact h0
    · exact h0
  · exact h0
theorem r_valueOf {a : Int32} {I : zI} {K : Int32 → Prop} (h : ∀ v, K v) : w_Runner_valueOf a I K := (w_get (by decide)).mpr ((w_get (by decide)).mpr (h _))
theorem zb_or {x y : Int32} (hx : zb x) (hy : zb y) : zb (x ||| y) := by
  rcases hx with rfl | rfl <;> rcases hy with rfl | rfl <;> first | exact Or.inl (by decide) | exact Or.inr (by decide)
def Qpn (a j : Nat) : Prop := (a = 97 ∧ (j = 2 ∨ j = 3)) ∨ a = 99 ∨ a = 110
theorem r_childOf {a b : Int32} {I : zI} {K : Int32 → Prop} (h : ∀ v, K v) : w_Nodes_childOf a b I K := (w_get (by decide)).mpr (h _)
theorem r_childrenOf {a : Int32} {I : zI} {K : Int32 → Prop} (h : ∀ v, K v) : w_Nodes_childrenOf a I K := (w_get (by decide)).mpr (r_lengthOf (fun v => h v))
theorem nle_zi' {k n : Nat} (h : k < n ∧ n < 2147483648) : ¬ zi n ≤ zi k := fun u => by
  have := (zi_le h.2 (by omega)).mp u
  omega
/-- the CHILDREN that are printed -/
def ndU (x : Nd) : List Nat := if ndR x = 10 then ((ndC x).drop 1).take 1 else ndC x
theorem ndU_sub {x : Nd} {z : Nat} (h : z ∈ ndU x) : z ∈ ndC x := by
  unfold ndU at h
  by_cases u : ndR x = 10
  · rw [if_pos u] at h
    exact List.mem_of_mem_drop (List.mem_of_mem_take h)
  · rw [if_neg u] at h
    exact h
def prF (N : Nat → Nd) : Nat → Nat → List Int32
  | 0, _ => []
  | d + 1, c => if ndR (N c) < 0 then ndY (N c) else if ndR (N c) = 4 ∨ ndR (N c) = 6 then 40 :: ((ndU (N c)).flatMap (prF N d) ++ [41]) else (ndU (N c)).flatMap (prF N d)
def prt (N : Nat → Nd) (c : Nat) : List Int32 := prF N (c + 1) c
theorem prF_fu {m : Nat} {N : Nat → Nd} (h : NdOk m N) : ∀ (d d' c : Nat), c < m → c < d → c < d' → prF N d' c = prF N d c
  | 0, _, c, _, h1, _ => by omega
  | _ + 1, 0, c, _, _, h2 => by omega
  | d + 1, d' + 1, c, hc, h1, h2 => by
    show (if ndR (N c) < 0 then ndY (N c) else if ndR (N c) = 4 ∨ ndR (N c) = 6 then 40 :: ((ndU (N c)).flatMap (prF N d') ++ [41]) else (ndU (N c)).flatMap (prF N d')) = (if ndR (N c) < 0 then ndY (N c) else if ndR (N c) = 4 ∨ ndR (N c) = 6 then 40 :: ((ndU (N c)).flatMap (prF N d) ++ [41]) else (ndU (N c)).flatMap (prF N d))
    have e : (ndU (N c)).flatMap (prF N d') = (ndU (N c)).flatMap (prF N d) := flatMap_cg (fun x hx => by
      have := h.lt hc (ndU_sub hx)
      exact prF_fu h d d' x (by omega) (by omega) (by omega))
    rw [e]
theorem prt_eq {m c : Nat} {N : Nat → Nd} (h : NdOk m N) (hc : c < m) : prt N c = if ndR (N c) < 0 then ndY (N c) else if ndR (N c) = 4 ∨ ndR (N c) = 6 then 40 :: ((ndU (N c)).flatMap (prt N) ++ [41]) else (ndU (N c)).flatMap (prt N) := by
  show (if ndR (N c) < 0 then ndY (N c) else if ndR (N c) = 4 ∨ ndR (N c) = 6 then 40 :: ((ndU (N c)).flatMap (prF N c) ++ [41]) else (ndU (N c)).flatMap (prF N c)) = _
  have e : (ndU (N c)).flatMap (prF N c) = (ndU (N c)).flatMap (prt N) := flatMap_cg (fun x hx => by
    have := h.lt hc (ndU_sub hx)
    exact (prF_fu h (x + 1) c x (by omega) (Nat.lt_succ_self x) this).trans rfl)
  rw [e]
/-- a node whose symbol is a token's is a token -/
theorem nd_tk5 {m c : Nat} {N : Nat → Nd} (hN : NdOk m N) (hc : c < m) (h : 5 ≤ ndM (N c)) : ndR (N c) < 0 ∧ ndT (N c) = 1 := by
  rcases hN c hc with ⟨e1, -, -, e, -⟩ | ⟨r, s, hr, -, e, -⟩
  · exact ⟨by omega, e⟩
  · exfalso
    have := (sy_fin r hr).2
    unfold ndM at h
    rw [e, if_neg (by omega), Int.toNat_natCast] at h
    omega
/-- a sum's, a product's CHILDREN -/
theorem op_ch {m c : Nat} {N : Nat → Nd} (hN : NdOk m N) (hc : c < m) (h : ndR (N c) = 4 ∨ ndR (N c) = 6) : ∃ a b e : Nat, ndC (N c) = [a, b, e] ∧ ndM (N b) = (if ndR (N c) = 4 then 9 else 10) ∧ b < c := by
  rcases hN c hc with ⟨e1, -⟩ | ⟨r, s, hr, -, e3, -, -, e6, e7, -⟩
  · omega
  · have hx : ∃ x y z : Nat, rhS r = [x, y, z] ∧ y = (if ndR (N c) = 4 then 9 else 10) := by
      rcases h with u | u
      · have : r = 4 := by omega
        exact ⟨2, 9, 3, by rw [this]; rfl, by rw [if_pos u]⟩
      · have : r = 6 := by omega
        exact ⟨3, 10, 4, by rw [this]; rfl, by rw [if_neg (by omega)]⟩
    obtain ⟨x, y, z, hx, hy⟩ := hx
    rw [hx] at e6
    cases hC : ndC (N c) with
    | nil => rw [hC] at e6; cases e6
    | cons a l =>
      cases l with
      | nil => rw [hC] at e6; cases e6
      | cons b l =>
        cases l with
        | nil => rw [hC] at e6; cases e6
        | cons e2 l =>
          cases l with
          | cons g l => rw [hC] at e6; cases e6
          | nil =>
            rw [hC] at e6
            have hb : ndM (N b) = y := (List.cons.inj (List.cons.inj e6).2).1
            exact ⟨a, b, e2, rfl, by rw [hb, hy], e7 b (by rw [hC]; exact List.mem_cons_of_mem _ (List.mem_cons_self ..))⟩
/-- the bytes of the tokens below a node -/
def tkb (N : Nat → Nd) (c : Nat) : Nat := ((yl N c).map (fun z => (ndY (N z)).length)).sum
theorem sum_fm {f : Nat → List Nat} {g : Nat → Nat} : ∀ (l : List Nat), ((l.flatMap f).map g).sum = (l.map (fun c => ((f c).map g).sum)).sum
  | [] => rfl
  | a :: l => by rw [List.flatMap_cons, List.map_append, List.sum_append, List.map_cons, List.sum_cons, sum_fm l]
theorem tkb_ch {m c : Nat} {N : Nat → Nd} (h : NdOk m N) (hc : c < m) (hr : ¬ ndR (N c) < 0) : tkb N c = ((ndC (N c)).map (tkb N)).sum := by
  show ((yl N c).map (fun z => (ndY (N z)).length)).sum = _
  rw [yl_eq h hc, if_neg hr, sum_fm]
  rfl
theorem tkb_tok {m c : Nat} {N : Nat → Nd} (h : NdOk m N) (hc : c < m) (hr : ndR (N c) < 0) : tkb N c = (ndY (N c)).length := by
  unfold tkb
  rw [yl_eq h hc, if_pos hr]
  rfl
theorem sum_dt {f : Nat → Nat} : ∀ (l : List Nat), (((l.drop 1).take 1).map f).sum ≤ (l.map f).sum
  | [] => Nat.le_refl _
  | [_] => Nat.zero_le _
  | a :: b :: l => by
    show f b + 0 ≤ f a + (f b + (l.map f).sum)
    omega
theorem fm_len {N : Nat → Nd} : ∀ {l : List Nat}, (∀ z ∈ l, (prt N z).length ≤ tkb N z + 2 * ndT (N z)) → (l.flatMap (prt N)).length ≤ (l.map (tkb N)).sum + 2 * tkS N l
  | [], _ => Nat.zero_le _
  | a :: l, h => by
    rw [List.flatMap_cons, List.length_append, List.map_cons, List.sum_cons, tkS_cons]
    have h1 := h a (List.mem_cons_self ..)
    have h2 := fm_len (fun z hz => h z (List.mem_cons_of_mem _ hz))
    omega
theorem prt_len {m : Nat} {N : Nat → Nd} (h : NdOk m N) (c : Nat) : c < m → (prt N c).length ≤ tkb N c + 2 * ndT (N c) := by
  induction c using Nat.strongRecOn with
  | ind c ih =>
    intro hc
    rw [prt_eq h hc]
    by_cases hr : ndR (N c) < 0
    · rw [if_pos hr, tkb_tok h hc hr]
      omega
    · have eT : ndT (N c) = tkS N (ndC (N c)) := by
        rcases h c hc with ⟨e1, -⟩ | ⟨r, s, -, -, -, -, -, -, -, e8⟩
        · omega
        · exact e8
      have hl : ∀ z ∈ ndC (N c), (prt N z).length ≤ tkb N z + 2 * ndT (N z) := fun z hz => by
        have := h.lt hc hz
        exact ih z this (by omega)
      rw [if_neg hr, tkb_ch h hc hr, eT]
      by_cases u : ndR (N c) = 4 ∨ ndR (N c) = 6
      · rw [if_pos u]
        obtain ⟨a, b, e, hC, hb, hbc⟩ := op_ch h hc u
        have hbm : b < m := by omega
        obtain ⟨b1, b2⟩ := nd_tk5 h hbm (by rw [hb]; split <;> decide)
        have hU : ndU (N c) = [a, b, e] := by
          unfold ndU
          rw [if_neg (by omega), hC]
        have pb : prt N b = ndY (N b) := by rw [prt_eq h hbm, if_pos b1]
        have tb := tkb_tok h hbm b1
        have ha := hl a (by rw [hC]; exact List.mem_cons_self ..)
        have he := hl e (by rw [hC]; exact List.mem_cons_of_mem _ (List.mem_cons_of_mem _ (List.mem_cons_self ..)))
        rw [hU, hC]
        show ((prt N a ++ (prt N b ++ (prt N e ++ []))) ++ [41]).length + 1 ≤ (tkb N a + (tkb N b + (tkb N e + 0))) + 2 * (ndT (N a) + (ndT (N b) + (ndT (N e) + 0)))
        rw [List.length_append, List.length_append, List.length_append, List.length_append, pb, tb, b2]
        show (prt N a).length + ((ndY (N b)).length + ((prt N e).length + 0)) + 1 + 1 ≤ _
        omega
      · rw [if_neg u]
        have h1 := fm_len (N := N) (l := ndU (N c)) (fun z hz => hl z (ndU_sub hz))
        unfold ndU at h1 ⊢
        by_cases w : ndR (N c) = 10
        · rw [if_pos w] at h1 ⊢
          have h2 := sum_dt (f := tkb N) (ndC (N c))
          have h3 : tkS N (((ndC (N c)).drop 1).take 1) ≤ tkS N (ndC (N c)) := sum_dt (f := fun z => ndT (N z)) (ndC (N c))
          omega
        · rw [if_neg w] at h1 ⊢
          exact h1
/-! ===== bytes unpacked ===== -/
theorem ur_24 (x : Int32) : ((x.toUInt32 >>> (24 : UInt32)).toInt32 &&& 255).toBitVec.toNat = x.toBitVec.toNat / 256 ^ (3 - 0) % 256 := by
  show ((x.toBitVec >>> (24 : Nat)) &&& 255#32).toNat = _
  rw [BitVec.toNat_and, BitVec.toNat_ushiftRight, Nat.shiftRight_eq_div_pow]
  exact Nat.and_two_pow_sub_one_eq_mod _ 8
theorem ur_16 (x : Int32) : ((x.toUInt32 >>> (16 : UInt32)).toInt32 &&& 255).toBitVec.toNat = x.toBitVec.toNat / 256 ^ (3 - 1) % 256 := by
  show ((x.toBitVec >>> (16 : Nat)) &&& 255#32).toNat = _
  rw [BitVec.toNat_and, BitVec.toNat_ushiftRight, Nat.shiftRight_eq_div_pow]
  exact Nat.and_two_pow_sub_one_eq_mod _ 8
theorem ur_8 (x : Int32) : ((x.toUInt32 >>> (8 : UInt32)).toInt32 &&& 255).toBitVec.toNat = x.toBitVec.toNat / 256 ^ (3 - 2) % 256 := by
  show ((x.toBitVec >>> (8 : Nat)) &&& 255#32).toNat = _
  rw [BitVec.toNat_and, BitVec.toNat_ushiftRight, Nat.shiftRight_eq_div_pow]
  exact Nat.and_two_pow_sub_one_eq_mod _ 8
theorem ur_0 (x : Int32) : ((x.toUInt32 >>> (0 : UInt32)).toInt32 &&& 255).toBitVec.toNat = x.toBitVec.toNat / 256 ^ (3 - 3) % 256 := by
  show ((x.toBitVec >>> (0 : Nat)) &&& 255#32).toNat = _
  rw [BitVec.toNat_and, BitVec.toNat_ushiftRight, Nat.shiftRight_eq_div_pow]
  exact Nat.and_two_pow_sub_one_eq_mod _ 8
theorem nat_dg {f : Nat → Nat} {m k : Nat} (hk : k < m) (hm : m ≤ 4) (hf : ∀ j, j < m → f j < 256) : natV 256 f m * 256 ^ (4 - m) / 256 ^ (3 - k) % 256 = f k := by
  have f0 := hf 0 (by omega)
  rcases (by omega : m = 1 ∨ m = 2 ∨ m = 3 ∨ m = 4) with rfl | rfl | rfl | rfl
  · obtain rfl : k = 0 := by omega
    show (256 * 0 + f 0) * 16777216 / 16777216 % 256 = f 0
    omega
  · have f1 := hf 1 (by omega)
    rcases (by omega : k = 0 ∨ k = 1) with rfl | rfl
    · show (256 * (256 * 0 + f 0) + f 1) * 65536 / 16777216 % 256 = f 0
      omega
    · show (256 * (256 * 0 + f 0) + f 1) * 65536 / 65536 % 256 = f 1
      omega
  · have f1 := hf 1 (by omega)
    have f2 := hf 2 (by omega)
    rcases (by omega : k = 0 ∨ k = 1 ∨ k = 2) with rfl | rfl | rfl
    · show (256 * (256 * (256 * 0 + f 0) + f 1) + f 2) * 256 / 16777216 % 256 = f 0
      omega
    · show (256 * (256 * (256 * 0 + f 0) + f 1) + f 2) * 256 / 65536 % 256 = f 1
      omega
    · show (256 * (256 * (256 * 0 + f 0) + f 1) + f 2) * 256 / 256 % 256 = f 2
      omega
  · have f1 := hf 1 (by omega)
    have f2 := hf 2 (by omega)
    have f3 := hf 3 (by omega)
    rcases (by omega : k = 0 ∨ k = 1 ∨ k = 2 ∨ k = 3) with rfl | rfl | rfl | rfl
    · show (256 * (256 * (256 * (256 * 0 + f 0) + f 1) + f 2) + f 3) * 1 / 16777216 % 256 = f 0
      omega
    · show (256 * (256 * (256 * (256 * 0 + f 0) + f 1) + f 2) + f 3) * 1 / 65536 % 256 = f 1
      omega
    · show (256 * (256 * (256 * (256 * 0 + f 0) + f 1) + f 2) + f 3) * 1 / 256 % 256 = f 2
      omega
    · show (256 * (256 * (256 * (256 * 0 + f 0) + f 1) + f 2) + f 3) * 1 / 1 % 256 = f 3
      omega
theorem un_pk {t : Nat → Int32} {s m k : Nat} (hk : k < m) (hm : m ≤ 4) (h : ∀ j, j < m → byt (t (s + j))) {a : Int32} (ha : a = zi k ∨ a = zi (k + 4)) : (((pkR t s m).toUInt32 >>> ((24 - (8 * (a &&& 3))).toUInt32 &&& Int32.toUInt32 31)).toInt32) &&& 255 = t (s + k) := by
  have e := pk_nat m hm h
  have hd := byt_dg (h k hk)
  have r : (t (s + k)).toBitVec.toNat = dg 0 (t (s + k)) := (congrArg (fun v : Int32 => v.toBitVec.toNat) hd.2).trans (zi_bv (by have := hd.1; omega))
  have w := nat_dg (f := fun j => dg 0 (t (s + j))) hk hm (fun j hj => (byt_dg (h j hj)).1)
  refine Int32.toBitVec_inj.mp (BitVec.eq_of_toNat_eq ?_)
  rw [r]
  rcases (by omega : k = 0 ∨ k = 1 ∨ k = 2 ∨ k = 3) with rfl | rfl | rfl | rfl
  · rw [show (24 - (8 * (a &&& 3))).toUInt32 &&& Int32.toUInt32 31 = 24 by rcases ha with rfl | rfl <;> decide, ur_24, e]
    exact w
  · rw [show (24 - (8 * (a &&& 3))).toUInt32 &&& Int32.toUInt32 31 = 16 by rcases ha with rfl | rfl <;> decide, ur_16, e]
    exact w
  · rw [show (24 - (8 * (a &&& 3))).toUInt32 &&& Int32.toUInt32 31 = 8 by rcases ha with rfl | rfl <;> decide, ur_8, e]
    exact w
  · rw [show (24 - (8 * (a &&& 3))).toUInt32 &&& Int32.toUInt32 31 = 0 by rcases ha with rfl | rfl <;> decide, ur_0, e]
    exact w
/-- a token's bytes are bytes, and few -/
def bytY (x : Nd) : Prop := (ndY x).length ≤ 8 ∧ ∀ j, j < (ndY x).length → byt (bsF (ndY x) j)
theorem s_byteOf {m c i : Nat} {N : Nat → Nd} {I : zI} {K : Int32 → Prop} (rep : RepNX I m N) (hm : m ≤ 3400) (hc : c < m) (hr : ndR (N c) < 0) (hy : bytY (N c)) (hi : i < (ndY (N c)).length) (hK : K (bsF (ndY (N c)) i)) : w_Nodes_byteOf (zi c) (zi i) I K := by
  obtain ⟨y1, y2⟩ := hy
  obtain ⟨n1, n2, n3⟩ := (rep.2 c hc).2.2.2.2.2.2 hr
  intro P24 h24
  by_cases i4 : 4 ≤ i
  · rw [if_pos (show (4 : Int32) ≤ zi i from (zi_le (a := 4) (by decide) (by omega)).mpr i4)]
    refine (w_get (by decide)).mpr ?_
    rw [rg_in (by decide) (show c < 3400 by omega), show I.1 (39 + 1) c = pkR (bsF (ndY (N c))) (0 + 4) (min 4 ((ndY (N c)).length - 4)) from n3]
    refine h24 _ ?_
    rw [un_pk (k := i - 4) (by omega) (by omega) (fun j hj => y2 _ (by omega)) (Or.inr (by rw [Nat.sub_add_cancel i4])), show 0 + 4 + (i - 4) = i by omega]
    exact hK
  · rw [if_neg (show ¬ (4 : Int32) ≤ zi i from nle_zi' (n := 4) (by omega))]
    refine (w_get (by decide)).mpr ?_
    rw [rg_in (by decide) (show c < 3400 by omega), show I.1 (37 + 1) c = pkR (bsF (ndY (N c))) 0 (min 4 (ndY (N c)).length) from n2]
    refine h24 _ ?_
    rw [un_pk (k := i) (by omega) (by omega) (fun j hj => y2 _ (by omega)) (Or.inl rfl), Nat.zero_add]
    exact hK
/-! ===== the print, the class: what it writes ===== -/
def Qst (a j : Nat) : Prop := (a = 97 ∧ j = 2) ∨ a = 99
def Qob (b a j : Nat) : Prop := (a = 97 ∧ j = 3) ∨ a = b
def Qpw (b a j : Nat) : Prop := (a = 97 ∧ (j = 2 ∨ j = 3)) ∨ a = 99 ∨ a = b
/-- what waits: a byte below 1000, or a node and 1000 -/
def enc (e : Nat) : Int32 := if 1000 ≤ e then zi (e - 1000) else if e = 40 then -41 else -42
theorem enc_nd {c : Nat} : enc (1000 + c) = zi c := by
  unfold enc
  rw [if_pos (by omega), Nat.add_sub_cancel_left]
def pO (N : Nat → Nd) (e : Nat) : List Int32 := if 1000 ≤ e then prt N (e - 1000) else [zi e]
theorem pO_nd {N : Nat → Nd} {c : Nat} : pO N (1000 + c) = prt N c := by
  unfold pO
  rw [if_pos (by omega), Nat.add_sub_cancel_left]
def StkW (I : zI) : List Nat → Prop
  | [] => True
  | e :: w => I.1 99 w.length = enc e ∧ StkW I w
theorem StkW.kp {I J : zI} : ∀ {w : List Nat}, StkW I w → (∀ j, j < w.length → J.1 99 j = I.1 99 j) → StkW J w
  | [], _, _ => trivial
  | e :: w, h, q => ⟨(q w.length (Nat.lt_succ_self _)).trans h.1, h.2.kp (fun j hj => q j (Nat.lt_succ_of_lt hj))⟩
def OutX (a : Nat) (I : zI) (W : List Int32) : Prop := ∀ (i : Nat) (v : Int32), W[i]? = some v → I.1 a i = v
theorem s_putOff {e : Nat} {w : List Nat} {I : zI} {K : zI → Prop} (h2 : I.1 97 2 = zi w.length) (hl : w.length < 1000) (hS : StkW I w) (hK : ∀ J, eqQ Qst I J → J.1 97 2 = zi (e :: w).length → StkW J (e :: w) → K J) : w_Printer_putOff (enc e) I K := by
  unfold w_Printer_putOff
  rw [h2]
  refine (w_set (by decide)).mpr ?_
  rw [rs_in (by decide) hl]
  intro I2 e2
  have g : (zu I (98 + 1) w.length (enc e)).1 97 2 = zi w.length := by
    rw [zu_oo (by decide)]
    exact h2
  rw [g, zi_succ] at e2
  refine hK I2 ?_ (by rw [e2]; exact zu_self) ⟨?_, hS.kp (fun j hj => ?_)⟩
  · rw [e2]
    exact (eqQ.rf.zu (Or.inr rfl)).zu (Or.inl ⟨rfl, rfl⟩)
  · rw [e2, zu_oo (by decide)]
    exact zu_self
  · rw [e2, zu_oo (by decide), zu_at, if_neg (by omega)]
theorem s_wByte {a2 : Nat} {v : Int32} {W : List Int32} {I : zI} {K : zI → Prop} (hb : a2 = 109 ∨ a2 = 111) (h3 : I.1 97 3 = zi W.length) (hl : W.length < 700) (hO : OutX (a2 + 1) I W) (hK : ∀ J, eqQ (Qob (a2 + 1)) I J → J.1 97 3 = zi (W ++ [v]).length → OutX (a2 + 1) J (W ++ [v]) → K J) : w_Printer_writeByte v a2 700 I K := by
  unfold w_Printer_writeByte
  rw [h3]
  refine (w_set (by decide)).mpr ?_
  rw [rs_in (by decide) hl]
  intro I2 e2
  have g : (zu I (a2 + 1) W.length v).1 97 3 = zi W.length := by
    rw [zu_oo (by omega)]
    exact h3
  rw [g, zi_succ] at e2
  refine hK I2 ?_ (by rw [e2, zu_self, List.length_append]; rfl) (fun i u hi => ?_)
  · rw [e2]
    exact (eqQ.rf.zu (Or.inr rfl)).zu (Or.inl ⟨rfl, rfl⟩)
  · rw [e2, zu_oo (by omega)]
    rcases snoc_at hi with hi | ⟨rfl, rfl⟩
    · have hil := (List.getElem?_eq_some_iff.mp hi).1
      rw [zu_at, if_neg (by omega)]
      exact hO i u hi
    · exact zu_self
theorem s_wToken {a2 m c : Nat} {N : Nat → Nd} {W : List Int32} {I : zI} {K : zI → Prop} (hb : a2 = 109 ∨ a2 = 111) (rep : RepNX I m N) (hN : NdOk m N) (hm : m ≤ 3400) (hc : c < m) (hr : ndR (N c) < 0) (hy : bytY (N c)) (h3 : I.1 97 3 = zi W.length) (hl : (W ++ ndY (N c)).length ≤ 700) (hO : OutX (a2 + 1) I W) (hK : ∀ J, eqQ (Qob (a2 + 1)) I J → J.1 97 3 = zi (W ++ ndY (N c)).length → OutX (a2 + 1) J (W ++ ndY (N c)) → K J) : w_Printer_writeToken (zi c) a2 700 I K := by
  intro P2 h2
  have y8 := hy.1
  rw [List.length_append] at hl
  have rp : ∀ J, eqQ (Qob (a2 + 1)) I J → RepNX J m N := fun J q => rep.kp hN.ch (fun a j u1 u2 _ => q.1 a j (by unfold Qob; omega))
  have main : ∀ (d i : Nat) (J : zI), i + d = (ndY (N c)).length → eqQ (Qob (a2 + 1)) I J → J.1 97 3 = zi (W ++ (ndY (N c)).take i).length → OutX (a2 + 1) J (W ++ (ndY (N c)).take i) → P2 (zi i) J := by
    intro d
    induction d with
    | zero =>
      intro i J hi q j3 jO
      refine h2 _ _ ((w_get (by decide)).mpr ?_)
      rw [rg_in (by decide) (show c < 3400 by omega), show J.1 (35 + 1) c = zi (ndY (N c)).length from (((rp J q).2 c hc).2.2.2.2.2.2 hr).1, if_pos ((zi_le (by omega) (by omega)).mpr (by omega))]
      rw [List.take_of_length_le (by omega)] at j3 jO
      exact hK J q j3 jO
    | succ d ih =>
      intro i J hi q j3 jO
      refine h2 _ _ ((w_get (by decide)).mpr ?_)
      rw [rg_in (by decide) (show c < 3400 by omega), show J.1 (35 + 1) c = zi (ndY (N c)).length from (((rp J q).2 c hc).2.2.2.2.2.2 hr).1, if_neg (nle_zi' (by omega))]
      refine s_byteOf (rp J q) hm hc hr hy (by omega) ?_
      refine s_wByte hb j3 (by rw [List.length_append, List.length_take]; omega) jO (fun A qA a3 aO => ?_)
      intro v ev
      have hg : (ndY (N c))[i]? = some (bsF (ndY (N c)) i) := by
        unfold bsF
        rw [List.getD_eq_getElem?_getD, List.getElem?_eq_getElem (by omega)]
        rfl
      have ht : W ++ (ndY (N c)).take i ++ [bsF (ndY (N c)) i] = W ++ (ndY (N c)).take (i + 1) := by
        rw [List.take_add_one, hg, List.append_assoc]
        rfl
      rw [ht] at a3 aO
      rw [ev, zi_succ]
      exact ih (i + 1) A (by omega) (q.tr qA) a3 aO
  exact main (ndY (N c)).length 0 I (by omega) eqQ.rf (by rw [List.take_zero, List.append_nil]; exact h3) (by rw [List.take_zero, List.append_nil]; exact hO)
/-- what is laid there in place of a node -/
def opn (N : Nat → Nd) (c : Nat) (w : List Nat) : List Nat := if ndR (N c) = 4 ∨ ndR (N c) = 6 then 40 :: ((ndU (N c)).map (fun z => 1000 + z) ++ 41 :: w) else (ndU (N c)).map (fun z => 1000 + z) ++ w
theorem s_openUp {m c : Nat} {N : Nat → Nd} {w : List Nat} {I : zI} {K : zI → Prop} (rep : RepNX I m N) (hN : NdOk m N) (hm : m ≤ 3400) (hc : c < m) (hr : ¬ ndR (N c) < 0) (h2 : I.1 97 2 = zi w.length) (hl : w.length + 7 < 1000) (hS : StkW I w) (hK : ∀ J, eqQ Qst I J → J.1 97 2 = zi (opn N c w).length → StkW J (opn N c w) → K J) : w_Printer_openUp (zi c) I K := by
  unfold w_Printer_openUp
  refine (w_get (by decide)).mpr ?_
  have hc4 := hN.ch c hc
  rcases hN c hc with ⟨e1, -⟩ | ⟨r, s, hr11, -, e3, -, -, e6, -⟩
  · omega
  have rp : ∀ J, eqQ Qst I J → RepNX J m N := fun J q => rep.kp hN.ch (fun a j u1 u2 _ => q.1 a j (by unfold Qst; omega))
  have eqr : ∀ k : Nat, k < 100 → (zi r = zi k ↔ r = k) := fun k hk => zi_eq (by omega) (by omega)
  rw [rg_in (by decide) (show c < 3400 by omega), show I.1 (25 + 1) c = Int32.ofInt (ndR (N c)) from (rep.2 c hc).1, e3, zi_int r]
  intro P28 h28
  by_cases u10 : r = 10
  · -- only what is within
    have hU : ndU (N c) = ((ndC (N c)).drop 1).take 1 := by
      unfold ndU
      rw [if_pos (by omega)]
    have hlen : 3 = (ndC (N c)).length := by
      have h1 := congrArg List.length e6
      rw [List.length_map, u10] at h1
      exact h1.symm
    have hz : (ndC (N c))[1]? = some ((ndC (N c))[1]'(by omega)) := List.getElem?_eq_getElem (by omega)
    generalize hze : (ndC (N c))[1]'(by omega) = z at hz
    have hd : ((ndC (N c)).drop 1).take 1 = [z] := by
      rw [List.drop_eq_getElem_cons (by omega : 1 < (ndC (N c)).length), hze]
      rfl
    intro P23 _
    rw [if_neg (show ¬ zi r = 4 from fun v => by have := (eqr 4 (by decide)).mp v; omega), if_neg (show ¬ zi r = 6 from fun v => by have := (eqr 6 (by decide)).mp v; omega)]
    refine h28 0 ?_
    rw [if_pos (show zi r = 10 from (eqr 10 (by decide)).mpr u10)]
    refine s_childOf (k := 1) rep hm hc hc4 hz ?_
    rw [← enc_nd (c := z)]
    refine s_putOff h2 (by omega) hS (fun A qA a2 aS => ?_)
    have ho : opn N c w = (1000 + z) :: w := by
      unfold opn
      rw [if_neg (by omega), hU, hd]
      rfl
    rw [ho] at hK
    exact hK A qA a2 aS
  · have hU : ndU (N c) = ndC (N c) := by
      unfold ndU
      rw [if_neg (by omega)]
    -- all CHILDREN, the last one first
    have kids : ∀ (t : Int32) (w0 : List Nat) (P59 : zI → Prop), (∀ (I_3 : zI), (w_Nodes_childrenOf (zi c) I_3 (fun r_4 => ∀ v4_5, v4_5 = (r_4 - 1) → ∀ (P71 : Int32 → zI → Prop), (∀ (v4_6 : Int32) (I_7 : zI), ((if v4_6 < 0 then (if t = 0 then K I_7 else (w_Printer_putOff (-41) I_7 (fun I_8 => K I_8))) else (w_Nodes_childOf (zi c) v4_6 I_7 (fun r_10 => w_Printer_putOff r_10 I_7 (fun I_11 => ∀ v4_12, v4_12 = (v4_6 + (-1)) → P71 v4_12 I_11))))) → P71 v4_6 I_7) → P71 v4_5 I_3)) → P59 I_3) → (∀ B, eqQ Qst I B → B.1 97 2 = zi ((ndC (N c)).map (fun z => 1000 + z) ++ w0).length → StkW B ((ndC (N c)).map (fun z => 1000 + z) ++ w0) → (if t = 0 then K B else (w_Printer_putOff (-41) B (fun I_8 => K I_8)))) → w0.length + 5 < 1000 → ∀ A, eqQ Qst I A → A.1 97 2 = zi w0.length → StkW A w0 → P59 A := by
      intro t w0 P59 h59 hend hl0 A qA a2 aS
      refine h59 A (s_childrenOf (rp A qA) hN hm hc ?_)
      intro v4 ev4 P71 h71
      have inner : ∀ (k : Nat) (B : zI), k ≤ (ndC (N c)).length → eqQ Qst I B → B.1 97 2 = zi (((ndC (N c)).drop k).map (fun z => 1000 + z) ++ w0).length → StkW B (((ndC (N c)).drop k).map (fun z => 1000 + z) ++ w0) → P71 (zi k - 1) B := by
        intro k
        induction k with
        | zero =>
          intro B hk qB b2 bS
          refine h71 _ _ ?_
          rw [if_pos (show zi 0 - 1 < 0 by decide)]
          rw [List.drop_zero] at b2 bS
          exact hend B qB b2 bS
        | succ k ihk =>
          intro B hk qB b2 bS
          refine h71 _ _ ?_
          rw [show zi (k + 1) - 1 = zi k from zi_sub (b := 1) (by omega), if_neg (zi_pos (by omega))]
          have hz : (ndC (N c))[k]? = some ((ndC (N c))[k]'(by omega)) := List.getElem?_eq_getElem (by omega)
          have hd : (ndC (N c)).drop k = (ndC (N c))[k]'(by omega) :: (ndC (N c)).drop (k + 1) := List.drop_eq_getElem_cons (by omega)
          generalize (ndC (N c))[k]'(by omega) = z at hz hd
          refine s_childOf (rp B qB) hm hc hc4 hz ?_
          have hlen : (((ndC (N c)).drop (k + 1)).map (fun z => 1000 + z) ++ w0).length < 1000 := by
            rw [List.length_append, List.length_map, List.length_drop]
            omega
          rw [← enc_nd (c := z)]
          refine s_putOff b2 hlen bS (fun D qD d2 dS => ?_)
          intro v ev
          rw [ev, ← Int32.sub_eq_add_neg]
          have := ihk D (by omega) (qB.tr qD) (by rw [hd]; exact d2) (by rw [hd]; exact dS)
          exact this
      rw [ev4]
      exact inner (ndC (N c)).length A (Nat.le_refl _) qA (by rw [List.drop_length]; exact a2) (by rw [List.drop_length]; exact aS)
    by_cases u46 : r = 4 ∨ r = 6
    · have ho : opn N c w = 40 :: ((ndC (N c)).map (fun z => 1000 + z) ++ 41 :: w) := by
        unfold opn
        rw [if_pos (by omega), hU]
      rw [ho] at hK
      have yes : P28 1 := by
        refine h28 1 ?_
        rw [if_neg (show ¬ zi r = 10 from fun v => u10 ((eqr 10 (by decide)).mp v))]
        intro P59 h59
        rw [if_neg (show ¬ (1 : Int32) = 0 by decide)]
        refine s_putOff (e := 41) h2 (by omega) hS (fun A qA a2 aS => ?_)
        refine kids 1 (41 :: w) P59 h59 (fun B qB b2 bS => ?_) (by rw [List.length_cons]; omega) A qA a2 aS
        rw [if_neg (show ¬ (1 : Int32) = 0 by decide)]
        refine s_putOff (e := 40) b2 (by rw [List.length_append, List.length_map, List.length_cons]; omega) bS (fun D qD d2 dS => ?_)
        exact hK D (qB.tr qD) d2 dS
      intro P23 h23
      rcases u46 with u | u
      · rw [if_pos (show zi r = 4 from (eqr 4 (by decide)).mpr u)]
        exact h23 yes
      · rw [if_neg (show ¬ zi r = 4 from fun v => by have := (eqr 4 (by decide)).mp v; omega), if_pos (show zi r = 6 from (eqr 6 (by decide)).mpr u)]
        exact h23 yes
    · have ho : opn N c w = (ndC (N c)).map (fun z => 1000 + z) ++ w := by
        unfold opn
        rw [if_neg (by omega), hU]
      rw [ho] at hK
      intro P23 _
      rw [if_neg (show ¬ zi r = 4 from fun v => u46 (Or.inl ((eqr 4 (by decide)).mp v))), if_neg (show ¬ zi r = 6 from fun v => u46 (Or.inr ((eqr 6 (by decide)).mp v)))]
      refine h28 0 ?_
      rw [if_neg (show ¬ zi r = 10 from fun v => u10 ((eqr 10 (by decide)).mp v))]
      intro P59 h59
      rw [if_pos (show (0 : Int32) = 0 from rfl)]
      refine kids 0 w P59 h59 (fun B qB b2 bS => ?_) (by omega) I eqQ.rf h2 hS
      rw [if_pos (show (0 : Int32) = 0 from rfl)]
      exact hK B qB b2 bS
def mT (N : Nat → Nd) (e : Nat) : Nat := if 1000 ≤ e then 3 * sz N (e - 1000) else 1
theorem mT_nd {N : Nat → Nd} {c : Nat} : mT N (1000 + c) = 3 * sz N c := by
  unfold mT
  rw [if_pos (by omega), Nat.add_sub_cancel_left]
def sT (N : Nat → Nd) (w : List Nat) : Nat := (w.map (mT N)).sum
theorem sT_cons {N : Nat → Nd} {e : Nat} {w : List Nat} : sT N (e :: w) = mT N e + sT N w := by
  unfold sT
  rw [List.map_cons, List.sum_cons]
theorem sT_ch {N : Nat → Nd} {w : List Nat} : ∀ {l : List Nat}, sT N (l.map (fun z => 1000 + z) ++ w) = 3 * szS N l + sT N w
  | [] => by
    show sT N w = 3 * 0 + sT N w
    omega
  | c :: l => by
    rw [List.map_cons, List.cons_append, sT_cons, sT_ch, mT_nd, szS_cons]
    omega
def outW (N : Nat → Nd) (w : List Nat) : List Int32 := w.flatMap (pO N)
theorem outW_cons {N : Nat → Nd} {e : Nat} {w : List Nat} : outW N (e :: w) = pO N e ++ outW N w := by
  unfold outW
  rw [List.flatMap_cons]
theorem outW_ch {N : Nat → Nd} {w : List Nat} : ∀ {l : List Nat}, outW N (l.map (fun z => 1000 + z) ++ w) = l.flatMap (prt N) ++ outW N w
  | [] => rfl
  | c :: l => by rw [List.map_cons, List.cons_append, outW_cons, outW_ch, pO_nd, List.flatMap_cons, List.append_assoc]
def EnW (m : Nat) (N : Nat → Nd) (w : List Nat) : Prop := ∀ e ∈ w, e = 40 ∨ e = 41 ∨ ∃ c, e = 1000 + c ∧ c < m ∧ ∀ z ∈ yl N c, bytY (N z)
theorem EnW.pos {m e : Nat} {N : Nat → Nd} {w : List Nat} (hN : NdOk m N) (h : EnW m N (e :: w)) : 1 ≤ mT N e := by
  rcases h e (List.mem_cons_self ..) with rfl | rfl | ⟨c, rfl, hc, -⟩
  · exact Nat.le_refl _
  · exact Nat.le_refl _
  · have := sz_pos hN hc
    rw [mT_nd]
    omega
theorem EnW.len {m : Nat} {N : Nat → Nd} (hN : NdOk m N) : ∀ {w : List Nat}, EnW m N w → w.length ≤ sT N w
  | [], _ => Nat.zero_le _
  | e :: w, h => by
    have h1 := EnW.pos hN h
    have h2 := EnW.len hN (w := w) (fun x hx => h x (List.mem_cons_of_mem _ hx))
    rw [List.length_cons, sT_cons]
    omega
/-- a node opened up: it is printed as it was, takes fewer steps -/
theorem opn_ok {m c : Nat} {N : Nat → Nd} {w : List Nat} (hN : NdOk m N) (hc : c < m) (hr : ¬ ndR (N c) < 0) (hy : ∀ z ∈ yl N c, bytY (N z)) (hw : EnW m N w) : outW N (opn N c w) = prt N c ++ outW N w ∧ sT N (opn N c w) + 1 ≤ 3 * sz N c + sT N w ∧ EnW m N (opn N c w) := by
  have hs : szS N (ndU (N c)) ≤ szS N (ndC (N c)) := by
    unfold ndU
    by_cases u : ndR (N c) = 10
    · rw [if_pos u]
      exact sum_dt (f := sz N) (ndC (N c))
    · rw [if_neg u]
      exact Nat.le_refl _
  have hsz := sz_eq hN hc
  have ch : ∀ z ∈ ndU (N c), z < m ∧ ∀ y ∈ yl N z, bytY (N y) := fun z hz => by
    have hzC := ndU_sub hz
    have := hN.lt hc hzC
    refine ⟨by omega, fun y hy' => hy y ?_⟩
    rw [yl_eq hN hc, if_neg hr]
    exact List.mem_flatMap.mpr ⟨z, hzC, hy'⟩
  have enk : ∀ w0 : List Nat, EnW m N w0 → EnW m N ((ndU (N c)).map (fun z => 1000 + z) ++ w0) := fun w0 h0 x hx => by
    rcases List.mem_append.mp hx with hx | hx
    · obtain ⟨z, hz, rfl⟩ := List.mem_map.mp hx
      obtain ⟨c1, c2⟩ := ch z hz
      exact Or.inr (Or.inr ⟨z, rfl, c1, c2⟩)
    · exact h0 x hx
  rw [prt_eq hN hc, if_neg hr]
  unfold opn
  by_cases u : ndR (N c) = 4 ∨ ndR (N c) = 6
  · rw [if_pos u, if_pos u]
    refine ⟨?_, ?_, fun x hx => ?_⟩
    · rw [outW_cons, outW_ch, outW_cons, List.cons_append, List.append_assoc]
      rfl
    · rw [sT_cons, sT_ch, sT_cons, show mT N 40 = 1 from rfl, show mT N 41 = 1 from rfl]
      omega
    · rcases List.mem_cons.mp hx with rfl | hx
      · exact Or.inl rfl
      · refine enk (41 :: w) (fun y hy' => ?_) x hx
        rcases List.mem_cons.mp hy' with rfl | hy'
        · exact Or.inr (Or.inl rfl)
        · exact hw y hy'
  · rw [if_neg u, if_neg u]
    refine ⟨outW_ch, ?_, enk w hw⟩
    rw [sT_ch]
    omega
theorem s_write {a2 m c0 : Nat} {N : Nat → Nd} {I : zI} {K : Int32 → zI → Prop} (hb : a2 = 109 ∨ a2 = 111) (rep : RepNX I m N) (hN : NdOk m N) (hm : m ≤ 3400) (hc : c0 < m) (hsz : sz N c0 ≤ 300) (hlen : (prt N c0).length ≤ 700) (hy : ∀ z ∈ yl N c0, bytY (N z)) (hK : ∀ J, eqQ (Qpw (a2 + 1)) I J → OutX (a2 + 1) J (prt N c0) → K (zi (prt N c0).length) J) : w_Printer_write (zi c0) a2 700 I K := by
  intro I1 e1 I2 e2
  have q2 : eqQ (Qpw (a2 + 1)) I I2 := by
    rw [e2, e1]
    exact (eqQ.rf.zu (Or.inl ⟨rfl, Or.inr rfl⟩)).zu (Or.inl ⟨rfl, Or.inl rfl⟩)
  have qs : ∀ {A B : zI}, eqQ Qst A B → eqQ (Qpw (a2 + 1)) A B := fun q => q.mono (fun a j h => by unfold Qst at h; unfold Qpw; omega)
  have qo : ∀ {A B : zI}, eqQ (Qob (a2 + 1)) A B → eqQ (Qpw (a2 + 1)) A B := fun q => q.mono (fun a j h => by unfold Qob at h; unfold Qpw; omega)
  have rp : ∀ J, eqQ (Qpw (a2 + 1)) I J → RepNX J m N := fun J q => rep.kp hN.ch (fun a j u1 u2 _ => q.1 a j (by unfold Qpw; omega))
  rw [← enc_nd (c := c0)]
  refine s_putOff (e := 1000 + c0) (w := []) (by rw [e2]; exact zu_self) (by decide) trivial (fun I3 q3 g2 gS => ?_)
  intro P17 h17
  have main : ∀ (f : Nat) (w : List Nat) (W : List Int32) (t : Nat) (J : zI), sT N w ≤ f → t + sT N w ≤ 900 → EnW m N w → W ++ outW N w = prt N c0 → J.1 97 2 = zi w.length → J.1 97 3 = zi W.length → StkW J w → OutX (a2 + 1) J W → eqQ (Qpw (a2 + 1)) I J → P17 (zi t) J := by
    intro f
    have nil : ∀ (W : List Int32) (t : Nat) (J : zI), t ≤ 900 → W ++ outW N [] = prt N c0 → J.1 97 2 = zi ([] : List Nat).length → J.1 97 3 = zi W.length → OutX (a2 + 1) J W → eqQ (Qpw (a2 + 1)) I J → P17 (zi t) J := by
      intro W t J ht ho j2 j3 jO q
      refine h17 _ _ ?_
      intro P105 h105
      have hW : W = prt N c0 := by
        rw [← ho]
        exact (List.append_nil W).symm
      rw [if_neg (show ¬ (10000 : Int32) ≤ zi t from nle_zi' (n := 10000) (by omega)), j2, if_pos (show zi ([] : List Nat).length ≤ 0 by decide)]
      refine h105 ?_
      rw [j3, hW]
      rw [hW] at jO
      exact hK J q jO
    induction f with
    | zero =>
      intro w W t J hf ht hw ho j2 j3 jS jO q
      cases w with
      | nil => exact nil W t J (by omega) ho j2 j3 jO q
      | cons e w =>
        have := EnW.pos hN hw
        rw [sT_cons] at hf
        omega
    | succ f ih =>
      intro w W t J hf ht hw ho j2 j3 jS jO q
      cases w with
      | nil => exact nil W t J (by omega) ho j2 j3 jO q
      | cons e w =>
        have hl := EnW.len hN hw
        have hp := EnW.pos hN hw
        have hw' : EnW m N w := fun x hx => hw x (List.mem_cons_of_mem _ hx)
        rw [sT_cons] at hf ht hl
        rw [List.length_cons] at hl
        rw [outW_cons] at ho
        have hWl : W.length + ((pO N e).length + (outW N w).length) ≤ 700 := by
          have := congrArg List.length ho
          rw [List.length_append, List.length_append] at this
          omega
        refine h17 _ _ ?_
        intro P105 _
        rw [if_neg (show ¬ (10000 : Int32) ≤ zi t from nle_zi' (n := 10000) (by omega)), j2, List.length_cons, if_neg (show ¬ zi (w.length + 1) ≤ 0 from nle_zi' (k := 0) (by omega))]
        intro I6 e6
        rw [show zi (w.length + 1) - 1 = zi w.length from zi_sub (b := 1) (by omega)] at e6
        have s2 : I6.1 97 2 = zi w.length := by rw [e6, zu_self]
        have s3 : I6.1 97 3 = zi W.length := by
          rw [e6, zu_at, if_neg (by omega)]
          exact j3
        have sS : StkW I6 w := jS.2.kp (fun j _ => by rw [e6, zu_oo (by decide)])
        have sO : OutX (a2 + 1) I6 W := fun i v hi => by
          rw [e6, zu_oo (by omega)]
          exact jO i v hi
        have q6 : eqQ (Qpw (a2 + 1)) I I6 := by
          rw [e6]
          exact q.zu (Or.inl ⟨rfl, Or.inl rfl⟩)
        refine (w_get (by decide)).mpr ?_
        rw [s2, rg_in (by decide) (show w.length < 1000 by omega), show I6.1 (98 + 1) w.length = enc e by rw [e6, zu_oo (by decide)]; exact jS.1]
        intro P99 h99
        have nx : ∀ (w' : List Nat) (W' : List Int32) (L : zI), sT N w' + 1 ≤ mT N e + sT N w → EnW m N w' → W' ++ outW N w' = prt N c0 → L.1 97 2 = zi w'.length → L.1 97 3 = zi W'.length → StkW L w' → OutX (a2 + 1) L W' → eqQ (Qpw (a2 + 1)) I L → P99 L := fun w' W' L u1 u2 u3 u4 u5 u6 u7 u8 => h99 L (fun v ev => by
          rw [ev, zi_succ]
          exact ih w' W' (t + 1) L (by omega) (by omega) u2 u3 u4 u5 u6 u7 u8)
        -- a byte
        have byte : ∀ b : Int32, pO N e = [b] → w_Printer_writeByte b a2 700 I6 (fun I_14 => P99 I_14) := by
          intro b hpb
          rw [hpb] at hWl ho
          have hWl' : W.length + (1 + (outW N w).length) ≤ 700 := hWl
          refine s_wByte hb s3 (by omega) sO (fun A qA a3 aO => ?_)
          refine nx w (W ++ [b]) A (by omega) hw' (by rw [List.append_assoc]; exact ho) ?_ a3 (sS.kp (fun j _ => qA.1 99 j (by unfold Qob; omega))) aO (q6.tr (qo qA))
          rw [qA.1 97 2 (by unfold Qob; omega)]
          exact s2
        rcases hw e (List.mem_cons_self ..) with rfl | rfl | ⟨c, rfl, hcm, hcy⟩
        · rw [show enc 40 = -41 from rfl, if_neg (show ¬ (0 : Int32) ≤ -41 by decide), show (-1 : Int32) - (-41) = 40 by decide]
          exact byte 40 rfl
        · rw [show enc 41 = -42 from rfl, if_neg (show ¬ (0 : Int32) ≤ -42 by decide), show (-1 : Int32) - (-42) = 41 by decide]
          exact byte 41 rfl
        · rw [enc_nd, if_pos (zi_ge (by omega))]
          rw [mT_nd] at nx hf ht hl
          rw [pO_nd] at ho hWl
          refine s_isToken (rp I6 q6) hN hm hcm ?_
          by_cases hr : ndR (N c) < 0
          · rw [if_pos hr, if_neg (show ¬ (1 : Int32) = 0 by decide)]
            have hp : prt N c = ndY (N c) := by rw [prt_eq hN hcm, if_pos hr]
            rw [hp] at ho hWl
            have hself : c ∈ yl N c := by
              rw [yl_eq hN hcm, if_pos hr]
              exact List.mem_singleton.mpr rfl
            refine s_wToken hb (rp I6 q6) hN hm hcm hr (hcy c hself) s3 (by rw [List.length_append]; omega) sO (fun A qA a3 aO => ?_)
            have := sz_pos hN hcm
            refine nx w (W ++ ndY (N c)) A (by omega) hw' (by rw [List.append_assoc]; exact ho) ?_ a3 (sS.kp (fun j _ => qA.1 99 j (by unfold Qob; omega))) aO (q6.tr (qo qA))
            rw [qA.1 97 2 (by unfold Qob; omega)]
            exact s2
          · rw [if_neg hr, if_pos (show (0 : Int32) = 0 from rfl)]
            obtain ⟨o1, o2, o3⟩ := opn_ok hN hcm hr hcy hw'
            refine s_openUp (rp I6 q6) hN hm hcm hr s2 (by omega) sS (fun A qA a2' aS => ?_)
            refine nx (opn N c w) W A o2 o3 (by rw [o1]; exact ho) a2' ?_ aS (fun i v hi => ?_) (q6.tr (qs qA))
            · rw [qA.1 97 3 (by unfold Qst; omega)]
              exact s3
            · rw [qA.1 (a2 + 1) i (by unfold Qst; omega)]
              exact sO i v hi
  have z3 : I3.1 97 3 = zi ([] : List Int32).length := by
    rw [q3.1 97 3 (by unfold Qst; omega), e2, zu_at, if_neg (by omega), e1, zu_self]
    rfl
  refine main (sT N [1000 + c0]) [1000 + c0] [] 0 I3 (Nat.le_refl _) ?_ (fun x hx => ?_) ?_ g2 z3 gS (fun i v hi => by cases hi) (q2.tr (qs q3))
  · rw [sT_cons, mT_nd]
    show 0 + (3 * sz N c0 + 0) ≤ 900
    omega
  · cases List.mem_singleton.mp hx
    exact Or.inr (Or.inr ⟨c0, rfl, hc, hy⟩)
  · rw [outW_cons, pO_nd]
    exact List.append_nil _
/-- a node by a RULE has the CHILDREN of its right side -/
theorem NdOk.child {m c r k y : Nat} {N : Nat → Nd} (h : NdOk m N) (hc : c < m) (hr : ndR (N c) = (r : Int)) (hk : (rhS r)[k]? = some y) : ∃ z, (ndC (N c))[k]? = some z ∧ ndM (N z) = y ∧ z < c := by
  rcases h c hc with ⟨e1, -⟩ | ⟨r', s, -, -, e3, -, -, e6, e7, -⟩
  · omega
  · have : r' = r := by omega
    subst this
    rw [← e6, List.getElem?_map] at hk
    cases hz : (ndC (N c))[k]? with
    | none =>
      rw [hz] at hk
      cases hk
    | some z =>
      rw [hz] at hk
      exact ⟨z, rfl, Option.some.inj hk, e7 z (List.mem_of_getElem? hz)⟩
/-- the NAMES' values, in the model -/
def nmV (N : Nat → Nd) (z : Nat) : Int64 := isV (bsF (ndY (N z))) (ndK (N z), 0, (ndY (N z)).length)
/-! ===== an INT's number, the class ===== -/
theorem nat_d0 {N m k : Nat} (hk : m ≤ k) (hk3 : k < 4) (hm : 1 ≤ m) : N * 256 ^ (4 - m) / 256 ^ (3 - k) % 256 = 0 := by
  rcases (by omega : (m = 1 ∧ k = 1) ∨ (m = 1 ∧ k = 2) ∨ (m = 1 ∧ k = 3) ∨ (m = 2 ∧ k = 2) ∨ (m = 2 ∧ k = 3) ∨ (m = 3 ∧ k = 3)) with ⟨rfl, rfl⟩ | ⟨rfl, rfl⟩ | ⟨rfl, rfl⟩ | ⟨rfl, rfl⟩ | ⟨rfl, rfl⟩ | ⟨rfl, rfl⟩
  · show N * 16777216 / 65536 % 256 = 0
    omega
  · show N * 16777216 / 256 % 256 = 0
    omega
  · show N * 16777216 / 1 % 256 = 0
    omega
  · show N * 65536 / 256 % 256 = 0
    omega
  · show N * 65536 / 1 % 256 = 0
    omega
  · show N * 256 / 1 % 256 = 0
    omega
theorem un_no {t : Nat → Int32} {s m k : Nat} (hk : m ≤ k) (hk3 : k < 4) (hm : 1 ≤ m) (h : ∀ j, j < m → byt (t (s + j))) : (((pkR t s m).toUInt32 >>> ((zi (24 - 8 * k)).toUInt32 &&& Int32.toUInt32 31)).toInt32) &&& 255 = 0 := by
  have e := pk_nat m (by omega) h
  have w := nat_d0 (N := natV 256 (fun j => dg 0 (t (s + j))) m) hk hk3 hm
  refine Int32.toBitVec_inj.mp (BitVec.eq_of_toNat_eq ?_)
  rw [show (0 : Int32).toBitVec.toNat = 0 from rfl]
  rcases (by omega : k = 1 ∨ k = 2 ∨ k = 3) with rfl | rfl | rfl
  · rw [show (zi (24 - 8 * 1)).toUInt32 &&& Int32.toUInt32 31 = 16 by decide, ur_16, e]
    exact w
  · rw [show (zi (24 - 8 * 2)).toUInt32 &&& Int32.toUInt32 31 = 8 by decide, ur_8, e]
    exact w
  · rw [show (zi (24 - 8 * 3)).toUInt32 &&& Int32.toUInt32 31 = 0 by decide, ur_0, e]
    exact w
theorem un_yes {t : Nat → Int32} {s m k : Nat} (hk : k < m) (hm : m ≤ 4) (h : ∀ j, j < m → byt (t (s + j))) : (((pkR t s m).toUInt32 >>> ((zi (24 - 8 * k)).toUInt32 &&& Int32.toUInt32 31)).toInt32) &&& 255 = t (s + k) := by
  rw [← un_pk hk hm h (a := zi k) (Or.inl rfl)]
  rcases (by omega : k = 0 ∨ k = 1 ∨ k = 2 ∨ k = 3) with rfl | rfl | rfl | rfl
  · rw [show (24 - (8 * (zi 0 &&& 3)) : Int32) = zi (24 - 8 * 0) by decide]
  · rw [show (24 - (8 * (zi 1 &&& 3)) : Int32) = zi (24 - 8 * 1) by decide]
  · rw [show (24 - (8 * (zi 2 &&& 3)) : Int32) = zi (24 - 8 * 2) by decide]
  · rw [show (24 - (8 * (zi 3 &&& 3)) : Int32) = zi (24 - 8 * 3) by decide]
theorem s_numberOf {t : Nat → Int32} {s m : Nat} {I : zI} {K : Int32 → Prop} (hm1 : 1 ≤ m) (hm : m ≤ 4) (h : ∀ j, j < m → isD (t (s + j)) = true) (hK : K (zi (natV 10 (fun j => dg 48 (t (s + j))) m))) : w_Runner_numberOf (pkR t s m) I K := by
  have hb : ∀ j, j < m → byt (t (s + j)) := fun j hj => by
    obtain ⟨d, d1, d2⟩ := isD_zi (h j hj)
    exact ⟨48 + d, by omega, d2⟩
  intro P5 h5
  have st : ∀ (k : Nat) (v : Int32), k < 4 → P5 (zi (natV 10 (fun j => dg 48 (t (s + j))) (min (k + 1) m))) (zi (24 - 8 * k) + (-8)) → v = zi (natV 10 (fun j => dg 48 (t (s + j))) (min k m)) → P5 v (zi (24 - 8 * k)) := by
    intro k v hk hn hv
    refine h5 _ _ ?_
    rw [if_neg (zi_pos (by omega))]
    intro v3 ev3 P34 h34
    by_cases c : k < m
    · rw [un_yes c hm hb] at ev3
      obtain ⟨d1, d2⟩ := dg_D (h k c)
      rw [Nat.min_eq_left (by omega : k ≤ m)] at hv
      rw [Nat.min_eq_left (by omega : k + 1 ≤ m)] at hn
      rw [ev3, if_neg (show ¬ t (s + k) = 0 from fun u => by
        rw [d2] at u
        have := (zi_eq (b := 0) (by omega) (by decide)).mp u
        omega)]
      refine h34 _ (fun v2 ev2 => ?_)
      rw [ev2]
      have e : (v * 10 + t (s + k)) - 48 = zi (natV 10 (fun j => dg 48 (t (s + j))) (k + 1)) := by
        rw [hv, d2, show (10 : Int32) = zi 10 from rfl, show (48 : Int32) = zi 48 from rfl, zi_mul, zi_add, zi_sub (by omega)]
        show _ = zi (10 * natV 10 (fun j => dg 48 (t (s + j))) k + dg 48 (t (s + k)))
        congr 1
        omega
      rw [e]
      exact hn
    · rw [un_no (by omega) hk hm1 hb] at ev3
      rw [Nat.min_eq_right (by omega : m ≤ k)] at hv
      rw [Nat.min_eq_right (by omega : m ≤ k + 1)] at hn
      rw [ev3, if_pos rfl]
      refine h34 _ (fun v2 ev2 => ?_)
      rw [ev2, hv]
      exact hn
  refine st 0 0 (by decide) ?_ (by rw [Nat.zero_min]; rfl)
  refine st 1 _ (by decide) ?_ rfl
  refine st 2 _ (by decide) ?_ rfl
  refine st 3 _ (by decide) ?_ rfl
  refine h5 _ _ ?_
  rw [if_pos (show zi (24 - 8 * 3) + (-8) < 0 by decide), Nat.min_eq_right (by omega : m ≤ 3 + 1)]
  exact hK
/-! ===== what a node is worth ===== -/
def chN (x : Nd) (k : Nat) : Nat := (ndC x).getD k 0
/-- an INT's number -/
def numY (x : Nd) : Int32 := zi (natV 10 (fun j => dg 48 (bsF (ndY x) j)) (ndY x).length)
/-- en: what each NAME is -/
def evF (N : Nat → Nd) (en : Int64 → Int32) : Nat → Nat → Int32
  | 0, _ => 0
  | d + 1, c => if ndR (N c) = 4 then evF N en d (chN (N c) 0) + evF N en d (chN (N c) 2) else if ndR (N c) = 5 then evF N en d (chN (N c) 0) else if ndR (N c) = 6 then evF N en d (chN (N c) 0) * evF N en d (chN (N c) 2) else if ndR (N c) = 7 then evF N en d (chN (N c) 0) else if ndR (N c) = 8 then en (nmV N (chN (N c) 0)) else if ndR (N c) = 9 then numY (N (chN (N c) 0)) else if ndR (N c) = 10 then evF N en d (chN (N c) 1) else 0
theorem chN_is {m c r k y : Nat} {N : Nat → Nd} (h : NdOk m N) (hc : c < m) (hr : ndR (N c) = (r : Int)) (hk : (rhS r)[k]? = some y) : (ndC (N c))[k]? = some (chN (N c) k) ∧ ndM (N (chN (N c) k)) = y ∧ chN (N c) k < c := by
  obtain ⟨z, z1, z2, z3⟩ := h.child hc hr hk
  have e : chN (N c) k = z := by
    unfold chN
    rw [List.getD_eq_getElem?_getD, z1]
    rfl
  rw [e]
  exact ⟨z1, z2, z3⟩
theorem evF_fu {m : Nat} {N : Nat → Nd} {en : Int64 → Int32} (h : NdOk m N) : ∀ (d d' c : Nat), c < m → c < d → c < d' → evF N en d' c = evF N en d c
  | 0, _, c, _, h1, _ => by omega
  | _ + 1, 0, c, _, _, h2 => by omega
  | d + 1, d' + 1, c, hc, h1, h2 => by
    have cl : ∀ (r k y : Nat), ndR (N c) = (r : Int) → (rhS r)[k]? = some y → evF N en d' (chN (N c) k) = evF N en d (chN (N c) k) := fun r k y hr hk => by
      obtain ⟨-, -, z3⟩ := chN_is h hc hr hk
      exact evF_fu h d d' _ (by omega) (by omega) (by omega)
    show (if ndR (N c) = 4 then evF N en d' (chN (N c) 0) + evF N en d' (chN (N c) 2) else if ndR (N c) = 5 then evF N en d' (chN (N c) 0) else if ndR (N c) = 6 then evF N en d' (chN (N c) 0) * evF N en d' (chN (N c) 2) else if ndR (N c) = 7 then evF N en d' (chN (N c) 0) else if ndR (N c) = 8 then en (nmV N (chN (N c) 0)) else if ndR (N c) = 9 then numY (N (chN (N c) 0)) else if ndR (N c) = 10 then evF N en d' (chN (N c) 1) else 0) = (if ndR (N c) = 4 then evF N en d (chN (N c) 0) + evF N en d (chN (N c) 2) else if ndR (N c) = 5 then evF N en d (chN (N c) 0) else if ndR (N c) = 6 then evF N en d (chN (N c) 0) * evF N en d (chN (N c) 2) else if ndR (N c) = 7 then evF N en d (chN (N c) 0) else if ndR (N c) = 8 then en (nmV N (chN (N c) 0)) else if ndR (N c) = 9 then numY (N (chN (N c) 0)) else if ndR (N c) = 10 then evF N en d (chN (N c) 1) else 0)
    by_cases r4 : ndR (N c) = 4
    · rw [if_pos r4, if_pos r4, cl 4 0 2 r4 rfl, cl 4 2 3 r4 rfl]
    rw [if_neg r4, if_neg r4]
    by_cases r5 : ndR (N c) = 5
    · rw [if_pos r5, if_pos r5, cl 5 0 3 r5 rfl]
    rw [if_neg r5, if_neg r5]
    by_cases r6 : ndR (N c) = 6
    · rw [if_pos r6, if_pos r6, cl 6 0 3 r6 rfl, cl 6 2 4 r6 rfl]
    rw [if_neg r6, if_neg r6]
    by_cases r7 : ndR (N c) = 7
    · rw [if_pos r7, if_pos r7, cl 7 0 4 r7 rfl]
    rw [if_neg r7, if_neg r7]
    by_cases r10 : ndR (N c) = 10
    · rw [cl 10 1 2 r10 rfl]
    · rw [if_neg r10, if_neg r10]
/-- what a node is worth -/
def evN (N : Nat → Nd) (en : Int64 → Int32) (c : Nat) : Int32 := evF N en (c + 1) c
theorem evN_eq {m c : Nat} {N : Nat → Nd} {en : Int64 → Int32} (h : NdOk m N) (hc : c < m) : evN N en c = if ndR (N c) = 4 then evN N en (chN (N c) 0) + evN N en (chN (N c) 2) else if ndR (N c) = 5 then evN N en (chN (N c) 0) else if ndR (N c) = 6 then evN N en (chN (N c) 0) * evN N en (chN (N c) 2) else if ndR (N c) = 7 then evN N en (chN (N c) 0) else if ndR (N c) = 8 then en (nmV N (chN (N c) 0)) else if ndR (N c) = 9 then numY (N (chN (N c) 0)) else if ndR (N c) = 10 then evN N en (chN (N c) 1) else 0 := by
  have cl : ∀ (r k y : Nat), ndR (N c) = (r : Int) → (rhS r)[k]? = some y → evF N en c (chN (N c) k) = evN N en (chN (N c) k) := fun r k y hr hk => by
    obtain ⟨-, -, z3⟩ := chN_is h hc hr hk
    exact evF_fu h _ _ _ (by omega) (Nat.lt_succ_self _) z3
  show (if ndR (N c) = 4 then evF N en c (chN (N c) 0) + evF N en c (chN (N c) 2) else if ndR (N c) = 5 then evF N en c (chN (N c) 0) else if ndR (N c) = 6 then evF N en c (chN (N c) 0) * evF N en c (chN (N c) 2) else if ndR (N c) = 7 then evF N en c (chN (N c) 0) else if ndR (N c) = 8 then en (nmV N (chN (N c) 0)) else if ndR (N c) = 9 then numY (N (chN (N c) 0)) else if ndR (N c) = 10 then evF N en c (chN (N c) 1) else 0) = _
  by_cases r4 : ndR (N c) = 4
  · rw [if_pos r4, if_pos r4, cl 4 0 2 r4 rfl, cl 4 2 3 r4 rfl]
  rw [if_neg r4, if_neg r4]
  by_cases r5 : ndR (N c) = 5
  · rw [if_pos r5, if_pos r5, cl 5 0 3 r5 rfl]
  rw [if_neg r5, if_neg r5]
  by_cases r6 : ndR (N c) = 6
  · rw [if_pos r6, if_pos r6, cl 6 0 3 r6 rfl, cl 6 2 4 r6 rfl]
  rw [if_neg r6, if_neg r6]
  by_cases r7 : ndR (N c) = 7
  · rw [if_pos r7, if_pos r7, cl 7 0 4 r7 rfl]
  rw [if_neg r7, if_neg r7]
  by_cases r10 : ndR (N c) = 10
  · rw [cl 10 1 2 r10 rfl]
  · rw [if_neg r10, if_neg r10]
/-! ===== all is RUN: as a function ===== -/
def up6 {α : Type} (f : Int64 → α) (v : Int64) (a : α) : Int64 → α := fun w => if w = v then a else f w
theorem up6_s {α : Type} {f : Int64 → α} {v : Int64} {a : α} : up6 f v a v = a := if_pos rfl
theorem up6_o {α : Type} {f : Int64 → α} {v w : Int64} {a : α} (h : ¬ w = v) : up6 f v a w = f w := if_neg h
/-- the NAME that a node begins with -/
def nmC (N : Nat → Nd) (c : Nat) : Int64 := nmV N (chN (N c) 0)
/-- of each NAME the place where it was set, if it was not read since; of each token what is known of its NAME -/
abbrev UaZ : Type := (Int64 → Option Nat) × (Nat → Int32)
def nt1 (N : Nat → Nd) (L : Int64 → Int32) (y : Fl) (u : UaZ) : UaZ := if ndR (N y.1) = 8 then (up6 u.1 (nmC N y.1) none, fun i => if i = y.2.2.1.toNat then L (nmC N y.1) else u.2 i) else u
def ntR (N : Nat → Nd) (L : Int64 → Int32) : List Fl → UaZ → UaZ
  | [], u => u
  | y :: l, u => ntR N L l (nt1 N L y u)
/-- what NAMES are, which S set them last, how often they were set, where the idle ones were set -/
abbrev RuZ : Type := (Int64 → Int32) × (Int64 → Int32) × (Int64 → Nat) × List Nat × UaZ
def ruE (u : RuZ) : Int64 → Int32 := u.1
def ruL (u : RuZ) : Int64 → Int32 := u.2.1
def ruT (u : RuZ) : Int64 → Nat := u.2.2.1
def ruD (u : RuZ) : List Nat := u.2.2.2.1
def ruQ (u : RuZ) : UaZ := u.2.2.2.2
def ru0 : RuZ := (fun _ => 0, fun _ => -2, fun _ => 0, [], fun _ => none, fun _ => -2)
def ruN1 (N : Nat → Nd) (l : List Fl) (u : RuZ) : RuZ := (ruE u, ruL u, ruT u, ruD u, ntR N (ruL u) l (ruQ u))
def dnD (D : List Nat) : Option Nat → List Nat
  | some q => D ++ [q]
  | none => D
def ruS1 (N : Nat → Nd) (p s : Nat) (w : Int32) (u : RuZ) : RuZ :=
  (up6 (ruE u) (nmC N s) w, up6 (ruL u) (nmC N s) (zi s), up6 (ruT u) (nmC N s) (ruT u (nmC N s) + 1), dnD (ruD u) ((ruQ u).1 (nmC N s)), up6 (ruQ u).1 (nmC N s) (some p), (ruQ u).2)
def ruS (N : Nat → Nd) (F : List Fl) (p s : Nat) (u : RuZ) : RuZ := ruS1 N p s (evN N (ruE u) (chN (N s) 2)) (ruN1 N ((F.drop (p + 3)).take (sz N (chN (N s) 2))) u)
def ruAt (N : Nat → Nd) (F : List Fl) : Nat → RuZ
  | 0 => ru0
  | p + 1 => match F[p]? with
    | some x => if ndR (N x.1) = 2 then ruS N F p x.1 (ruAt N F p) else ruAt N F p
    | none => ruAt N F p
theorem ruAt_s {N : Nat → Nd} {F : List Fl} {p : Nat} {x : Fl} (h : F[p]? = some x) : ruAt N F (p + 1) = if ndR (N x.1) = 2 then ruS N F p x.1 (ruAt N F p) else ruAt N F p := by
  show (match F[p]? with | some x => if ndR (N x.1) = 2 then ruS N F p x.1 (ruAt N F p) else ruAt N F p | none => ruAt N F p) = _
  rw [h]
def ruN (N : Nat → Nd) (R : Nat) : RuZ := ruAt N (flR N R) (flR N R).length
def uI : Option Nat → Int32
  | some p => zi p
  | none => -2
def mnD : List Nat → Nat
  | [] => 400
  | q :: l => min q (mnD l)
theorem mnD_le : ∀ {l : List Nat}, mnD l ≤ 400
  | [] => Nat.le_refl _
  | q :: l => by
    have := mnD_le (l := l)
    show min q (mnD l) ≤ 400
    omega
theorem mnD_sn {q : Nat} (hq : q ≤ 400) : ∀ {l : List Nat}, mnD (l ++ [q]) = min q (mnD l)
  | [] => rfl
  | a :: l => by
    show min a (mnD (l ++ [q])) = min q (min a (mnD l))
    rw [mnD_sn hq]
    omega
/-- which one of the tokens alike is the first -/
def ixNm (N : Nat → Nd) (v : Int64) : List Nat → Nat
  | [] => 0
  | z :: l => if ndM (N z) = 5 ∧ nmV N z = v then 0 else ixNm N v l + 1
theorem ixN_is {N : Nat → Nd} {v : Int64} : ∀ {l : List Nat} {z : Nat}, z ∈ l → ndM (N z) = 5 → nmV N z = v → ∃ w, l[ixNm N v l]? = some w ∧ ndM (N w) = 5 ∧ nmV N w = v
  | [], _, hz, _, _ => by cases hz
  | a :: l, z, hz, h5, hv => by
    unfold ixNm
    by_cases u : ndM (N a) = 5 ∧ nmV N a = v
    · rw [if_pos u]
      exact ⟨a, rfl, u.1, u.2⟩
    · rw [if_neg u]
      rcases List.mem_cons.mp hz with rfl | hz
      · exact absurd ⟨h5, hv⟩ u
      · obtain ⟨w, w1, w2, w3⟩ := ixN_is hz h5 hv
        exact ⟨w, by rw [List.getElem?_cons_succ]; exact w1, w2, w3⟩
theorem ixN_no {N : Nat → Nd} {v : Int64} : ∀ {l : List Nat} {j w : Nat}, j < ixNm N v l → l[j]? = some w → ¬ (ndM (N w) = 5 ∧ nmV N w = v)
  | [], j, w, hj, _ => by
    change j < 0 at hj
    omega
  | a :: l, j, w, hj, hw => by
    unfold ixNm at hj
    by_cases u : ndM (N a) = 5 ∧ nmV N a = v
    · rw [if_pos u] at hj
      omega
    · rw [if_neg u] at hj
      cases j with
      | zero =>
        cases hw
        exact u
      | succ j =>
        rw [List.getElem?_cons_succ] at hw
        exact ixN_no (by omega) hw
theorem ixN_lt {N : Nat → Nd} {l : List Nat} {z : Nat} (hz : z ∈ l) (h5 : ndM (N z) = 5) : ixNm N (nmV N z) l < l.length := by
  obtain ⟨w, w1, -⟩ := ixN_is hz h5 rfl
  exact (List.getElem?_eq_some_iff.mp w1).1
theorem ixN_inj {N : Nat → Nd} {l : List Nat} {y z : Nat} (hy : y ∈ l) (hy5 : ndM (N y) = 5) (hz : z ∈ l) (hz5 : ndM (N z) = 5) (h : ixNm N (nmV N y) l = ixNm N (nmV N z) l) : nmV N y = nmV N z := by
  obtain ⟨w, w1, -, w3⟩ := ixN_is hy hy5 rfl
  obtain ⟨w', v1, -, v3⟩ := ixN_is hz hz5 rfl
  rw [h, v1] at w1
  cases w1
  rw [← w3, v3]
/-! ===== what is needed of nodes laid flat ===== -/
theorem ru4_fin : ∀ r, r < 11 → (syN r = 2 ∨ syN r = 3 ∨ syN r = 4) → 4 ≤ r := by decide +kernel
theorem ru4 {m c : Nat} {N : Nat → Nd} (hN : NdOk m N) (hc : c < m) (h : ndM (N c) = 2 ∨ ndM (N c) = 3 ∨ ndM (N c) = 4) : 4 ≤ ndR (N c) := by
  rcases hN c hc with ⟨e1, -⟩ | ⟨r, s, hr, -, e3, -⟩
  · unfold ndM at h
    rw [e1, if_pos (by decide)] at h
    omega
  · have hM : ndM (N c) = syN r := by
      unfold ndM
      rw [e3, if_neg (by omega)]
      rfl
    rw [hM] at h
    have := ru4_fin r hr h
    omega
theorem sz_tk {m c : Nat} {N : Nat → Nd} (hN : NdOk m N) (hc : c < m) (h : 5 ≤ ndM (N c)) : sz N c = 1 := by
  have h1 := (nd_tk5 hN hc h).1
  rcases hN c hc with ⟨-, e2, -⟩ | ⟨r, s, hr, -, e3, -⟩
  · rw [sz_eq hN hc, e2]
    rfl
  · omega
theorem szS_t1 {N : Nat → Nd} {l : List Nat} {a : Nat} (h : l[0]? = some a) : szS N (l.take 1) = sz N a := by
  cases l with
  | nil => cases h
  | cons x l =>
    have e : x = a := Option.some.inj h
    rw [e]
    show sz N a + 0 = sz N a
    omega
theorem szS_t2 {N : Nat → Nd} {l : List Nat} {a b : Nat} (h : l[0]? = some a) (h1 : l[1]? = some b) : szS N (l.take 2) = sz N a + sz N b := by
  cases l with
  | nil => cases h
  | cons x l =>
    have e : x = a := Option.some.inj h
    rw [e]
    cases l with
    | nil => cases h1
    | cons y l =>
      have e1 : y = b := Option.some.inj h1
      rw [e1]
      show sz N a + (sz N b + 0) = _
      omega
theorem fl_szin {m c q p t dep i : Nat} {N : Nat → Nd} {x : Fl} (hN : NdOk m N) (hc : c < m) (hx : (fl N c q p t dep)[i]? = some x) : x.1 < m ∧ 1 ≤ sz N x.1 ∧ i + sz N x.1 ≤ sz N c := by
  obtain ⟨b1, -, o, -, -, -, e6⟩ := fl_in hN c hc _ _ _ _ _ _ hx
  have hxm : x.1 < m := by omega
  have hp := sz_pos hN hxm
  refine ⟨hxm, hp, ?_⟩
  have h6 := e6 (sz N x.1 - 1) (by omega)
  have h7 : (fl N x.1 x.2.1 (p + i) (t + o) x.2.2.2.1)[sz N x.1 - 1]? = some ((fl N x.1 x.2.1 (p + i) (t + o) x.2.2.2.1)[sz N x.1 - 1]'(by rw [fl_len hN _ hxm]; omega)) := List.getElem?_eq_getElem _
  rw [h7] at h6
  have h8 := (List.getElem?_eq_some_iff.mp h6).1
  rw [fl_len hN c hc] at h8
  omega
theorem sub_in {m R p q : Nat} {N : Nat → Nd} {x y : Fl} (hN : NdOk m N) (hR : R < m) (hx : (flR N R)[p]? = some x) (hy : (flR N R)[q]? = some y) (h1 : p ≤ q) (h2 : q < p + sz N x.1) : q + sz N y.1 ≤ p + sz N x.1 := by
  obtain ⟨b1, -, o, -, -, -, e6⟩ := fl_in hN R hR _ _ _ _ _ _ hx
  have h6 := e6 (q - p) (by omega)
  rw [show p + (q - p) = q by omega] at h6
  have hy' : (fl N R 0 0 0 1)[q]? = some y := hy
  rw [hy'] at h6
  have := (fl_szin hN (by omega) h6.symm).2.2
  omega
/-- a node's CHILD has its place -/
theorem kidP {m R p k z : Nat} {N : Nat → Nd} {x : Fl} (hN : NdOk m N) (hR : R < m) (hx : (flR N R)[p]? = some x) (hk : (ndC (N x.1))[k]? = some z) : ∃ y, (flR N R)[p + 1 + szS N ((ndC (N x.1)).take k)]? = some y ∧ y.1 = z ∧ p + 1 + szS N ((ndC (N x.1)).take k) + sz N z ≤ p + sz N x.1 := by
  obtain ⟨i', y, e1, e2, e3, -⟩ := fl_ch hN hR hx hk
  obtain ⟨hxm, -⟩ := fl_szin hN hR hx
  rw [e1] at e2
  refine ⟨y, e2, e3, ?_⟩
  have h1 := sz_eq hN hxm
  have h2 := szS_take (N := N) hk
  omega
/-- the token that a node begins with -/
theorem fst_tok {m R p z : Nat} {N : Nat → Nd} {x : Fl} (hN : NdOk m N) (hR : R < m) (hx : (flR N R)[p]? = some x) (hk : (ndC (N x.1))[0]? = some z) (h5 : 5 ≤ ndM (N z)) : ∃ t : Nat, x.2.2.1 = (t : Int) ∧ (yl N R)[t]? = some z := by
  obtain ⟨b1, -, o, o1, o2, o3, -⟩ := fl_in hN R hR _ _ _ _ _ _ hx
  have hxm : x.1 < m := by omega
  have hz := hN.lt hxm (List.mem_of_getElem? hk)
  have hzt := (nd_tk5 hN (by omega) h5).1
  have hyz : yl N z = [z] := by rw [yl_eq hN (by omega), if_pos hzt]
  have hy : yl N x.1 = (ndC (N x.1)).flatMap (yl N) := yl_ch hN hxm hk
  have h0 : (yl N x.1)[0]? = some z := by
    rw [hy]
    cases hC : ndC (N x.1) with
    | nil =>
      rw [hC] at hk
      cases hk
    | cons a l =>
      rw [hC] at hk
      cases hk
      rw [List.flatMap_cons, hyz]
      rfl
  have hl := (List.getElem?_eq_some_iff.mp h0).1
  rw [yl_len hN _ hxm] at hl
  rw [o3, List.getElem?_take, if_pos hl, List.getElem?_drop, Nat.add_zero] at h0
  refine ⟨o, ?_, h0⟩
  rw [o2]
  show (if ndT (N x.1) = 0 then (-2 : Int) else ((0 + o : Nat) : Int)) = _
  rw [if_neg (by omega), Nat.zero_add]
theorem rl_eq {m c r : Nat} {N : Nat → Nd} (hN : NdOk m N) (hc : c < m) (hr : r < 100) : Int32.ofInt (ndR (N c)) = zi r ↔ ndR (N c) = (r : Int) := by
  constructor
  · intro w
    rcases hN c hc with ⟨f1, -⟩ | ⟨r0, s', f1, -, f3, -⟩
    · rw [f1] at w
      have h0 : Int32.ofInt (-2) < 0 := by decide
      rw [w] at h0
      exact absurd h0 (zi_pos (by omega))
    · rw [f3, zi_int] at w
      have := (zi_eq (by omega) (by omega)).mp w
      rw [f3]
      omega
  · intro u
    rw [u, zi_int]
/-- what the RUNNER needs of NAMES and INTS -/
def tkZ (x : Nd) : Prop := (ndK x = 0 → 1 ≤ (ndY x).length ∧ (ndY x).length ≤ 8 ∧ ∀ j, j < (ndY x).length → isL (bsF (ndY x) j) = true) ∧ (ndK x = 1 → 1 ≤ (ndY x).length ∧ (ndY x).length ≤ 4 ∧ ∀ j, j < (ndY x).length → isD (bsF (ndY x) j) = true)
/-- what the class has when it RUNS -/
def ClZ (I : zI) (m : Nat) (N : Nat → Nd) (R : Nat) : Prop :=
  RepNX I m N ∧ NdOk m N ∧ m ≤ 3400 ∧ R < m ∧ (flR N R).length ≤ 399 ∧ (yl N R).length ≤ 99 ∧ (∀ (p : Nat) (x : Fl), (flR N R)[p]? = some x → I.1 45 p = zi x.1 ∧ I.1 51 p = Int32.ofInt x.2.2.1 ∧ I.1 55 p = zi (sz N x.1)) ∧ I.1 43 12 = zi (flR N R).length ∧ ∀ z, z ∈ yl N R → tkZ (N z)
theorem ClZ.kp {I J : zI} {m R : Nat} {N : Nat → Nd} (h : ClZ I m N R) (q : eqQ Qrr I J) : ClZ J m N R := by
  obtain ⟨rep, hN, hm, hR, hl, hL, fr, f12, tz⟩ := h
  refine ⟨rep.kp hN.ch (fun a j u1 u2 _ => q.1 a j (by unfold Qrr; omega)), hN, hm, hR, hl, hL, fun p x hx => ?_, by rw [q.1 _ _ (by unfold Qrr; omega)]; exact f12, tz⟩
  rw [q.1 45 p (by unfold Qrr; omega), q.1 51 p (by unfold Qrr; omega), q.1 55 p (by unfold Qrr; omega)]
  exact fr p x hx
def NaX (I : zI) (N : Nat → Nd) (L : List Nat) : Prop := ∀ i z : Nat, L[i]? = some z → ndM (N z) = 5 → I.1 71 i = zi (ixNm N (nmV N z) L)
def EnX (I : zI) (N : Nat → Nd) (L : List Nat) (en : Int64 → Int32) : Prop := ∀ z, z ∈ L → ndM (N z) = 5 → I.1 73 (ixNm N (nmV N z) L) = en (nmV N z)
def RoX (I : zI) (N : Nat → Nd) (L : List Nat) (u : RuZ) : Prop :=
  EnX I N L (ruE u) ∧ (∀ z, z ∈ L → ndM (N z) = 5 → I.1 75 (ixNm N (nmV N z) L) = zi (ruT u (nmV N z)) ∧ I.1 77 (ixNm N (nmV N z) L) = ruL u (nmV N z) ∧ I.1 79 (ixNm N (nmV N z) L) = uI ((ruQ u).1 (nmV N z))) ∧
  (∀ i, i < 100 → I.1 81 i = (ruQ u).2 i) ∧ I.1 69 12 = zi (ruD u).length ∧ I.1 69 13 = zi (mnD (ruD u)) ∧ ∀ v q, (ruQ u).1 v = some q → q < 400
theorem NaX.kp {I J : zI} {N : Nat → Nd} {L : List Nat} (h : NaX I N L) (e : ∀ j, J.1 71 j = I.1 71 j) : NaX J N L := fun i z hi h5 => (e i).trans (h i z hi h5)
theorem RoX.kp {I J : zI} {N : Nat → Nd} {L : List Nat} {u : RuZ} (h : RoX I N L u) (e : ∀ a j, a = 73 ∨ a = 75 ∨ a = 77 ∨ a = 79 ∨ a = 81 ∨ (a = 69 ∧ (j = 12 ∨ j = 13)) → J.1 a j = I.1 a j) : RoX J N L u := by
  obtain ⟨h1, h2, h3, h4, h5, h6⟩ := h
  refine ⟨fun z hz z5 => (e 73 _ (by omega)).trans (h1 z hz z5), fun z hz z5 => ?_, fun i hi => (e 81 i (by omega)).trans (h3 i hi), (e 69 12 (by omega)).trans h4, (e 69 13 (by omega)).trans h5, h6⟩
  rw [e 75 _ (by omega), e 77 _ (by omega), e 79 _ (by omega)]
  exact h2 z hz z5
def WoX (I : zI) (N : Nat → Nd) (F : List Fl) (en : Int64 → Int32) (lo hi : Nat) : Prop := ∀ (q : Nat) (x : Fl), lo ≤ q → q < hi → F[q]? = some x → 4 ≤ ndR (N x.1) → I.1 83 q = evN N en x.1
theorem ClZ.ix {I : zI} {m R z : Nat} {N : Nat → Nd} (cl : ClZ I m N R) (hz : z ∈ yl N R) (h5 : ndM (N z) = 5) : ixNm N (nmV N z) (yl N R) < 100 := by
  have := ixN_lt (l := yl N R) hz h5
  have := cl.2.2.2.2.2.1
  omega
/-! ===== what is at a place, the class ===== -/
theorem s_worthAt {m R p : Nat} {N : Nat → Nd} {en : Int64 → Int32} {x : Fl} {I : zI} {K : Int32 → Prop} (cl : ClZ I m N R) (na : NaX I N (yl N R)) (he : EnX I N (yl N R) en) (hx : (flR N R)[p]? = some x) (wo : WoX I N (flR N R) en (p + 1) (p + sz N x.1)) (hK : ∀ v, (4 ≤ ndR (N x.1) → v = evN N en x.1) → K v) : w_Runner_worthAt (zi p) I K := by
  have hix : ∀ z, z ∈ yl N R → ndM (N z) = 5 → ixNm N (nmV N z) (yl N R) < 100 := fun z hz h5 => cl.ix hz h5
  obtain ⟨rep, hN, hm, hR, hl, hL, fr, f12, tz⟩ := cl
  have hpl := (List.getElem?_eq_some_iff.mp hx).1
  obtain ⟨x45, x51, x55⟩ := fr p x hx
  obtain ⟨hxm, hx1, -⟩ := fl_szin hN hR hx
  -- a CHILD: its place, its size
  have kid : ∀ (k r y q : Nat), ndR (N x.1) = (r : Int) → (rhS r)[k]? = some y → q = p + 1 + szS N ((ndC (N x.1)).take k) → ∃ f, (flR N R)[q]? = some f ∧ f.1 = chN (N x.1) k ∧ ndM (N (chN (N x.1) k)) = y ∧ (ndC (N x.1))[k]? = some (chN (N x.1) k) ∧ chN (N x.1) k < m ∧ q < 400 ∧ p + 1 ≤ q ∧ q < p + sz N x.1 := by
    intro k r y q hr hk hq
    obtain ⟨c1, c2, c3⟩ := chN_is hN hxm hr hk
    obtain ⟨f, f1, f2, f3⟩ := kidP hN hR hx c1
    rw [← hq] at f1 f3
    have := (List.getElem?_eq_some_iff.mp f1).1
    have := sz_pos hN (show chN (N x.1) k < m by omega)
    exact ⟨f, f1, f2, c2, c1, by omega, by omega, by omega, by omega⟩
  have val : ∀ (k r y q : Nat), ndR (N x.1) = (r : Int) → (rhS r)[k]? = some y → (y = 2 ∨ y = 3 ∨ y = 4) → q = p + 1 + szS N ((ndC (N x.1)).take k) → rg 400 (I.1 (82 + 1)) (zi q) = evN N en (chN (N x.1) k) := by
    intro k r y q hr hk hy hq
    obtain ⟨f, f1, f2, f3, f4, f5, f6, f7, f8⟩ := kid k r y q hr hk hq
    rw [rg_in (by decide) f6]
    have h4 := ru4 hN f5 (by rw [f3]; exact hy)
    have := wo q f f7 f8 f1 (by rw [f2]; exact h4)
    rw [f2] at this
    exact this
  have k0 : p + 1 = p + 1 + szS N ((ndC (N x.1)).take 0) := by
    rw [List.take_zero]
    rfl
  intro v2 ev2
  rw [zi_succ] at ev2
  subst ev2
  refine (w_get (by decide)).mpr (fun v3 ev3 => (w_get (by decide)).mpr ?_)
  rw [rg_in (by decide) (show p < 400 by omega), show I.1 (44 + 1) p = zi x.1 from x45]
  refine (w_get (by decide)).mpr ?_
  rw [rg_in (by decide) (show x.1 < 3400 by omega), show I.1 (25 + 1) x.1 = Int32.ofInt (ndR (N x.1)) from (rep.2 x.1 hxm).1]
  intro P120 h120
  rcases hN x.1 hxm with ⟨e1, -⟩ | ⟨r, s, hr11, -, e3, -⟩
  · rw [e1, if_neg (show ¬ Int32.ofInt (-2) = 4 by decide), if_neg (show ¬ Int32.ofInt (-2) = 5 by decide), if_neg (show ¬ Int32.ofInt (-2) = 6 by decide), if_neg (show ¬ Int32.ofInt (-2) = 7 by decide), if_neg (show ¬ Int32.ofInt (-2) = 8 by decide), if_neg (show ¬ Int32.ofInt (-2) = 9 by decide), if_neg (show ¬ Int32.ofInt (-2) = 10 by decide)]
    exact hK 0 (fun u => by omega)
  have third : ∀ y0 y1, (rhS r)[0]? = some y0 → (rhS r)[1]? = some y1 → 5 ≤ y1 → ∃ q, v3 = zi q ∧ q = p + 1 + szS N ((ndC (N x.1)).take 2) := by
    intro y0 y1 h0 h1 h5
    obtain ⟨f, f1, f2, -, f4, f5, f6, -⟩ := kid 0 r y0 (p + 1) e3 h0 k0
    obtain ⟨g, -, -, g3, g4, g5, -⟩ := kid 1 r y1 _ e3 h1 rfl
    refine ⟨p + 1 + sz N (chN (N x.1) 0) + 1, ?_, ?_⟩
    · rw [ev3, rg_in (by decide) f6, show I.1 (54 + 1) (p + 1) = zi (sz N f.1) from (fr _ f f1).2.2, f2, zi_add, zi_succ]
    · rw [szS_t2 f4 g4, sz_tk hN g5 (by omega)]
      omega
  have ev := evN_eq (en := en) hN hxm
  rw [e3, zi_int r]
  have nr : ∀ b : Nat, b < 100 → r ≠ b → ¬ zi r = zi b := fun b hb hne w => hne ((zi_eq (by omega) (by omega)).mp w)
  have ni : ∀ b : Nat, r ≠ b → ¬ ndR (N x.1) = (b : Int) := fun b hne => by omega
  by_cases r4 : r = 4
  · subst r4
    obtain ⟨q, q1, q2⟩ := third 2 9 rfl rfl (by decide)
    rw [if_pos (show zi 4 = 4 from rfl)]
    refine (w_get (by decide)).mpr ((w_get (by decide)).mpr ?_)
    rw [val 0 4 2 (p + 1) e3 rfl (Or.inl rfl) k0, q1, val 2 4 3 q e3 rfl (Or.inr (Or.inl rfl)) q2]
    refine hK _ (fun _ => ?_)
    rw [ev, if_pos (show ndR (N x.1) = 4 from e3)]
  rw [if_neg (show ¬ zi r = 4 from nr 4 (by decide) r4)]
  rw [if_neg (show ¬ ndR (N x.1) = 4 from ni 4 r4)] at ev
  by_cases r5 : r = 5
  · subst r5
    rw [if_pos (show zi 5 = 5 from rfl)]
    refine h120 ((w_get (by decide)).mpr ?_)
    rw [val 0 5 3 (p + 1) e3 rfl (Or.inr (Or.inl rfl)) k0]
    refine hK _ (fun _ => ?_)
    rw [ev, if_pos (show ndR (N x.1) = 5 from e3)]
  rw [if_neg (show ¬ zi r = 5 from nr 5 (by decide) r5)]
  rw [if_neg (show ¬ ndR (N x.1) = 5 from ni 5 r5)] at ev
  by_cases r6 : r = 6
  · subst r6
    obtain ⟨q, q1, q2⟩ := third 3 10 rfl rfl (by decide)
    rw [if_pos (show zi 6 = 6 from rfl)]
    refine (w_get (by decide)).mpr ((w_get (by decide)).mpr ?_)
    rw [val 0 6 3 (p + 1) e3 rfl (Or.inr (Or.inl rfl)) k0, q1, val 2 6 4 q e3 rfl (Or.inr (Or.inr rfl)) q2]
    refine hK _ (fun _ => ?_)
    rw [ev, if_pos (show ndR (N x.1) = 6 from e3)]
  rw [if_neg (show ¬ zi r = 6 from nr 6 (by decide) r6)]
  rw [if_neg (show ¬ ndR (N x.1) = 6 from ni 6 r6)] at ev
  by_cases r7 : r = 7
  · subst r7
    rw [if_pos (show zi 7 = 7 from rfl)]
    refine h120 ((w_get (by decide)).mpr ?_)
    rw [val 0 7 4 (p + 1) e3 rfl (Or.inr (Or.inr rfl)) k0]
    refine hK _ (fun _ => ?_)
    rw [ev, if_pos (show ndR (N x.1) = 7 from e3)]
  rw [if_neg (show ¬ zi r = 7 from nr 7 (by decide) r7)]
  rw [if_neg (show ¬ ndR (N x.1) = 7 from ni 7 r7)] at ev
  by_cases r8 : r = 8
  · subst r8
    rw [if_pos (show zi 8 = 8 from rfl)]
    obtain ⟨f, f1, f2, f3, f4, f5, f6, -⟩ := kid 0 8 5 (p + 1) e3 rfl k0
    obtain ⟨t, t1, t2⟩ := fst_tok hN hR hx f4 (by omega)
    have htl := (List.getElem?_eq_some_iff.mp t2).1
    have hmem := List.mem_of_getElem? t2
    refine (w_get (by decide)).mpr ?_
    rw [rg_in (by decide) (show p < 400 by omega), show I.1 (50 + 1) p = zi t by rw [show I.1 (50 + 1) p = Int32.ofInt x.2.2.1 from x51, t1, zi_int]]
    refine (w_get (by decide)).mpr ?_
    rw [rg_in (by decide) (show t < 100 by omega), show I.1 (70 + 1) t = _ from na t _ t2 f3]
    refine (w_get (by decide)).mpr ?_
    rw [rg_in (by decide) (hix _ hmem f3), show I.1 (72 + 1) _ = _ from he _ hmem f3]
    refine hK _ (fun _ => ?_)
    rw [ev, if_pos (show ndR (N x.1) = 8 from e3)]
  rw [if_neg (show ¬ zi r = 8 from nr 8 (by decide) r8)]
  rw [if_neg (show ¬ ndR (N x.1) = 8 from ni 8 r8)] at ev
  by_cases r9 : r = 9
  · subst r9
    rw [if_pos (show zi 9 = 9 from rfl)]
    obtain ⟨f, f1, f2, f3, f4, f5, f6, -⟩ := kid 0 9 6 (p + 1) e3 rfl k0
    obtain ⟨t, t1, t2⟩ := fst_tok hN hR hx f4 (by omega)
    have hmem := List.mem_of_getElem? t2
    have hz := nd_tk5 hN f5 (by omega)
    have hk1 : ndK (N (chN (N x.1) 0)) = 1 := by
      unfold ndM at f3
      rw [if_pos hz.1] at f3
      omega
    obtain ⟨b1, b2, b3⟩ := (tz _ hmem).2 hk1
    refine (w_get (by decide)).mpr ?_
    rw [rg_in (by decide) f6, show I.1 (44 + 1) (p + 1) = zi (chN (N x.1) 0) by rw [show I.1 (44 + 1) (p + 1) = zi f.1 from (fr _ f f1).1, f2]]
    refine (w_get (by decide)).mpr ?_
    rw [rg_in (by decide) (show chN (N x.1) 0 < 3400 by omega), show I.1 (37 + 1) (chN (N x.1) 0) = hdT (bsF (ndY (N (chN (N x.1) 0)))) 0 (ndY (N (chN (N x.1) 0))).length from ((rep.2 _ f5).2.2.2.2.2.2 hz.1).2.1]
    unfold hdT
    rw [Nat.min_eq_right b2]
    refine s_numberOf b1 b2 (fun j hj => by rw [Nat.zero_add]; exact b3 j hj) (hK _ (fun _ => ?_))
    rw [ev, if_pos (show ndR (N x.1) = 9 from e3)]
    unfold numY
    exact congrArg zi (natV_cg _ (fun j _ => by
      show dg 48 _ = dg 48 _
      rw [Nat.zero_add]))
  rw [if_neg (show ¬ zi r = 9 from nr 9 (by decide) r9)]
  rw [if_neg (show ¬ ndR (N x.1) = 9 from ni 9 r9)] at ev
  by_cases r10 : r = 10
  · subst r10
    rw [if_pos (show zi 10 = 10 from rfl)]
    obtain ⟨f, f1, f2, f3, f4, f5, f6, -⟩ := kid 0 10 11 (p + 1) e3 rfl k0
    refine (w_get (by decide)).mpr ?_
    rw [zi_succ, val 1 10 2 (p + 1 + 1) e3 rfl (Or.inl rfl) (by rw [szS_t1 f4, sz_tk hN f5 (by omega)])]
    refine hK _ (fun _ => ?_)
    rw [ev, if_pos (show ndR (N x.1) = 10 from e3)]
  rw [if_neg (show ¬ zi r = 10 from nr 10 (by decide) r10)]
  refine hK 0 (fun u => ?_)
  omega
theorem s_evaluate {m R lo hi : Nat} {N : Nat → Nd} {en : Int64 → Int32} {I : zI} {K : zI → Prop} (cl : ClZ I m N R) (na : NaX I N (yl N R)) (he : EnX I N (yl N R) en) (hlo : lo ≤ hi) (hhi : hi ≤ (flR N R).length) (hc : ∀ (q : Nat) (y : Fl), lo ≤ q → q < hi → (flR N R)[q]? = some y → q + sz N y.1 ≤ hi) (hK : ∀ J, eqQ (fun a _ => a = 83) I J → WoX J N (flR N R) en lo hi → K J) : w_Runner_evaluate (zi lo) (zi hi) I K := by
  have hl := cl.2.2.2.2.1
  intro v3 ev3 P4 h4
  have main : ∀ (d k : Nat) (J : zI), lo + d = k → k ≤ hi → eqQ (fun a _ => a = 83) I J → WoX J N (flR N R) en k hi → P4 (zi k - 1) J := by
    intro d
    induction d with
    | zero =>
      intro k J hk hk2 q wo
      refine h4 _ _ ?_
      rw [if_pos (show zi k - 1 < zi lo by
        rw [show lo = k by omega]
        by_cases u : k = 0
        · rw [u]
          decide
        · rw [show zi k - 1 = zi (k - 1) from zi_sub (b := 1) (by omega)]
          exact (zi_lt (by omega) (by omega)).mpr (by omega))]
      rw [show k = lo by omega] at wo
      exact hK J q wo
    | succ d ih =>
      intro k J hk hk2 q wo
      have hx : (flR N R)[k - 1]? = some ((flR N R)[k - 1]'(by omega)) := List.getElem?_eq_getElem (by omega)
      generalize (flR N R)[k - 1]'(by omega) = x at hx
      have qr : eqQ Qrr I J := q.mono (fun a j h => by unfold Qrr; omega)
      have cx := hc (k - 1) x (by omega) (by omega) hx
      refine h4 _ _ ?_
      rw [show zi k - 1 = zi (k - 1) from zi_sub (b := 1) (by omega), if_neg (fun u => by have := (zi_lt (by omega) (by omega)).mp u; omega)]
      refine s_worthAt (cl.kp qr) (na.kp (fun j => q.1 71 j (by omega))) (fun z hz h5 => (q.1 73 _ (by omega)).trans (he z hz h5)) hx (fun r y h1 h2 => wo r y (by omega) (by omega)) (fun w hw => (w_set (by decide)).mpr (fun v' ev => ?_))
      rw [rs_in (by decide) (show k - 1 < 400 by omega)]
      rw [ev, show zi (k - 1) + (-1) = zi (k - 1) - 1 from (Int32.sub_eq_add_neg ..).symm]
      refine ih (k - 1) _ (by omega) (by omega) (q.zu rfl) (fun r y h1 h2 hy h4' => ?_)
      rw [zu_at]
      by_cases u : r = k - 1
      · rw [if_pos ⟨rfl, u⟩]
        rw [u, hx] at hy
        cases hy
        exact hw h4'
      · rw [if_neg (fun v => u v.2)]
        exact wo r y (by omega) h2 hy h4'
  rw [ev3]
  exact main (hi - lo) hi I (by omega) (Nat.le_refl _) eqQ.rf (fun q y h1 h2 => by omega)
/-! ===== reads and sets, the class ===== -/
def Qno (a j : Nat) : Prop := a = 79 ∨ a = 81
def ruQs (u : RuZ) (w : UaZ) : RuZ := (ruE u, ruL u, ruT u, ruD u, w)
theorem s_noteReads {m R lo hi : Nat} {N : Nat → Nd} {u : RuZ} {I : zI} {K : zI → Prop} (cl : ClZ I m N R) (na : NaX I N (yl N R)) (ro : RoX I N (yl N R) u) (hlo : lo ≤ hi) (hhi : hi ≤ (flR N R).length) (hK : ∀ J, eqQ Qno I J → RoX J N (yl N R) (ruN1 N (((flR N R).drop lo).take (hi - lo)) u) → K J) : w_Runner_noteReads (zi lo) (zi hi) I K := by
  have hix : ∀ z, z ∈ yl N R → ndM (N z) = 5 → ixNm N (nmV N z) (yl N R) < 100 := fun z hz h5 => cl.ix hz h5
  obtain ⟨rep, hN, hm, hR, hl, hL, fr, f12, tz⟩ := cl
  intro P2 h2
  have main : ∀ (d q : Nat) (w : UaZ) (J : zI), q + d = hi → eqQ Qno I J → RoX J N (yl N R) (ruQs u w) → ntR N (ruL u) (((flR N R).drop q).take d) w = ntR N (ruL u) (((flR N R).drop lo).take (hi - lo)) (ruQ u) → P2 (zi q) J := by
    intro d
    induction d with
    | zero =>
      intro q w J hq qJ rJ e
      refine h2 _ _ ?_
      rw [if_pos ((zi_le (by omega) (by omega)).mpr (by omega))]
      refine hK J qJ ?_
      unfold ruN1
      rw [← e, List.take_zero]
      exact rJ
    | succ d ih =>
      intro q w J hq qJ rJ e
      have hx : (flR N R)[q]? = some ((flR N R)[q]'(by omega)) := List.getElem?_eq_getElem (by omega)
      have hdr : (flR N R).drop q = (flR N R)[q]'(by omega) :: (flR N R).drop (q + 1) := List.drop_eq_getElem_cons (by omega)
      generalize (flR N R)[q]'(by omega) = x at hx hdr
      obtain ⟨x45, x51, -⟩ := fr q x hx
      obtain ⟨hxm, -⟩ := fl_szin hN hR hx
      rw [hdr, List.take_succ_cons] at e
      have e' : ntR N (ruL u) (((flR N R).drop (q + 1)).take d) (nt1 N (ruL u) x w) = ntR N (ruL u) (((flR N R).drop lo).take (hi - lo)) (ruQ u) := e
      refine h2 _ _ ?_
      rw [if_neg (fun u => by have := (zi_le (by omega) (by omega)).mp u; omega)]
      refine (w_get (by decide)).mpr ?_
      rw [rg_in (by decide) (show q < 400 by omega), show J.1 (44 + 1) q = zi x.1 by rw [show J.1 (44 + 1) q = I.1 45 q from qJ.1 45 q (by unfold Qno; omega)]; exact x45]
      refine (w_get (by decide)).mpr ?_
      rw [rg_in (by decide) (show x.1 < 3400 by omega), show J.1 (25 + 1) x.1 = Int32.ofInt (ndR (N x.1)) by rw [show J.1 (25 + 1) x.1 = I.1 26 x.1 from qJ.1 26 x.1 (by unfold Qno; omega)]; exact (rep.2 x.1 hxm).1]
      intro P86 h86
      have nx : ∀ L, eqQ Qno I L → RoX L N (yl N R) (ruQs u (nt1 N (ruL u) x w)) → P86 L := fun L hL rL => h86 L (fun v ev => by
        rw [ev, zi_succ]
        exact ih (q + 1) _ L (by omega) hL rL e')
      by_cases u8 : ndR (N x.1) = 8
      · rw [if_pos (show Int32.ofInt (ndR (N x.1)) = 8 by rw [u8]; rfl)]
        obtain ⟨c1, c2, -⟩ := chN_is (k := 0) (y := 5) hN hxm (show ndR (N x.1) = ((8 : Nat) : Int) from u8) rfl
        obtain ⟨t, t1, t2⟩ := fst_tok hN hR hx c1 (by omega)
        have htl := (List.getElem?_eq_some_iff.mp t2).1
        have hmem := List.mem_of_getElem? t2
        have hi9 := hix _ hmem c2
        obtain ⟨r1, r2, r3, r4, r5, r6⟩ := rJ
        refine (w_get (by decide)).mpr ?_
        rw [rg_in (by decide) (show q < 400 by omega), show J.1 (50 + 1) q = zi t by rw [show J.1 (50 + 1) q = I.1 51 q from qJ.1 51 q (by unfold Qno; omega), x51, t1, zi_int]]
        refine (w_get (by decide)).mpr ?_
        rw [rg_in (by decide) (show t < 100 by omega), show J.1 (70 + 1) t = zi (ixNm N (nmV N (chN (N x.1) 0)) (yl N R)) by rw [show J.1 (70 + 1) t = I.1 71 t from qJ.1 71 t (by unfold Qno; omega)]; exact na t _ t2 c2]
        refine (w_get (by decide)).mpr ?_
        rw [rg_in (by decide) hi9, show J.1 (76 + 1) (ixNm N (nmV N (chN (N x.1) 0)) (yl N R)) = ruL u (nmV N (chN (N x.1) 0)) from (r2 _ hmem c2).2.1]
        refine (w_set (by decide)).mpr ((w_set (by decide)).mpr ?_)
        rw [rs_in (by decide) (show t < 100 by omega), rs_in (by decide) hi9]
        refine nx _ ((qJ.zu (Or.inr rfl)).zu (Or.inl rfl)) ?_
        have hn : nt1 N (ruL u) x w = (up6 w.1 (nmC N x.1) none, fun i => if i = x.2.2.1.toNat then ruL u (nmC N x.1) else w.2 i) := if_pos u8
        have hc : nmC N x.1 = nmV N (chN (N x.1) 0) := rfl
        have htn : x.2.2.1.toNat = t := by rw [t1]; rfl
        rw [hn, hc, htn]
        refine ⟨fun z hz z5 => ?_, fun z hz z5 => ?_, fun i hi => ?_, ?_, ?_, fun v q' hq' => ?_⟩
        · rw [zu_at, if_neg (by omega), zu_at, if_neg (by omega)]
          exact r1 z hz z5
        · obtain ⟨s1, s2, s3⟩ := r2 z hz z5
          refine ⟨by rw [zu_oo (by decide), zu_oo (by decide)]; exact s1, by rw [zu_oo (by decide), zu_oo (by decide)]; exact s2, ?_⟩
          rw [zu_at]
          show _ = uI (up6 w.1 (nmV N (chN (N x.1) 0)) none (nmV N z))
          by_cases uz : nmV N z = nmV N (chN (N x.1) 0)
          · rw [uz, up6_s, if_pos ⟨rfl, rfl⟩]
            rfl
          · rw [up6_o uz, if_neg (fun v => uz (ixN_inj hz z5 hmem c2 v.2)), zu_at, if_neg (by omega)]
            exact s3
        · rw [zu_at, if_neg (by omega), zu_at]
          show _ = if i = t then ruL u (nmV N (chN (N x.1) 0)) else w.2 i
          by_cases ut : i = t
          · rw [if_pos ⟨rfl, ut⟩, if_pos ut]
          · rw [if_neg (fun v => ut v.2), if_neg ut]
            exact r3 i hi
        · rw [zu_at, if_neg (by omega), zu_at, if_neg (by omega)]
          exact r4
        · rw [zu_at, if_neg (by omega), zu_at, if_neg (by omega)]
          exact r5
        · have hq2 : up6 w.1 (nmV N (chN (N x.1) 0)) none v = some q' := hq'
          unfold up6 at hq2
          by_cases e : v = nmV N (chN (N x.1) 0)
          · rw [if_pos e] at hq2
            cases hq2
          · rw [if_neg e] at hq2
            exact r6 v q' hq2
      · rw [if_neg (show ¬ Int32.ofInt _ = 8 from fun v => u8 ((rl_eq (r := 8) hN hxm (by decide)).mp v))]
        refine nx J qJ ?_
        rw [show nt1 N (ruL u) x w = w from if_neg u8]
        exact rJ
  exact main (hi - lo) lo (ruQ u) I (by omega) eqQ.rf ro rfl
def Qsn (a j : Nat) : Prop := a = 73 ∨ a = 75 ∨ a = 77 ∨ a = 79 ∨ (a = 69 ∧ (j = 12 ∨ j = 13))
theorem s_setName {m R p s t z : Nat} {N : Nat → Nd} {u : RuZ} {x : Fl} {w : Int32} {I : zI} {K : zI → Prop} (cl : ClZ I m N R) (na : NaX I N (yl N R)) (hx : (flR N R)[p]? = some x) (hs : x.1 = s) (ht : (yl N R)[t]? = some z) (h5 : ndM (N z) = 5) (hz : chN (N s) 0 = z) (ro : RoX I N (yl N R) u) (hK : ∀ J, eqQ Qsn I J → RoX J N (yl N R) (ruS1 N p s w u) → K J) : w_Runner_setName (zi t) (zi p) w I K := by
  have hmem := List.mem_of_getElem? ht
  have hi9 := cl.ix hmem h5
  obtain ⟨rep, hN, hm, hR, hl, hL, fr, f12, tz⟩ := cl
  have hpl := (List.getElem?_eq_some_iff.mp hx).1
  have htl := (List.getElem?_eq_some_iff.mp ht).1
  obtain ⟨r1, r2, r3, r4, r5, r6⟩ := ro
  obtain ⟨s1, s2, s3⟩ := r2 z hmem h5
  have hv : nmC N s = nmV N z := by
    unfold nmC
    rw [hz]
  refine (w_get (by decide)).mpr ?_
  rw [rg_in (by decide) (show t < 100 by omega), show I.1 (70 + 1) t = zi (ixNm N (nmV N z) (yl N R)) from na t z ht h5]
  refine (w_get (by decide)).mpr ?_
  rw [rg_in (by decide) hi9, show I.1 (78 + 1) (ixNm N (nmV N z) (yl N R)) = uI ((ruQ u).1 (nmV N z)) from s3]
  intro P52 h52
  have nx : ∀ A : zI, (∀ a j, a ≠ 69 → A.1 a j = I.1 a j) → eqQ Qsn I A → A.1 69 12 = zi (dnD (ruD u) ((ruQ u).1 (nmV N z))).length → A.1 69 13 = zi (mnD (dnD (ruD u) ((ruQ u).1 (nmV N z)))) → P52 A := by
    intro A eA qA a12 a13
    refine h52 A ((w_set (by decide)).mpr ?_)
    rw [rs_in (by decide) hi9]
    refine (w_get (by decide)).mpr ?_
    rw [rg_in (by decide) (show p < 400 by omega), show (zu A (78 + 1) (ixNm N (nmV N z) (yl N R)) (zi p)).1 (44 + 1) p = zi s by rw [zu_oo (by decide), eA _ _ (by decide), ← hs]; exact (fr p x hx).1]
    refine (w_set (by decide)).mpr ?_
    rw [rs_in (by decide) hi9]
    refine (w_add (by decide)).mpr ?_
    rw [rs_in (by decide) hi9, rg_in (by decide) hi9, show (zu (zu A (78 + 1) (ixNm N (nmV N z) (yl N R)) (zi p)) (76 + 1) (ixNm N (nmV N z) (yl N R)) (zi s)).1 (74 + 1) (ixNm N (nmV N z) (yl N R)) = zi (ruT u (nmV N z)) by rw [zu_oo (by decide), zu_oo (by decide), eA _ _ (by decide)]; exact s1]
    refine (w_set (by decide)).mpr ?_
    rw [rs_in (by decide) hi9, zi_succ]
    refine hK _ ((((qA.zu (Or.inr (Or.inr (Or.inr (Or.inl rfl))))).zu (Or.inr (Or.inr (Or.inl rfl)))).zu (Or.inr (Or.inl rfl))).zu (Or.inl rfl)) ?_
    unfold ruS1
    rw [hv]
    refine ⟨fun y hy y5 => ?_, fun y hy y5 => ?_, fun i hi => ?_, ?_, ?_, fun v q' hq' => ?_⟩
    · rw [zu_at]
      show _ = up6 (ruE u) (nmV N z) w (nmV N y)
      by_cases uy : nmV N y = nmV N z
      · rw [uy, up6_s, if_pos ⟨rfl, rfl⟩]
      · rw [up6_o uy, if_neg (fun v => uy (ixN_inj hy y5 hmem h5 v.2)), zu_oo (by decide), zu_oo (by decide), zu_oo (by decide), eA _ _ (by decide)]
        exact r1 y hy y5
    · obtain ⟨y1, y2, y3⟩ := r2 y hy y5
      refine ⟨?_, ?_, ?_⟩
      · rw [zu_oo (by decide), zu_at]
        show _ = zi (up6 (ruT u) (nmV N z) (ruT u (nmV N z) + 1) (nmV N y))
        by_cases uy : nmV N y = nmV N z
        · rw [uy, up6_s, if_pos ⟨rfl, rfl⟩]
        · rw [up6_o uy, if_neg (fun v => uy (ixN_inj hy y5 hmem h5 v.2)), zu_oo (by decide), zu_oo (by decide), eA _ _ (by decide)]
          exact y1
      · rw [zu_oo (by decide), zu_oo (by decide), zu_at]
        show _ = up6 (ruL u) (nmV N z) (zi s) (nmV N y)
        by_cases uy : nmV N y = nmV N z
        · rw [uy, up6_s, if_pos ⟨rfl, rfl⟩]
        · rw [up6_o uy, if_neg (fun v => uy (ixN_inj hy y5 hmem h5 v.2)), zu_oo (by decide), eA _ _ (by decide)]
          exact y2
      · rw [zu_oo (by decide), zu_oo (by decide), zu_oo (by decide), zu_at]
        show _ = uI (up6 (ruQ u).1 (nmV N z) (some p) (nmV N y))
        by_cases uy : nmV N y = nmV N z
        · rw [uy, up6_s, if_pos ⟨rfl, rfl⟩]
          rfl
        · rw [up6_o uy, if_neg (fun v => uy (ixN_inj hy y5 hmem h5 v.2)), eA _ _ (by decide)]
          exact y3
    · rw [zu_oo (by decide), zu_oo (by decide), zu_oo (by decide), zu_oo (by decide), eA _ _ (by decide)]
      exact r3 i hi
    · rw [zu_oo (by decide), zu_oo (by decide), zu_oo (by decide), zu_oo (by decide)]
      exact a12
    · rw [zu_oo (by decide), zu_oo (by decide), zu_oo (by decide), zu_oo (by decide)]
      exact a13
    · have hq2 : up6 (ruQ u).1 (nmV N z) (some p) v = some q' := hq'
      unfold up6 at hq2
      by_cases e : v = nmV N z
      · rw [if_pos e] at hq2
        cases hq2
        omega
      · rw [if_neg e] at hq2
        exact r6 v q' hq2
  cases hU : (ruQ u).1 (nmV N z) with
  | none =>
    rw [hU] at nx
    rw [if_pos (show uI none < 0 by decide)]
    exact nx I (fun _ _ _ => rfl) eqQ.rf r4 r5
  | some q =>
    rw [hU] at nx
    have hq4 := r6 _ _ hU
    have hmn := mnD_le (l := ruD u)
    rw [if_neg (show ¬ uI (some q) < 0 from zi_pos (by omega))]
    intro I9 e9
    refine (w_get (by decide)).mpr (fun I11 e11 => ?_)
    rw [rg_in (by decide) hi9, show I9.1 (78 + 1) (ixNm N (nmV N z) (yl N R)) = zi q by rw [e9, zu_oo (by decide), show I.1 (78 + 1) (ixNm N (nmV N z) (yl N R)) = uI ((ruQ u).1 (nmV N z)) from s3, hU]; rfl, show I9.1 69 13 = zi (mnD (ruD u)) by rw [e9, zu_at, if_neg (by decide)]; exact r5] at e11
    have eI : ∀ a j, a ≠ 69 → I11.1 a j = I.1 a j := fun a j u => by rw [e11, zu_oo u, e9, zu_oo u]
    refine nx I11 eI ?_ ?_ ?_
    · rw [e11, e9]
      exact (eqQ.rf.zu (Or.inr (Or.inr (Or.inr (Or.inr ⟨rfl, Or.inl rfl⟩))))).zu (Or.inr (Or.inr (Or.inr (Or.inr ⟨rfl, Or.inr rfl⟩))))
    · rw [e11, zu_at, if_neg (by decide), e9, zu_self, r4, zi_succ]
      show _ = zi (ruD u ++ [q]).length
      rw [List.length_append]
      rfl
    · rw [e11, zu_self]
      show _ = zi (mnD (ruD u ++ [q]))
      rw [mnD_sn (by omega)]
      by_cases ul : q < mnD (ruD u)
      · rw [if_pos ((zi_lt (by omega) (by omega)).mpr ul), Nat.min_eq_left (by omega)]
      · rw [if_neg (fun v => ul ((zi_lt (by omega) (by omega)).mp v)), Nat.min_eq_right (by omega)]
/-! ===== tokens alike, the class ===== -/
theorem nm_alike {N : Nat → Nd} {y z : Nat} (hy : tkZ (N y)) (hz : tkZ (N z)) (ky : ndK (N y) = 0) (kz : ndK (N z) = 0) : nmV N y = nmV N z ↔ ((ndY (N y)).length = (ndY (N z)).length ∧ hdT (bsF (ndY (N y))) 0 (ndY (N y)).length = hdT (bsF (ndY (N z))) 0 (ndY (N z)).length ∧ tlT (bsF (ndY (N y))) 0 (ndY (N y)).length = tlT (bsF (ndY (N z))) 0 (ndY (N z)).length) := by
  obtain ⟨y1, y2, y3⟩ := hy.1 ky
  obtain ⟨z1, z2, z3⟩ := hz.1 kz
  have ok : ∀ (t : Nat → Int32) (k : Nat), 1 ≤ k → k ≤ 8 → (∀ j, j < k → isL (t j) = true) → tkOk t (0, 0, k) := fun t k k1 k8 h => by
    have h' : ∀ j, j < k → isL (t (0 + j)) = true := fun j hj => by rw [Nat.zero_add]; exact h j hj
    refine ⟨show 0 < 12 by decide, k8, fun j hj => ?_, fun _ => ⟨k1, h'⟩, fun u => absurd u (show ¬ 0 = 1 by decide), fun u => absurd u (show ¬ 0 = 10 by decide), fun u => absurd rfl u⟩
    obtain ⟨d, d1, d2, d3⟩ := isL_zi (h' j hj)
    exact ⟨96 + d, by omega, d3⟩
  have oy := ok (bsF (ndY (N y))) _ y1 y2 y3
  have oz := ok (bsF (ndY (N z))) _ z1 z2 z3
  have hl : nmV N y = nmV N z ↔ (ndY (N y)).length = (ndY (N z)).length ∧ ∀ j, j < (ndY (N y)).length → bsF (ndY (N y)) (0 + j) = bsF (ndY (N z)) (0 + j) := by
    unfold nmV isV
    dsimp only
    rw [if_pos ky, if_pos kz]
    exact valL_iff (oy.2.2.2.1 rfl).2 (oz.2.2.2.1 rfl).2 y2 z2
  have ha := tkA_x oy oz
  rw [hl]
  constructor
  · rintro ⟨u1, u2⟩
    obtain ⟨-, w2, w3, w4⟩ := ha.mp ⟨rfl, u1, u2⟩
    exact ⟨w2, w3, w4⟩
  · rintro ⟨w2, w3, w4⟩
    obtain ⟨-, u1, u2⟩ := ha.mpr ⟨rfl, w2, w3, w4⟩
    exact ⟨u1, u2⟩
theorem s_sameBytes {m c e : Nat} {N : Nat → Nd} {I : zI} {K : Int32 → Prop} (rep : RepNX I m N) (hN : NdOk m N) (hm : m ≤ 3400) (hc : c < m) (he : e < m) (c5 : ndM (N c) = 5) (hcR : ndR (N c) < 0) (heR : ndR (N e) < 0) (hcZ : tkZ (N c)) (heZ : ndM (N e) = 5 → tkZ (N e)) (h1 : ndM (N e) = 5 ∧ nmV N e = nmV N c → K 1) (h0 : ¬ (ndM (N e) = 5 ∧ nmV N e = nmV N c) → K 0) : w_Nodes_sameBytes (zi c) (zi e) I K := by
  obtain ⟨-, n2, -, -, -, -, n7⟩ := rep.2 c hc
  obtain ⟨-, e2, -, -, -, -, e7⟩ := rep.2 e he
  obtain ⟨l1, l2, l3⟩ := n7 hcR
  obtain ⟨f1, f2, f3⟩ := e7 heR
  have k0 : ∀ z, ndM (N z) = 5 → ndR (N z) < 0 → ndK (N z) = 0 := fun z hz hr => by
    unfold ndM at hz
    rw [if_pos hr] at hz
    omega
  unfold w_Nodes_sameBytes
  refine (w_get (by decide)).mpr ((w_get (by decide)).mpr ?_)
  rw [rg_in (by decide) (show c < 3400 by omega), rg_in (by decide) (show e < 3400 by omega), show I.1 (27 + 1) c = zi (ndM (N c)) from n2, show I.1 (27 + 1) e = zi (ndM (N e)) from e2]
  by_cases u5 : ndM (N e) = 5
  · rw [if_pos (by rw [c5, u5])]
    have lc := (hcZ.1 (k0 c c5 hcR)).2.1
    have le := ((heZ u5).1 (k0 e u5 heR)).2.1
    have al := nm_alike hcZ (heZ u5) (k0 c c5 hcR) (k0 e u5 heR)
    refine (w_get (by decide)).mpr ((w_get (by decide)).mpr ?_)
    rw [rg_in (by decide) (show c < 3400 by omega), rg_in (by decide) (show e < 3400 by omega), show I.1 (35 + 1) c = _ from l1, show I.1 (35 + 1) e = _ from f1]
    by_cases v1 : (ndY (N c)).length = (ndY (N e)).length
    · rw [if_pos (by rw [v1])]
      refine (w_get (by decide)).mpr ((w_get (by decide)).mpr ?_)
      rw [rg_in (by decide) (show c < 3400 by omega), rg_in (by decide) (show e < 3400 by omega), show I.1 (37 + 1) c = _ from l2, show I.1 (37 + 1) e = _ from f2]
      by_cases v2 : hdT (bsF (ndY (N c))) 0 (ndY (N c)).length = hdT (bsF (ndY (N e))) 0 (ndY (N e)).length
      · rw [if_pos v2]
        refine (w_get (by decide)).mpr ((w_get (by decide)).mpr ?_)
        rw [rg_in (by decide) (show c < 3400 by omega), rg_in (by decide) (show e < 3400 by omega), show I.1 (39 + 1) c = _ from l3, show I.1 (39 + 1) e = _ from f3]
        by_cases v3 : tlT (bsF (ndY (N c))) 0 (ndY (N c)).length = tlT (bsF (ndY (N e))) 0 (ndY (N e)).length
        · rw [if_pos v3]
          exact h1 ⟨u5, (al.mpr ⟨v1, v2, v3⟩).symm⟩
        · rw [if_neg v3]
          exact h0 (fun w => v3 (al.mp w.2.symm).2.2)
      · rw [if_neg v2]
        exact h0 (fun w => v2 (al.mp w.2.symm).2.1)
    · rw [if_neg (fun w => v1 ((zi_eq (by omega) (by omega)).mp w))]
      exact h0 (fun w => v1 (al.mp w.2.symm).1)
  · rw [c5, if_neg (fun w => u5 ((zi_eq (by decide) (by have := hN.sym e he; omega)).mp w).symm)]
    exact h0 (fun w => u5 w.1)
/-- the tokens of a moment: the TREE's, END behind them -/
def TkH (I : zI) (a m n : Nat) (N : Nat → Nd) (og : Nat → Nat) (R : Nat) : Prop := I.1 a 6 = zi n ∧ (∀ j, j < n → I.1 (a + 15) j = zi (og j)) ∧ (∀ j, j < n → og j < m ∧ ndR (N (og j)) < 0) ∧ (∀ j, j + 1 < n → (yl N R)[j]? = some (og j)) ∧ (∀ z j, (yl N R)[j]? = some z → j + 1 < n) ∧ (∀ j, j + 1 = n → ndM (N (og j)) ≠ 5) ∧ n ≤ 100
theorem TkH.kp {I J : zI} {a m n R : Nat} {N : Nat → Nd} {og : Nat → Nat} (h : TkH I a m n N og R) (e : ∀ b j, a ≤ b → b ≤ a + 15 → J.1 b j = I.1 b j) : TkH J a m n N og R :=
  ⟨(e _ _ (Nat.le_refl _) (by omega)).trans h.1, fun j hj => (e _ _ (by omega) (Nat.le_refl _)).trans (h.2.1 j hj), h.2.2⟩
theorem s_findNames {a m n R : Nat} {N : Nat → Nd} {og : Nat → Nat} {I : zI} {K : zI → Prop} (ha : a + 15 < 69 ∨ 87 < a) (cl : ClZ I m N R) (tk : TkH I a m n N og R) (hK : ∀ J, eqQ (fun b _ => b = 71) I J → NaX J N (yl N R) → K J) : w_Runner_findNames a I K := by
  obtain ⟨t1, t2, t3, t4, t5, t6, t7⟩ := tk
  have cl0 := cl
  obtain ⟨rep, hN, hm, hR, hl, hL, fr, f12, tz⟩ := cl
  intro P2 h2
  have main : ∀ (d i : Nat) (J : zI), i + d = n → eqQ (fun b _ => b = 71) I J → (∀ k z : Nat, k < i → (yl N R)[k]? = some z → ndM (N z) = 5 → J.1 71 k = zi (ixNm N (nmV N z) (yl N R))) → P2 (zi i) J := by
    intro d
    induction d with
    | zero =>
      intro i J hi qJ hJ
      refine h2 _ _ ?_
      rw [qJ.1 a 6 (by omega), t1, if_pos ((zi_le (by omega) (by omega)).mpr (by omega))]
      refine hK J qJ (fun k z hk h5 => hJ k z ?_ hk h5)
      have := t5 z k hk
      omega
    | succ d ih =>
      intro i J hi qJ hJ
      have qr : eqQ Qrr I J := qJ.mono (fun b j h => by unfold Qrr; omega)
      have repJ := (cl0.kp qr).1
      obtain ⟨g1, g2⟩ := t3 i (by omega)
      refine h2 _ _ ?_
      rw [qJ.1 a 6 (by omega), t1, if_neg (fun u => by have := (zi_le (by omega) (by omega)).mp u; omega)]
      have gt : ∀ j, j < n → rg 100 (J.1 (a + 14 + 1)) (zi j) = zi (og j) := fun j hj => by
        rw [rg_in (by decide) (show j < 100 by omega), qJ.1 (a + 14 + 1) j (by omega)]
        exact t2 j hj
      refine (w_get (by decide)).mpr ?_
      rw [gt i (by omega)]
      intro P22 h22
      have stop : ∀ (w : Int32) (L : zI), L = zu J (70 + 1) i w → (∀ z, (yl N R)[i]? = some z → ndM (N z) = 5 → w = zi (ixNm N (nmV N z) (yl N R))) → P2 (zi (i + 1)) L := by
        intro w L eL hw
        rw [eL]
        refine ih (i + 1) _ (by omega) (qJ.zu rfl) (fun k z hk hz h5 => ?_)
        rw [zu_at]
        by_cases u : k = i
        · rw [if_pos ⟨rfl, u⟩]
          rw [u] at hz
          exact hw z hz h5
        · rw [if_neg (fun v => u v.2)]
          exact hJ k z (by omega) hz h5
      have put : ∀ w : Int32, (∀ z, (yl N R)[i]? = some z → ndM (N z) = 5 → w = zi (ixNm N (nmV N z) (yl N R))) → w_Row_set 70 100 (zi i) w J (fun I_5 => ∀ v2_6, v2_6 = (zi i + 1) → P2 v2_6 I_5) := fun w hw => by
        refine (w_set (by decide)).mpr (fun v ev => ?_)
        rw [rs_in (by decide) (show i < 100 by omega), ev, zi_succ]
        exact stop w _ rfl hw
      by_cases u5 : ndM (N (og i)) = 5
      · have hin : i + 1 < n := by
          refine Nat.lt_of_le_of_ne (by omega) (fun u => t6 i u u5)
        have hyi := t4 i hin
        have hmem := List.mem_of_getElem? hyi
        obtain ⟨w, w1, w2, w3⟩ := ixN_is hmem u5 rfl
        have hle : ixNm N (nmV N (og i)) (yl N R) ≤ i := by
          refine Nat.le_of_not_lt (fun u => ixN_no u hyi ⟨u5, rfl⟩)
        have hix : ∀ z, (yl N R)[i]? = some z → z = og i := fun z hz => by
          rw [hyi] at hz
          exact (Option.some.inj hz).symm
        have inner : ∀ (e j : Nat), j + e = ixNm N (nmV N (og i)) (yl N R) → P22 (zi j) := by
          intro e
          induction e with
          | zero =>
            intro j hj
            refine h22 _ ?_
            intro P53 h53
            have yes : P53 := h53 (put (zi j) (fun z hz _ => by rw [hix z hz]; exact congrArg zi (by omega)))
            by_cases v : j = i
            · rw [v, if_pos (Int32.le_refl _)]
              exact yes
            · rw [if_neg (fun u => by have := (zi_le (by omega) (by omega)).mp u; omega)]
              refine (w_get (by decide)).mpr ?_
              rw [gt j (by omega)]
              have hj2 : j = ixNm N (nmV N (og i)) (yl N R) := by omega
              have hwj : w = og j := by
                rw [← hj2, t4 j (by omega)] at w1
                exact (Option.some.inj w1).symm
              refine s_sameBytes repJ hN hm g1 (t3 j (by omega)).1 u5 g2 (t3 j (by omega)).2 (tz _ hmem) (fun _ => tz _ (List.mem_of_getElem? (t4 j (by omega)))) (fun _ => ?_) (fun u => ?_)
              · rw [if_neg (by decide)]
                exact yes
              · rw [← hwj] at u
                exact absurd ⟨w2, w3⟩ u
          | succ e ih2 =>
            intro j hj
            refine h22 _ ?_
            intro P53 h53
            rw [if_neg (fun u => by have := (zi_le (by omega) (by omega)).mp u; omega)]
            refine (w_get (by decide)).mpr ?_
            rw [gt j (by omega)]
            refine s_sameBytes repJ hN hm g1 (t3 j (by omega)).1 u5 g2 (t3 j (by omega)).2 (tz _ hmem) (fun _ => tz _ (List.mem_of_getElem? (t4 j (by omega)))) (fun u => ?_) (fun _ => ?_)
            · exact absurd u (ixN_no (show j < ixNm N (nmV N (og i)) (yl N R) by omega) (t4 j (by omega)))
            · rw [if_pos rfl]
              intro v ev
              rw [ev, zi_succ]
              exact ih2 (j + 1) (by omega)
        exact inner _ 0 (Nat.zero_add _)
      · have no : ∀ z, (yl N R)[i]? = some z → ndM (N z) = 5 → False := fun z hz h5 => by
          have := t4 i (t5 z i hz)
          rw [this] at hz
          cases hz
          exact u5 h5
        refine up_loop (P := fun w _ => P22 w) (b := zi i) (inv := fun _ => True) (fun w _ hw _ ih2 => ?_) (fun w _ hw _ => ?_) 0 J trivial
        · refine h22 _ ?_
          intro P53 h53
          have yes : P53 := h53 (put w (fun z hz h5 => absurd (no z hz h5) (fun h => h)))
          rw [if_neg (Int32.not_le.mpr hw)]
          refine (w_get (by decide)).mpr (r_sameBytes ?_ ?_)
          · rw [if_neg (by decide)]
            exact yes
          · rw [if_pos rfl]
            intro v' ev
            rw [ev]
            exact ih2 J trivial
        · refine h22 _ ?_
          intro P53 h53
          rw [if_pos hw]
          exact h53 (put w (fun z hz h5 => absurd (no z hz h5) (fun h => h)))
  exact main n 0 I (Nat.zero_add _) eqQ.rf (fun k z hk => by omega)
/-! ===== a statement RUN, the class ===== -/
def Qrc (a j : Nat) : Prop := (a = 69 ∧ (j = 11 ∨ j = 14)) ∨ (84 ≤ a ∧ a ≤ 87)
theorem r_recR {a1 a2 a3 : Int32} {I : zI} {K : Int32 → zI → Prop} (hK : ∀ v J, eqQ Qrc I J → K v J) : w_Runner_recordReads a1 a2 a3 I K := by
  unfold w_Runner_recordReads
  refine (w_get (by decide)).mpr ?_
  intro P16 h16
  have rest : ∀ t : Int32, P16 t := by
    intro t
    refine h16 t ?_
    intro P37 h37
    have rest2 : ∀ I3, eqQ Qrc I I3 → P37 I3 := by
      intro I3 q3
      refine h37 I3 ((w_get (by decide)).mpr ?_)
      intro v5 ev5 P55 h55
      have loop := up_loop (P := fun v J => ∀ v5 v6, zb v6 → P55 v5 v6 v J) (b := a3) (inv := fun J => eqQ Qrc I J) (fun v J hv hJ ih v5 v6 hz => by
        refine h55 _ _ _ _ ?_
        rw [if_neg (Int32.not_le.mpr hv)]
        refine (w_get (by decide)).mpr ((w_get (by decide)).mpr ?_)
        intro P149 h149
        have nxt : ∀ (w5 w6 : Int32) (L : zI), zb w6 → eqQ Qrc I L → P149 w5 w6 L := fun w5 w6 L hz hL => by
          refine h149 _ _ _ (fun v' ev => ?_)
          rw [ev]
          exact ih L hL w5 w6 hz
        split
        · refine (w_get (by decide)).mpr (r_valueOf (fun r20 => ?_))
          intro P132 h132
          have put : ∀ u : Int32, zb u → P132 u := fun u hu => by
            refine h132 _ (fun w6 e6 => (w_set (by decide)).mpr (fun w5 e5 => ?_))
            rw [e6]
            exact nxt _ _ _ (zb_or hz hu) (hJ.rs (fun j => Or.inr ⟨by decide, by decide⟩))
          intro P131 h131
          split
          · refine (w_get (by decide)).mpr ?_
            split
            · exact h131 (put 0 (Or.inl rfl))
            · exact put 1 (Or.inr rfl)
          · exact h131 (put 0 (Or.inl rfl))
        · exact nxt _ _ _ hz hJ) (fun v J hv hJ v5 v6 hz => by
        refine h55 _ _ _ _ ?_
        rw [if_pos hv]
        intro P170 h170
        have fin : ∀ t, P170 t := fun t => h170 t (fun I11 e11 => ⟨hz, hK _ _ (by rw [e11]; exact hJ.zu (Or.inl ⟨rfl, Or.inl rfl⟩))⟩)
        split
        · exact fin _
        · exact fin _)
      exact loop a2 I3 q3 v5 0 (Or.inl rfl)
    split
    · exact rest2 I eqQ.rf
    · exact (w_set (by decide)).mpr (rest2 _ (eqQ.rf.rs (fun j => Or.inr ⟨by decide, by decide⟩)))
  split
  · exact rest 1
  · exact rest 0
def Qrt (a j : Nat) : Prop := a = 69 ∨ (72 ≤ a ∧ a ≤ 87)
theorem s_runStatement {m R p : Nat} {N : Nat → Nd} {u : RuZ} {x : Fl} {a2 : Int32} {I : zI} {K : zI → Prop} (cl : ClZ I m N R) (na : NaX I N (yl N R)) (ro : RoX I N (yl N R) u) (hx : (flR N R)[p]? = some x) (h2 : ndR (N x.1) = 2) (hK : ∀ J, eqQ Qrt I J → RoX J N (yl N R) (ruS N (flR N R) p x.1 u) → K J) : w_Runner_runStatement (zi p) a2 I K := by
  have cl0 := cl
  obtain ⟨rep, hN, hm, hR, hl, hL, fr, f12, tz⟩ := cl
  have hpl := (List.getElem?_eq_some_iff.mp hx).1
  obtain ⟨x45, x51, x55⟩ := fr p x hx
  obtain ⟨hxm, -⟩ := fl_szin hN hR hx
  have h2' : ndR (N x.1) = ((2 : Nat) : Int) := h2
  obtain ⟨a1, a2', a3⟩ := chN_is (k := 0) (y := 5) hN hxm h2' rfl
  obtain ⟨b1, b2, b3⟩ := chN_is (k := 1) (y := 7) hN hxm h2' rfl
  obtain ⟨c1, c2, c3⟩ := chN_is (k := 2) (y := 2) hN hxm h2' rfl
  obtain ⟨t, t1, t2⟩ := fst_tok hN hR hx a1 (by omega)
  have hem : chN (N x.1) 2 < m := by omega
  obtain ⟨f, f1, f2, f3⟩ := kidP hN hR hx c1
  rw [szS_t2 a1 b1, sz_tk hN (show chN (N x.1) 0 < m by omega) (by omega), sz_tk hN (show chN (N x.1) 1 < m by omega) (by omega), show p + 1 + (1 + 1) = p + 3 by omega] at f1 f3
  have hfl := (List.getElem?_eq_some_iff.mp f1).1
  have hfs := (fl_szin hN hR f1).2
  rw [f2] at hfs
  have hF : (flR N R).length = sz N R := fl_len hN R hR _ _ _ _
  have he4 := ru4 hN hem (Or.inl c2)
  refine (w_get (by decide)).mpr (fun v4 ev4 => ?_)
  rw [rg_in (by decide) (show p < 400 by omega), show I.1 (44 + 1) p = zi x.1 from x45]
  rw [show (3 : Int32) = zi 3 from rfl, zi_add] at ev4
  subst ev4
  refine (w_get (by decide)).mpr (fun v5 ev5 => ?_)
  rw [rg_in (by decide) (show p + 3 < 400 by omega), show I.1 (54 + 1) (p + 3) = zi (sz N (chN (N x.1) 2)) by rw [show I.1 (54 + 1) (p + 3) = zi (sz N f.1) from (fr _ f f1).2.2, f2], zi_add] at ev5
  subst ev5
  intro P55 h55
  have st : ∀ (t' : Int32) (L : zI), eqQ Qrc I L → P55 t' L := by
    intro t' L hL
    refine h55 _ _ ?_
    intro P91 h91
    have nx : ∀ M, eqQ Qrc I M → P91 M := by
      intro M hM
      have qM : eqQ Qrr I M := hM.mono (fun a j h => by unfold Qrc at h; unfold Qrr; omega)
      have clM := cl0.kp qM
      have naM : NaX M N (yl N R) := na.kp (fun j => hM.1 71 j (by unfold Qrc; omega))
      have roM : RoX M N (yl N R) u := ro.kp (fun a j h => hM.1 a j (by unfold Qrc; omega))
      refine h91 M (s_noteReads clM naM roM (by omega) (by omega) (fun A qA rA => ?_))
      rw [show p + 3 + sz N (chN (N x.1) 2) - (p + 3) = sz N (chN (N x.1) 2) by omega] at rA
      have qA' : eqQ Qrr M A := qA.mono (fun a j h => by unfold Qno at h; unfold Qrr; omega)
      have clA := clM.kp qA'
      have naA : NaX A N (yl N R) := naM.kp (fun j => qA.1 71 j (by unfold Qno; omega))
      refine s_evaluate (en := ruE u) clA naA rA.1 (by omega) (by omega) (fun q y u1 u2 hy => ?_) (fun B qB wB => ?_)
      · have := sub_in hN hR f1 hy u1 (by rw [f2]; omega)
        rw [f2] at this
        exact this
      have qB' : eqQ Qrr A B := qB.mono (fun a j h => by unfold Qrr; omega)
      have clB := clA.kp qB'
      have naB : NaX B N (yl N R) := naA.kp (fun j => qB.1 71 j (by omega))
      have rB := rA.kp (J := B) (fun a j h => qB.1 a j (by omega))
      refine (w_get (by decide)).mpr ?_
      rw [rg_in (by decide) (show p < 400 by omega), show B.1 (50 + 1) p = zi t by rw [show B.1 (50 + 1) p = Int32.ofInt x.2.2.1 from (clB.2.2.2.2.2.2.1 p x hx).2.1, t1, zi_int]]
      refine (w_get (by decide)).mpr ?_
      rw [rg_in (by decide) (show p + 3 < 400 by omega), show B.1 (82 + 1) (p + 3) = evN N (ruE u) (chN (N x.1) 2) by rw [show B.1 (82 + 1) (p + 3) = evN N (ruE u) f.1 from wB (p + 3) f (by omega) (by omega) f1 (by rw [f2]; exact he4), f2]]
      refine s_setName clB naB hx rfl t2 a2' rfl rB (fun C qC rC => hK C ?_ rC)
      exact (((hM.mono (fun a j h => by unfold Qrc at h; unfold Qrt; omega)).tr (qA.mono (fun a j h => by unfold Qno at h; unfold Qrt; omega))).tr (qB.mono (fun a j h => by unfold Qrt; omega))).tr (qC.mono (fun a j h => by unfold Qsn at h; unfold Qrt; omega))
    split
    · exact nx L hL
    · intro P81 h81
      have yes : P81 := h81 (fun I13 e13 => nx I13 (by rw [e13]; exact hL.zu (Or.inl ⟨rfl, Or.inr rfl⟩)))
      split
      · refine (w_get (by decide)).mpr ?_
        split
        · exact yes
        · exact nx L hL
      · exact yes
  intro P54 h54
  split
  · exact h54 I (st 0 I eqQ.rf)
  · refine r_recR (fun v J qJ => ?_)
    split
    · exact h54 J (st 0 J qJ)
    · exact st 1 J qJ
/-! ===== all RUN, the class ===== -/
def EvX (I : zI) (N : Nat → Nd) (R : Nat) : Prop := NaX I N (yl N R) ∧ RoX I N (yl N R) (ruN N R) ∧ WoX I N (flR N R) (ruE (ruN N R)) 0 (flR N R).length
theorem EvX.kp {I J : zI} {N : Nat → Nd} {R : Nat} (h : EvX I N R) (e : ∀ a j, 69 ≤ a → a ≤ 83 → J.1 a j = I.1 a j) : EvX J N R :=
  ⟨h.1.kp (fun j => e 71 j (by decide) (by decide)), h.2.1.kp (fun a j u => e a j (by omega) (by omega)), fun q x h1 h2 hx h4 => (e 83 q (by decide) (by decide)).trans (h.2.2 q x h1 h2 hx h4)⟩
theorem s_clear {N : Nat → Nd} {L : List Nat} {I : zI} {K : zI → Prop} (hL : ∀ z, z ∈ L → ndM (N z) = 5 → ixNm N (nmV N z) L < 100) (hK : ∀ J, eqQ Qrt I J → RoX J N L ru0 → K J) : w_Runner_clear I K := by
  unfold w_Runner_clear
  refine s_fill (by decide) (fun I1 q1 g1 => s_fill (by decide) (fun I2 q2 g2 => s_fill (by decide) (fun I3 q3 g3 => s_fill (by decide) (fun I4 q4 g4 => s_fill (by decide) (fun I5 q5 g5 => ?_)))))
  intro I6 e6 I7 e7 I8 e8
  have hq : eqQ Qrt I I5 := ((((eqX.q eqQ.rf q1 (fun a j h1 h2 => Or.inr ⟨by omega, by omega⟩)) |> fun h => eqX.q h q2 (fun a j h1 h2 => Or.inr ⟨by omega, by omega⟩)) |> fun h => eqX.q h q3 (fun a j h1 h2 => Or.inr ⟨by omega, by omega⟩)) |> fun h => eqX.q h q4 (fun a j h1 h2 => Or.inr ⟨by omega, by omega⟩)) |> fun h => eqX.q h q5 (fun a j h1 h2 => Or.inr ⟨by omega, by omega⟩)
  have o8 : ∀ a j, a ≠ 69 → I8.1 a j = I5.1 a j := fun a j u => by rw [e8, zu_oo u, e7, zu_oo u, e6, zu_oo u]
  have xx : ∀ {lo hi : Nat} {A B : zI} (q : eqX lo hi A B) (a j : Nat), a < lo ∨ hi ≤ a → B.1 a j = A.1 a j := fun q a j h => congrFun (q a h).1 j
  have v73 : ∀ j, j < 100 → I8.1 73 j = 0 := fun j hj => by
    rw [o8 _ _ (by decide), xx q5 73 j (by omega), xx q4 73 j (by omega), xx q3 73 j (by omega), xx q2 73 j (by omega)]
    exact (g1 j).trans (if_pos hj)
  have v75 : ∀ j, j < 100 → I8.1 75 j = 0 := fun j hj => by
    rw [o8 _ _ (by decide), xx q5 75 j (by omega), xx q4 75 j (by omega), xx q3 75 j (by omega)]
    exact (g2 j).trans (if_pos hj)
  have v77 : ∀ j, j < 100 → I8.1 77 j = -2 := fun j hj => by
    rw [o8 _ _ (by decide), xx q5 77 j (by omega), xx q4 77 j (by omega)]
    exact (g3 j).trans (if_pos hj)
  have v79 : ∀ j, j < 100 → I8.1 79 j = -2 := fun j hj => by
    rw [o8 _ _ (by decide), xx q5 79 j (by omega)]
    exact (g4 j).trans (if_pos hj)
  have v81 : ∀ j, j < 100 → I8.1 81 j = -2 := fun j hj => by
    rw [o8 _ _ (by decide)]
    exact (g5 j).trans (if_pos hj)
  refine hK I8 ?_ ⟨fun z hz h5 => v73 _ (hL z hz h5), fun z hz h5 => ⟨v75 _ (hL z hz h5), v77 _ (hL z hz h5), v79 _ (hL z hz h5)⟩, v81, ?_, ?_, fun v q hq => by
    change (none : Option Nat) = some q at hq
    cases hq⟩
  · rw [e8, e7, e6]
    exact ((hq.zu (Or.inl rfl)).zu (Or.inl rfl)).zu (Or.inl rfl)
  · rw [e8, zu_at, if_neg (by decide), e7, zu_at, if_neg (by decide), e6, zu_self]
    rfl
  · rw [e8, zu_at, if_neg (by decide), e7, zu_self]
    rfl
def Qsr (a j : Nat) : Prop := a = 69 ∧ (j = 15 ∨ j = 16)
theorem r_sumR {I : zI} {K : zI → Prop} (hK : ∀ J, eqQ Qsr I J → K J) : w_Runner_sumUp I K := by
  intro I1 e1 P7 h7
  have q1 : eqQ Qsr I I1 := by
    rw [e1]
    exact eqQ.rf.zu ⟨rfl, Or.inl rfl⟩
  refine up_loop (P := P7) (b := I.1 43 12) (inv := fun J => eqQ Qsr I J) (fun v J hv hJ ih => ?_) (fun v J hv hJ => ?_) 0 I1 q1
  · refine h7 _ _ ?_
    rw [hJ.1 43 12 (by unfold Qsr; omega), if_neg (Int32.not_le.mpr hv)]
    refine (w_get (by decide)).mpr ((w_get (by decide)).mpr ?_)
    intro P49 h49
    have nx : ∀ t, P49 t := by
      intro t
      refine h49 t ?_
      intro P71 h71
      have n2 : ∀ u, P71 u := fun u => h71 u (fun I17 e17 v' ev => by
        rw [ev]
        exact ih I17 (by rw [e17]; exact hJ.zu ⟨rfl, Or.inl rfl⟩))
      split
      · exact n2 _
      · exact (w_get (by decide)).mpr (n2 _)
    split
    · exact nx _
    · exact nx _
  · refine h7 _ _ ?_
    rw [hJ.1 43 12 (by unfold Qsr; omega), if_pos hv]
    intro I4 e4 P88 h88
    have q4 : eqQ Qsr I I4 := by
      rw [e4]
      exact hJ.zu ⟨rfl, Or.inr rfl⟩
    refine up_loop (P := P88) (b := 100) (inv := fun J => eqQ Qsr I J) (fun v J hv hJ ih => ?_) (fun v J hv hJ => ?_) 0 I4 q4
    · refine h88 _ _ ?_
      rw [if_neg (Int32.not_le.mpr hv)]
      refine (w_get (by decide)).mpr ?_
      intro P115 h115
      have nx : ∀ t, P115 t := fun t => h115 t (fun I9 e9 v' ev => by
        rw [ev]
        exact ih I9 (by rw [e9]; exact hJ.zu ⟨rfl, Or.inr rfl⟩))
      split
      · exact nx _
      · exact nx _
    · refine h88 _ _ ?_
      rw [if_pos hv]
      exact hK J hJ
theorem s_runAll {a m n R : Nat} {e : Int32} {N : Nat → Nd} {og : Nat → Nat} {I : zI} {K : zI → Prop} (ha : a + 15 < 69 ∨ 87 < a) (cl : ClZ I m N R) (tk : TkH I a m n N og R) (hK : ∀ J, eqQ Qrr I J → EvX J N R → K J) : w_Runner_runAll a e I K := by
  have rt : ∀ {A B : zI}, eqQ Qrt A B → eqQ Qrr A B := fun q => q.mono (fun a j h => by unfold Qrt at h; unfold Qrr; omega)
  have hl := cl.2.2.2.2.1
  have hF : (flR N R).length = sz N R := fl_len cl.2.1 R cl.2.2.2.1 _ _ _ _
  have f12 := cl.2.2.2.2.2.2.2.1
  refine s_clear (N := N) (L := yl N R) (fun z hz h5 => cl.ix hz h5) (fun A qA rA => ?_)
  have clA := cl.kp (rt qA)
  refine s_findNames ha clA (tk.kp (fun b j h1 h2 => qA.1 b j (by unfold Qrt; omega))) (fun B qB nB => ?_)
  have qB' : eqQ Qrr I B := (rt qA).tr (qB.mono (fun a j h => by unfold Qrr; omega))
  have rB : RoX B N (yl N R) ru0 := rA.kp (fun a j h => qB.1 a j (by omega))
  intro P11 h11
  have main : ∀ (d p : Nat) (J : zI), p + d = (flR N R).length → eqQ Qrr I J → NaX J N (yl N R) → RoX J N (yl N R) (ruAt N (flR N R) p) → P11 (zi p) J := by
    intro d
    induction d with
    | zero =>
      intro p J hp hJ nJ rJ
      have hp' : p = (flR N R).length := by omega
      refine h11 _ _ ?_
      rw [hJ.1 43 12 (by unfold Qrr; omega), f12, if_pos ((zi_le (by omega) (by omega)).mpr (by omega))]
      rw [hp'] at rJ
      refine s_evaluate (lo := 0) (en := ruE (ruN N R)) (cl.kp hJ) nJ rJ.1 (Nat.zero_le _) (Nat.le_refl _) (fun q y _ u2 hy => ?_) (fun C qC wC => ?_)
      · have := (fl_szin cl.2.1 cl.2.2.2.1 hy).2.2
        omega
      · refine r_sumR (fun D qD => hK D ((hJ.tr (qC.mono (fun a j h => by unfold Qrr; omega))).tr (qD.mono (fun a j h => by unfold Qsr at h; unfold Qrr; omega))) ⟨nJ.kp (fun j => by rw [qD.1 71 j (by unfold Qsr; omega), qC.1 71 j (by omega)]), rJ.kp (fun a j h => by rw [qD.1 a j (by unfold Qsr; omega), qC.1 a j (by omega)]), fun q x h1 h2 hx h4 => by rw [qD.1 83 q (by unfold Qsr; omega)]; exact wC q x h1 h2 hx h4⟩)
    | succ d ih =>
      intro p J hp hJ nJ rJ
      have hx : (flR N R)[p]? = some ((flR N R)[p]'(by omega)) := List.getElem?_eq_getElem (by omega)
      generalize (flR N R)[p]'(by omega) = x at hx
      have clJ := cl.kp hJ
      obtain ⟨hxm, -⟩ := fl_szin cl.2.1 cl.2.2.2.1 hx
      have hm := cl.2.2.1
      refine h11 _ _ ?_
      rw [hJ.1 43 12 (by unfold Qrr; omega), f12, if_neg (fun u => by have := (zi_le (by omega) (by omega)).mp u; omega)]
      refine (w_get (by decide)).mpr ?_
      rw [rg_in (by decide) (show p < 400 by omega), show J.1 (44 + 1) p = zi x.1 from (clJ.2.2.2.2.2.2.1 p x hx).1]
      refine (w_get (by decide)).mpr ?_
      rw [rg_in (by decide) (show x.1 < 3400 by omega), show J.1 (25 + 1) x.1 = Int32.ofInt (ndR (N x.1)) from (clJ.1.2 x.1 hxm).1]
      intro P53 h53
      have nx : ∀ L, eqQ Qrr I L → NaX L N (yl N R) → RoX L N (yl N R) (ruAt N (flR N R) (p + 1)) → P53 L := fun L hL nL rL => h53 L (fun v ev => by
        rw [ev, zi_succ]
        exact ih (p + 1) L (by omega) hL nL rL)
      rw [ruAt_s hx] at nx
      by_cases u2 : ndR (N x.1) = 2
      · rw [if_pos (show Int32.ofInt (ndR (N x.1)) = 2 by rw [u2]; rfl)]
        rw [if_pos u2] at nx
        exact s_runStatement clJ nJ rJ hx u2 (fun C qC rC => nx C (hJ.tr (rt qC)) (nJ.kp (fun j => qC.1 71 j (by unfold Qrt; omega))) rC)
      · rw [if_neg (show ¬ Int32.ofInt _ = 2 from fun v => u2 ((rl_eq (r := 2) cl.2.1 hxm (by decide)).mp v))]
        rw [if_neg u2] at nx
        exact nx J hJ nJ rJ
  exact main (flR N R).length 0 B (by omega) qB' nB rB
/-- the class has the print of a TREE -/
def PnX (I : zI) (N : Nat → Nd) (R : Nat) : Prop := I.1 0 18 = zi (prt N R).length ∧ OutX 110 I (prt N R)
/-- all that the class sees of a TREE -/
def ViX (I : zI) (N : Nat → Nd) (R : Nat) : Prop :=
  I.1 43 13 = zi R ∧ FlX I (flR N R) ∧ (∀ (p : Nat) (x : Fl), (flR N R)[p]? = some x → I.1 53 p = zi x.2.2.2.1 ∧ I.1 55 p = zi x.2.2.2.2) ∧ RnX I (runsOf N R) ∧ PlX I ∧ RmX I N (flR N R) ∧ EvX I N R ∧ PnX I N R
/-- the class looks at a TREE, runs it, prints it -/
def Qla (a j : Nat) : Prop := Qvi a j ∨ Qrr a j ∨ Qpn a j ∨ (a = 0 ∧ j = 18)
/-- the moment that is looked at has the TREE's tokens -/
def WhZ (I : zI) (a n : Nat) (N : Nat → Nd) (R : Nat) (og : Nat → Nat) : Prop := I.1 a 6 = zi n ∧ (∀ j, j < n → I.1 (a + 15) j = zi (og j)) ∧ ndM (N (og (n - 1))) ≠ 5 ∧ ∀ z, z ∈ yl N R → tkZ (N z)
theorem WhZ.tk {I : zI} {a m n R : Nat} {N : Nat → Nd} {og : Nat → Nat} (h : WhZ I a n N R og) (t : TreeI m N R n og) : TkH I a m n N og R := by
  obtain ⟨h1, h2, h3, h4⟩ := h
  obtain ⟨t1, t2, t3, t4, t5, t6, t7, t8⟩ := t
  refine ⟨h1, h2, fun j hj => ⟨(t5 j hj).1, by rw [(t5 j hj).2]; decide⟩, fun j hj => ?_, fun z j hj => ?_, fun j hj => ?_, t8⟩
  · rw [t3, List.getElem?_map, List.getElem?_range (by omega)]
    rfl
  · have := (List.getElem?_eq_some_iff.mp hj).1
    rw [t3, List.length_map, List.length_range] at this
    omega
  · rw [show j = n - 1 by omega]
    exact h3
theorem s_deskLook {m R n a : Nat} {e : Int32} {og : Nat → Nat} {N : Nat → Nd} {I : zI} {K : zI → Prop} (rep : RepNX I m N) (hN : NdOk m N) (hu : UqE m N) (hm : m ≤ 3400) (t : TreeI m N R n og) (htk : ∀ c, c < m → ndT (N c) ≤ 1000) (hpl : PlX I) (hp7 : (prt N R).length ≤ 700) (hpy : ∀ z ∈ yl N R, bytY (N z)) (ha : a < 24 ∨ 113 ≤ a) (hT : I.1 a 7 = zi R) (hw : WhZ I a n N R og)
    (hK : ∀ J, eqQ Qla I J → ViX J N R → K J) : w_Desk_lookAt a e I K := by
  unfold w_Desk_lookAt
  have fg := t.flG hN hu
  refine s_lookAt rep hN hu hm t htk hpl hT (fun A qA vA => ?_)
  have clA : ClZ A m N R := by
    refine ⟨rep.kp hN.ch (fun b j u1 u2 _ => qA.1 b j (by unfold Qvi; omega)), hN, hm, t.1, ?_, ?_, fun p x hx => ?_, vA.2.1.1, hw.2.2.2⟩
    · have := t.few hN
      have h2 : (flR N R).length = sz N R := fl_len hN R t.1 _ _ _ _
      omega
    · have := t.tk hN
      have := t.2.2.2.2.2.2.2
      rw [yl_len hN R t.1]
      omega
    · obtain ⟨f1, -, -, f4⟩ := vA.2.1.2 p x hx
      exact ⟨f1, f4, by rw [(vA.2.2.1 p x hx).2, (sz_inR hN t.1 hx).1]⟩
  refine s_runAll (a := a) (by omega) clA ((hw.tk t).kp (fun b j u1 u2 => qA.1 b j (by unfold Qvi; omega))) (fun B qB eB => ?_)
  have hTB : B.1 a 7 = zi R := by
    rw [qB.1 a 7 (by unfold Qrr; omega), qA.1 a 7 (by unfold Qvi; omega)]
    exact hT
  rw [hTB]
  refine s_write (a2 := 109) (Or.inl rfl) (rep.kp hN.ch (fun a j u1 u2 _ => by rw [qB.1 a j (by unfold Qrr; omega)]; exact qA.1 a j (by unfold Qvi; omega))) hN hm t.1 (by have := t.few hN; omega) hp7 hpy (fun C qC oC I5 e5 => ?_)
  have q5 : eqQ Qla I I5 := by
    rw [e5]
    exact (((qA.mono (fun a j h => Or.inl h)).tr (qB.mono (fun a j h => Or.inr (Or.inl h)))).tr (qC.mono (fun a j h => Or.inr (Or.inr (Or.inl (by unfold Qpw at h; unfold Qpn; omega)))))).zu (Or.inr (Or.inr (Or.inr ⟨rfl, rfl⟩)))
  have o : ∀ a j, 43 ≤ a → a ≤ 68 → I5.1 a j = A.1 a j := fun a j h1 h2 => by
    rw [e5, zu_oo (by omega), qC.1 a j (by unfold Qpw; omega), qB.1 a j (by unfold Qrr; omega)]
  obtain ⟨v1, v2, v3, v4, v5, v6⟩ := vA
  refine hK I5 q5 ⟨by rw [o _ _ (by decide) (by decide)]; exact v1, v2.kp (fun a j h1 h2 => o a j (by omega) (by omega)), fun p x hx => by rw [o 53 _ (by decide) (by decide), o 55 _ (by decide) (by decide)]; exact v3 p x hx, ⟨by rw [o _ _ (by decide) (by decide)]; exact v4.1, fun i r hi => by rw [o _ _ (by decide) (by decide)]; exact v4.2 i r hi⟩, fun c hc => ?_, fun r hr => by rw [o 61 r (by decide) (by decide)]; exact v6 r hr, eB.kp (fun a j u1 u2 => by rw [e5, zu_oo (by omega), qC.1 a j (by unfold Qpw; omega)]), ⟨by rw [e5, zu_self], fun i v hi => by rw [e5, zu_oo (by decide)]; exact oC i v hi⟩⟩
  obtain ⟨p, p1, p2⟩ := v5 c hc
  exact ⟨p, p1, by rw [o 47 c (by decide) (by decide)]; exact p2⟩
/-! ===== the state, and how both sides hold it ===== -/
def txF (l : List Int32) : Nat → Int32 := fun j => l.getD j 0
theorem txF_at {l : List Int32} {j : Nat} {v : Int32} (h : l[j]? = some v) : txF l j = v := by
  unfold txF
  rw [List.getD_eq_getElem?_getD, h]
  rfl
def lexL (l : List Int32) : List (Nat × Nat × Nat) := lex (txF l) l.length
/-- a TEXT as it is, the last good one, is it good, its TREE's root, its tokens' nodes -/
abbrev Mo : Type := List Int32 × List Int32 × Bool × Nat × (Nat → Nat) × Int32
def moT (x : Mo) : List Int32 := x.1
def moG (x : Mo) : List Int32 := x.2.1
def moB (x : Mo) : Bool := x.2.2.1
def moR (x : Mo) : Nat := x.2.2.2.1
def moO (x : Mo) : Nat → Nat := x.2.2.2.2.1
/-- its ROW -/
def moW (x : Mo) : Int32 := x.2.2.2.2.2
def txOk (l : List Int32) : Prop := l.length ≤ 300 ∧ (∀ j, j < l.length → byt (txF l j)) ∧ (lexL l).length ≤ 100
theorem lex_lxo {l : List Int32} (h : txOk l) : LxO (txF l) (lexL l) := by
  obtain ⟨h1, h2, h3⟩ := h
  have hlen : (lexL l).length = (lexF (txF l) l.length l.length 0).length + 1 := by
    show (lexF (txF l) l.length l.length 0 ++ [(10, l.length, 0)]).length = _
    rw [List.length_append]
    rfl
  refine ⟨fun x hx => (lex_ok h2 x hx).1, by omega, h3, fun i x hx => ?_⟩
  have hx' : (lexF (txF l) l.length l.length 0 ++ [(10, l.length, 0)])[i]? = some x := hx
  rcases snoc_at hx' with hx2 | ⟨e1, e2⟩
  · have hil := (List.getElem?_eq_some_iff.mp hx2).1
    have := (lexF_ok h2 _ _ x (List.mem_of_getElem? hx2)).2.1
    constructor
    · intro u
      exact absurd u this
    · intro u
      omega
  · rw [e2]
    constructor
    · intro _
      omega
    · intro _
      rfl
/-- a moment that can be -/
def MoOk (m : Nat) (N : Nat → Nd) (x : Mo) : Prop :=
  txOk (moT x) ∧ txOk (moG x) ∧ (moB x = true → moT x = moG x) ∧ TreeI m N (moR x) (lexL (moG x)).length (moO x) ∧ TkI N (txF (moG x)) (lexL (moG x)) (moO x)
theorem sum_rg {α : Type} {w : α → Nat} : ∀ {L : List α} {f : Nat → Nat}, (∀ i x, L[i]? = some x → f i = w x) → ∀ k, k ≤ L.length → ((List.range k).map f).sum ≤ (L.map w).sum
  | _, _, _, 0, _ => Nat.zero_le _
  | [], _, _, k + 1, hk => by
    change k + 1 ≤ 0 at hk
    omega
  | a :: L, f, h, k + 1, hk => by
    rw [List.length_cons] at hk
    rw [List.range_succ_eq_map, List.map_cons, List.sum_cons, List.map_map, List.map_cons, List.sum_cons]
    have h0 := h 0 a rfl
    have h1 := sum_rg (L := L) (w := w) (f := f ∘ Nat.succ) (fun i x hx => h (i + 1) x (by rw [List.getElem?_cons_succ]; exact hx)) k (by omega)
    omega
theorem lexF_sum {t : Nat → Int32} {n : Nat} : ∀ f i, ((lexF t n f i).map (fun x => x.2.2)).sum ≤ n - i
  | 0, _ => Nat.zero_le _
  | f + 1, i => by
    rw [lexF]
    by_cases h : n ≤ i
    · rw [if_pos h]
      exact Nat.zero_le _
    · rw [if_neg h]
      have hp := tkP_pos (t := t) (n := n) (i := i) (by omega)
      by_cases hB : isB (t i) = true
      · rw [if_pos hB]
        have := lexF_sum (t := t) (n := n) f (i + 1)
        omega
      · rw [if_neg hB, List.map_cons, List.sum_cons]
        have := lexF_sum (t := t) (n := n) f (i + (tkP t n i).2)
        dsimp only
        omega
/-- tokens, their bytes, what is printed of a node below another -/
theorem below_ok {m : Nat} {N : Nat → Nd} (h : NdOk m N) (R : Nat) : R < m → ∀ c ∈ po N R, tkb N c ≤ tkb N R ∧ ndT (N c) ≤ ndT (N R) ∧ sz N c ≤ sz N R ∧ ∀ z ∈ yl N c, z ∈ yl N R := by
  induction R using Nat.strongRecOn with
  | ind R ih =>
    intro hR c hc
    rw [po_eq h hR] at hc
    rcases List.mem_cons.mp hc with rfl | hc
    · exact ⟨Nat.le_refl _, Nat.le_refl _, Nat.le_refl _, fun z hz => hz⟩
    · obtain ⟨y, hy, hcy⟩ := List.mem_flatMap.mp hc
      have hlt := h.lt hR hy
      obtain ⟨i1, i2, i3, i4⟩ := ih y hlt (by omega) c hcy
      have hr : ¬ ndR (N R) < 0 ∧ ndT (N R) = tkS N (ndC (N R)) := by
        rcases h R hR with ⟨-, e2, -⟩ | ⟨r, s, -, -, e3, -, -, -, -, e8⟩
        · rw [e2] at hy
          cases hy
        · exact ⟨by omega, e8⟩
      have hmem : ∀ f : Nat → Nat, f y ≤ ((ndC (N R)).map f).sum := fun f => by
        obtain ⟨L1, L2, hL⟩ := List.append_of_mem hy
        rw [hL, List.map_append, List.map_cons, List.sum_append, List.sum_cons]
        omega
      have m1 := hmem (tkb N)
      have m2 := tkS_mem (N := N) hy
      have m3 : sz N y ≤ szS N (ndC (N R)) := hmem (sz N)
      rw [← tkb_ch h hR hr.1] at m1
      rw [← hr.2] at m2
      have m4 := sz_eq h hR
      refine ⟨by omega, by omega, by omega, fun z hz => ?_⟩
      rw [yl_eq h hR, if_neg hr.1]
      exact List.mem_flatMap.mpr ⟨y, hy, i4 z hz⟩
theorem prt_in {m c : Nat} {N : Nat → Nd} {x : Mo} (hN : NdOk m N) (o : MoOk m N x) (hc : c ∈ po N (moR x)) : (prt N c).length ≤ 498 ∧ sz N c ≤ 248 ∧ ∀ z ∈ yl N c, bytY (N z) := by
  obtain ⟨o1, o2, o3, t, tk⟩ := o
  have hR := t.1
  have hy := t.2.2.1
  obtain ⟨b1, b2, b3, b4⟩ := below_ok hN (moR x) hR c hc
  have hcm : c < m := by
    have := po_le hN (moR x) hR c hc
    omega
  have h1 := prt_len hN c hcm
  have h2 := t.tk hN
  have h3 := t.2.2.2.2.2.2.2
  have h4 := t.few hN
  have hs : tkb N (moR x) ≤ 300 := by
    unfold tkb
    rw [hy, List.map_map]
    have := sum_rg (L := lexL (moG x)) (w := fun w => w.2.2) (f := (fun z => (ndY (N z)).length) ∘ moO x) (fun i w hw => by
      show (ndY (N (moO x i))).length = w.2.2
      rw [(tk i w hw).2, tkBs_len]) ((lexL (moG x)).length - 1) (by omega)
    have h5 : ((lexL (moG x)).map (fun w => w.2.2)).sum ≤ (moG x).length := by
      show ((lexF (txF (moG x)) (moG x).length (moG x).length 0 ++ [(10, (moG x).length, 0)]).map (fun w : Nat × Nat × Nat => w.2.2)).sum ≤ _
      rw [List.map_append, List.sum_append]
      have := lexF_sum (t := txF (moG x)) (n := (moG x).length) (moG x).length 0
      show _ + 0 ≤ _
      omega
    have h6 := o2.1
    omega
  refine ⟨by omega, by omega, fun z hz => ?_⟩
  have hz2 := b4 z hz
  rw [hy] at hz2
  obtain ⟨i, hi, rfl⟩ := List.mem_map.mp hz2
  have hil := List.mem_range.mp hi
  have hw : (lexL (moG x))[i]? = some ((lexL (moG x))[i]'(by omega)) := List.getElem?_eq_getElem (by omega)
  generalize (lexL (moG x))[i]'(by omega) = w at hw
  obtain ⟨ok, -⟩ := lex_ok o2.2.1 w (List.mem_of_getElem? hw)
  unfold bytY
  rw [(tk i w hw).2, tkBs_len]
  refine ⟨ok.2.1, fun j hj => ?_⟩
  rw [tkBs_at hj]
  exact ok.2.2.1 j hj
theorem prt_R {m : Nat} {N : Nat → Nd} {x : Mo} (hN : NdOk m N) (o : MoOk m N x) : (prt N (moR x)).length ≤ 700 ∧ ∀ z ∈ yl N (moR x), bytY (N z) := by
  obtain ⟨a, -, b⟩ := prt_in hN o (c := moR x) (by
    rw [po_eq hN o.2.2.2.1.1]
    exact List.mem_cons_self ..)
  exact ⟨by omega, b⟩
theorem tkP_int {t : Nat → Int32} {n i : Nat} (h : (tkP t n i).1 = 1) : (tkP t n i).2 ≤ 4 := by
  unfold tkP at h ⊢
  by_cases hL : isL (t i) = true
  · rw [if_pos hL] at h
    by_cases h8 : 8 < runN isL t (n - i) i
    · rw [if_pos h8] at h
      exact absurd h (by decide)
    · rw [if_neg h8] at h
      exact absurd h (show ¬ 0 = 1 by decide)
  · rw [if_neg hL] at h ⊢
    by_cases hD : isD (t i) = true
    · rw [if_pos hD] at h ⊢
      by_cases h4 : 4 < runN isD t (n - i) i
      · rw [if_pos h4]
        decide
      · rw [if_neg h4]
        exact Nat.le_of_not_lt h4
    · rw [if_neg hD] at h
      exact absurd h (sgn_not (t i)).2.1
theorem lexF_int {t : Nat → Int32} {n : Nat} : ∀ f i, ∀ x ∈ lexF t n f i, x.1 = 1 → x.2.2 ≤ 4
  | 0, i, x, hx => by cases hx
  | f + 1, i, x, hx => by
    rw [lexF] at hx
    by_cases h : n ≤ i
    · rw [if_pos h] at hx
      cases hx
    · rw [if_neg h] at hx
      by_cases hB : isB (t i) = true
      · rw [if_pos hB] at hx
        exact lexF_int f (i + 1) x hx
      · rw [if_neg hB] at hx
        rcases List.mem_cons.mp hx with rfl | hx
        · exact fun u => tkP_int u
        · exact lexF_int f _ x hx
/-- END is no NAME; what NAMES and INTS are -/
theorem tkz_R {m : Nat} {N : Nat → Nd} {x : Mo} (_ : NdOk m N) (o : MoOk m N x) : ndM (N (moO x ((lexL (moG x)).length - 1))) ≠ 5 ∧ ∀ z, z ∈ yl N (moR x) → tkZ (N z) := by
  obtain ⟨o1, o2, o3, t, tk⟩ := o
  have hn := t.2.2.2.2.2.2.1
  constructor
  · have hw : (lexL (moG x))[(lexL (moG x)).length - 1]? = some ((lexL (moG x))[(lexL (moG x)).length - 1]'(by omega)) := List.getElem?_eq_getElem (by omega)
    generalize (lexL (moG x))[(lexL (moG x)).length - 1]'(by omega) = w at hw
    have h10 : w.1 = 10 := ((lex_lxo o2).2.2.2 _ w hw).2 (by omega)
    have hk := (tk _ w hw).1
    have hr := (t.2.2.2.2.1 ((lexL (moG x)).length - 1) (by omega)).2
    unfold ndM
    rw [hr, if_pos (by decide)]
    omega
  · intro z hz
    rw [t.2.2.1] at hz
    obtain ⟨i, hi, rfl⟩ := List.mem_map.mp hz
    have hil := List.mem_range.mp hi
    have hw : (lexL (moG x))[i]? = some ((lexL (moG x))[i]'(by omega)) := List.getElem?_eq_getElem (by omega)
    generalize (lexL (moG x))[i]'(by omega) = w at hw
    obtain ⟨ok, -⟩ := lex_ok o2.2.1 w (List.mem_of_getElem? hw)
    obtain ⟨k1, k2⟩ := tk i w hw
    unfold tkZ
    rw [k1, k2, tkBs_len]
    refine ⟨fun u => ?_, fun u => ?_⟩
    · obtain ⟨b1, b2⟩ := ok.2.2.2.1 u
      exact ⟨b1, ok.2.1, fun j hj => by rw [tkBs_at hj]; exact b2 j hj⟩
    · obtain ⟨b1, b2⟩ := ok.2.2.2.2.1 u
      refine ⟨b1, ?_, fun j hj => by rw [tkBs_at hj]; exact b2 j hj⟩
      have hm : w ∈ lexF (txF (moG x)) (moG x).length (moG x).length 0 ++ [(10, (moG x).length, 0)] := List.mem_of_getElem? hw
      rcases List.mem_append.mp hm with h | h
      · exact lexF_int _ _ w h u
      · rw [List.mem_singleton] at h
        rw [h]
        exact Nat.zero_le _
/-- a moment in the class -/
def MoX (I : zI) (k : Nat) (x : Mo) : Prop :=
  I.1 k 1 = zi (moT x).length ∧ (∀ j, j < (moT x).length → I.1 (k + 2) j = txF (moT x) j) ∧ RepT I (k + 3) (txF (moT x)) (lexL (moT x)) ∧ I.1 k 3 = b01 (moB x) ∧
  I.1 k 6 = zi (lexL (moG x)).length ∧ (∀ j, j < (lexL (moG x)).length → I.1 (k + 15) j = zi (moO x j)) ∧ (∀ (j : Nat) (y : Nat × Nat × Nat), (lexL (moG x))[j]? = some y → I.1 (k + 17) j = zi y.2.1) ∧ I.1 k 7 = zi (moR x) ∧ I.1 k 8 = moW x
/-- in the model's rows of states -/
def MoM (I : zI) (s : Nat) (x : Mo) : Prop :=
  (∀ j, j < (moT x).length → I.1 542 (720 * s + j) = txF (moT x) j) ∧ (∀ j, j < (moG x).length → I.1 542 (720 * s + 300 + j) = txF (moG x) j) ∧ (∀ j, j < (lexL (moG x)).length → I.1 542 (720 * s + 600 + j) = zi (moO x j)) ∧
  I.1 542 (720 * s + 710) = zi (moT x).length ∧ I.1 542 (720 * s + 711) = zi (moG x).length ∧ I.1 542 (720 * s + 712) = b01 (moB x) ∧ I.1 542 (720 * s + 713) = zi (moR x)
/-- as it is now, in the model -/
def NowM (I : zI) (x : Mo) : Prop :=
  I.1 491 5 = zi (moT x).length ∧ (∀ j, j < (moT x).length → I.1 494 j = txF (moT x) j) ∧ I.1 491 15 = zi (lexL (moT x)).length ∧
  (∀ (j : Nat) (y : Nat × Nat × Nat), (lexL (moT x))[j]? = some y → I.1 501 j = zi y.1 ∧ I.1 502 j = zi y.2.1 ∧ I.1 503 j = zi y.2.2) ∧
  I.1 491 7 = zi (moG x).length ∧ (∀ j, j < (moG x).length → I.1 495 j = txF (moG x) j) ∧ OldU I (txF (moG x)) (lexL (moG x)) ∧ (∀ j, j < (lexL (moG x)).length → I.1 508 j = zi (moO x j)) ∧ I.1 491 8 = b01 (moB x) ∧ I.1 491 37 = zi (moR x)
/-- tape; nodes; PAIRS; EDITS; what was, now, what was undone -/
abbrev Sg : Type := List Int32 × (Nat × (Nat → Nd)) × List (Nat × Nat) × Nat × List Mo × Mo × List Mo
def sgT (x : Sg) : List Int32 := x.1
def sgM (x : Sg) : Nat := x.2.1.1
def sgN (x : Sg) : Nat → Nd := x.2.1.2
def sgP (x : Sg) : List (Nat × Nat) := x.2.2.1
def sgE (x : Sg) : Nat := x.2.2.2.1
def sgA (x : Sg) : List Mo := x.2.2.2.2.1
def sgC (x : Sg) : Mo := x.2.2.2.2.2.1
def sgZ (x : Sg) : List Mo := x.2.2.2.2.2.2
/-- what holds of it -/
def Iv (x : Sg) : Prop :=
  ((sgT x).length ≤ 200 ∧ ∀ b ∈ sgT x, byt b) ∧ NdOk (sgM x) (sgN x) ∧ UqE (sgM x) (sgN x) ∧ sgM x ≤ 3250 ∧ (∀ c, c < sgM x → ndT (sgN x c) ≤ 100) ∧
  (PrU (sgP x) ∧ (sgP x).length ≤ 3999) ∧ sgE x ≤ 100000 ∧ MoOk (sgM x) (sgN x) (sgC x) ∧ (∀ y ∈ sgA x, MoOk (sgM x) (sgN x) y) ∧ (∀ y ∈ sgZ x, MoOk (sgM x) (sgN x) y) ∧ (sgA x).length + (sgZ x).length ≤ 20
/-- the class holds it: its slot is s -/
def RX (I : zI) (x : Sg) : Prop :=
  TapX I (sgT x) ∧ RepNX I (sgM x) (sgN x) ∧ ViX I (sgN x) (moR (sgC x)) ∧ PrX I (sgP x) ∧ I.1 0 7 = zi (sgE x) ∧ I.1 0 5 = zi (sgA x).length ∧ I.1 0 6 = zi (sgZ x).length ∧
  ∃ s, s < 21 ∧ I.1 0 4 = zi s ∧ MoX I (zmom s) (sgC x) ∧ (∀ (k : Nat) (y : Mo), (sgA x)[k]? = some y → MoX I (zmom ((s + 20 - k) % 21)) y) ∧ ∀ (k : Nat) (y : Mo), (sgZ x)[k]? = some y → MoX I (zmom ((s + 1 + k) % 21)) y
/-- the model holds it -/
def RM (I : zI) (x : Sg) : Prop :=
  TapM I (sgT x) ∧ RepNM I (sgM x) (sgN x) ∧ ViM I (sgN x) (moR (sgC x)) (lexL (moG (sgC x))).length ∧ PrM I (sgP x) ∧ I.1 491 36 = zi (sgE x) ∧ I.1 491 75 = zi (sgA x).length ∧ I.1 491 76 = zi ((sgA x).length + (sgZ x).length) ∧
  NowM I (sgC x) ∧ MoM I (sgA x).length (sgC x) ∧ (∀ (k : Nat) (y : Mo), (sgA x)[k]? = some y → MoM I ((sgA x).length - 1 - k) y) ∧ ∀ (k : Nat) (y : Mo), (sgZ x)[k]? = some y → MoM I ((sgA x).length + 1 + k) y
/-! ===== what a change makes of it ===== -/
/-- a node's numbers of TOKENS stay small as a TREE grows -/
theorem grown_tk {F : List Fl} {A B n n' e m0 m1 R : Nat} {g kd og : Nat → Nat} {N0 : Nat → Nd} (h0 : NdOk m0 N0) (t0 : TreeI m0 N0 R n' og) (hF : F = flR N0 R) (hog : ∀ i, i < n → ∀ j, wasN A B n n' i = some j → g i = og j) (hnew : ∀ i, i < n → wasN A B n n' i = none → m0 ≤ g i) (h01 : m0 ≤ m1) (ge : GE F A B n n' g kd) : ∀ (x y : Gs) (k : Nat), GI F n n' g kd m1 x.1 x.2.1 x.2.2.1 x.2.2.2.1 k → (GJ m0 N0 g x.1 x.2.1 x.2.2.1 x.2.2.2.1 ∧ ∀ c, c < x.2.1 → ndT (x.2.2.1 c) ≤ 100) → gNx F A B n n' g e x.1 x.2.1 x.2.2.1 x.2.2.2.1 x.2.2.2.2 = some y → (GJ m0 N0 g y.1 y.2.1 y.2.2.1 y.2.2.2.1 ∧ ∀ c, c < y.2.1 → ndT (y.2.2.1 c) ≤ 100) := by
  intro x y k hx hp he
  subst hF
  have hJ := hp.1.nx h0 t0 hog hnew h01 ge hx he
  have hI := hx.nx ge he
  refine ⟨hJ, fun c hc => ?_⟩
  obtain ⟨e1, e2⟩ := gNx_E he
  by_cases u : c < x.2.1
  · rw [(e2 c u).2.2.1]
    exact hp.2 c u
  · -- a new node is on the stack
    have hN := hI.2.2.2.2.1
    have hin : ∃ p ∈ y.2.2.2.1.drop 1, p.1 = c := by
      obtain ⟨i, m, N, st, tk⟩ := x
      dsimp only at he u e1
      have s1 : 1 ≤ st.length := hx.2.1.1
      unfold gNx at he
      cases hb : bestOf (flR N0 R) N A B n n' i (topS st) (g i) with
      | some b =>
        rw [hb] at he
        cases he
        exact absurd hc u
      | none =>
        rw [hb] at he
        by_cases hz : ldN (topS st) (ndM (N (g i))) = 0
        · rw [if_pos hz] at he
          cases hr : rlN (topS st) with
          | none =>
            rw [hr] at he
            cases he
          | some r =>
            rw [hr] at he
            cases he
            obtain ⟨p0, q1, q2⟩ := top_at s1
            obtain ⟨f1, f2⟩ := st_fits hx.2.1.2.1 hx.2.1.2.2.1 s1 q1 q2 hr
            have f1' : lnN r < st.length := f1
            dsimp only at hc ⊢
            refine ⟨(m, ldN (byS st r) (syN r)), ?_, by show m = c; omega⟩
            unfold byT
            rw [drop1_snoc (by rw [List.length_take]; omega)]
            exact List.mem_append_right _ (List.mem_singleton.mpr rfl)
        · rw [if_neg hz] at he
          cases he
          exact absurd hc u
    obtain ⟨p, hp1, hp2⟩ := hin
    have hlen := yl_len hN c hc
    obtain ⟨L1, L2, hL⟩ := List.append_of_mem hp1
    have h1 := congrArg List.length hJ.1
    rw [hL, List.flatMap_append, List.flatMap_cons, List.length_append, List.length_append, hp2, hlen, List.length_map, List.length_range] at h1
    have := hI.1
    have := ge.1
    omega
/-- naming and growing: is it good; where it is wrong; the steps; how it ends -/
def reg (x : Sg) (d : List Int32) : (Nat × (Nat → Nat) × (Nat → Nd)) × Nat × Gs :=
  (fun nm => (nm, gRun (flR (sgN x) (moR (sgC x))) (kAhead (txF (moG (sgC x))) (lexL (moG (sgC x))) (txF d) (lexL d)) (kBehind (txF (moG (sgC x))) (lexL (moG (sgC x))) (txF d) (lexL d)) (lexL d).length (lexL (moG (sgC x))).length nm.2.1 (sgE x + 1) 2000 0 (0, nm.1, nm.2.2, [(0, 0)], 0)))
    (namF (txF d) (lexL d) (kAhead (txF (moG (sgC x))) (lexL (moG (sgC x))) (txF d) (lexL d)) (kBehind (txF (moG (sgC x))) (lexL (moG (sgC x))) (txF d) (lexL d)) (lexL (moG (sgC x))).length (moO (sgC x)) (sgE x + 1) (lexL d).length 0 (sgM x) (fun _ => 0) (sgN x))
def regY (x : Sg) (d : List Int32) : Gs := (reg x d).2.2
def regR (x : Sg) (d : List Int32) : Nat := ((regY x d).2.2.2.1.getD ((regY x d).2.2.2.1.length - 1) (0, 0)).1
/-- refused: too long, too many nodes, PAIRS, tokens -/
def refu (x : Sg) (d : List Int32) : Prop := 300 < d.length ∨ 3000 ≤ sgM x ∨ 3900 ≤ (sgP x).length ∨ 100 < (lexL d).length
def newC (x : Sg) (d : List Int32) : Mo := if (regY x d).1 + 1 = (lexL d).length ∧ topS (regY x d).2.2.2.1 = 1 then (d, d, true, regR x d, (reg x d).1.2.1, rowI (runsOf (regY x d).2.2.1 (regR x d)) (sgP x)) else (d, moG (sgC x), false, moR (sgC x), moO (sgC x), moW (sgC x))
/-- the state behind a change that is not refused; tp: the tape then -/
def chg (x : Sg) (d tp : List Int32) : Sg :=
  (tp, (if (regY x d).1 + 1 = (lexL d).length ∧ topS (regY x d).2.2.2.1 = 1 then ((regY x d).2.1, (regY x d).2.2.1) else (sgM x, sgN x)),
    (if (regY x d).1 + 1 = (lexL d).length ∧ topS (regY x d).2.2.2.1 = 1 then layAllR (runsOf (regY x d).2.2.1 (regR x d)) (sgP x) else sgP x), sgE x + 1, (sgC x :: sgA x).take 20, newC x d, [])
/-! ===== a change keeps what holds of the state ===== -/
theorem TreeI.cg {m m' R n : Nat} {N N' : Nat → Nd} {og : Nat → Nat} (h : NdOk m N) (t : TreeI m N R n og) (hm : m ≤ m') (e : ∀ k, k < m → N' k = N k) : TreeI m' N' R n og := by
  obtain ⟨t1, t2, t3, t4, t5, t6, t7, t8⟩ := t
  have hy : yl N' R = yl N R := yl_cg h (fun c hc => by rw [e c hc]; exact NdE.rf) t1
  refine ⟨by omega, by rw [e R t1]; exact t2, by rw [hy]; exact t3, t4, fun i hi => ?_, fun z hz => ?_, t7, t8⟩
  · obtain ⟨a, b⟩ := t5 i hi
    exact ⟨by omega, by rw [e _ a]; exact b⟩
  · rw [hy] at hz
    rw [e z (by have := (yl_mem h R t1 z hz).1; omega)]
    exact t6 z hz
theorem MoOk.cg {m m' : Nat} {N N' : Nat → Nd} {x : Mo} (h : NdOk m N) (o : MoOk m N x) (hm : m ≤ m') (e : ∀ k, k < m → N' k = N k) : MoOk m' N' x := by
  obtain ⟨o1, o2, o3, o4, o5⟩ := o
  refine ⟨o1, o2, o3, o4.cg h hm e, fun i y hy => ?_⟩
  have hi := (List.getElem?_eq_some_iff.mp hy).1
  rw [e _ (o4.2.2.2.2.1 i hi).1]
  exact o5 i y hy
theorem rnL_mem {N : Nat → Nd} {F : List Fl} : ∀ (d p : Nat), ∀ r ∈ rnL N F d p, ∃ x ∈ F, x.1 = r ∧ ndM (N r) = 1
  | 0, _, r, hr => by cases hr
  | d + 1, p, r, hr => by
    cases hx : F[p]? with
    | none =>
      rw [rnL_no (List.getElem?_eq_none_iff.mp hx)] at hr
      cases hr
    | some x =>
      rw [rnL_at hx] at hr
      by_cases u : ndM (N x.1) = 1
      · rw [if_pos u] at hr
        rcases List.mem_cons.mp hr with rfl | hr
        · exact ⟨x, List.mem_of_getElem? hx, rfl, u⟩
        · exact rnL_mem d _ r hr
      · rw [if_neg u] at hr
        exact rnL_mem d _ r hr
theorem runs_ok {m R n : Nat} {og : Nat → Nat} {N : Nat → Nd} (hN : NdOk m N) (hu : UqE m N) (t : TreeI m N R n og) : (∀ r ∈ runsOf N R, r < m) ∧ (runsOf N R).length ≤ 99 := by
  have fg := t.flG hN hu
  refine ⟨fun r hr => ?_, ?_⟩
  · obtain ⟨x, hx, hx1, -⟩ := rnL_mem 400 0 r hr
    obtain ⟨p, hp⟩ := List.mem_iff_getElem?.mp hx
    rw [← hx1]
    exact (fg.1.2 p x hp).1
  · have := rnL_len (F := flR N R) hN 400 0 0 [(R, 0, 1)] (fun y hy => by cases List.mem_singleton.mp hy; exact t.1) (by
      rw [List.drop_zero]
      show fl N R 0 0 0 1 = fl N R 0 0 0 1 ++ []
      rw [List.append_nil])
    rw [tkW_cons] at this
    change (runsOf N R).length ≤ ndT (N R) + 0 at this
    have h2 := t.tk hN
    have h3 := t.2.2.2.2.2.2.2
    omega
theorem layAllR_ok {rs : List Nat} {pl : List (Nat × Nat)} (hrs : ∀ r ∈ rs, r < 3400) (hu : PrU pl) : PrU (layAllR rs pl) ∧ pl.length ≤ (layAllR rs pl).length ∧ (layAllR rs pl).length ≤ pl.length + rs.length := by
  unfold layAllR
  by_cases h0 : rs.length = 0
  · rw [if_pos h0]
    exact ⟨hu, Nat.le_refl _, by omega⟩
  · rw [if_neg h0]
    obtain ⟨a1, a2, a3, a4⟩ := layR_ok hrs 9 0 rs.length pl (by omega) hu
    exact ⟨a1, a2, by omega⟩
/-- all about naming and growing, at once -/
theorem reg_ok {x : Sg} {d : List Int32} (hv : Iv x) (hd : txOk d) : ∃ (m1 : Nat) (g : Nat → Nat) (N1 : Nat → Nd) (k : Nat) (y : Gs), reg x d = ((m1, g, N1), k, y) ∧
    namF (txF d) (lexL d) (kAhead (txF (moG (sgC x))) (lexL (moG (sgC x))) (txF d) (lexL d)) (kBehind (txF (moG (sgC x))) (lexL (moG (sgC x))) (txF d) (lexL d)) (lexL (moG (sgC x))).length (moO (sgC x)) (sgE x + 1) (lexL d).length 0 (sgM x) (fun _ => 0) (sgN x) = (m1, g, N1) ∧
    gRun (flR (sgN x) (moR (sgC x))) (kAhead (txF (moG (sgC x))) (lexL (moG (sgC x))) (txF d) (lexL d)) (kBehind (txF (moG (sgC x))) (lexL (moG (sgC x))) (txF d) (lexL d)) (lexL d).length (lexL (moG (sgC x))).length g (sgE x + 1) 2000 0 (0, m1, N1, [(0, 0)], 0) = (k, y) ∧
    (GE (flR (sgN x) (moR (sgC x))) (kAhead (txF (moG (sgC x))) (lexL (moG (sgC x))) (txF d) (lexL d)) (kBehind (txF (moG (sgC x))) (lexL (moG (sgC x))) (txF d) (lexL d)) (lexL d).length (lexL (moG (sgC x))).length g (fun i => ((lexL d).getD i (10, 0, 0)).1) ∧
      GI (flR (sgN x) (moR (sgC x))) (lexL d).length (lexL (moG (sgC x))).length g (fun i => ((lexL d).getD i (10, 0, 0)).1) m1 0 m1 N1 [(0, 0)] 0 ∧
      (∀ i, i < (lexL d).length → ∀ j, wasN (kAhead (txF (moG (sgC x))) (lexL (moG (sgC x))) (txF d) (lexL d)) (kBehind (txF (moG (sgC x))) (lexL (moG (sgC x))) (txF d) (lexL d)) (lexL d).length (lexL (moG (sgC x))).length i = some j → g i = moO (sgC x) j) ∧ sgM x ≤ m1 ∧ m1 ≤ sgM x + 100) ∧
    ((∀ k, k < sgM x → y.2.2.1 k = sgN x k) ∧ m1 ≤ y.2.1 ∧ y.2.1 ≤ m1 + 149 ∧ NdOk y.2.1 y.2.2.1 ∧ UqE y.2.1 y.2.2.1 ∧ TkI y.2.2.1 (txF d) (lexL d) g ∧ (∀ c, c < y.2.1 → ndT (y.2.2.1 c) ≤ 100) ∧
      (y.1 + 1 = (lexL d).length → topS y.2.2.2.1 = 1 → ∃ b : Nat × Nat, y.2.2.2.1 = [b, (regR x d, 1)] ∧ TreeI y.2.1 y.2.2.1 (regR x d) (lexL d).length g)) := by
  obtain ⟨-, hN, hu, hm, hT, -, -, hC, -⟩ := hv
  obtain ⟨c1, c2, c3, c4, c5⟩ := hC
  have hl := lex_lxo hd
  have hl' := lex_lxo c2
  rcases hn : namF (txF d) (lexL d) (kAhead (txF (moG (sgC x))) (lexL (moG (sgC x))) (txF d) (lexL d)) (kBehind (txF (moG (sgC x))) (lexL (moG (sgC x))) (txF d) (lexL d)) (lexL (moG (sgC x))).length (moO (sgC x)) (sgE x + 1) (lexL d).length 0 (sgM x) (fun _ => 0) (sgN x) with ⟨m1, g, N1⟩
  rcases hr : gRun (flR (sgN x) (moR (sgC x))) (kAhead (txF (moG (sgC x))) (lexL (moG (sgC x))) (txF d) (lexL d)) (kBehind (txF (moG (sgC x))) (lexL (moG (sgC x))) (txF d) (lexL d)) (lexL d).length (lexL (moG (sgC x))).length g (sgE x + 1) 2000 0 (0, m1, N1, [(0, 0)], 0) with ⟨k, y⟩
  obtain ⟨ge, gi, gj, hog, hnew, hm0, hm1, htk, hinj⟩ := naming_ok hN hu c4 c5 hl hl' hn
  obtain ⟨q1, q2, q3, q4, q5, q6, q7⟩ := grown_ok hN hu c4 c5 hl hl' hn hr
  have hreg : reg x d = ((m1, g, N1), k, y) := by
    unfold reg
    dsimp only
    rw [hn]
    dsimp only
    rw [hr]
  have hk100 := hl.2.2.1
  refine ⟨m1, g, N1, k, y, hreg, rfl, hr, ⟨ge, gi, hog, hm0, by omega⟩, q1, q2, q3, q4, q5, q6, ?_, ?_⟩
  · have := gRun_inv (e := sgE x + 1) ge (P := fun z => GJ (sgM x) (sgN x) g z.1 z.2.1 z.2.2.1 z.2.2.2.1 ∧ ∀ c, c < z.2.1 → ndT (z.2.2.1 c) ≤ 100) (grown_tk hN c4 rfl hog hnew hm0 ge) 2000 0 (0, m1, N1, [(0, 0)], 0) gi ⟨gj, fun c hc => ?_⟩
    · rw [hr] at this
      exact this.2
    · dsimp only at hc ⊢
      by_cases u : c < sgM x
      · rw [gj.2.2.2.2.2 c u]
        exact hT c u
      · obtain ⟨-, -, -, -, -, a6, -⟩ := namF_ok _ _ _ _ _ _ _ _ hn
        obtain ⟨i', -, -, b3⟩ := a6 c (by omega) hc
        rw [b3]
        exact (by decide : 1 ≤ 100)
  · intro h1 h2
    obtain ⟨b, R', e1, e2⟩ := q7 h1 h2
    have hRR : regR x d = R' := by
      unfold regR regY
      rw [hreg]
      dsimp only
      rw [e1]
      rfl
    rw [hRR]
    exact ⟨b, e1, e2⟩
theorem chg_ok {x : Sg} {d tp : List Int32} (hv : Iv x) (hd : txOk d) (hr : ¬ refu x d) (htp : tp.length ≤ 200 ∧ ∀ b ∈ tp, byt b) (he : sgE x < 100000) : Iv (chg x d tp) := by
  obtain ⟨m1, g, N1, k, y, hreg, hn, hrun, ⟨ge, gi, hog, hm0, hm1⟩, q1, q2, q3, q4, q5, q6, q7, q8⟩ := reg_ok hv hd
  obtain ⟨-, hN, hu, hm, hT, ⟨hP1, hP2⟩, -, hC, hA, hZ, hAZ⟩ := hv
  have hY : regY x d = y := by
    unfold regY
    rw [hreg]
  unfold refu at hr
  have hA2 : ∀ z ∈ (sgC x :: sgA x).take 20, MoOk (sgM x) (sgN x) z := fun z hz => by
    rcases List.mem_cons.mp (List.mem_of_mem_take hz) with rfl | hz
    · exact hC
    · exact hA z hz
  have hlen : ((sgC x :: sgA x).take 20).length + ([] : List Mo).length ≤ 20 := by
    rw [List.length_take]
    show min 20 _ + 0 ≤ 20
    omega
  unfold Iv chg newC
  rw [hY]
  by_cases hg : y.1 + 1 = (lexL d).length ∧ topS y.2.2.2.1 = 1
  · rw [if_pos hg, if_pos hg, if_pos hg]
    obtain ⟨b, e1, e2⟩ := q8 hg.1 hg.2
    obtain ⟨r1, r2⟩ := runs_ok q4 q5 e2
    obtain ⟨l1, l2, l3⟩ := layAllR_ok (pl := sgP x) (rs := runsOf y.2.2.1 (regR x d)) (fun r hr => by have := r1 r hr; omega) hP1
    refine ⟨htp, q4, q5, (show y.2.1 ≤ 3250 by omega), q7, ⟨l1, (show (layAllR (runsOf y.2.2.1 (regR x d)) (sgP x)).length ≤ 3999 by omega)⟩, (show sgE x + 1 ≤ 100000 by omega), ⟨hd, hd, fun _ => rfl, ?_, ?_⟩, fun z hz => (hA2 z hz).cg hN (by show sgM x ≤ y.2.1; omega) q1, fun z hz => (by cases hz), hlen⟩
    · show TreeI y.2.1 y.2.2.1 (regR x d) (lexL d).length (reg x d).1.2.1
      rw [hreg]
      exact e2
    · show TkI y.2.2.1 (txF d) (lexL d) (reg x d).1.2.1
      rw [hreg]
      exact q6
  · rw [if_neg hg, if_neg hg, if_neg hg]
    exact ⟨htp, hN, hu, hm, hT, ⟨hP1, hP2⟩, (show sgE x + 1 ≤ 100000 by omega), ⟨hd, hC.2.1, (fun u => by cases u), hC.2.2.2.1, hC.2.2.2.2⟩, hA2, fun z hz => (by cases hz), hlen⟩
