/-! ===== PAIRS ===== -/
theorem div_fin : ∀ p, p < 200 → zi p / 2 = zi (p / 2) := by decide +kernel
/-- there already, or one more -/
def fmP (a b : Nat) (pl : List (Nat × Nat)) : Nat × List (Nat × Nat) := match pl.findIdx? (fun p => p == (a, b)) with
  | some i => (i, pl)
  | none => (pl.length, pl ++ [(a, b)])
/-- the ROW of a part of the RUNS -/
def layR (rs : List Nat) : Nat → Nat → Nat → List (Nat × Nat) → Nat × List (Nat × Nat)
  | 0, f, _, pl => (rs.getD f 0, pl)
  | d + 1, f, part, pl => if part ≤ 1 then (rs.getD f 0, pl) else
    (10000 + (fmP (layR rs d f ((part + 1) / 2) pl).1 (layR rs d (f + (part + 1) / 2) (part - (part + 1) / 2) (layR rs d f ((part + 1) / 2) pl).2).1 (layR rs d (f + (part + 1) / 2) (part - (part + 1) / 2) (layR rs d f ((part + 1) / 2) pl).2).2).1,
      (fmP (layR rs d f ((part + 1) / 2) pl).1 (layR rs d (f + (part + 1) / 2) (part - (part + 1) / 2) (layR rs d f ((part + 1) / 2) pl).2).1 (layR rs d (f + (part + 1) / 2) (part - (part + 1) / 2) (layR rs d f ((part + 1) / 2) pl).2).2).2)
def PrU (pl : List (Nat × Nat)) : Prop := ∀ (i j : Nat) (p : Nat × Nat), pl[i]? = some p → pl[j]? = some p → i = j
theorem fmp_at {pl : List (Nat × Nat)} {a b i : Nat} (h : pl.findIdx? (fun p => p == (a, b)) = some i) : pl[i]? = some (a, b) := by
  obtain ⟨h1, h2, -⟩ := List.findIdx?_eq_some_iff_getElem.mp h
  rw [List.getElem?_eq_getElem h1, beq_iff_eq.mp h2]
theorem fmp_no {pl : List (Nat × Nat)} {a b : Nat} (h : pl.findIdx? (fun p => p == (a, b)) = none) : ∀ i : Nat, pl[i]? ≠ some (a, b) := by
  intro i hi
  have := List.findIdx?_eq_none_iff.mp h (a, b) (List.mem_of_getElem? hi)
  rw [beq_self_eq_true] at this
  cases this
theorem fmp_is {pl : List (Nat × Nat)} (hu : PrU pl) {a b i : Nat} (h : pl[i]? = some (a, b)) : fmP a b pl = (i, pl) := by
  unfold fmP
  cases e : pl.findIdx? (fun p => p == (a, b)) with
  | none => exact absurd h (fmp_no e i)
  | some j =>
    rw [hu j i _ (fmp_at e) h]
theorem fmp_new {pl : List (Nat × Nat)} {a b : Nat} (h : ∀ i : Nat, pl[i]? ≠ some (a, b)) : fmP a b pl = (pl.length, pl ++ [(a, b)]) := by
  unfold fmP
  cases e : pl.findIdx? (fun p => p == (a, b)) with
  | none => rfl
  | some j => exact absurd (fmp_at e) (h j)
theorem fmp_ok {pl : List (Nat × Nat)} (hu : PrU pl) (a b : Nat) : PrU (fmP a b pl).2 ∧ pl.length ≤ (fmP a b pl).2.length ∧ (fmP a b pl).2.length ≤ pl.length + 1 ∧ (fmP a b pl).1 < (fmP a b pl).2.length := by
  unfold fmP
  cases e : pl.findIdx? (fun p => p == (a, b)) with
  | some j =>
    have := (List.getElem?_eq_some_iff.mp (fmp_at e)).1
    exact ⟨hu, Nat.le_refl _, Nat.le_succ _, this⟩
  | none =>
    have h := fmp_no e
    refine ⟨fun i j p hi hj => ?_, ?_, ?_, ?_⟩
    · rcases snoc_at hi with hi | ⟨i1, i2⟩
      · rcases snoc_at hj with hj | ⟨j1, j2⟩
        · exact hu i j p hi hj
        · rw [j2] at hi
          exact absurd hi (h i)
      · rcases snoc_at hj with hj | ⟨j1, j2⟩
        · rw [i2] at hj
          exact absurd hj (h j)
        · omega
    · show pl.length ≤ (pl ++ [(a, b)]).length
      rw [List.length_append]
      omega
    · show (pl ++ [(a, b)]).length ≤ pl.length + 1
      rw [List.length_append]
      exact Nat.le_refl _
    · show pl.length < (pl ++ [(a, b)]).length
      rw [List.length_append]
      show pl.length < pl.length + 1
      omega
/-- what a ROW is: a node, or a PAIR -/
def rowV (v n : Nat) : Prop := v < 3400 ∨ (10000 ≤ v ∧ v < 10000 + n)
theorem layR_ok {rs : List Nat} (hrs : ∀ r ∈ rs, r < 3400) : ∀ (d f part : Nat) (pl : List (Nat × Nat)), 1 ≤ part → PrU pl → PrU (layR rs d f part pl).2 ∧ pl.length ≤ (layR rs d f part pl).2.length ∧ (layR rs d f part pl).2.length + 1 ≤ pl.length + part ∧ rowV (layR rs d f part pl).1 (layR rs d f part pl).2.length
  | 0, f, part, pl, h1, hu => by
    refine ⟨hu, Nat.le_refl _, Nat.add_le_add_left h1 _, Or.inl ?_⟩
    show rs.getD f 0 < 3400
    rw [List.getD_eq_getElem?_getD]
    cases e : rs[f]? with
    | none => exact (by decide : 0 < 3400)
    | some r => exact hrs r (List.mem_of_getElem? e)
  | d + 1, f, part, pl, h1, hu => by
    have hL : layR rs (d + 1) f part pl = if part ≤ 1 then (rs.getD f 0, pl) else
      (10000 + (fmP (layR rs d f ((part + 1) / 2) pl).1 (layR rs d (f + (part + 1) / 2) (part - (part + 1) / 2) (layR rs d f ((part + 1) / 2) pl).2).1 (layR rs d (f + (part + 1) / 2) (part - (part + 1) / 2) (layR rs d f ((part + 1) / 2) pl).2).2).1,
      (fmP (layR rs d f ((part + 1) / 2) pl).1 (layR rs d (f + (part + 1) / 2) (part - (part + 1) / 2) (layR rs d f ((part + 1) / 2) pl).2).1 (layR rs d (f + (part + 1) / 2) (part - (part + 1) / 2) (layR rs d f ((part + 1) / 2) pl).2).2).2) := rfl
    by_cases hp : part ≤ 1
    · rw [if_pos hp] at hL
      rw [hL]
      refine ⟨hu, Nat.le_refl _, Nat.add_le_add_left h1 _, Or.inl ?_⟩
      show rs.getD f 0 < 3400
      rw [List.getD_eq_getElem?_getD]
      cases e : rs[f]? with
      | none => exact (by decide : 0 < 3400)
      | some r => exact hrs r (List.mem_of_getElem? e)
    · rw [if_neg hp] at hL
      rw [hL]
      obtain ⟨a1, a2, a3, a4⟩ := layR_ok hrs d f ((part + 1) / 2) pl (by omega) hu
      obtain ⟨b1, b2, b3, b4⟩ := layR_ok hrs d (f + (part + 1) / 2) (part - (part + 1) / 2) (layR rs d f ((part + 1) / 2) pl).2 (by omega) a1
      obtain ⟨c1, c2, c3, c4⟩ := fmp_ok b1 (layR rs d f ((part + 1) / 2) pl).1 (layR rs d (f + (part + 1) / 2) (part - (part + 1) / 2) (layR rs d f ((part + 1) / 2) pl).2).1
      refine ⟨c1, by dsimp only; omega, by dsimp only; omega, Or.inr ⟨by dsimp only; omega, by dsimp only; omega⟩⟩
/-- of the PAIRS ahead of the k-th the last whose first half is v, and 1; none: 0 -/
def lastF (pl : List (Nat × Nat)) (v : Nat) : Nat → Nat
  | 0 => 0
  | k + 1 => if (pl.getD k (0, 0)).1 = v then k + 1 else lastF pl v k
theorem lastF_le {pl : List (Nat × Nat)} {v : Nat} : ∀ k, lastF pl v k ≤ k
  | 0 => Nat.le_refl _
  | k + 1 => by
    show (if (pl.getD k (0, 0)).1 = v then k + 1 else lastF pl v k) ≤ k + 1
    have := lastF_le (pl := pl) (v := v) k
    split <;> omega
theorem lastF_is {pl : List (Nat × Nat)} {v a : Nat} : ∀ k, lastF pl v k = a + 1 → (pl.getD a (0, 0)).1 = v ∧ a < k ∧ ∀ j, a < j → j < k → (pl.getD j (0, 0)).1 ≠ v
  | 0, h => by
    change 0 = a + 1 at h
    omega
  | k + 1, h => by
    have h' : (if (pl.getD k (0, 0)).1 = v then k + 1 else lastF pl v k) = a + 1 := h
    by_cases u : (pl.getD k (0, 0)).1 = v
    · rw [if_pos u] at h'
      rw [show a = k by omega]
      exact ⟨u, Nat.lt_succ_self _, fun j h1 h2 => by omega⟩
    · rw [if_neg u] at h'
      obtain ⟨b1, b2, b3⟩ := lastF_is k h'
      refine ⟨b1, by omega, fun j h1 h2 => ?_⟩
      by_cases w : j = k
      · rw [w]
        exact u
      · exact b3 j h1 (by omega)
theorem lastF_no {pl : List (Nat × Nat)} {v : Nat} : ∀ k, lastF pl v k = 0 → ∀ j, j < k → (pl.getD j (0, 0)).1 ≠ v
  | 0, _, j, hj => by omega
  | k + 1, h, j, hj => by
    have h' : (if (pl.getD k (0, 0)).1 = v then k + 1 else lastF pl v k) = 0 := h
    by_cases u : (pl.getD k (0, 0)).1 = v
    · rw [if_pos u] at h'
      omega
    · rw [if_neg u] at h'
      by_cases w : j = k
      · rw [w]
        exact u
      · exact lastF_no k h' j (by omega)
theorem lastF_cg {pl pl' : List (Nat × Nat)} {v : Nat} : ∀ k, (∀ j, j < k → pl'.getD j (0, 0) = pl.getD j (0, 0)) → lastF pl' v k = lastF pl v k
  | 0, _ => rfl
  | k + 1, h => by
    show (if (pl'.getD k (0, 0)).1 = v then k + 1 else lastF pl' v k) = (if (pl.getD k (0, 0)).1 = v then k + 1 else lastF pl v k)
    rw [h k (by omega), lastF_cg k (fun j hj => h j (by omega))]
def plc (v : Nat) : Nat := if 10000 ≤ v then v - 10000 + 3400 else v
def PrX (I : zI) (pl : List (Nat × Nat)) : Prop :=
  I.1 88 4 = zi pl.length ∧ (∀ (i : Nat) (p : Nat × Nat), pl[i]? = some p → I.1 90 i = zi p.1 ∧ I.1 92 i = zi p.2 ∧ I.1 94 i = zi (lastF pl p.1 i)) ∧ (∀ v, rowV v 4000 → I.1 96 (plc v) = zi (lastF pl v pl.length)) ∧ ∀ (i : Nat) (p : Nat × Nat), pl[i]? = some p → p.1 < 14000 ∧ p.2 < 14000
def Qpr (a j : Nat) : Prop := (a = 88 ∧ j = 4) ∨ a = 90 ∨ a = 92 ∨ a = 94 ∨ a = 96
theorem s_findOrMake {a b : Nat} {pl : List (Nat × Nat)} {I : zI} {K : Int32 → zI → Prop} (hP : PrX I pl) (hu : PrU pl) (ha : rowV a 4000) (hb : rowV b 4000) (hl : pl.length < 4000)
    (hK : ∀ J, eqQ Qpr I J → PrX J (fmP a b pl).2 → K (zi (fmP a b pl).1) J) : w_Pairs_findOrMake (zi a) (zi b) I K := by
  intro P20 h20
  obtain ⟨f1, f2, f3, f4⟩ := id hP
  have ha14 : a < 14000 := by unfold rowV at ha; omega
  have hb14 : b < 14000 := by unfold rowV at hb; omega
  have hpl : plc a < 7400 := by
    unfold plc
    unfold rowV at ha
    split <;> omega
  have rest : P20 (zi (plc a)) := by
    refine h20 _ ((w_get (by decide)).mpr ?_)
    rw [rg_in (by decide) hpl, show I.1 (95 + 1) (plc a) = zi (lastF pl a pl.length) from f3 a ha]
    intro P34 h34
    have make : (∀ i : Nat, pl[i]? ≠ some (a, b)) → (w_Row_set 89 4000 (I.1 88 4) (zi a) I (fun I_5 => w_Row_set 91 4000 (I_5.1 88 4) (zi b) I_5 (fun I_6 => w_Row_get 95 7400 (zi (plc a)) I_6 (fun r_7 => w_Row_set 93 4000 (I_6.1 88 4) r_7 I_6 (fun I_8 => w_Row_set 95 7400 (zi (plc a)) ((I_8.1 88 4) + 1) I_8 (fun I_9 => ∀ I_10, I_10 = (zu I_9 88 4 ((I_9.1 88 4) + 1)) → K ((I_10.1 88 4) - 1) I_10)))))) := by
      intro hno
      refine (w_set (by decide)).mpr ?_
      rw [f1, rs_in (by decide) hl]
      generalize e5 : zu I (89 + 1) pl.length (zi a) = I5
      have g5 : I5.1 88 4 = zi pl.length := by rw [← e5, zu_oo (by decide)]; exact f1
      refine (w_set (by decide)).mpr ?_
      rw [g5, rs_in (by decide) hl]
      generalize e6 : zu I5 (91 + 1) pl.length (zi b) = I6
      have g6 : I6.1 88 4 = zi pl.length := by rw [← e6, zu_oo (by decide)]; exact g5
      refine (w_get (by decide)).mpr ?_
      rw [rg_in (by decide) hpl, show I6.1 (95 + 1) (plc a) = zi (lastF pl a pl.length) by rw [← e6, zu_oo (by decide), ← e5, zu_oo (by decide)]; exact f3 a ha]
      refine (w_set (by decide)).mpr ?_
      rw [g6, rs_in (by decide) hl]
      generalize e8 : zu I6 (93 + 1) pl.length (zi (lastF pl a pl.length)) = I8
      have g8 : I8.1 88 4 = zi pl.length := by rw [← e8, zu_oo (by decide)]; exact g6
      refine (w_set (by decide)).mpr ?_
      rw [g8, rs_in (by decide) hpl, zi_succ]
      generalize e9 : zu I8 (95 + 1) (plc a) (zi (pl.length + 1)) = I9
      have g9 : I9.1 88 4 = zi pl.length := by rw [← e9, zu_oo (by decide)]; exact g8
      intro I10 e10
      rw [g9, zi_succ] at e10
      have g10 : I10.1 88 4 = zi (pl.length + 1) := by rw [e10, zu_self]
      rw [g10, show zi (pl.length + 1) - 1 = zi pl.length from zi_sub (b := 1) (by omega)]
      have hfm := fmp_new hno
      have hK' := hK I10
      rw [hfm] at hK'
      have v90 : ∀ j, I10.1 90 j = if j = pl.length then zi a else I.1 90 j := fun j => by
        rw [e10, zu_oo (by decide), ← e9, zu_oo (by decide), ← e8, zu_oo (by decide), ← e6, zu_oo (by decide), ← e5, zu_at]
        by_cases u : j = pl.length
        · rw [if_pos ⟨rfl, u⟩, if_pos u]
        · rw [if_neg (fun v => u v.2), if_neg u]
      have v92 : ∀ j, I10.1 92 j = if j = pl.length then zi b else I.1 92 j := fun j => by
        rw [e10, zu_oo (by decide), ← e9, zu_oo (by decide), ← e8, zu_oo (by decide), ← e6, zu_at]
        by_cases u : j = pl.length
        · rw [if_pos ⟨rfl, u⟩, if_pos u]
        · rw [if_neg (fun v => u v.2), if_neg u, ← e5, zu_oo (by decide)]
      have v94 : ∀ j, I10.1 94 j = if j = pl.length then zi (lastF pl a pl.length) else I.1 94 j := fun j => by
        rw [e10, zu_oo (by decide), ← e9, zu_oo (by decide), ← e8, zu_at]
        by_cases u : j = pl.length
        · rw [if_pos ⟨rfl, u⟩, if_pos u]
        · rw [if_neg (fun v => u v.2), if_neg u, ← e6, zu_oo (by decide), ← e5, zu_oo (by decide)]
      have v96 : ∀ j, I10.1 96 j = if j = plc a then zi (pl.length + 1) else I.1 96 j := fun j => by
        rw [e10, zu_oo (by decide), ← e9, zu_at]
        by_cases u : j = plc a
        · rw [if_pos ⟨rfl, u⟩, if_pos u]
        · rw [if_neg (fun v => u v.2), if_neg u, ← e8, zu_oo (by decide), ← e6, zu_oo (by decide), ← e5, zu_oo (by decide)]
      have hgd : ∀ j, j < pl.length → (pl ++ [(a, b)]).getD j (0, 0) = pl.getD j (0, 0) := fun j hj => by
        rw [List.getD_eq_getElem?_getD, List.getD_eq_getElem?_getD, List.getElem?_append_left hj]
      have hgl : (pl ++ [(a, b)]).getD pl.length (0, 0) = (a, b) := by
        rw [List.getD_eq_getElem?_getD, List.getElem?_append_right (Nat.le_refl _), Nat.sub_self]
        rfl
      have hln : (pl ++ [(a, b)]).length = pl.length + 1 := List.length_append
      refine hK' ?_ ⟨by rw [g10, hln], fun i p hi => ?_, fun v hv => ?_, fun i p hi => ?_⟩
      · rw [e10, ← e9, ← e8, ← e6, ← e5]
        exact ((((eqQ.rf.zu (Or.inr (Or.inl rfl))).zu (Or.inr (Or.inr (Or.inl rfl)))).zu (Or.inr (Or.inr (Or.inr (Or.inl rfl))))).zu (Or.inr (Or.inr (Or.inr (Or.inr rfl))))).zu (Or.inl ⟨rfl, rfl⟩)
      · rw [v90, v92, v94]
        rcases snoc_at hi with hi | ⟨rfl, rfl⟩
        · have hil := (List.getElem?_eq_some_iff.mp hi).1
          rw [if_neg (by omega), if_neg (by omega), if_neg (by omega), lastF_cg i (fun j hj => hgd j (by omega))]
          exact f2 i p hi
        · rw [if_pos rfl, if_pos rfl, if_pos rfl, lastF_cg pl.length (fun j hj => hgd j hj)]
          exact ⟨rfl, rfl, rfl⟩
      · rw [v96, hln]
        show _ = zi (if ((pl ++ [(a, b)]).getD pl.length (0, 0)).1 = v then pl.length + 1 else lastF (pl ++ [(a, b)]) v pl.length)
        rw [hgl, lastF_cg pl.length (fun j hj => hgd j hj)]
        by_cases u : v = a
        · rw [u, if_pos rfl, if_pos rfl]
        · rw [if_neg (show ¬ plc v = plc a from fun w => u (by
            unfold plc at w
            unfold rowV at hv ha
            split at w <;> split at w <;> omega)), if_neg (show ¬ (a, b).1 = v from fun w => u w.symm)]
          exact f3 v hv
      · rcases snoc_at hi with hi | ⟨rfl, rfl⟩
        · exact f4 i p hi
        · exact ⟨ha14, hb14⟩
    have main : ∀ (d k i : Nat), lastF pl a k ≤ d → k ≤ pl.length → i + lastF pl a k ≤ pl.length → (∀ j : Nat, k ≤ j → pl[j]? ≠ some (a, b)) → P34 (zi (lastF pl a k)) (zi i) := by
      intro d
      induction d with
      | zero =>
        intro k i h0 hk hi hno
        refine h34 _ _ ?_
        intro P86 h86
        have h0' : lastF pl a k = 0 := by omega
        have hall : ∀ j : Nat, pl[j]? ≠ some (a, b) := fun j hj => by
          by_cases u : j < k
          · have := lastF_no k h0' j u
            rw [List.getD_eq_getElem?_getD, hj] at this
            exact this rfl
          · exact hno j (by omega) hj
        rw [h0', if_pos (show zi 0 ≤ 0 by decide)]
        by_cases u : (4000 : Int32) ≤ zi i
        · rw [if_pos u]
          exact h86 (make hall)
        · rw [if_neg u]
          exact h86 (make hall)
      | succ d ih =>
        intro k i h0 hk hi hno
        cases he : lastF pl a k with
        | zero =>
          have := ih k i (by omega) hk hi hno
          rw [he] at this
          exact this
        | succ e =>
          obtain ⟨b1, b2, b3⟩ := lastF_is k he
          refine h34 _ _ ?_
          intro P86 h86
          rw [if_neg (show ¬ (4000 : Int32) ≤ zi i from fun u => by have := (zi_le (a := 4000) (by decide) (by omega)).mp u; omega), if_neg (show ¬ zi (e + 1) ≤ 0 from fun u => by have := (zi_le (b := 0) (by omega) (by decide)).mp u; omega), show zi (e + 1) - 1 = zi e from zi_sub (b := 1) (by omega)]
          have hp : pl[e]? = some (pl[e]'(by omega)) := List.getElem?_eq_getElem (by omega)
          generalize pl[e]'(by omega) = p at hp
          have hp1 : p.1 = a := by
            rw [List.getD_eq_getElem?_getD, hp] at b1
            exact b1
          obtain ⟨c1, c2, c3⟩ := f2 e p hp
          refine (w_get (by decide)).mpr ?_
          rw [rg_in (by decide) (show e < 4000 by omega), show I.1 (91 + 1) e = zi p.2 from c2]
          by_cases u : p.2 = b
          · rw [if_pos (show zi p.2 = zi b by rw [u])]
            have hfm := fmp_is hu (show pl[e]? = some (a, b) by rw [hp, ← hp1, ← u])
            rw [hfm] at hK
            exact hK I eqQ.rf hP
          · rw [if_neg (fun w => u ((zi_eq (by have := (f4 e p hp).2; omega) (by omega)).mp w))]
            refine (w_get (by decide)).mpr ?_
            rw [rg_in (by decide) (show e < 4000 by omega), show I.1 (93 + 1) e = zi (lastF pl p.1 e) from c3, hp1]
            intro v ev
            rw [ev, zi_succ]
            have := lastF_le (pl := pl) (v := a) e
            refine ih e (i + 1) (by omega) (by omega) (by omega) (fun j hj hj2 => ?_)
            by_cases w : j = e
            · rw [w, hp] at hj2
              exact u (by rw [Option.some.inj hj2])
            · by_cases w2 : j < k
              · have := b3 j (by omega) w2
                rw [List.getD_eq_getElem?_getD, hj2] at this
                exact this rfl
              · exact hno j (by omega) hj2
    exact main pl.length pl.length 0 (lastF_le _) (Nat.le_refl _) (by have := lastF_le (pl := pl) (v := a) pl.length; omega) (fun j hj hj2 => by have := (List.getElem?_eq_some_iff.mp hj2).1; omega)
  unfold plc at rest
  by_cases u : 10000 ≤ a
  · rw [if_pos (show (10000 : Int32) ≤ zi a from (zi_le (a := 10000) (by decide) (by omega)).mpr u)]
    rw [if_pos u] at rest
    rw [show zi a - 10000 + 3400 = zi (a - 10000 + 3400) by rw [show (10000 : Int32) = zi 10000 from rfl, zi_sub u, show (3400 : Int32) = zi 3400 from rfl, zi_add]]
    exact rest
  · rw [if_neg (show ¬ (10000 : Int32) ≤ zi a from fun w => u ((zi_le (a := 10000) (by decide) (by omega)).mp w))]
    rw [if_neg u] at rest
    exact rest
theorem s_layPart {rs : List Nat} (hrs : ∀ r ∈ rs, r < 3400) (hrl : rs.length ≤ 100) : ∀ (dd lev f part : Nat) (pl : List (Nat × Nat)) (I : zI) (K : Int32 → zI → Prop), lev + dd = 9 → 1 ≤ part → part ≤ 2 ^ dd → f + part ≤ rs.length → pl.length + part ≤ 4000 → PrU pl → PrX I pl → (∀ i r, rs[i]? = some r → I.1 63 i = zi r) → (∀ J, eqQ Qpr I J → PrX J (layR rs dd f part pl).2 → K (zi (layR rs dd f part pl).1) J) → w_Pairs_layPart (dd + 1) 62 100 (zi f) (zi part) (zi lev) I K := by
  intro dd
  induction dd with
  | zero =>
    intro lev f part pl I K hlev h1 h2 hf hpl hu hP hR hK P12 h12
    have hp1 : part = 1 := by
      change part ≤ 1 at h2
      omega
    subst hp1
    rw [if_pos (show zi 1 ≤ 1 by decide)]
    refine h12 ((w_get (by decide)).mpr ?_)
    have hr : rs[f]? = some (rs[f]'(by omega)) := List.getElem?_eq_getElem (by omega)
    rw [rg_in (by decide) (show f < 100 by omega), show I.1 (62 + 1) f = zi (rs.getD f 0) by
      rw [List.getD_eq_getElem?_getD, hr]
      exact hR f _ hr]
    exact hK I eqQ.rf hP
  | succ dd ih =>
    intro lev f part pl I K hlev h1 h2 hf hpl hu hP hR hK P12 h12
    have hL : layR rs (dd + 1) f part pl = if part ≤ 1 then (rs.getD f 0, pl) else
      (10000 + (fmP (layR rs dd f ((part + 1) / 2) pl).1 (layR rs dd (f + (part + 1) / 2) (part - (part + 1) / 2) (layR rs dd f ((part + 1) / 2) pl).2).1 (layR rs dd (f + (part + 1) / 2) (part - (part + 1) / 2) (layR rs dd f ((part + 1) / 2) pl).2).2).1,
      (fmP (layR rs dd f ((part + 1) / 2) pl).1 (layR rs dd (f + (part + 1) / 2) (part - (part + 1) / 2) (layR rs dd f ((part + 1) / 2) pl).2).1 (layR rs dd (f + (part + 1) / 2) (part - (part + 1) / 2) (layR rs dd f ((part + 1) / 2) pl).2).2).2) := rfl
    by_cases hp : part ≤ 1
    · rw [if_pos hp] at hL
      rw [hL] at hK
      have hp1 : part = 1 := by omega
      subst hp1
      rw [if_pos (show zi 1 ≤ 1 by decide)]
      refine h12 ((w_get (by decide)).mpr ?_)
      have hr : rs[f]? = some (rs[f]'(by omega)) := List.getElem?_eq_getElem (by omega)
      rw [rg_in (by decide) (show f < 100 by omega), show I.1 (62 + 1) f = zi (rs.getD f 0) by
        rw [List.getD_eq_getElem?_getD, hr]
        exact hR f _ hr]
      exact hK I eqQ.rf hP
    · rw [if_neg hp] at hL
      rw [hL] at hK
      rw [if_neg (show ¬ zi part ≤ 1 from fun u => hp ((zi_le (b := 1) (by omega) (by decide)).mp u)), if_pos (show zi lev ≤ 8 from (zi_le (b := 8) (by omega) (by decide)).mpr (by omega))]
      intro v ev
      rw [zi_succ, div_fin _ (by omega)] at ev
      subst ev
      rw [zi_succ]
      have hpow : 2 ^ (dd + 1) = 2 * 2 ^ dd := by rw [Nat.pow_succ, Nat.mul_comm]
      obtain ⟨a1, a2, a3, a4⟩ := layR_ok hrs dd f ((part + 1) / 2) pl (by omega) hu
      refine ih (lev + 1) f ((part + 1) / 2) pl I _ (by omega) (by omega) (by omega) (by omega) (by omega) hu hP hR (fun J qJ pJ => ?_)
      obtain ⟨b1, b2, b3, b4⟩ := layR_ok hrs dd (f + (part + 1) / 2) (part - (part + 1) / 2) (layR rs dd f ((part + 1) / 2) pl).2 (by omega) a1
      rw [zi_add, zi_sub (show (part + 1) / 2 ≤ part by omega)]
      refine ih (lev + 1) (f + (part + 1) / 2) (part - (part + 1) / 2) _ J _ (by omega) (by omega) (by omega) (by omega) (by omega) a1 pJ (fun i r hi => by rw [qJ.1 63 i (by unfold Qpr; omega)]; exact hR i r hi) (fun J2 q2 p2 => ?_)
      refine s_findOrMake p2 b1 (by unfold rowV at *; omega) (by unfold rowV at *; omega) (by omega) (fun J3 q3 p3 => ?_)
      rw [show (10000 : Int32) = zi 10000 from rfl, zi_add]
      exact hK J3 ((qJ.tr q2).tr q3) p3
/-- the ROW of all RUNS -/
def rowI (rs : List Nat) (pl : List (Nat × Nat)) : Int32 := if rs.length = 0 then -2 else zi (layR rs 9 0 rs.length pl).1
/-- the ROW of all RUNS; PAIRS then -/
def layAllR (rs : List Nat) (pl : List (Nat × Nat)) : List (Nat × Nat) := if rs.length = 0 then pl else (layR rs 9 0 rs.length pl).2
theorem s_layAll {rs : List Nat} {pl : List (Nat × Nat)} {I : zI} {K : Int32 → zI → Prop} (hrs : ∀ r ∈ rs, r < 3400) (hrl : rs.length ≤ 99) (hpl : pl.length + 99 ≤ 4000) (hu : PrU pl) (hP : PrX I pl) (hR : ∀ i r, rs[i]? = some r → I.1 63 i = zi r) (hK : ∀ J : zI, eqQ Qpr I J → PrX J (layAllR rs pl) → K (rowI rs pl) J) : w_Pairs_layAll 62 100 (zi rs.length) I K := by
  unfold w_Pairs_layAll
  unfold layAllR rowI at hK
  by_cases h0 : rs.length = 0
  · rw [h0, if_pos (show zi 0 = 0 from rfl)]
    rw [if_pos h0, if_pos h0] at hK
    exact hK I eqQ.rf hP
  · rw [if_neg (show ¬ zi rs.length = 0 from fun u => h0 ((zi_eq (b := 0) (by omega) (by decide)).mp u))]
    rw [if_neg h0, if_neg h0] at hK
    exact s_layPart hrs (by omega) 9 0 0 rs.length pl I _ (by omega) (by omega) (by omega) (by omega) (by omega) hu hP hR (fun J q p => hK J q p)
/-! ===== PAIRS: the model ===== -/
def PrM (I : zI) (pl : List (Nat × Nat)) : Prop :=
  I.1 491 59 = zi pl.length ∧ (∀ (i : Nat) (p : Nat × Nat), pl[i]? = some p → I.1 533 i = zi p.1 ∧ I.1 534 i = zi p.2) ∧ ∀ (i : Nat) (p : Nat × Nat), pl[i]? = some p → p.1 < 15000 ∧ p.2 < 15000
theorem i_succ {v b : Int32} (h : v < b) : (v + 1).toInt = v.toInt + 1 := by
  have h1 := Int32.lt_iff_toInt_lt.mp h
  have h2 := b.toInt_lt
  have h3 := v.le_toInt
  rw [Int32.toInt_add, show (1 : Int32).toInt = 1 from rfl]
  exact Int.bmod_eq_of_le (by omega) (by omega)
theorem up_loop {P : Int32 → zI → Prop} {b : Int32} {inv : zI → Prop} (step : ∀ v J, v < b → inv J → (∀ J', inv J' → P (v + 1) J') → P v J) (stop : ∀ v J, b ≤ v → inv J → P v J) : ∀ v J, inv J → P v J := by
  have main : ∀ (n : Nat) (v : Int32) (J : zI), (b.toInt - v.toInt).toNat ≤ n → inv J → P v J := by
    intro n
    induction n with
    | zero =>
      intro v J hn hJ
      refine stop v J (Int32.le_iff_toInt_le.mpr (by omega)) hJ
    | succ n ih =>
      intro v J hn hJ
      by_cases hv : v < b
      · refine step v J hv hJ (fun J' hJ' => ih (v + 1) J' ?_ hJ')
        have h1 := Int32.lt_iff_toInt_lt.mp hv
        rw [i_succ hv]
        omega
      · exact stop v J (Int32.not_lt.mp hv) hJ
  exact fun v J => main _ v J (Nat.le_refl _)
theorem eqQ.rs {Q : Nat → Nat → Prop} {I J : zI} {a n : Nat} {i v : Int32} (h : eqQ Q I J) (hQ : ∀ j, Q a j) : eqQ Q I (rs J a n i v) := by
  unfold Jvm.Pilot.@@N@@.rs
  split
  · exact h
  · split
    · exact h
    · exact h.zu (hQ _)
theorem eqX.q {Q : Nat → Nat → Prop} {I J L : zI} {lo hi : Nat} (h : eqQ Q I J) (h2 : eqX lo hi J L) (hQ : ∀ a j, lo ≤ a → a < hi → Q a j) : eqQ Q I L :=
  h.tr ⟨fun a j u => congrFun (h2 a (by
    by_cases c : a < lo
    · exact Or.inl c
    · by_cases d : hi ≤ a
      · exact Or.inr d
      · exact absurd (hQ a j (by omega) (by omega)) u)).1 j, fun a j u => congrFun (h2 a (by
    by_cases c : a < lo
    · exact Or.inl c
    · by_cases d : hi ≤ a
      · exact Or.inr d
      · exact absurd (hQ a j (by omega) (by omega)) u)).2 j⟩
/-! ===== all statements RUN, the class: it returns, and changes its own rows alone ===== -/
def Qrr (a j : Nat) : Prop := 69 ≤ a ∧ a ≤ 87
theorem r_sameBytes {a b : Int32} {I : zI} {K : Int32 → Prop} (h1 : K 1) (h0 : K 0) : w_Nodes_sameBytes a b I K := by
  unfold w_Nodes_sameBytes
  refine (w_get (by decide)).mpr ((w_get (by decide)).mpr ?_)
  split
  · refine (w_get (by decide)).mpr ((w_get (by decide)).mpr ?_)
    split
    · refine (w_get (by decide)).mpr ((w_get (by decide)).mpr ?_)
      split
      · refine (w_get (by decide)).mpr ((w_get (by decide)).mpr ?_)
        split
        · exact h1
        · exact h0
      · exact h0
    · exact h0
  · exact h0
