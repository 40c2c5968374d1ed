/-! ===== PAIRS ===== -/
theorem div_fin : ∀ p, p < 200 → zi p / 2 = zi (p / 2) := by decide +kernel
/-- there already, or one more -/
def fmP (a b : Nat) (pl : List (Nat × Nat)) : Nat × List (Nat × Nat) := match pl.findIdx? (fun p => p == (a, b)) with
  | some i => (i, pl)
  | none => (pl.length, pl ++ [(a, b)])
/-- the ROW of a part of the RUNS -/
def layR (rs : List Nat) : Nat → Nat → Nat → List (Nat × Nat) → Nat × List (Nat × Nat)
  | 0, f, _, pl => (rs.getD f 0, pl)
  | d + 1, f, part, pl => if part ≤ 1 then (rs.getD f 0, pl) else
    (10000 + (fmP (layR rs d f ((part + 1) / 2) pl).1 (layR rs d (f + (part + 1) / 2) (part - (part + 1) / 2) (layR rs d f ((part + 1) / 2) pl).2).1 (layR rs d (f + (part + 1) / 2) (part - (part + 1) / 2) (layR rs d f ((part + 1) / 2) pl).2).2).1,
      (fmP (layR rs d f ((part + 1) / 2) pl).1 (layR rs d (f + (part + 1) / 2) (part - (part + 1) / 2) (layR rs d f ((part + 1) / 2) pl).2).1 (layR rs d (f + (part + 1) / 2) (part - (part + 1) / 2) (layR rs d f ((part + 1) / 2) pl).2).2).2)
def PrU (pl : List (Nat × Nat)) : Prop := ∀ (i j : Nat) (p : Nat × Nat), pl[i]? = some p → pl[j]? = some p → i = j
theorem fmp_at {pl : List (Nat × Nat)} {a b i : Nat} (h : pl.findIdx? (fun p => p == (a, b)) = some i) : pl[i]? = some (a, b) := by
  obtain ⟨h1, h2, -⟩ := List.findIdx?_eq_some_iff_getElem.mp h
  rw [List.getElem?_eq_getElem h1, beq_iff_eq.mp h2]
theorem fmp_no {pl : List (Nat × Nat)} {a b : Nat} (h : pl.findIdx? (fun p => p == (a, b)) = none) : ∀ i : Nat, pl[i]? ≠ some (a, b) := by
  intro i hi
  have := List.findIdx?_eq_none_iff.mp h (a, b) (List.mem_of_getElem? hi)
  rw [beq_self_eq_true] at this
  cases this
theorem fmp_is {pl : List (Nat × Nat)} (hu : PrU pl) {a b i : Nat} (h : pl[i]? = some (a, b)) : fmP a b pl = (i, pl) := by
  unfold fmP
  cases e : pl.findIdx? (fun p => p == (a, b)) with
  | none => exact absurd h (fmp_no e i)
  | some j =>
    rw [hu j i _ (fmp_at e) h]
theorem fmp_new {pl : List (Nat × Nat)} {a b : Nat} (h : ∀ i : Nat, pl[i]? ≠ some (a, b)) : fmP a b pl = (pl.length, pl ++ [(a, b)]) := by
  unfold fmP
  cases e : pl.findIdx? (fun p => p == (a, b)) with
  | none => rfl
  | some j => exact absurd (fmp_at e) (h j)
theorem fmp_ok {pl : List (Nat × Nat)} (hu : PrU pl) (a b : Nat) : PrU (fmP a b pl).2 ∧ pl.length ≤ (fmP a b pl).2.length ∧ (fmP a b pl).2.length ≤ pl.length + 1 ∧ (fmP a b pl).1 < (fmP a b pl).2.length := by
  unfold fmP
  cases e : pl.findIdx? (fun p => p == (a, b)) with
  | some j =>
    have := (List.getElem?_eq_some_iff.mp (fmp_at e)).1
    exact ⟨hu, Nat.le_refl _, Nat.le_succ _, this⟩
  | none =>
    have h := fmp_no e
    refine ⟨fun i j p hi hj => ?_, ?_, ?_, ?_⟩
    · rcases snoc_at hi with hi | ⟨i1, i2⟩
      · rcases snoc_at hj with hj | ⟨j1, j2⟩
        · exact hu i j p hi hj
        · rw [j2] at hi
          exact absurd hi (h i)
      · rcases snoc_at hj with hj | ⟨j1, j2⟩
        · rw [i2] at hj
          exact absurd hj (h j)
        · omega
    · show pl.length ≤ (pl ++ [(a, b)]).length
      rw [List.length_append]
      omega
    · show (pl ++ [(a, b)]).length ≤ pl.length + 1
      rw [List.length_append]
      exact Nat.le_refl _
    · show pl.length < (pl ++ [(a, b)]).length
      rw [List.length_append]
      show pl.length < pl.length + 1
      omega
/-- what a ROW is: a node, or a PAIR -/
def rowV (v n : Nat) : Prop := v < 3400 ∨ (10000 ≤ v ∧ v < 10000 + n)
theorem layR_ok {rs : List Nat} (hrs : ∀ r ∈ rs, r < 3400) : ∀ (d f part : Nat) (pl : List (Nat × Nat)), 1 ≤ part → PrU pl → PrU (layR rs d f part pl).2 ∧ pl.length ≤ (layR rs d f part pl).2.length ∧ (layR rs d f part pl).2.length + 1 ≤ pl.length + part ∧ rowV (layR rs d f part pl).1 (layR rs d f part pl).2.length
  | 0, f, part, pl, h1, hu => by
    refine ⟨hu, Nat.le_refl _, Nat.add_le_add_left h1 _, Or.inl ?_⟩
    show rs.getD f 0 < 3400
    rw [List.getD_eq_getElem?_getD]
    cases e : rs[f]? with
    | none => exact (by decide : 0 < 3400)
    | some r => exact hrs r (List.mem_of_getElem? e)
  | d + 1, f, part, pl, h1, hu => by
    have hL : layR rs (d + 1) f part pl = if part ≤ 1 then (rs.getD f 0, pl) else
      (10000 + (fmP (layR rs d f ((part + 1) / 2) pl).1 (layR rs d (f + (part + 1) / 2) (part - (part + 1) / 2) (layR rs d f ((part + 1) / 2) pl).2).1 (layR rs d (f + (part + 1) / 2) (part - (part + 1) / 2) (layR rs d f ((part + 1) / 2) pl).2).2).1,
      (fmP (layR rs d f ((part + 1) / 2) pl).1 (layR rs d (f + (part + 1) / 2) (part - (part + 1) / 2) (layR rs d f ((part + 1) / 2) pl).2).1 (layR rs d (f + (part + 1) / 2) (part - (part + 1) / 2) (layR rs d f ((part + 1) / 2) pl).2).2).2) := rfl
    by_cases hp : part ≤ 1
    · rw [if_pos hp] at hL
      rw [hL]
      refine ⟨hu, Nat.le_refl _, Nat.add_le_add_left h1 _, Or.inl ?_⟩
      show rs.getD f 0 < 3400
      rw [List.getD_eq_getElem?_getD]
      cases e : rs[f]? with
      | none => exact (by decide : 0 < 3400)
      | some r => exact hrs r (List.mem_of_getElem? e)
    · rw [if_neg hp] at hL
      rw [hL]
      obtain ⟨a1, a2, a3, a4⟩ := layR_ok hrs d f ((part + 1) / 2) pl (by omega) hu
      obtain ⟨b1, b2, b3, b4⟩ := layR_ok hrs d (f + (part + 1) / 2) (part - (part + 1) / 2) (layR rs d f ((part + 1) / 2) pl).2 (by omega) a1
      obtain ⟨c1, c2, c3, c4⟩ := fmp_ok b1 (layR rs d f ((part + 1) / 2) pl).1 (layR rs d (f + (part + 1) / 2) (part - (part + 1) / 2) (layR rs d f ((part + 1) / 2) pl).2).1
      refine ⟨c1, by dsimp only; omega, by dsimp only; omega, Or.inr ⟨by dsimp only; omega, by dsimp only; omega⟩⟩
/-- of the PAIRS ahead of the k-th the last whose first half is v, and 1; none: 0 -/
def lastF (pl : List (Nat × Nat)) (v : Nat) : Nat → Nat
  | 0 => 0
  | k + 1 => if (pl.getD k (0, 0)).1 = v then k + 1 else lastF pl v k
theorem lastF_le {pl : List (Nat × Nat)} {v : Nat} : ∀ k, lastF pl v k ≤ k
  | 0 => Nat.le_refl _
  | k + 1 => by
    show (if (pl.getD k (0, 0)).1 = v then k + 1 else lastF pl v k) ≤ k + 1
    have := lastF_le (pl := pl) (v := v) k
    split <;> omega
theorem lastF_is {pl : List (Nat × Nat)} {v a : Nat} : ∀ k, lastF pl v k = a + 1 → (pl.getD a (0, 0)).1 = v ∧ a < k ∧ ∀ j, a < j → j < k → (pl.getD j (0, 0)).1 ≠ v
  | 0, h => by
    change 0 = a + 1 at h
    omega
  | k + 1, h => by
    have h' : (if (pl.getD k (0, 0)).1 = v then k + 1 else lastF pl v k) = a + 1 := h
    by_cases u : (pl.getD k (0, 0)).1 = v
    · rw [if_pos u] at h'
      rw [show a = k by omega]
      exact ⟨u, Nat.lt_succ_self _, fun j h1 h2 => by omega⟩
    · rw [if_neg u] at h'
      obtain ⟨b1, b2, b3⟩ := lastF_is k h'
      refine ⟨b1, by omega, fun j h1 h2 => ?_⟩
      by_cases w : j = k
      · rw [w]
        exact u
      · exact b3 j h1 (by omega)
theorem lastF_no {pl : List (Nat × Nat)} {v : Nat} : ∀ k, lastF pl v k = 0 → ∀ j, j < k → (pl.getD j (0, 0)).1 ≠ v
  | 0, _, j, hj => by omega
  | k + 1, h, j, hj => by
    have h' : (if (pl.getD k (0, 0)).1 = v then k + 1 else lastF pl v k) = 0 := h
    by_cases u : (pl.getD k (0, 0)).1 = v
    · rw [if_pos u] at h'
      omega
    · rw [if_neg u] at h'
      by_cases w : j = k
      · rw [w]
        exact u
      · exact lastF_no k h' j (by omega)
theorem lastF_cg {pl pl' : List (Nat × Nat)} {v : Nat} : ∀ k, (∀ j, j < k → pl'.getD j (0, 0) = pl.getD j (0, 0)) → lastF pl' v k = lastF pl v k
  | 0, _ => rfl
  | k + 1, h => by
    show (if (pl'.getD k (0, 0)).1 = v then k + 1 else lastF pl' v k) = (if (pl.getD k (0, 0)).1 = v then k + 1 else lastF pl v k)
    rw [h k (by omega), lastF_cg k (fun j hj => h j (by omega))]
def plc (v : Nat) : Nat := if 10000 ≤ v then v - 10000 + 3400 else v
def PrX (I : zI) (pl : List (Nat × Nat)) : Prop :=
  I.1 88 4 = zi pl.length ∧ (∀ (i : Nat) (p : Nat × Nat), pl[i]? = some p → I.1 90 i = zi p.1 ∧ I.1 92 i = zi p.2 ∧ I.1 94 i = zi (lastF pl p.1 i)) ∧ (∀ v, rowV v 4000 → I.1 96 (plc v) = zi (lastF pl v pl.length)) ∧ ∀ (i : Nat) (p : Nat × Nat), pl[i]? = some p → p.1 < 14000 ∧ p.2 < 14000
def Qpr (a j : Nat) : Prop := (a = 88 ∧ j = 4) ∨ a = 90 ∨ a = 92 ∨ a = 94 ∨ a = 96
theorem s_findOrMake {a b : Nat} {pl : List (Nat × Nat)} {I : zI} {K : Int32 → zI → Prop} (hP : PrX I pl) (hu : PrU pl) (ha : rowV a 4000) (hb : rowV b 4000) (hl : pl.length < 4000)
    (hK : ∀ J, eqQ Qpr I J → PrX J (fmP a b pl).2 → K (zi (fmP a b pl).1) J) : w_Pairs_findOrMake (zi a) (zi b) I K := by
  intro P20 h20
  obtain ⟨f1, f2, f3, f4⟩ := id hP
  have ha14 : a < 14000 := by unfold rowV at ha; omega
  have hb14 : b < 14000 := by unfold rowV at hb; omega
  have hpl : plc a < 7400 := by
    unfold plc
    unfold rowV at ha
    split <;> omega
  have rest : P20 (zi (plc a)) := by
    refine h20 _ ((w_get (by decide)).mpr ?_)
    rw [rg_in (by decide) hpl, show I.1 (95 + 1) (plc a) = zi (lastF pl a pl.length) from f3 a ha]
    intro P34 h34
    have make : (∀ i : Nat, pl[i]? ≠ some (a, b)) → (w_Row_set 89 4000 (I.1 88 4) (zi a) I (fun I_5 => w_Row_set 91 4000 (I_5.1 88 4) (zi b) I_5 (fun I_6 => w_Row_get 95 7400 (zi (plc a)) I_6 (fun r_7 => w_Row_set 93 4000 (I_6.1 88 4) r_7 I_6 (fun I_8 => w_Row_set 95 7400 (zi (plc a)) ((I_8.1 88 4) + 1) I_8 (fun I_9 => ∀ I_10, I_10 = (zu I_9 88 4 ((I_9.1 88 4) + 1)) → K ((I_10.1 88 4) - 1) I_10)))))) := by
      intro hno
      refine (w_set (by decide)).mpr ?_
      rw [f1, rs_in (by decide) hl]
      generalize e5 : zu I (89 + 1) pl.length (zi a) = I5
      have g5 : I5.1 88 4 = zi pl.length := by rw [← e5, zu_oo (by decide)]; exact f1
      refine (w_set (by decide)).mpr ?_
      rw [g5, rs_in (by decide) hl]
      generalize e6 : zu I5 (91 + 1) pl.length (zi b) = I6
      have g6 : I6.1 88 4 = zi pl.length := by rw [← e6, zu_oo (by decide)]; exact g5
      refine (w_get (by decide)).mpr ?_
      rw [rg_in (by decide) hpl, show I6.1 (95 + 1) (plc a) = zi (lastF pl a pl.length) by rw [← e6, zu_oo (by decide), ← e5, zu_oo (by decide)]; exact f3 a ha]
      refine (w_set (by decide)).mpr ?_
      rw [g6, rs_in (by decide) hl]
      generalize e8 : zu I6 (93 + 1) pl.length (zi (lastF pl a pl.length)) = I8
      have g8 : I8.1 88 4 = zi pl.length := by rw [← e8, zu_oo (by decide)]; exact g6
      refine (w_set (by decide)).mpr ?_
      rw [g8, rs_in (by decide) hpl, zi_succ]
      generalize e9 : zu I8 (95 + 1) (plc a) (zi (pl.length + 1)) = I9
      have g9 : I9.1 88 4 = zi pl.length := by rw [← e9, zu_oo (by decide)]; exact g8
      intro I10 e10
      rw [g9, zi_succ] at e10
      have g10 : I10.1 88 4 = zi (pl.length + 1) := by rw [e10, zu_self]
      rw [g10, show zi (pl.length + 1) - 1 = zi pl.length from zi_sub (b := 1) (by omega)]
      have hfm := fmp_new hno
      have hK' := hK I10
      rw [hfm] at hK'
      have v90 : ∀ j, I10.1 90 j = if j = pl.length then zi a else I.1 90 j := fun j => by
        rw [e10, zu_oo (by decide), ← e9, zu_oo (by decide), ← e8, zu_oo (by decide), ← e6, zu_oo (by decide), ← e5, zu_at]
        by_cases u : j = pl.length
        · rw [if_pos ⟨rfl, u⟩, if_pos u]
        · rw [if_neg (fun v => u v.2), if_neg u]
      have v92 : ∀ j, I10.1 92 j = if j = pl.length then zi b else I.1 92 j := fun j => by
        rw [e10, zu_oo (by decide), ← e9, zu_oo (by decide), ← e8, zu_oo (by decide), ← e6, zu_at]
        by_cases u : j = pl.length
        · rw [if_pos ⟨rfl, u⟩, if_pos u]
        · rw [if_neg (fun v => u v.2), if_neg u, ← e5, zu_oo (by decide)]
      have v94 : ∀ j, I10.1 94 j = if j = pl.length then zi (lastF pl a pl.length) else I.1 94 j := fun j => by
        rw [e10, zu_oo (by decide), ← e9, zu_oo (by decide), ← e8, zu_at]
        by_cases u : j = pl.length
        · rw [if_pos ⟨rfl, u⟩, if_pos u]
        · rw [if_neg (fun v => u v.2), if_neg u, ← e6, zu_oo (by decide), ← e5, zu_oo (by decide)]
      have v96 : ∀ j, I10.1 96 j = if j = plc a then zi (pl.length + 1) else I.1 96 j := fun j => by
        rw [e10, zu_oo (by decide), ← e9, zu_at]
        by_cases u : j = plc a
        · rw [if_pos ⟨rfl, u⟩, if_pos u]
        · rw [if_neg (fun v => u v.2), if_neg u, ← e8, zu_oo (by decide), ← e6, zu_oo (by decide), ← e5, zu_oo (by decide)]
      have hgd : ∀ j, j < pl.length → (pl ++ [(a, b)]).getD j (0, 0) = pl.getD j (0, 0) := fun j hj => by
        rw [List.getD_eq_getElem?_getD, List.getD_eq_getElem?_getD, List.getElem?_append_left hj]
      have hgl : (pl ++ [(a, b)]).getD pl.length (0, 0) = (a, b) := by
        rw [List.getD_eq_getElem?_getD, List.getElem?_append_right (Nat.le_refl _), Nat.sub_self]
        rfl
      have hln : (pl ++ [(a, b)]).length = pl.length + 1 := List.length_append
      refine hK' ?_ ⟨by rw [g10, hln], fun i p hi => ?_, fun v hv => ?_, fun i p hi => ?_⟩
      · rw [e10, ← e9, ← e8, ← e6, ← e5]
        exact ((((eqQ.rf.zu (Or.inr (Or.inl rfl))).zu (Or.inr (Or.inr (Or.inl rfl)))).zu (Or.inr (Or.inr (Or.inr (Or.inl rfl))))).zu (Or.inr (Or.inr (Or.inr (Or.inr rfl))))).zu (Or.inl ⟨rfl, rfl⟩)
      · rw [v90, v92, v94]
        rcases snoc_at hi with hi | ⟨rfl, rfl⟩
        · have hil := (List.getElem?_eq_some_iff.mp hi).1
          rw [if_neg (by omega), if_neg (by omega), if_neg (by omega), lastF_cg i (fun j hj => hgd j (by omega))]
          exact f2 i p hi
        · rw [if_pos rfl, if_pos rfl, if_pos rfl, lastF_cg pl.length (fun j hj => hgd j hj)]
          exact ⟨rfl, rfl, rfl⟩
      · rw [v96, hln]
        show _ = zi (if ((pl ++ [(a, b)]).getD pl.length (0, 0)).1 = v then pl.length + 1 else lastF (pl ++ [(a, b)]) v pl.length)
        rw [hgl, lastF_cg pl.length (fun j hj => hgd j hj)]
        by_cases u : v = a
        · rw [u, if_pos rfl, if_pos rfl]
        · rw [if_neg (show ¬ plc v = plc a from fun w => u (by
            unfold plc at w
            unfold rowV at hv ha
            split at w <;> split at w <;> omega)), if_neg (show ¬ (a, b).1 = v from fun w => u w.symm)]
          exact f3 v hv
      · rcases snoc_at hi with hi | ⟨rfl, rfl⟩
        · exact f4 i p hi
        · exact ⟨ha14, hb14⟩
    have main : ∀ (d k i : Nat), lastF pl a k ≤ d → k ≤ pl.length → i + lastF pl a k ≤ pl.length → (∀ j : Nat, k ≤ j → pl[j]? ≠ some (a, b)) → P34 (zi (lastF pl a k)) (zi i) := by
      intro d
      induction d with
      | zero =>
        intro k i h0 hk hi hno
        refine h34 _ _ ?_
        intro P86 h86
        have h0' : lastF pl a k = 0 := by omega
        have hall : ∀ j : Nat, pl[j]? ≠ some (a, b) := fun j hj => by
          by_cases u : j < k
          · have := lastF_no k h0' j u
            rw [List.getD_eq_getElem?_getD, hj] at this
            exact this rfl
          · exact hno j (by omega) hj
        rw [h0', if_pos (show zi 0 ≤ 0 by decide)]
        by_cases u : (4000 : Int32) ≤ zi i
        · rw [if_pos u]
          exact h86 (make hall)
        · rw [if_neg u]
          exact h86 (make hall)
      | succ d ih =>
        intro k i h0 hk hi hno
        cases he : lastF pl a k with
        | zero =>
          have := ih k i (by omega) hk hi hno
          rw [he] at this
          exact this
        | succ e =>
          obtain ⟨b1, b2, b3⟩ := lastF_is k he
          refine h34 _ _ ?_
          intro P86 h86
          rw [if_neg (show ¬ (4000 : Int32) ≤ zi i from fun u => by have := (zi_le (a := 4000) (by decide) (by omega)).mp u; omega), if_neg (show ¬ zi (e + 1) ≤ 0 from fun u => by have := (zi_le (b := 0) (by omega) (by decide)).mp u; omega), show zi (e + 1) - 1 = zi e from zi_sub (b := 1) (by omega)]
          have hp : pl[e]? = some (pl[e]'(by omega)) := List.getElem?_eq_getElem (by omega)
          generalize pl[e]'(by omega) = p at hp
          have hp1 : p.1 = a := by
            rw [List.getD_eq_getElem?_getD, hp] at b1
            exact b1
          obtain ⟨c1, c2, c3⟩ := f2 e p hp
          refine (w_get (by decide)).mpr ?_
          rw [rg_in (by decide) (show e < 4000 by omega), show I.1 (91 + 1) e = zi p.2 from c2]
          by_cases u : p.2 = b
          · rw [if_pos (show zi p.2 = zi b by rw [u])]
            have hfm := fmp_is hu (show pl[e]? = some (a, b) by rw [hp, ← hp1, ← u])
            rw [hfm] at hK
            exact hK I eqQ.rf hP
          · rw [if_neg (fun w => u ((zi_eq (by have := (f4 e p hp).2; omega) (by omega)).mp w))]
            refine (w_get (by decide)).mpr ?_
            rw [rg_in (by decide) (show e < 4000 by omega), show I.1 (93 + 1) e = zi (lastF pl p.1 e) from c3, hp1]
            intro v ev
            rw [ev, zi_succ]
            have := lastF_le (pl := pl) (v := a) e
            refine ih e (i + 1) (by omega) (by omega) (by omega) (fun j hj hj2 => ?_)
            by_cases w : j = e
            · rw [w, hp] at hj2
              exact u (by rw [Option.some.inj hj2])
            · by_cases w2 : j < k
              · have := b3 j (by omega) w2
                rw [List.getD_eq_getElem?_getD, hj2] at this
                exact this rfl
              · exact hno j (by omega) hj2
    exact main pl.length pl.length 0 (lastF_le _) (Nat.le_refl _) (by have := lastF_le (pl := pl) (v := a) pl.length; omega) (fun j hj hj2 => by have := (List.getElem?_eq_some_iff.mp hj2).1; omega)
  unfold plc at rest
  by_cases u : 10000 ≤ a
  · rw [if_pos (show (10000 : Int32) ≤ zi a from (zi_le (a := 10000) (by decide) (by omega)).mpr u)]
    rw [if_pos u] at rest
    rw [show zi a - 10000 + 3400 = zi (a - 10000 + 3400) by rw [show (10000 : Int32) = zi 10000 from rfl, zi_sub u, show (3400 : Int32) = zi 3400 from rfl, zi_add]]
    exact rest
  · rw [if_neg (show ¬ (10000 : Int32) ≤ zi a from fun w => u ((zi_le (a := 10000) (by decide) (by omega)).mp w))]
    rw [if_neg u] at rest
    exact rest
theorem s_layPart {rs : List Nat} (hrs : ∀ r ∈ rs, r < 3400) (hrl : rs.length ≤ 100) : ∀ (dd lev f part : Nat) (pl : List (Nat × Nat)) (I : zI) (K : Int32 → zI → Prop), lev + dd = 9 → 1 ≤ part → part ≤ 2 ^ dd → f + part ≤ rs.length → pl.length + part ≤ 4000 → PrU pl → PrX I pl → (∀ i r, rs[i]? = some r → I.1 63 i = zi r) → (∀ J, eqQ Qpr I J → PrX J (layR rs dd f part pl).2 → K (zi (layR rs dd f part pl).1) J) → w_Pairs_layPart (dd + 1) 62 100 (zi f) (zi part) (zi lev) I K := by
  intro dd
  induction dd with
  | zero =>
    intro lev f part pl I K hlev h1 h2 hf hpl hu hP hR hK P12 h12
    have hp1 : part = 1 := by
      change part ≤ 1 at h2
      omega
    subst hp1
    rw [if_pos (show zi 1 ≤ 1 by decide)]
    refine h12 ((w_get (by decide)).mpr ?_)
    have hr : rs[f]? = some (rs[f]'(by omega)) := List.getElem?_eq_getElem (by omega)
    rw [rg_in (by decide) (show f < 100 by omega), show I.1 (62 + 1) f = zi (rs.getD f 0) by
      rw [List.getD_eq_getElem?_getD, hr]
      exact hR f _ hr]
    exact hK I eqQ.rf hP
  | succ dd ih =>
    intro lev f part pl I K hlev h1 h2 hf hpl hu hP hR hK P12 h12
    have hL : layR rs (dd + 1) f part pl = if part ≤ 1 then (rs.getD f 0, pl) else
      (10000 + (fmP (layR rs dd f ((part + 1) / 2) pl).1 (layR rs dd (f + (part + 1) / 2) (part - (part + 1) / 2) (layR rs dd f ((part + 1) / 2) pl).2).1 (layR rs dd (f + (part + 1) / 2) (part - (part + 1) / 2) (layR rs dd f ((part + 1) / 2) pl).2).2).1,
      (fmP (layR rs dd f ((part + 1) / 2) pl).1 (layR rs dd (f + (part + 1) / 2) (part - (part + 1) / 2) (layR rs dd f ((part + 1) / 2) pl).2).1 (layR rs dd (f + (part + 1) / 2) (part - (part + 1) / 2) (layR rs dd f ((part + 1) / 2) pl).2).2).2) := rfl
    by_cases hp : part ≤ 1
    · rw [if_pos hp] at hL
      rw [hL] at hK
      have hp1 : part = 1 := by omega
      subst hp1
      rw [if_pos (show zi 1 ≤ 1 by decide)]
      refine h12 ((w_get (by decide)).mpr ?_)
      have hr : rs[f]? = some (rs[f]'(by omega)) := List.getElem?_eq_getElem (by omega)
      rw [rg_in (by decide) (show f < 100 by omega), show I.1 (62 + 1) f = zi (rs.getD f 0) by
        rw [List.getD_eq_getElem?_getD, hr]
        exact hR f _ hr]
      exact hK I eqQ.rf hP
    · rw [if_neg hp] at hL
      rw [hL] at hK
      rw [if_neg (show ¬ zi part ≤ 1 from fun u => hp ((zi_le (b := 1) (by omega) (by decide)).mp u)), if_pos (show zi lev ≤ 8 from (zi_le (b := 8) (by omega) (by decide)).mpr (by omega))]
      intro v ev
      rw [zi_succ, div_fin _ (by omega)] at ev
      subst ev
      rw [zi_succ]
      have hpow : 2 ^ (dd + 1) = 2 * 2 ^ dd := by rw [Nat.pow_succ, Nat.mul_comm]
      obtain ⟨a1, a2, a3, a4⟩ := layR_ok hrs dd f ((part + 1) / 2) pl (by omega) hu
      refine ih (lev + 1) f ((part + 1) / 2) pl I _ (by omega) (by omega) (by omega) (by omega) (by omega) hu hP hR (fun J qJ pJ => ?_)
      obtain ⟨b1, b2, b3, b4⟩ := layR_ok hrs dd (f + (part + 1) / 2) (part - (part + 1) / 2) (layR rs dd f ((part + 1) / 2) pl).2 (by omega) a1
      rw [zi_add, zi_sub (show (part + 1) / 2 ≤ part by omega)]
      refine ih (lev + 1) (f + (part + 1) / 2) (part - (part + 1) / 2) _ J _ (by omega) (by omega) (by omega) (by omega) (by omega) a1 pJ (fun i r hi => by rw [qJ.1 63 i (by unfold Qpr; omega)]; exact hR i r hi) (fun J2 q2 p2 => ?_)
      refine s_findOrMake p2 b1 (by unfold rowV at *; omega) (by unfold rowV at *; omega) (by omega) (fun J3 q3 p3 => ?_)
      rw [show (10000 : Int32) = zi 10000 from rfl, zi_add]
      exact hK J3 ((qJ.tr q2).tr q3) p3
/-- the ROW of all RUNS -/
def rowI (rs : List Nat) (pl : List (Nat × Nat)) : Int32 := if rs.length = 0 then -2 else zi (layR rs 9 0 rs.length pl).1
/-- the ROW of all RUNS; PAIRS then -/
def layAllR (rs : List Nat) (pl : List (Nat × Nat)) : List (Nat × Nat) := if rs.length = 0 then pl else (layR rs 9 0 rs.length pl).2
theorem s_layAll {rs : List Nat} {pl : List (Nat × Nat)} {I : zI} {K : Int32 → zI → Prop} (hrs : ∀ r ∈ rs, r < 3400) (hrl : rs.length ≤ 99) (hpl : pl.length + 99 ≤ 4000) (hu : PrU pl) (hP : PrX I pl) (hR : ∀ i r, rs[i]? = some r → I.1 63 i = zi r) (hK : ∀ J : zI, eqQ Qpr I J → PrX J (layAllR rs pl) → K (rowI rs pl) J) : w_Pairs_layAll 62 100 (zi rs.length) I K := by
  unfold w_Pairs_layAll
  unfold layAllR rowI at hK
  by_cases h0 : rs.length = 0
  · rw [h0, if_pos (show zi 0 = 0 from rfl)]
    rw [if_pos h0, if_pos h0] at hK
    exact hK I eqQ.rf hP
  · rw [if_neg (show ¬ zi rs.length = 0 from fun u => h0 ((zi_eq (b := 0) (by omega) (by decide)).mp u))]
    rw [if_neg h0, if_neg h0] at hK
    exact s_layPart hrs (by omega) 9 0 0 rs.length pl I _ (by omega) (by omega) (by omega) (by omega) (by omega) hu hP hR (fun J q p => hK J q p)
/-! ===== PAIRS: the model ===== -/
def PrM (I : zI) (pl : List (Nat × Nat)) : Prop :=
  I.1 491 59 = zi pl.length ∧ (∀ (i : Nat) (p : Nat × Nat), pl[i]? = some p → I.1 533 i = zi p.1 ∧ I.1 534 i = zi p.2) ∧ ∀ (i : Nat) (p : Nat × Nat), pl[i]? = some p → p.1 < 15000 ∧ p.2 < 15000
def Qpm (a j : Nat) : Prop := (a = 491 ∧ j = 59) ∨ a = 533 ∨ a = 534
theorem s_pairOf {a b : Nat} {pl : List (Nat × Nat)} {I : zI} {K : Int32 → zI → Prop} (hP : PrM I pl) (hu : PrU pl) (ha : a < 15000) (hb : b < 15000) (hl : pl.length < 4100)
    (hK : ∀ J, eqQ Qpm I J → PrM J (fmP a b pl).2 → K (zi (fmP a b pl).1) J) : w_M_pairOf (zi a) (zi b) I K := by
  obtain ⟨f1, f2, f3⟩ := id hP
  intro P2 h2
  have main : ∀ (d k : Nat), k + d = pl.length → (∀ j : Nat, j < k → pl[j]? ≠ some (a, b)) → P2 (zi k) := by
    intro d
    induction d with
    | zero =>
      intro k hk hno
      refine h2 _ ?_
      have hall : ∀ j : Nat, pl[j]? ≠ some (a, b) := fun j hj => by
        have := (List.getElem?_eq_some_iff.mp hj).1
        exact hno j (by omega) hj
      have hfm := fmp_new hall
      rw [hfm] at hK
      rw [f1, if_pos ((zi_le (by omega) (by omega)).mpr (by omega)), zi_tn (show pl.length < 2147483648 by omega)]
      refine ⟨(zin_iff (by omega)).mpr (by omega), fun I2 e2 => ?_⟩
      have g2 : I2.1 491 59 = zi pl.length := by rw [e2, zu_oo (by decide)]; exact f1
      rw [g2, zi_tn (show pl.length < 2147483648 by omega)]
      refine ⟨(zin_iff (by omega)).mpr (by omega), fun I3 e3 I4 e4 => ?_⟩
      rw [show I3.1 491 59 = zi pl.length by rw [e3, zu_oo (by decide)]; exact g2, zi_succ] at e4
      have g4 : I4.1 491 59 = zi (pl.length + 1) := by rw [e4, zu_self]
      rw [g4, show zi (pl.length + 1) - 1 = zi pl.length from zi_sub (b := 1) (by omega)]
      refine hK I4 ?_ ⟨by rw [g4, List.length_append]; rfl, fun i p hi => ?_, fun i p hi => ?_⟩
      · rw [e4, e3, e2]
        exact ((eqQ.rf.zu (Or.inr (Or.inl rfl))).zu (Or.inr (Or.inr rfl))).zu (Or.inl ⟨rfl, rfl⟩)
      · rw [e4, zu_oo (by decide), zu_oo (by decide)]
        rcases snoc_at hi with hi | ⟨rfl, rfl⟩
        · have hil := (List.getElem?_eq_some_iff.mp hi).1
          rw [e3, zu_oo (by decide), zu_at, if_neg (by omega), e2, zu_at, if_neg (by omega), zu_oo (by decide)]
          exact f2 i p hi
        · rw [e3, zu_oo (by decide), zu_self, e2, zu_self]
          exact ⟨rfl, rfl⟩
      · rcases snoc_at hi with hi | ⟨rfl, rfl⟩
        · exact f3 i p hi
        · exact ⟨ha, hb⟩
    | succ d ih =>
      intro k hk hno
      refine h2 _ ?_
      rw [f1, if_neg (fun u => by have := (zi_le (by omega) (by omega)).mp u; omega), zi_tn (show k < 2147483648 by omega)]
      have hkin : vp_in (zi k) 4100 := (zin_iff (by omega)).mpr (by omega)
      refine ⟨hkin, ?_⟩
      have hp : pl[k]? = some (pl[k]'(by omega)) := List.getElem?_eq_getElem (by omega)
      generalize pl[k]'(by omega) = p at hp
      obtain ⟨c1, c2⟩ := f2 k p hp
      obtain ⟨c3, c4⟩ := f3 k p hp
      intro P32 h32
      have no : ¬ (p.1 = a ∧ p.2 = b) → P32 := fun u => h32 (fun v ev => by
        rw [ev, zi_succ]
        refine ih (k + 1) (by omega) (fun j hj hj2 => ?_)
        by_cases w : j = k
        · rw [w, hp] at hj2
          have := Option.some.inj hj2
          exact u ⟨by rw [this], by rw [this]⟩
        · exact hno j (by omega) hj2)
      rw [c1, c2]
      by_cases u1 : p.1 = a
      · rw [if_pos (show zi p.1 = zi a by rw [u1])]
        refine ⟨hkin, ?_⟩
        by_cases u2 : p.2 = b
        · rw [if_pos (show zi p.2 = zi b by rw [u2])]
          have hfm := fmp_is hu (show pl[k]? = some (a, b) by rw [hp, ← u1, ← u2])
          rw [hfm] at hK
          exact hK I eqQ.rf hP
        · rw [if_neg (fun w => u2 ((zi_eq (by omega) (by omega)).mp w))]
          exact no (fun w => u2 w.2)
      · rw [if_neg (fun w => u1 ((zi_eq (by omega) (by omega)).mp w))]
        exact no (fun w => u1 w.1)
  exact main pl.length 0 (by omega) (fun j hj => by omega)
/-- how deep the laying of a part goes -/
def dpF : Nat → Nat → Nat
  | 0, _ => 0
  | d + 1, part => if part ≤ 1 then 0 else 1 + max (dpF d ((part + 1) / 2)) (dpF d (part - (part + 1) / 2))
theorem dpF_le : ∀ d part, dpF d part ≤ d
  | 0, _ => Nat.le_refl _
  | d + 1, part => by
    show (if part ≤ 1 then 0 else 1 + max (dpF d ((part + 1) / 2)) (dpF d (part - (part + 1) / 2))) ≤ d + 1
    have h1 := dpF_le d ((part + 1) / 2)
    have h2 := dpF_le d (part - (part + 1) / 2)
    split <;> omega
/-- what the laying of a part may change: its own place on the stack and those above -/
def Qrw (q a j : Nat) : Prop := (a = 491 ∧ (j = 59 ∨ j = 65)) ∨ a = 533 ∨ a = 534 ∨ (535 ≤ a ∧ a ≤ 537 ∧ q ≤ j)
theorem s_rowPart {rs : List Nat} {K : Int32 → zI → Prop} {P43 : Int32 → Int32 → zI → Prop} (hrs : ∀ r ∈ rs, r < 3400) (hrl : rs.length ≤ 100)
    (h43 : ∀ (v1_5 : Int32) (v2_6 : Int32) (I_7 : zI), ((if v1_5 ≤ 0 then K v2_6 I_7 else (vp_in (v1_5 - 1) 20 ∧ (∀ v3_8, v3_8 = (I_7.1 535 (Int32.toNatClampNeg (v1_5 - 1))) → vp_in (v1_5 - 1) 20 ∧ (∀ v4_9, v4_9 = (I_7.1 536 (Int32.toNatClampNeg (v1_5 - 1))) → ∀ v5_10, v5_10 = (v3_8 + (((v4_9 - v3_8) + 1) / 2)) → ∀ (P95 : zI → Prop), (∀ (I_11 : zI), ((if (v4_9 - v3_8) = 1 then (vp_in v3_8 110 ∧ (∀ v2_29, v2_29 = (I_11.1 528 (Int32.toNatClampNeg v3_8)) → ∀ v1_30, v1_30 = (v1_5 + (-1)) → P43 v1_30 v2_29 I_11)) else (if v2_6 = (-1) then (vp_in (v1_5 - 1) 20 ∧ (∀ (P138 : Int32 → Prop), (∀ (t_18 : Int32), (∀ (P156 : Int32 → Prop), (∀ (t_19 : Int32), (vp_in v1_5 20 ∧ (∀ I_20, I_20 = (zu I_11 535 (Int32.toNatClampNeg v1_5) t_19) → ∀ (P174 : Int32 → Prop), (∀ (t_21 : Int32), (vp_in v1_5 20 ∧ (∀ I_22, I_22 = (zu I_20 536 (Int32.toNatClampNeg v1_5) t_21) → vp_in v1_5 20 ∧ (∀ I_23, I_23 = (zu I_22 537 (Int32.toNatClampNeg v1_5) (-1)) → ∀ v1_24, v1_24 = (v1_5 + 1) → P43 v1_24 v2_6 I_23))) → P174 t_21) → (if t_18 = 0 then P174 v5_10 else P174 v4_9))) → P156 t_19) → (if t_18 = 0 then P156 v3_8 else P156 v5_10)) → P138 t_18) → (if (I_11.1 537 (Int32.toNatClampNeg (v1_5 - 1))) = (-1) then P138 0 else P138 1))) else (vp_in (v1_5 - 1) 20 ∧ (if (I_11.1 537 (Int32.toNatClampNeg (v1_5 - 1))) = (-1) then (vp_in (v1_5 - 1) 20 ∧ (∀ I_16, I_16 = (zu I_11 537 (Int32.toNatClampNeg (v1_5 - 1)) v2_6) → P43 v1_5 (-1) I_16)) else (vp_in (v1_5 - 1) 20 ∧ (w_M_pairOf (I_11.1 537 (Int32.toNatClampNeg (v1_5 - 1))) v2_6 I_11 (fun r_12 I_13 => ∀ v2_14, v2_14 = (10000 + r_12) → ∀ v1_15, v1_15 = (v1_5 + (-1)) → P43 v1_15 v2_14 I_13)))))))) → P95 I_11) → (if (v1_5 - 1) ≤ (I_7.1 491 65) then P95 I_7 else (∀ I_32, I_32 = (zu I_7 491 65 (v1_5 - 1)) → P95 I_32))))))) → P43 v1_5 v2_6 I_7) : ∀ (dd q f part : Nat) (pl : List (Nat × Nat)) (I : zI) (n0 : Nat), n0 ≤ 20 → I.1 491 65 = zi n0 → q + dd ≤ 9 → 1 ≤ part → part ≤ 2 ^ dd → f + part ≤ rs.length → pl.length + part ≤ 4100 → PrU pl → PrM I pl → (∀ i r, rs[i]? = some r → I.1 528 i = zi r) → I.1 535 q = zi f → I.1 536 q = zi (f + part) → I.1 537 q = -1 → (∀ J, eqQ (Qrw q) I J → PrM J (layR rs dd f part pl).2 → J.1 491 65 = zi (max n0 (q + dpF dd part)) → P43 (zi q) (zi (layR rs dd f part pl).1) J) → P43 (zi (q + 1)) (-1) I := by
  have visit : ∀ (q f part : Nat) (v2_6 : Int32) (J : zI) (n0 : Nat), n0 ≤ 20 → J.1 491 65 = zi n0 → q ≤ 9 → f + part ≤ 100 → 1 ≤ part → J.1 535 q = zi f → J.1 536 q = zi (f + part) → (∀ (v1_5 v3_8 v4_9 v5_10 : Int32) (I_11 : zI), eqQ (fun a j => a = 491 ∧ j = 65) J I_11 → I_11.1 491 65 = zi (max n0 q) → v1_5 = zi (q + 1) → v1_5 - 1 = zi q → v3_8 = zi f → v4_9 = zi (f + part) → v5_10 = zi (f + (part + 1) / 2) → v4_9 - v3_8 = zi part → vp_in (zi q) 20 → ((if (v4_9 - v3_8) = 1 then (vp_in v3_8 110 ∧ (∀ v2_29, v2_29 = (I_11.1 528 (Int32.toNatClampNeg v3_8)) → ∀ v1_30, v1_30 = (v1_5 + (-1)) → P43 v1_30 v2_29 I_11)) else (if v2_6 = (-1) then (vp_in (v1_5 - 1) 20 ∧ (∀ (P138 : Int32 → Prop), (∀ (t_18 : Int32), (∀ (P156 : Int32 → Prop), (∀ (t_19 : Int32), (vp_in v1_5 20 ∧ (∀ I_20, I_20 = (zu I_11 535 (Int32.toNatClampNeg v1_5) t_19) → ∀ (P174 : Int32 → Prop), (∀ (t_21 : Int32), (vp_in v1_5 20 ∧ (∀ I_22, I_22 = (zu I_20 536 (Int32.toNatClampNeg v1_5) t_21) → vp_in v1_5 20 ∧ (∀ I_23, I_23 = (zu I_22 537 (Int32.toNatClampNeg v1_5) (-1)) → ∀ v1_24, v1_24 = (v1_5 + 1) → P43 v1_24 v2_6 I_23))) → P174 t_21) → (if t_18 = 0 then P174 v5_10 else P174 v4_9))) → P156 t_19) → (if t_18 = 0 then P156 v3_8 else P156 v5_10)) → P138 t_18) → (if (I_11.1 537 (Int32.toNatClampNeg (v1_5 - 1))) = (-1) then P138 0 else P138 1))) else (vp_in (v1_5 - 1) 20 ∧ (if (I_11.1 537 (Int32.toNatClampNeg (v1_5 - 1))) = (-1) then (vp_in (v1_5 - 1) 20 ∧ (∀ I_16, I_16 = (zu I_11 537 (Int32.toNatClampNeg (v1_5 - 1)) v2_6) → P43 v1_5 (-1) I_16)) else (vp_in (v1_5 - 1) 20 ∧ (w_M_pairOf (I_11.1 537 (Int32.toNatClampNeg (v1_5 - 1))) v2_6 I_11 (fun r_12 I_13 => ∀ v2_14, v2_14 = (10000 + r_12) → ∀ v1_15, v1_15 = (v1_5 + (-1)) → P43 v1_15 v2_14 I_13))))))))) → P43 (zi (q + 1)) v2_6 J := by
    intro q f part v2 J n0 hn0 gn0 hq hf h1 g1 g2 h
    refine h43 _ _ _ ?_
    rw [if_neg (show ¬ zi (q + 1) ≤ 0 from fun u => by have := (zi_le (b := 0) (by omega) (by decide)).mp u; omega)]
    have e0 : zi (q + 1) - 1 = zi q := zi_sub (b := 1) (by omega)
    have hin : vp_in (zi q) 20 := (zin_iff (by omega)).mpr (by omega)
    rw [e0, zi_tn (show q < 2147483648 by omega)]
    refine ⟨hin, fun v3 ev3 => ⟨hin, fun v4 ev4 v5 ev5 => ?_⟩⟩
    rw [g1] at ev3
    rw [g2] at ev4
    have e1 : v4 - v3 = zi part := by
      rw [ev4, ev3, zi_sub (by omega)]
      congr 1
      omega
    have e2 : v5 = zi (f + (part + 1) / 2) := by rw [ev5, e1, zi_succ, div_fin _ (by omega), ev3, zi_add]
    intro P95 h95
    have fin : ∀ A : zI, eqQ (fun a j => a = 491 ∧ j = 65) J A → A.1 491 65 = zi (max n0 q) → P95 A := fun A qA aD => by
      refine h95 _ ?_
      have := h (zi (q + 1)) v3 v4 v5 A qA aD rfl e0 ev3 ev4 e2 e1 hin
      rw [e0, zi_tn (show q < 2147483648 by omega)] at this
      exact this
    by_cases u : zi q ≤ J.1 491 65
    · rw [if_pos u]
      rw [gn0] at u
      exact fin J eqQ.rf (by rw [gn0, Nat.max_eq_left ((zi_le (by omega) (by omega)).mp u)])
    · rw [if_neg u]
      intro I32 e32
      rw [gn0] at u
      refine fin I32 ?_ ?_
      · rw [e32]
        exact eqQ.rf.zu ⟨rfl, rfl⟩
      · have hle : n0 ≤ q := by
          by_cases w : q ≤ n0
          · exact absurd ((zi_le (by omega) (by omega)).mpr w) u
          · omega
        rw [e32, zu_self, Nat.max_eq_right hle]
  have pkp : ∀ (A B : zI) (pl : List (Nat × Nat)), PrM A pl → (∀ a j, (a = 491 ∧ j = 59) ∨ a = 533 ∨ a = 534 → B.1 a j = A.1 a j) → PrM B pl := fun A B pl h e => ⟨by rw [e 491 59 (by omega)]; exact h.1, fun i p hi => by rw [e 533 i (by omega), e 534 i (by omega)]; exact h.2.1 i p hi, h.2.2⟩
  intro dd
  induction dd with
  | zero =>
    intro q f part pl I n0 hn0 gn0 hq h1 h2 hf hpl hu hP hR g1 g2 g3 hK
    have hp1 : part = 1 := by
      change part ≤ 1 at h2
      omega
    subst hp1
    refine visit q f 1 (-1) I n0 hn0 gn0 (by omega) (by omega) (by omega) g1 g2 (fun v1 v3 v4 v5 A qA aD x1 x2 x3 x4 x5 x6 x7 => ?_)
    rw [if_pos (show v4 - v3 = 1 by rw [x6]; rfl), x3, zi_tn (show f < 2147483648 by omega)]
    refine ⟨(zin_iff (by omega)).mpr (by omega), fun v2 ev2 v1' ev1' => ?_⟩
    have hr : rs[f]? = some (rs[f]'(by omega)) := List.getElem?_eq_getElem (by omega)
    rw [qA.1 528 f (by omega), show I.1 528 f = zi (rs.getD f 0) by
      rw [List.getD_eq_getElem?_getD, hr]
      exact hR f _ hr] at ev2
    rw [x1, zi_pred (by omega), Nat.add_sub_cancel] at ev1'
    rw [ev2, ev1']
    exact hK A (qA.mono (fun a j h => Or.inl (by omega))) (pkp I A pl hP (fun a j h => qA.1 a j (by omega))) aD
  | succ dd ih =>
    intro q f part pl I n0 hn0 gn0 hq h1 h2 hf hpl hu hP hR g1 g2 g3 hK
    have hL : layR rs (dd + 1) f part pl = if part ≤ 1 then (rs.getD f 0, pl) else
      (10000 + (fmP (layR rs dd f ((part + 1) / 2) pl).1 (layR rs dd (f + (part + 1) / 2) (part - (part + 1) / 2) (layR rs dd f ((part + 1) / 2) pl).2).1 (layR rs dd (f + (part + 1) / 2) (part - (part + 1) / 2) (layR rs dd f ((part + 1) / 2) pl).2).2).1,
      (fmP (layR rs dd f ((part + 1) / 2) pl).1 (layR rs dd (f + (part + 1) / 2) (part - (part + 1) / 2) (layR rs dd f ((part + 1) / 2) pl).2).1 (layR rs dd (f + (part + 1) / 2) (part - (part + 1) / 2) (layR rs dd f ((part + 1) / 2) pl).2).2).2) := rfl
    by_cases hp : part ≤ 1
    · rw [if_pos hp] at hL
      rw [hL] at hK
      have hp1 : part = 1 := by omega
      subst hp1
      refine visit q f 1 (-1) I n0 hn0 gn0 (by omega) (by omega) (by omega) g1 g2 (fun v1 v3 v4 v5 A qA aD x1 x2 x3 x4 x5 x6 x7 => ?_)
      rw [if_pos (show v4 - v3 = 1 by rw [x6]; rfl), x3, zi_tn (show f < 2147483648 by omega)]
      refine ⟨(zin_iff (by omega)).mpr (by omega), fun v2 ev2 v1' ev1' => ?_⟩
      have hr : rs[f]? = some (rs[f]'(by omega)) := List.getElem?_eq_getElem (by omega)
      rw [qA.1 528 f (by omega), show I.1 528 f = zi (rs.getD f 0) by
        rw [List.getD_eq_getElem?_getD, hr]
        exact hR f _ hr] at ev2
      rw [x1, zi_pred (by omega), Nat.add_sub_cancel] at ev1'
      rw [ev2, ev1']
      exact hK A (qA.mono (fun a j h => Or.inl (by omega))) (pkp I A pl hP (fun a j h => qA.1 a j (by omega))) aD
    · rw [if_neg hp] at hL
      rw [hL] at hK
      have hpow : 2 ^ (dd + 1) = 2 * 2 ^ dd := by rw [Nat.pow_succ, Nat.mul_comm]
      obtain ⟨a1, a2, a3, a4⟩ := layR_ok hrs dd f ((part + 1) / 2) pl (by omega) hu
      obtain ⟨b1, b2, b3, b4⟩ := layR_ok hrs dd (f + (part + 1) / 2) (part - (part + 1) / 2) (layR rs dd f ((part + 1) / 2) pl).2 (by omega) a1
      have hne : ∀ v4 v3 : Int32, v4 - v3 = zi part → ¬ v4 - v3 = 1 := fun v4 v3 e u => by
        rw [e] at u
        have := (zi_eq (b := 1) (by omega) (by decide)).mp u
        omega
      have hneg : ∀ v : Nat, v < 20000 → ¬ zi v = -1 := fun v hv u => by
        have := zi_pos (show v < 2147483648 by omega)
        rw [u] at this
        exact this (by decide)
      have hin1 : vp_in (zi (q + 1)) 20 := (zin_iff (by omega)).mpr (by omega)
      have hqw : ∀ a j : Nat, 535 ≤ a → a ≤ 537 → q ≤ j → Qrw q a j := fun a j u1 u2 u3 => Or.inr (Or.inr (Or.inr ⟨u1, u2, u3⟩))
      have h65 : ∀ a j : Nat, a = 491 ∧ j = 65 → Qrw q a j := fun a j h => Or.inl ⟨h.1, Or.inr h.2⟩
      -- the first half
      have l1 := dpF_le dd ((part + 1) / 2)
      have l2 := dpF_le dd (part - (part + 1) / 2)
      refine visit q f part (-1) I n0 hn0 gn0 (by omega) (by omega) h1 g1 g2 (fun v1 v3 v4 v5 A qA aD x1 x2 x3 x4 x5 x6 x7 => ?_)
      rw [if_neg (hne v4 v3 x6), if_pos rfl, x2, zi_tn (show q < 2147483648 by omega)]
      refine ⟨x7, ?_⟩
      rw [qA.1 537 q (by omega), g3]
      intro P138 h138
      rw [if_pos rfl]
      refine h138 _ ?_
      intro P156 h156
      rw [if_pos rfl]
      refine h156 _ ?_
      rw [x1, zi_tn (show q + 1 < 2147483648 by omega)]
      refine ⟨hin1, fun I20 e20 => ?_⟩
      intro P174 h174
      rw [if_pos rfl]
      refine h174 _ ⟨hin1, fun I22 e22 => ⟨hin1, fun I23 e23 v1' ev1' => ?_⟩⟩
      rw [zi_succ] at ev1'
      subst ev1'
      have o23 : ∀ a j, ¬ (535 ≤ a ∧ a ≤ 537 ∧ j = q + 1) → I23.1 a j = A.1 a j := fun a j u => by
        rw [e23, zu_at, if_neg (by omega), e22, zu_at, if_neg (by omega), e20, zu_at, if_neg (by omega)]
      have q23 : eqQ (Qrw q) I I23 := by
        rw [e23, e22, e20]
        exact (((qA.mono h65).zu (hqw _ _ (by omega) (by omega) (by omega))).zu (hqw _ _ (by omega) (by omega) (by omega))).zu (hqw _ _ (by omega) (by omega) (by omega))
      refine ih (q + 1) f ((part + 1) / 2) pl I23 (max n0 q) (by omega) (by rw [o23 _ _ (by omega)]; exact aD) (by omega) (by omega) (by omega) (by omega) (by omega) hu (pkp I I23 pl hP (fun a j h => by rw [o23 _ _ (by omega)]; exact qA.1 a j (by omega))) (fun i r hi => by rw [o23 _ _ (by omega), qA.1 528 i (by omega)]; exact hR i r hi) ?_ ?_ ?_ (fun J qJ pJ jD => ?_)
      · rw [e23, zu_oo (by decide), e22, zu_oo (by decide), e20, zu_self, x3]
      · rw [e23, zu_oo (by decide), e22, zu_self, x5]
      · rw [e23, zu_self]
      have jR : ∀ i r, rs[i]? = some r → J.1 528 i = zi r := fun i r hi => by
        rw [qJ.1 528 i (by unfold Qrw; omega), o23 _ _ (by omega), qA.1 528 i (by omega)]
        exact hR i r hi
      have jo : ∀ a, 535 ≤ a → a ≤ 537 → J.1 a q = I.1 a q := fun a u1 u2 => by
        rw [qJ.1 a q (by unfold Qrw; omega), o23 _ _ (by omega), qA.1 a q (by omega)]
      have qIJ : eqQ (Qrw q) I J := q23.tr (qJ.mono (fun a j h => by unfold Qrw at h ⊢; omega))
      -- its ROW is kept
      refine visit q f part _ J (max (max n0 q) (q + 1 + dpF dd ((part + 1) / 2))) (by omega) jD (by omega) (by omega) h1 (by rw [jo _ (by decide) (by decide)]; exact g1) (by rw [jo _ (by decide) (by decide)]; exact g2) (fun v1 v3 v4 v5 B qB bD y1 y2 y3 y4 y5 y6 y7 => ?_)
      have hva : (layR rs dd f ((part + 1) / 2) pl).1 < 15000 := by unfold rowV at a4; omega
      rw [if_neg (hne v4 v3 y6), if_neg (hneg _ (by omega)), y2, zi_tn (show q < 2147483648 by omega)]
      refine ⟨y7, ?_⟩
      rw [qB.1 537 q (by omega), jo _ (by decide) (by decide), g3, if_pos rfl]
      refine ⟨y7, fun I16 e16 => ?_⟩
      rw [y1]
      have o16 : ∀ a j, ¬ (a = 537 ∧ j = q) → I16.1 a j = B.1 a j := fun a j u => by rw [e16, zu_at, if_neg u]
      have q16 : eqQ (Qrw q) I I16 := by
        rw [e16]
        exact (qIJ.tr (qB.mono h65)).zu (hqw _ _ (by omega) (by omega) (by omega))
      -- the second half
      refine visit q f part (-1) I16 (max (max (max n0 q) (q + 1 + dpF dd ((part + 1) / 2))) q) (by omega) (by rw [o16 _ _ (by omega)]; exact bD) (by omega) (by omega) h1 (by rw [o16 _ _ (by omega), qB.1 535 q (by omega), jo _ (by decide) (by decide)]; exact g1) (by rw [o16 _ _ (by omega), qB.1 536 q (by omega), jo _ (by decide) (by decide)]; exact g2) (fun v1 v3 v4 v5 C qC cD z1 z2 z3 z4 z5 z6 z7 => ?_)
      rw [if_neg (hne v4 v3 z6), if_pos rfl, z2, zi_tn (show q < 2147483648 by omega)]
      refine ⟨z7, ?_⟩
      have c537 : C.1 537 q = zi (layR rs dd f ((part + 1) / 2) pl).1 := by rw [qC.1 537 q (by omega), e16, zu_self]
      rw [c537]
      intro P138' h138'
      rw [if_neg (hneg _ (by omega))]
      refine h138' _ ?_
      intro P156' h156'
      rw [if_neg (by decide)]
      refine h156' _ ?_
      rw [z1, zi_tn (show q + 1 < 2147483648 by omega)]
      refine ⟨hin1, fun I20' e20' => ?_⟩
      intro P174' h174'
      rw [if_neg (by decide)]
      refine h174' _ ⟨hin1, fun I22' e22' => ⟨hin1, fun I23' e23' v1' ev1' => ?_⟩⟩
      rw [zi_succ] at ev1'
      subst ev1'
      have o23' : ∀ a j, ¬ (535 ≤ a ∧ a ≤ 537 ∧ j = q + 1) → I23'.1 a j = C.1 a j := fun a j u => by
        rw [e23', zu_at, if_neg (by omega), e22', zu_at, if_neg (by omega), e20', zu_at, if_neg (by omega)]
      have q23' : eqQ (Qrw q) I I23' := by
        rw [e23', e22', e20']
        exact (((q16.tr (qC.mono h65)).zu (hqw _ _ (by omega) (by omega) (by omega))).zu (hqw _ _ (by omega) (by omega) (by omega))).zu (hqw _ _ (by omega) (by omega) (by omega))
      refine ih (q + 1) (f + (part + 1) / 2) (part - (part + 1) / 2) _ I23' (max (max (max (max n0 q) (q + 1 + dpF dd ((part + 1) / 2))) q) q) (by omega) (by rw [o23' _ _ (by omega)]; exact cD) (by omega) (by omega) (by omega) (by omega) (by omega) a1 (pkp J I23' _ pJ (fun a j h => by rw [o23' _ _ (by omega), qC.1 a j (by omega), o16 _ _ (by omega), qB.1 a j (by omega)])) (fun i r hi => by rw [o23' _ _ (by omega), qC.1 528 i (by omega), o16 _ _ (by omega), qB.1 528 i (by omega)]; exact jR i r hi) ?_ ?_ ?_ (fun M qM pM mD => ?_)
      · rw [e23', zu_oo (by decide), e22', zu_oo (by decide), e20', zu_self, z5]
      · rw [e23', zu_oo (by decide), e22', zu_self, z4, show f + (part + 1) / 2 + (part - (part + 1) / 2) = f + part by omega]
      · rw [e23', zu_self]
      -- the PAIR
      have m537 : M.1 537 q = zi (layR rs dd f ((part + 1) / 2) pl).1 := by rw [qM.1 537 q (by unfold Qrw; omega), o23' _ _ (by omega)]; exact c537
      have mo : ∀ a, 535 ≤ a → a ≤ 536 → M.1 a q = I.1 a q := fun a u1 u2 => by
        rw [qM.1 a q (by unfold Qrw; omega), o23' _ _ (by omega), qC.1 a q (by omega), o16 _ _ (by omega), qB.1 a q (by omega), jo a (by omega) (by omega)]
      refine visit q f part _ M (max (max (max (max (max n0 q) (q + 1 + dpF dd ((part + 1) / 2))) q) q) (q + 1 + dpF dd (part - (part + 1) / 2))) (by omega) mD (by omega) (by omega) h1 (by rw [mo _ (by decide) (by decide)]; exact g1) (by rw [mo _ (by decide) (by decide)]; exact g2) (fun v1 v3 v4 v5 D qD dD w1 w2 w3 w4 w5 w6 w7 => ?_)
      have hvb : (layR rs dd (f + (part + 1) / 2) (part - (part + 1) / 2) (layR rs dd f ((part + 1) / 2) pl).2).1 < 15000 := by unfold rowV at b4; omega
      rw [if_neg (hne v4 v3 w6), if_neg (hneg _ (by omega)), w2, zi_tn (show q < 2147483648 by omega)]
      refine ⟨w7, ?_⟩
      rw [qD.1 537 q (by omega), m537, if_neg (hneg _ (by omega))]
      refine ⟨w7, s_pairOf (pkp M D _ pM (fun a j h => qD.1 a j (by omega))) b1 hva hvb (by omega) (fun E qE pE v2' ev2' v1' ev1' => ?_)⟩
      rw [show (10000 : Int32) = zi 10000 from rfl, zi_add] at ev2'
      rw [w1, zi_pred (by omega), Nat.add_sub_cancel] at ev1'
      rw [ev2', ev1']
      exact hK E (((q23'.tr (qM.mono (fun a j h => by unfold Qrw at h ⊢; omega))).tr (qD.mono h65)).tr (qE.mono (fun a j h => by unfold Qpm at h; unfold Qrw; omega))) pE (by
        have e : dpF (dd + 1) part = 1 + max (dpF dd ((part + 1) / 2)) (dpF dd (part - (part + 1) / 2)) := if_neg hp
        rw [qE.1 491 65 (by unfold Qpm; omega), dD, e]
        congr 1
        omega)
def Qro (a j : Nat) : Prop := (a = 491 ∧ (j = 59 ∨ j = 65)) ∨ (533 ≤ a ∧ a ≤ 537)
theorem s_rowNow {rs : List Nat} {pl : List (Nat × Nat)} {I : zI} {K : Int32 → zI → Prop} (hrs : ∀ r ∈ rs, r < 3400) (hrl : rs.length ≤ 99) (hpl : pl.length + 99 ≤ 4100) (hu : PrU pl) (hP : PrM I pl) (hR0 : I.1 491 51 = zi rs.length) (hR : ∀ i r, rs[i]? = some r → I.1 528 i = zi r) (hK : ∀ J : zI, eqQ Qro I J → PrM J (layAllR rs pl) → (rs.length ≠ 0 → J.1 491 65 = zi (dpF 9 rs.length)) → (rs.length = 0 → J = I) → K (rowI rs pl) J) : w_M_rowNow I K := by
  unfold w_M_rowNow
  unfold layAllR rowI at hK
  rw [hR0]
  by_cases h0 : rs.length = 0
  · rw [h0, if_pos (show zi 0 = 0 from rfl)]
    rw [if_pos h0, if_pos h0] at hK
    exact hK I eqQ.rf hP (fun u => absurd h0 u) (fun _ => rfl)
  · rw [if_neg (show ¬ zi rs.length = 0 from fun u => h0 ((zi_eq (b := 0) (by omega) (by decide)).mp u))]
    rw [if_neg h0, if_neg h0] at hK
    have hin0 : vp_in 0 20 := (zin_iff (i := 0) (by decide)).mpr (by decide)
    intro I1 e1
    refine ⟨hin0, fun I2 e2 => ⟨hin0, fun I3 e3 => ⟨hin0, fun I4 e4 => ?_⟩⟩⟩
    rw [show I2.1 491 51 = zi rs.length by rw [e2, zu_oo (by decide), e1, zu_at, if_neg (by decide)]; exact hR0] at e3
    have q4 : eqQ Qro I I4 := by
      rw [e4, e3, e2, e1]
      exact (((eqQ.rf.zu (Or.inl ⟨rfl, Or.inr rfl⟩)).zu (Or.inr (by omega))).zu (Or.inr (by omega))).zu (Or.inr (by omega))
    have o4 : ∀ a j, ¬ (a = 491 ∧ j = 65) → ¬ (535 ≤ a ∧ a ≤ 537) → I4.1 a j = I.1 a j := fun a j u v => by
      rw [e4, zu_oo (by omega), e3, zu_oo (by omega), e2, zu_oo (by omega), e1, zu_at, if_neg u]
    intro P43 h43
    refine s_rowPart hrs (by omega) h43 9 0 0 rs.length pl I4 0 (by omega) (by rw [e4, zu_oo (by decide), e3, zu_oo (by decide), e2, zu_oo (by decide), e1]; exact zu_self) (by omega) (by omega) (by omega) (by omega) (by omega) hu ⟨by rw [o4 _ _ (by omega) (by omega)]; exact hP.1, fun i p hi => by rw [o4 _ _ (by omega) (by omega), o4 _ _ (by omega) (by omega)]; exact hP.2.1 i p hi, hP.2.2⟩ (fun i r hi => by rw [o4 _ _ (by omega) (by omega)]; exact hR i r hi) ?_ ?_ ?_ (fun J qJ pJ jD => ?_)
    · rw [e4, zu_oo (by decide), e3, zu_oo (by decide), e2]
      exact zu_self
    · rw [e4, zu_oo (by decide), e3, Nat.zero_add]
      exact zu_self
    · rw [e4]
      exact zu_self
    · refine h43 _ _ _ ?_
      rw [if_pos (show zi 0 ≤ 0 by decide)]
      exact hK J (q4.tr (qJ.mono (fun a j h => by unfold Qrw at h; unfold Qro; omega))) pJ (fun _ => by rw [jD, Nat.zero_max, Nat.zero_add]) (fun u => absurd u h0)
/-! ===== loops by numbers ===== -/
theorem i_succ {v b : Int32} (h : v < b) : (v + 1).toInt = v.toInt + 1 := by
  have h1 := Int32.lt_iff_toInt_lt.mp h
  have h2 := b.toInt_lt
  have h3 := v.le_toInt
  rw [Int32.toInt_add, show (1 : Int32).toInt = 1 from rfl]
  exact Int.bmod_eq_of_le (by omega) (by omega)
theorem i_pred {v : Int32} (h : 0 ≤ v) : (v + (-1)).toInt = v.toInt - 1 := by
  have h1 : (0 : Int) ≤ v.toInt := by simpa using Int32.le_iff_toInt_le.mp h
  have h2 := v.toInt_lt
  rw [Int32.toInt_add, show (-1 : Int32).toInt = -1 from rfl]
  exact Int.bmod_eq_of_le (by omega) (by omega)
theorem up_loop {P : Int32 → zI → Prop} {b : Int32} {inv : zI → Prop} (step : ∀ v J, v < b → inv J → (∀ J', inv J' → P (v + 1) J') → P v J) (stop : ∀ v J, b ≤ v → inv J → P v J) : ∀ v J, inv J → P v J := by
  have main : ∀ (n : Nat) (v : Int32) (J : zI), (b.toInt - v.toInt).toNat ≤ n → inv J → P v J := by
    intro n
    induction n with
    | zero =>
      intro v J hn hJ
      refine stop v J (Int32.le_iff_toInt_le.mpr (by omega)) hJ
    | succ n ih =>
      intro v J hn hJ
      by_cases hv : v < b
      · refine step v J hv hJ (fun J' hJ' => ih (v + 1) J' ?_ hJ')
        have h1 := Int32.lt_iff_toInt_lt.mp hv
        rw [i_succ hv]
        omega
      · exact stop v J (Int32.not_lt.mp hv) hJ
  exact fun v J => main _ v J (Nat.le_refl _)
theorem dn_loop {P : Int32 → zI → Prop} {a : Int32} {inv : zI → Prop} (ha : 0 ≤ a) (step : ∀ v J, a ≤ v → inv J → (∀ J', inv J' → P (v + (-1)) J') → P v J) (stop : ∀ v J, v < a → inv J → P v J) : ∀ v J, inv J → P v J := by
  have main : ∀ (n : Nat) (v : Int32) (J : zI), (v.toInt - a.toInt + 1).toNat ≤ n → inv J → P v J := by
    intro n
    induction n with
    | zero =>
      intro v J hn hJ
      refine stop v J (Int32.lt_iff_toInt_lt.mpr (by omega)) hJ
    | succ n ih =>
      intro v J hn hJ
      by_cases hv : v < a
      · exact stop v J hv hJ
      · have hav := Int32.not_lt.mp hv
        refine step v J hav hJ (fun J' hJ' => ih (v + (-1)) J' ?_ hJ')
        have h1 := Int32.le_iff_toInt_le.mp hav
        rw [i_pred (Int32.le_trans ha hav)]
        omega
  exact fun v J => main _ v J (Nat.le_refl _)
theorem eqQ.rs {Q : Nat → Nat → Prop} {I J : zI} {a n : Nat} {i v : Int32} (h : eqQ Q I J) (hQ : ∀ j, Q a j) : eqQ Q I (rs J a n i v) := by
  unfold Jvm.Pilot.@@N@@.rs
  split
  · exact h
  · split
    · exact h
    · exact h.zu (hQ _)
theorem eqX.q {Q : Nat → Nat → Prop} {I J L : zI} {lo hi : Nat} (h : eqQ Q I J) (h2 : eqX lo hi J L) (hQ : ∀ a j, lo ≤ a → a < hi → Q a j) : eqQ Q I L :=
  h.tr ⟨fun a j u => congrFun (h2 a (by
    by_cases c : a < lo
    · exact Or.inl c
    · by_cases d : hi ≤ a
      · exact Or.inr d
      · exact absurd (hQ a j (by omega) (by omega)) u)).1 j, fun a j u => congrFun (h2 a (by
    by_cases c : a < lo
    · exact Or.inl c
    · by_cases d : hi ≤ a
      · exact Or.inr d
      · exact absurd (hQ a j (by omega) (by omega)) u)).2 j⟩
/-! ===== all statements RUN, the class: it returns, and changes its own rows alone ===== -/
def Qrr (a j : Nat) : Prop := 69 ≤ a ∧ a ≤ 87
theorem r_lengthOf {r : Int32} {I : zI} {K : Int32 → Prop} (h : ∀ v, K v) : w_Desk_lengthOf r I K := by
  by_cases h0 : r < 0
  · exact s_lengthOf_neg h0 (h _)
  · obtain ⟨a, ha, rfl⟩ := zi_of (Int32.not_lt.mp h0)
    by_cases h1 : a < 11
    · exact s_lengthOf h1 (h _)
    · unfold w_Desk_lengthOf
      rw [if_neg h0, if_pos (show (11 : Int32) ≤ zi a from (zi_le (a := 11) (by decide) ha).mpr (by omega))]
      exact h _
theorem r_clear {I : zI} {K : zI → Prop} (hK : ∀ J, eqQ Qrr I J → K J) : w_Runner_clear I K := by
  unfold w_Runner_clear
  refine s_fill (by decide) (fun I1 q1 _ => s_fill (by decide) (fun I2 q2 _ => s_fill (by decide) (fun I3 q3 _ => s_fill (by decide) (fun I4 q4 _ => s_fill (by decide) (fun I5 q5 _ => ?_)))))
  intro I6 e6 I7 e7 I8 e8
  have hq : eqQ Qrr I I5 := ((((eqX.q eqQ.rf q1 (fun a j h1 h2 => ⟨by omega, by omega⟩)) |> fun h => eqX.q h q2 (fun a j h1 h2 => ⟨by omega, by omega⟩)) |> fun h => eqX.q h q3 (fun a j h1 h2 => ⟨by omega, by omega⟩)) |> fun h => eqX.q h q4 (fun a j h1 h2 => ⟨by omega, by omega⟩)) |> fun h => eqX.q h q5 (fun a j h1 h2 => ⟨by omega, by omega⟩)
  refine hK I8 ?_
  rw [e8, e7, e6]
  exact ((hq.zu ⟨by decide, by decide⟩).zu ⟨by decide, by decide⟩).zu ⟨by decide, by decide⟩
theorem r_sameBytes {a b : Int32} {I : zI} {K : Int32 → Prop} (h1 : K 1) (h0 : K 0) : w_Nodes_sameBytes a b I K := by
  unfold w_Nodes_sameBytes
  refine (w_get (by decide)).mpr ((w_get (by decide)).mpr ?_)
  split
  · refine (w_get (by decide)).mpr ((w_get (by decide)).mpr ?_)
    split
    · refine (w_get (by decide)).mpr ((w_get (by decide)).mpr ?_)
      split
      · refine (w_get (by decide)).mpr ((w_get (by decide)).mpr ?_)
        split
        · exact h1
        · exact h0
      · exact h0
    · exact h0
  · exact h0
theorem r_findNames {a : Nat} {I : zI} {K : zI → Prop} (ha : a < 69 ∨ 87 < a) (hK : ∀ J, eqQ Qrr I J → K J) : w_Runner_findNames a I K := by
  intro P2 h2
  refine up_loop (P := P2) (b := I.1 a 6) (inv := fun J => eqQ Qrr I J) (fun v J hv hJ ih => ?_) (fun v J hv hJ => ?_) 0 I eqQ.rf
  · refine h2 _ _ ?_
    rw [hJ.1 a 6 (by unfold Qrr; omega), if_neg (Int32.not_le.mpr hv)]
    refine (w_get (by decide)).mpr ?_
    intro P22 h22
    have stop : ∀ w : Int32, w_Row_set 70 100 v w J (fun I_5 => ∀ v2_6, v2_6 = (v + 1) → P2 v2_6 I_5) := fun w => by
      refine (w_set (by decide)).mpr (fun v' ev => ?_)
      rw [ev]
      exact ih _ (hJ.rs (fun j => ⟨by decide, by decide⟩))
    refine up_loop (P := fun w _ => P22 w) (b := v) (inv := fun _ => True) (fun w _ hw _ ih2 => ?_) (fun w _ hw _ => ?_) 0 I trivial
    · refine h22 _ ?_
      intro P53 h53
      rw [if_neg (Int32.not_le.mpr hw)]
      refine (w_get (by decide)).mpr (r_sameBytes ?_ ?_)
      · rw [if_neg (by decide)]
        exact h53 (stop w)
      · rw [if_pos rfl]
        intro v' ev
        rw [ev]
        exact ih2 I trivial
    · refine h22 _ ?_
      intro P53 h53
      rw [if_pos hw]
      exact h53 (stop w)
  · refine h2 _ _ ?_
    rw [hJ.1 a 6 (by unfold Qrr; omega), if_pos hv]
    exact hK J hJ
theorem r_valueOf {a : Int32} {I : zI} {K : Int32 → Prop} (h : ∀ v, K v) : w_Runner_valueOf a I K := (w_get (by decide)).mpr ((w_get (by decide)).mpr (h _))
theorem zb_or {x y : Int32} (hx : zb x) (hy : zb y) : zb (x ||| y) := by
  rcases hx with rfl | rfl <;> rcases hy with rfl | rfl <;> first | exact Or.inl (by decide) | exact Or.inr (by decide)
theorem r_recordReads {a1 a2 a3 : Int32} {I : zI} {K : Int32 → zI → Prop} (hK : ∀ v J, eqQ Qrr I J → K v J) : w_Runner_recordReads a1 a2 a3 I K := by
  unfold w_Runner_recordReads
  refine (w_get (by decide)).mpr ?_
  intro P16 h16
  have rest : ∀ t : Int32, P16 t := by
    intro t
    refine h16 t ?_
    intro P37 h37
    have rest2 : ∀ I3, eqQ Qrr I I3 → P37 I3 := by
      intro I3 q3
      refine h37 I3 ((w_get (by decide)).mpr ?_)
      intro v5 ev5 P55 h55
      have loop := up_loop (P := fun v J => ∀ v5 v6, zb v6 → P55 v5 v6 v J) (b := a3) (inv := fun J => eqQ Qrr I J) (fun v J hv hJ ih v5 v6 hz => by
        refine h55 _ _ _ _ ?_
        rw [if_neg (Int32.not_le.mpr hv)]
        refine (w_get (by decide)).mpr ((w_get (by decide)).mpr ?_)
        intro P149 h149
        have nxt : ∀ (w5 w6 : Int32) (L : zI), zb w6 → eqQ Qrr I L → P149 w5 w6 L := fun w5 w6 L hz hL => by
          refine h149 _ _ _ (fun v' ev => ?_)
          rw [ev]
          exact ih L hL w5 w6 hz
        split
        · refine (w_get (by decide)).mpr (r_valueOf (fun r20 => ?_))
          intro P132 h132
          have put : ∀ u : Int32, zb u → P132 u := fun u hu => by
            refine h132 _ (fun w6 e6 => (w_set (by decide)).mpr (fun w5 e5 => ?_))
            rw [e6]
            exact nxt _ _ _ (zb_or hz hu) (hJ.rs (fun j => ⟨by decide, by decide⟩))
          intro P131 h131
          split
          · refine (w_get (by decide)).mpr ?_
            split
            · exact h131 (put 0 (Or.inl rfl))
            · exact put 1 (Or.inr rfl)
          · exact h131 (put 0 (Or.inl rfl))
        · exact nxt _ _ _ hz hJ) (fun v J hv hJ v5 v6 hz => by
        refine h55 _ _ _ _ ?_
        rw [if_pos hv]
        intro P170 h170
        have fin : ∀ t, P170 t := fun t => h170 t (fun I11 e11 => ⟨hz, hK _ _ (by rw [e11]; exact hJ.zu ⟨by decide, by decide⟩)⟩)
        split
        · exact fin _
        · exact fin _)
      exact loop a2 I3 q3 v5 0 (Or.inl rfl)
    split
    · exact rest2 I eqQ.rf
    · exact (w_set (by decide)).mpr (rest2 _ (eqQ.rf.rs (fun j => ⟨by decide, by decide⟩)))
  split
  · exact rest 1
  · exact rest 0
theorem r_noteReads {a1 a2 : Int32} {I : zI} {K : zI → Prop} (hK : ∀ J, eqQ Qrr I J → K J) : w_Runner_noteReads a1 a2 I K := by
  intro P2 h2
  refine up_loop (P := P2) (b := a2) (inv := fun J => eqQ Qrr I J) (fun v J hv hJ ih => ?_) (fun v J hv hJ => ?_) a1 I eqQ.rf
  · refine h2 _ _ ?_
    rw [if_neg (Int32.not_le.mpr hv)]
    refine (w_get (by decide)).mpr ((w_get (by decide)).mpr ?_)
    intro P86 h86
    have nxt : ∀ L, eqQ Qrr I L → P86 L := fun L hL => h86 L (fun v' ev => by rw [ev]; exact ih L hL)
    split
    · refine (w_get (by decide)).mpr ((w_get (by decide)).mpr ((w_get (by decide)).mpr ((w_set (by decide)).mpr ((w_set (by decide)).mpr ?_))))
      exact nxt _ ((hJ.rs (fun j => ⟨by decide, by decide⟩)).rs (fun j => ⟨by decide, by decide⟩))
    · exact nxt J hJ
  · refine h2 _ _ ?_
    rw [if_pos hv]
    exact hK J hJ
theorem r_numberOf {a : Int32} {I : zI} {K : Int32 → Prop} (hK : ∀ v, K v) : w_Runner_numberOf a I K := by
  intro P5 h5
  have st : ∀ (s : Int32), ¬ s < 0 → (∀ v, P5 v (s + (-8))) → ∀ v, P5 v s := by
    intro s hs hn v
    refine h5 _ _ ?_
    rw [if_neg hs]
    intro v3 ev3 P34 h34
    have nx : ∀ t, P34 t := fun t => h34 t (fun v2 e2 => by rw [e2]; exact hn t)
    split
    · exact nx _
    · exact nx _
  refine st 24 (by decide) (st 16 (by decide) (st 8 (by decide) (st 0 (by decide) (fun v => ?_)))) 0
  refine h5 _ _ ?_
  rw [if_pos (by decide)]
  exact hK v
theorem r_worthAt {a : Int32} {I : zI} {K : Int32 → Prop} (hK : ∀ v, K v) : w_Runner_worthAt a I K := by
  intro v2 ev2
  refine (w_get (by decide)).mpr (fun v3 ev3 => (w_get (by decide)).mpr ((w_get (by decide)).mpr ?_))
  intro P120 h120
  have h : P120 := h120 ((w_get (by decide)).mpr (hK _))
  split
  · exact (w_get (by decide)).mpr ((w_get (by decide)).mpr (hK _))
  · split
    · exact h
    · split
      · exact (w_get (by decide)).mpr ((w_get (by decide)).mpr (hK _))
      · split
        · exact h
        · split
          · exact (w_get (by decide)).mpr ((w_get (by decide)).mpr ((w_get (by decide)).mpr (hK _)))
          · split
            · exact (w_get (by decide)).mpr ((w_get (by decide)).mpr (r_numberOf (fun v => hK v)))
            · split
              · exact (w_get (by decide)).mpr (hK _)
              · exact hK _
theorem r_evaluate {a1 a2 : Int32} {I : zI} {K : zI → Prop} (h0 : 0 ≤ a1) (hK : ∀ J, eqQ Qrr I J → K J) : w_Runner_evaluate a1 a2 I K := by
  intro v3 ev3 P4 h4
  refine dn_loop (P := P4) (a := a1) (inv := fun J => eqQ Qrr I J) h0 (fun v J hv hJ ih => ?_) (fun v J hv hJ => ?_) v3 I eqQ.rf
  · refine h4 _ _ ?_
    rw [if_neg (Int32.not_lt.mpr hv)]
    refine r_worthAt (fun w => (w_set (by decide)).mpr (fun v' ev => ?_))
    rw [ev]
    exact ih _ (hJ.rs (fun j => ⟨by decide, by decide⟩))
  · refine h4 _ _ ?_
    rw [if_pos hv]
    exact hK J hJ
theorem r_setName {a1 a2 a3 : Int32} {I : zI} {K : zI → Prop} (hK : ∀ J, eqQ Qrr I J → K J) : w_Runner_setName a1 a2 a3 I K := by
  refine (w_get (by decide)).mpr ((w_get (by decide)).mpr ?_)
  intro P52 h52
  have nx : ∀ L, eqQ Qrr I L → P52 L := fun L hL => h52 L ((w_set (by decide)).mpr ((w_get (by decide)).mpr ((w_set (by decide)).mpr ((w_add (by decide)).mpr ((w_set (by decide)).mpr (hK _ ((((hL.rs (fun j => ⟨by decide, by decide⟩)).rs (fun j => ⟨by decide, by decide⟩)).rs (fun j => ⟨by decide, by decide⟩)).rs (fun j => ⟨by decide, by decide⟩))))))))
  split
  · exact nx I eqQ.rf
  · intro I9 e9
    refine (w_get (by decide)).mpr (fun I11 e11 => nx I11 ?_)
    rw [e11, e9]
    exact (eqQ.rf.zu ⟨by decide, by decide⟩).zu ⟨by decide, by decide⟩
theorem r_runStatement {p : Nat} {a2 : Int32} {I : zI} {K : zI → Prop} (hp : p < 1000) (hK : ∀ J, eqQ Qrr I J → K J) : w_Runner_runStatement (zi p) a2 I K := by
  refine (w_get (by decide)).mpr (fun v4 ev4 => (w_get (by decide)).mpr (fun v5 ev5 => ?_))
  have h0 : 0 ≤ v4 := by
    rw [ev4, show (3 : Int32) = zi 3 from rfl, zi_add]
    exact zi_ge (by omega)
  intro P55 h55
  have st : ∀ (t : Int32) (L : zI), eqQ Qrr I L → P55 t L := by
    intro t L hL
    refine h55 _ _ ?_
    intro P91 h91
    have nx : ∀ M, eqQ Qrr I M → P91 M := fun M hM => h91 M (r_noteReads (fun A qA => r_evaluate h0 (fun B qB => (w_get (by decide)).mpr ((w_get (by decide)).mpr (r_setName (fun C qC => hK C (((hM.tr qA).tr qB).tr qC)))))))
    split
    · exact nx L hL
    · intro P81 h81
      have yes : P81 := h81 (fun I13 e13 => nx I13 (by rw [e13]; exact hL.zu ⟨by decide, by decide⟩))
      split
      · refine (w_get (by decide)).mpr ?_
        split
        · exact yes
        · exact nx L hL
      · exact yes
  intro P54 h54
  split
  · exact h54 I (st 0 I eqQ.rf)
  · refine r_recordReads (fun v J qJ => ?_)
    split
    · exact h54 J (st 0 J qJ)
    · exact st 1 J qJ
theorem r_sumUp {I : zI} {K : zI → Prop} (hK : ∀ J, eqQ Qrr I J → K J) : w_Runner_sumUp I K := by
  intro I1 e1 P7 h7
  have q1 : eqQ Qrr I I1 := by
    rw [e1]
    exact eqQ.rf.zu ⟨by decide, by decide⟩
  refine up_loop (P := P7) (b := I.1 43 12) (inv := fun J => eqQ Qrr I J) (fun v J hv hJ ih => ?_) (fun v J hv hJ => ?_) 0 I1 q1
  · refine h7 _ _ ?_
    rw [hJ.1 43 12 (by unfold Qrr; omega), if_neg (Int32.not_le.mpr hv)]
    refine (w_get (by decide)).mpr ((w_get (by decide)).mpr ?_)
    intro P49 h49
    have nx : ∀ t, P49 t := by
      intro t
      refine h49 t ?_
      intro P71 h71
      have n2 : ∀ u, P71 u := fun u => h71 u (fun I17 e17 v' ev => by
        rw [ev]
        exact ih I17 (by rw [e17]; exact hJ.zu ⟨by decide, by decide⟩))
      split
      · exact n2 _
      · exact (w_get (by decide)).mpr (n2 _)
    split
    · exact nx _
    · exact nx _
  · refine h7 _ _ ?_
    rw [hJ.1 43 12 (by unfold Qrr; omega), if_pos hv]
    intro I4 e4 P88 h88
    have q4 : eqQ Qrr I I4 := by
      rw [e4]
      exact hJ.zu ⟨by decide, by decide⟩
    refine up_loop (P := P88) (b := 100) (inv := fun J => eqQ Qrr I J) (fun v J hv hJ ih => ?_) (fun v J hv hJ => ?_) 0 I4 q4
    · refine h88 _ _ ?_
      rw [if_neg (Int32.not_le.mpr hv)]
      refine (w_get (by decide)).mpr ?_
      intro P115 h115
      have nx : ∀ t, P115 t := fun t => h115 t (fun I9 e9 v' ev => by
        rw [ev]
        exact ih I9 (by rw [e9]; exact hJ.zu ⟨by decide, by decide⟩))
      split
      · exact nx _
      · exact nx _
    · refine h88 _ _ ?_
      rw [if_pos hv]
      exact hK J hJ
theorem r_runAll {a n : Nat} {e : Int32} {I : zI} {K : zI → Prop} (ha : a < 69 ∨ 87 < a) (hn : I.1 43 12 = zi n) (hn2 : n < 1000) (hK : ∀ J, eqQ Qrr I J → K J) : w_Runner_runAll a e I K := by
  refine r_clear (fun A qA => r_findNames ha (fun B qB => ?_))
  intro P11 h11
  have main : ∀ (d p : Nat) (J : zI), p + d = n → eqQ Qrr I J → P11 (zi p) J := by
    intro d
    induction d with
    | zero =>
      intro p J hp hJ
      refine h11 _ _ ?_
      rw [hJ.1 43 12 (by unfold Qrr; omega), hn, if_pos ((zi_le (by omega) (by omega)).mpr (by omega))]
      exact r_evaluate (by decide) (fun C qC => r_sumUp (fun D qD => hK D ((hJ.tr qC).tr qD)))
    | succ d ih =>
      intro p J hp hJ
      refine h11 _ _ ?_
      rw [hJ.1 43 12 (by unfold Qrr; omega), hn, if_neg (fun u => by have := (zi_le (by omega) (by omega)).mp u; omega)]
      refine (w_get (by decide)).mpr ((w_get (by decide)).mpr ?_)
      intro P53 h53
      have nx : ∀ L, eqQ Qrr I L → P53 L := fun L hL => h53 L (fun v ev => by
        rw [ev, zi_succ]
        exact ih (p + 1) L (by omega) hL)
      split
      · exact r_runStatement (by omega) (fun C qC => nx C (hJ.tr qC))
      · exact nx J hJ
  exact main n 0 B (by omega) (qA.tr qB)
/-! ===== the print, the class: it returns ===== -/
def Qpn (a j : Nat) : Prop := (a = 97 ∧ (j = 2 ∨ j = 3)) ∨ a = 99 ∨ a = 110
theorem r_putOff {v : Int32} {I : zI} {K : zI → Prop} (hK : ∀ J, eqQ Qpn I J → K J) : w_Printer_putOff v I K := by
  refine (w_set (by decide)).mpr (fun I2 e2 => hK I2 ?_)
  rw [e2]
  exact (eqQ.rf.rs (fun j => Or.inr (Or.inl rfl))).zu (Or.inl ⟨rfl, Or.inl rfl⟩)
theorem r_writeByte {v : Int32} {I : zI} {K : zI → Prop} (hK : ∀ J, eqQ Qpn I J → K J) : w_Printer_writeByte v 109 700 I K := by
  refine (w_set (by decide)).mpr (fun I2 e2 => hK I2 ?_)
  rw [e2]
  exact (eqQ.rf.rs (fun j => Or.inr (Or.inr rfl))).zu (Or.inl ⟨rfl, Or.inr rfl⟩)
theorem r_byteOf {a b : Int32} {I : zI} {K : Int32 → Prop} (h : ∀ v, K v) : w_Nodes_byteOf a b I K := by
  intro P24 h24
  split
  · exact (w_get (by decide)).mpr (h24 _ (h _))
  · exact (w_get (by decide)).mpr (h24 _ (h _))
theorem r_writeToken {v : Int32} {I : zI} {K : zI → Prop} (hK : ∀ J, eqQ Qpn I J → K J) : w_Printer_writeToken v 109 700 I K := by
  intro P2 h2
  refine up_loop (P := P2) (b := rg 3400 (I.1 36) v) (inv := fun J => eqQ Qpn I J) (fun w J hw hJ ih => ?_) (fun w J hw hJ => ?_) 0 I eqQ.rf
  · refine h2 _ _ ((w_get (by decide)).mpr ?_)
    have e : J.1 (35 + 1) = I.1 36 := funext (fun j => hJ.1 36 j (by unfold Qpn; omega))
    rw [e, if_neg (Int32.not_le.mpr hw)]
    exact r_byteOf (fun b => r_writeByte (fun A qA v' ev => by
      rw [ev]
      exact ih A (hJ.tr qA)))
  · refine h2 _ _ ((w_get (by decide)).mpr ?_)
    have e : J.1 (35 + 1) = I.1 36 := funext (fun j => hJ.1 36 j (by unfold Qpn; omega))
    rw [e, if_pos hw]
    exact hK J hJ
theorem r_childOf {a b : Int32} {I : zI} {K : Int32 → Prop} (h : ∀ v, K v) : w_Nodes_childOf a b I K := (w_get (by decide)).mpr (h _)
theorem r_childrenOf {a : Int32} {I : zI} {K : Int32 → Prop} (h : ∀ v, K v) : w_Nodes_childrenOf a I K := (w_get (by decide)).mpr (r_lengthOf (fun v => h v))
theorem r_openUp {v : Int32} {I : zI} {K : zI → Prop} (hK : ∀ J, eqQ Qpn I J → K J) : w_Printer_openUp v I K := by
  refine (w_get (by decide)).mpr ?_
  intro P28 h28
  have yes : ∀ t, P28 t := by
    intro t
    refine h28 t ?_
    split
    · exact r_childOf (fun w => r_putOff (fun A qA => hK A qA))
    · intro P59 h59
      have nx : ∀ L, eqQ Qpn I L → P59 L := by
        intro L hL
        refine h59 L (r_childrenOf (fun r => ?_))
        intro v4 ev4 P71 h71
        refine dn_loop (P := P71) (a := 0) (inv := fun J => eqQ Qpn I J) (by decide) (fun w J hw hJ ih => ?_) (fun w J hw hJ => ?_) v4 L hL
        · refine h71 _ _ ?_
          rw [if_neg (Int32.not_lt.mpr hw)]
          exact r_childOf (fun c => r_putOff (fun A qA v' ev => by
            rw [ev]
            exact ih A (hJ.tr qA)))
        · refine h71 _ _ ?_
          rw [if_pos hw]
          split
          · exact hK J hJ
          · exact r_putOff (fun A qA => hK A (hJ.tr qA))
      split
      · exact nx I eqQ.rf
      · exact r_putOff (fun A qA => nx A qA)
  intro P23 h23
  split
  · exact h23 (yes 1)
  · split
    · exact h23 (yes 1)
    · exact yes 0
theorem r_isToken {a : Int32} {I : zI} {K : Int32 → Prop} (h : ∀ v, K v) : w_Nodes_isToken a I K := by
  refine (w_get (by decide)).mpr ?_
  split
  · exact h _
  · exact h _
theorem r_write {v : Int32} {I : zI} {K : Int32 → zI → Prop} (hK : ∀ r J, eqQ Qpn I J → K r J) : w_Printer_write v 109 700 I K := by
  intro I1 e1 I2 e2
  have q2 : eqQ Qpn I I2 := by
    rw [e2, e1]
    exact (eqQ.rf.zu (Or.inl ⟨rfl, Or.inr rfl⟩)).zu (Or.inl ⟨rfl, Or.inl rfl⟩)
  refine r_putOff (fun I3 q3 => ?_)
  intro P17 h17
  refine up_loop (P := P17) (b := 10000) (inv := fun J => eqQ Qpn I J) (fun w J hw hJ ih => ?_) (fun w J hw hJ => ?_) 0 I3 (q2.tr q3)
  · refine h17 _ _ ?_
    intro P105 h105
    have stop : P105 := h105 (hK _ J hJ)
    rw [if_neg (Int32.not_le.mpr hw)]
    split
    · exact stop
    · intro I6 e6
      have q6 : eqQ Qpn I I6 := by
        rw [e6]
        exact hJ.zu (Or.inl ⟨rfl, Or.inl rfl⟩)
      refine (w_get (by decide)).mpr ?_
      intro P99 h99
      have nx : ∀ L, eqQ Qpn I L → P99 L := fun L hL => h99 L (fun v' ev => by
        rw [ev]
        exact ih L hL)
      split
      · refine r_isToken (fun t => ?_)
        split
        · exact r_openUp (fun A qA => nx A (q6.tr qA))
        · exact r_writeToken (fun A qA => nx A (q6.tr qA))
      · exact r_writeByte (fun A qA => nx A (q6.tr qA))
  · refine h17 _ _ ?_
    intro P105 h105
    rw [if_pos hw]
    exact h105 (hK _ J hJ)
/-! ===== what a node is printed as ===== -/
theorem nle_zi' {k n : Nat} (h : k < n ∧ n < 2147483648) : ¬ zi n ≤ zi k := fun u => by
  have := (zi_le h.2 (by omega)).mp u
  omega
/-- the CHILDREN that are printed -/
def ndU (x : Nd) : List Nat := if ndR x = 10 then ((ndC x).drop 1).take 1 else ndC x
theorem ndU_sub {x : Nd} {z : Nat} (h : z ∈ ndU x) : z ∈ ndC x := by
  unfold ndU at h
  by_cases u : ndR x = 10
  · rw [if_pos u] at h
    exact List.mem_of_mem_drop (List.mem_of_mem_take h)
  · rw [if_neg u] at h
    exact h
def prF (N : Nat → Nd) : Nat → Nat → List Int32
  | 0, _ => []
  | d + 1, c => if ndR (N c) < 0 then ndY (N c) else if ndR (N c) = 4 ∨ ndR (N c) = 6 then 40 :: ((ndU (N c)).flatMap (prF N d) ++ [41]) else (ndU (N c)).flatMap (prF N d)
def prt (N : Nat → Nd) (c : Nat) : List Int32 := prF N (c + 1) c
theorem prF_fu {m : Nat} {N : Nat → Nd} (h : NdOk m N) : ∀ (d d' c : Nat), c < m → c < d → c < d' → prF N d' c = prF N d c
  | 0, _, c, _, h1, _ => by omega
  | _ + 1, 0, c, _, _, h2 => by omega
  | d + 1, d' + 1, c, hc, h1, h2 => by
    show (if ndR (N c) < 0 then ndY (N c) else if ndR (N c) = 4 ∨ ndR (N c) = 6 then 40 :: ((ndU (N c)).flatMap (prF N d') ++ [41]) else (ndU (N c)).flatMap (prF N d')) = (if ndR (N c) < 0 then ndY (N c) else if ndR (N c) = 4 ∨ ndR (N c) = 6 then 40 :: ((ndU (N c)).flatMap (prF N d) ++ [41]) else (ndU (N c)).flatMap (prF N d))
    have e : (ndU (N c)).flatMap (prF N d') = (ndU (N c)).flatMap (prF N d) := flatMap_cg (fun x hx => by
      have := h.lt hc (ndU_sub hx)
      exact prF_fu h d d' x (by omega) (by omega) (by omega))
    rw [e]
theorem prt_eq {m c : Nat} {N : Nat → Nd} (h : NdOk m N) (hc : c < m) : prt N c = if ndR (N c) < 0 then ndY (N c) else if ndR (N c) = 4 ∨ ndR (N c) = 6 then 40 :: ((ndU (N c)).flatMap (prt N) ++ [41]) else (ndU (N c)).flatMap (prt N) := by
  show (if ndR (N c) < 0 then ndY (N c) else if ndR (N c) = 4 ∨ ndR (N c) = 6 then 40 :: ((ndU (N c)).flatMap (prF N c) ++ [41]) else (ndU (N c)).flatMap (prF N c)) = _
  have e : (ndU (N c)).flatMap (prF N c) = (ndU (N c)).flatMap (prt N) := flatMap_cg (fun x hx => by
    have := h.lt hc (ndU_sub hx)
    exact (prF_fu h (x + 1) c x (by omega) (Nat.lt_succ_self x) this).trans rfl)
  rw [e]
/-- a node whose symbol is a token's is a token -/
theorem nd_tk5 {m c : Nat} {N : Nat → Nd} (hN : NdOk m N) (hc : c < m) (h : 5 ≤ ndM (N c)) : ndR (N c) < 0 ∧ ndT (N c) = 1 := by
  rcases hN c hc with ⟨e1, -, -, e, -⟩ | ⟨r, s, hr, -, e, -⟩
  · exact ⟨by omega, e⟩
  · exfalso
    have := (sy_fin r hr).2
    unfold ndM at h
    rw [e, if_neg (by omega), Int.toNat_natCast] at h
    omega
/-- a sum's, a product's CHILDREN -/
theorem op_ch {m c : Nat} {N : Nat → Nd} (hN : NdOk m N) (hc : c < m) (h : ndR (N c) = 4 ∨ ndR (N c) = 6) : ∃ a b e : Nat, ndC (N c) = [a, b, e] ∧ ndM (N b) = (if ndR (N c) = 4 then 9 else 10) ∧ b < c := by
  rcases hN c hc with ⟨e1, -⟩ | ⟨r, s, hr, -, e3, -, -, e6, e7, -⟩
  · omega
  · have hx : ∃ x y z : Nat, rhS r = [x, y, z] ∧ y = (if ndR (N c) = 4 then 9 else 10) := by
      rcases h with u | u
      · have : r = 4 := by omega
        exact ⟨2, 9, 3, by rw [this]; rfl, by rw [if_pos u]⟩
      · have : r = 6 := by omega
        exact ⟨3, 10, 4, by rw [this]; rfl, by rw [if_neg (by omega)]⟩
    obtain ⟨x, y, z, hx, hy⟩ := hx
    rw [hx] at e6
    cases hC : ndC (N c) with
    | nil => rw [hC] at e6; cases e6
    | cons a l =>
      cases l with
      | nil => rw [hC] at e6; cases e6
      | cons b l =>
        cases l with
        | nil => rw [hC] at e6; cases e6
        | cons e2 l =>
          cases l with
          | cons g l => rw [hC] at e6; cases e6
          | nil =>
            rw [hC] at e6
            have hb : ndM (N b) = y := (List.cons.inj (List.cons.inj e6).2).1
            exact ⟨a, b, e2, rfl, by rw [hb, hy], e7 b (by rw [hC]; exact List.mem_cons_of_mem _ (List.mem_cons_self ..))⟩
/-- the bytes of the tokens below a node -/
def tkb (N : Nat → Nd) (c : Nat) : Nat := ((yl N c).map (fun z => (ndY (N z)).length)).sum
theorem sum_fm {f : Nat → List Nat} {g : Nat → Nat} : ∀ (l : List Nat), ((l.flatMap f).map g).sum = (l.map (fun c => ((f c).map g).sum)).sum
  | [] => rfl
  | a :: l => by rw [List.flatMap_cons, List.map_append, List.sum_append, List.map_cons, List.sum_cons, sum_fm l]
theorem tkb_ch {m c : Nat} {N : Nat → Nd} (h : NdOk m N) (hc : c < m) (hr : ¬ ndR (N c) < 0) : tkb N c = ((ndC (N c)).map (tkb N)).sum := by
  show ((yl N c).map (fun z => (ndY (N z)).length)).sum = _
  rw [yl_eq h hc, if_neg hr, sum_fm]
  rfl
theorem tkb_tok {m c : Nat} {N : Nat → Nd} (h : NdOk m N) (hc : c < m) (hr : ndR (N c) < 0) : tkb N c = (ndY (N c)).length := by
  unfold tkb
  rw [yl_eq h hc, if_pos hr]
  rfl
theorem sum_dt {f : Nat → Nat} : ∀ (l : List Nat), (((l.drop 1).take 1).map f).sum ≤ (l.map f).sum
  | [] => Nat.le_refl _
  | [_] => Nat.zero_le _
  | a :: b :: l => by
    show f b + 0 ≤ f a + (f b + (l.map f).sum)
    omega
theorem fm_len {N : Nat → Nd} : ∀ {l : List Nat}, (∀ z ∈ l, (prt N z).length ≤ tkb N z + 2 * ndT (N z)) → (l.flatMap (prt N)).length ≤ (l.map (tkb N)).sum + 2 * tkS N l
  | [], _ => Nat.zero_le _
  | a :: l, h => by
    rw [List.flatMap_cons, List.length_append, List.map_cons, List.sum_cons, tkS_cons]
    have h1 := h a (List.mem_cons_self ..)
    have h2 := fm_len (fun z hz => h z (List.mem_cons_of_mem _ hz))
    omega
theorem prt_len {m : Nat} {N : Nat → Nd} (h : NdOk m N) (c : Nat) : c < m → (prt N c).length ≤ tkb N c + 2 * ndT (N c) := by
  induction c using Nat.strongRecOn with
  | ind c ih =>
    intro hc
    rw [prt_eq h hc]
    by_cases hr : ndR (N c) < 0
    · rw [if_pos hr, tkb_tok h hc hr]
      omega
    · have eT : ndT (N c) = tkS N (ndC (N c)) := by
        rcases h c hc with ⟨e1, -⟩ | ⟨r, s, -, -, -, -, -, -, -, e8⟩
        · omega
        · exact e8
      have hl : ∀ z ∈ ndC (N c), (prt N z).length ≤ tkb N z + 2 * ndT (N z) := fun z hz => by
        have := h.lt hc hz
        exact ih z this (by omega)
      rw [if_neg hr, tkb_ch h hc hr, eT]
      by_cases u : ndR (N c) = 4 ∨ ndR (N c) = 6
      · rw [if_pos u]
        obtain ⟨a, b, e, hC, hb, hbc⟩ := op_ch h hc u
        have hbm : b < m := by omega
        obtain ⟨b1, b2⟩ := nd_tk5 h hbm (by rw [hb]; split <;> decide)
        have hU : ndU (N c) = [a, b, e] := by
          unfold ndU
          rw [if_neg (by omega), hC]
        have pb : prt N b = ndY (N b) := by rw [prt_eq h hbm, if_pos b1]
        have tb := tkb_tok h hbm b1
        have ha := hl a (by rw [hC]; exact List.mem_cons_self ..)
        have he := hl e (by rw [hC]; exact List.mem_cons_of_mem _ (List.mem_cons_of_mem _ (List.mem_cons_self ..)))
        rw [hU, hC]
        show ((prt N a ++ (prt N b ++ (prt N e ++ []))) ++ [41]).length + 1 ≤ (tkb N a + (tkb N b + (tkb N e + 0))) + 2 * (ndT (N a) + (ndT (N b) + (ndT (N e) + 0)))
        rw [List.length_append, List.length_append, List.length_append, List.length_append, pb, tb, b2]
        show (prt N a).length + ((ndY (N b)).length + ((prt N e).length + 0)) + 1 + 1 ≤ _
        omega
      · rw [if_neg u]
        have h1 := fm_len (N := N) (l := ndU (N c)) (fun z hz => hl z (ndU_sub hz))
        unfold ndU at h1 ⊢
        by_cases w : ndR (N c) = 10
        · rw [if_pos w] at h1 ⊢
          have h2 := sum_dt (f := tkb N) (ndC (N c))
          have h3 : tkS N (((ndC (N c)).drop 1).take 1) ≤ tkS N (ndC (N c)) := sum_dt (f := fun z => ndT (N z)) (ndC (N c))
          omega
        · rw [if_neg w] at h1 ⊢
          exact h1
/-! ===== bytes unpacked ===== -/
theorem ur_24 (x : Int32) : ((x.toUInt32 >>> (24 : UInt32)).toInt32 &&& 255).toBitVec.toNat = x.toBitVec.toNat / 256 ^ (3 - 0) % 256 := by
  show ((x.toBitVec >>> (24 : Nat)) &&& 255#32).toNat = _
  rw [BitVec.toNat_and, BitVec.toNat_ushiftRight, Nat.shiftRight_eq_div_pow]
  exact Nat.and_two_pow_sub_one_eq_mod _ 8
theorem ur_16 (x : Int32) : ((x.toUInt32 >>> (16 : UInt32)).toInt32 &&& 255).toBitVec.toNat = x.toBitVec.toNat / 256 ^ (3 - 1) % 256 := by
  show ((x.toBitVec >>> (16 : Nat)) &&& 255#32).toNat = _
  rw [BitVec.toNat_and, BitVec.toNat_ushiftRight, Nat.shiftRight_eq_div_pow]
  exact Nat.and_two_pow_sub_one_eq_mod _ 8
theorem ur_8 (x : Int32) : ((x.toUInt32 >>> (8 : UInt32)).toInt32 &&& 255).toBitVec.toNat = x.toBitVec.toNat / 256 ^ (3 - 2) % 256 := by
  show ((x.toBitVec >>> (8 : Nat)) &&& 255#32).toNat = _
  rw [BitVec.toNat_and, BitVec.toNat_ushiftRight, Nat.shiftRight_eq_div_pow]
  exact Nat.and_two_pow_sub_one_eq_mod _ 8
theorem ur_0 (x : Int32) : ((x.toUInt32 >>> (0 : UInt32)).toInt32 &&& 255).toBitVec.toNat = x.toBitVec.toNat / 256 ^ (3 - 3) % 256 := by
  show ((x.toBitVec >>> (0 : Nat)) &&& 255#32).toNat = _
  rw [BitVec.toNat_and, BitVec.toNat_ushiftRight, Nat.shiftRight_eq_div_pow]
  exact Nat.and_two_pow_sub_one_eq_mod _ 8
theorem nat_dg {f : Nat → Nat} {m k : Nat} (hk : k < m) (hm : m ≤ 4) (hf : ∀ j, j < m → f j < 256) : natV 256 f m * 256 ^ (4 - m) / 256 ^ (3 - k) % 256 = f k := by
  have f0 := hf 0 (by omega)
  rcases (by omega : m = 1 ∨ m = 2 ∨ m = 3 ∨ m = 4) with rfl | rfl | rfl | rfl
  · obtain rfl : k = 0 := by omega
    show (256 * 0 + f 0) * 16777216 / 16777216 % 256 = f 0
    omega
  · have f1 := hf 1 (by omega)
    rcases (by omega : k = 0 ∨ k = 1) with rfl | rfl
    · show (256 * (256 * 0 + f 0) + f 1) * 65536 / 16777216 % 256 = f 0
      omega
    · show (256 * (256 * 0 + f 0) + f 1) * 65536 / 65536 % 256 = f 1
      omega
  · have f1 := hf 1 (by omega)
    have f2 := hf 2 (by omega)
    rcases (by omega : k = 0 ∨ k = 1 ∨ k = 2) with rfl | rfl | rfl
    · show (256 * (256 * (256 * 0 + f 0) + f 1) + f 2) * 256 / 16777216 % 256 = f 0
      omega
    · show (256 * (256 * (256 * 0 + f 0) + f 1) + f 2) * 256 / 65536 % 256 = f 1
      omega
    · show (256 * (256 * (256 * 0 + f 0) + f 1) + f 2) * 256 / 256 % 256 = f 2
      omega
  · have f1 := hf 1 (by omega)
    have f2 := hf 2 (by omega)
    have f3 := hf 3 (by omega)
    rcases (by omega : k = 0 ∨ k = 1 ∨ k = 2 ∨ k = 3) with rfl | rfl | rfl | rfl
    · show (256 * (256 * (256 * (256 * 0 + f 0) + f 1) + f 2) + f 3) * 1 / 16777216 % 256 = f 0
      omega
    · show (256 * (256 * (256 * (256 * 0 + f 0) + f 1) + f 2) + f 3) * 1 / 65536 % 256 = f 1
      omega
    · show (256 * (256 * (256 * (256 * 0 + f 0) + f 1) + f 2) + f 3) * 1 / 256 % 256 = f 2
      omega
    · show (256 * (256 * (256 * (256 * 0 + f 0) + f 1) + f 2) + f 3) * 1 / 1 % 256 = f 3
      omega
theorem un_pk {t : Nat → Int32} {s m k : Nat} (hk : k < m) (hm : m ≤ 4) (h : ∀ j, j < m → byt (t (s + j))) {a : Int32} (ha : a = zi k ∨ a = zi (k + 4)) : (((pkR t s m).toUInt32 >>> ((24 - (8 * (a &&& 3))).toUInt32 &&& Int32.toUInt32 31)).toInt32) &&& 255 = t (s + k) := by
  have e := pk_nat m hm h
  have hd := byt_dg (h k hk)
  have r : (t (s + k)).toBitVec.toNat = dg 0 (t (s + k)) := (congrArg (fun v : Int32 => v.toBitVec.toNat) hd.2).trans (zi_bv (by have := hd.1; omega))
  have w := nat_dg (f := fun j => dg 0 (t (s + j))) hk hm (fun j hj => (byt_dg (h j hj)).1)
  refine Int32.toBitVec_inj.mp (BitVec.eq_of_toNat_eq ?_)
  rw [r]
  rcases (by omega : k = 0 ∨ k = 1 ∨ k = 2 ∨ k = 3) with rfl | rfl | rfl | rfl
  · rw [show (24 - (8 * (a &&& 3))).toUInt32 &&& Int32.toUInt32 31 = 24 by rcases ha with rfl | rfl <;> decide, ur_24, e]
    exact w
  · rw [show (24 - (8 * (a &&& 3))).toUInt32 &&& Int32.toUInt32 31 = 16 by rcases ha with rfl | rfl <;> decide, ur_16, e]
    exact w
  · rw [show (24 - (8 * (a &&& 3))).toUInt32 &&& Int32.toUInt32 31 = 8 by rcases ha with rfl | rfl <;> decide, ur_8, e]
    exact w
  · rw [show (24 - (8 * (a &&& 3))).toUInt32 &&& Int32.toUInt32 31 = 0 by rcases ha with rfl | rfl <;> decide, ur_0, e]
    exact w
/-- a token's bytes are bytes, and few -/
def bytY (x : Nd) : Prop := (ndY x).length ≤ 8 ∧ ∀ j, j < (ndY x).length → byt (bsF (ndY x) j)
theorem s_byteOf {m c i : Nat} {N : Nat → Nd} {I : zI} {K : Int32 → Prop} (rep : RepNX I m N) (hm : m ≤ 3400) (hc : c < m) (hr : ndR (N c) < 0) (hy : bytY (N c)) (hi : i < (ndY (N c)).length) (hK : K (bsF (ndY (N c)) i)) : w_Nodes_byteOf (zi c) (zi i) I K := by
  obtain ⟨y1, y2⟩ := hy
  obtain ⟨n1, n2, n3⟩ := (rep.2 c hc).2.2.2.2.2.2 hr
  intro P24 h24
  by_cases i4 : 4 ≤ i
  · rw [if_pos (show (4 : Int32) ≤ zi i from (zi_le (a := 4) (by decide) (by omega)).mpr i4)]
    refine (w_get (by decide)).mpr ?_
    rw [rg_in (by decide) (show c < 3400 by omega), show I.1 (39 + 1) c = pkR (bsF (ndY (N c))) (0 + 4) (min 4 ((ndY (N c)).length - 4)) from n3]
    refine h24 _ ?_
    rw [un_pk (k := i - 4) (by omega) (by omega) (fun j hj => y2 _ (by omega)) (Or.inr (by rw [Nat.sub_add_cancel i4])), show 0 + 4 + (i - 4) = i by omega]
    exact hK
  · rw [if_neg (show ¬ (4 : Int32) ≤ zi i from nle_zi' (n := 4) (by omega))]
    refine (w_get (by decide)).mpr ?_
    rw [rg_in (by decide) (show c < 3400 by omega), show I.1 (37 + 1) c = pkR (bsF (ndY (N c))) 0 (min 4 (ndY (N c)).length) from n2]
    refine h24 _ ?_
    rw [un_pk (k := i) (by omega) (by omega) (fun j hj => y2 _ (by omega)) (Or.inl rfl), Nat.zero_add]
    exact hK
/-! ===== the print, the class: what it writes ===== -/
def Qst (a j : Nat) : Prop := (a = 97 ∧ j = 2) ∨ a = 99
def Qob (b a j : Nat) : Prop := (a = 97 ∧ j = 3) ∨ a = b
def Qpw (b a j : Nat) : Prop := (a = 97 ∧ (j = 2 ∨ j = 3)) ∨ a = 99 ∨ a = b
/-- what waits: a byte below 1000, or a node and 1000 -/
def enc (e : Nat) : Int32 := if 1000 ≤ e then zi (e - 1000) else if e = 40 then -41 else -42
theorem enc_nd {c : Nat} : enc (1000 + c) = zi c := by
  unfold enc
  rw [if_pos (by omega), Nat.add_sub_cancel_left]
def pO (N : Nat → Nd) (e : Nat) : List Int32 := if 1000 ≤ e then prt N (e - 1000) else [zi e]
theorem pO_nd {N : Nat → Nd} {c : Nat} : pO N (1000 + c) = prt N c := by
  unfold pO
  rw [if_pos (by omega), Nat.add_sub_cancel_left]
def StkW (I : zI) : List Nat → Prop
  | [] => True
  | e :: w => I.1 99 w.length = enc e ∧ StkW I w
theorem StkW.kp {I J : zI} : ∀ {w : List Nat}, StkW I w → (∀ j, j < w.length → J.1 99 j = I.1 99 j) → StkW J w
  | [], _, _ => trivial
  | e :: w, h, q => ⟨(q w.length (Nat.lt_succ_self _)).trans h.1, h.2.kp (fun j hj => q j (Nat.lt_succ_of_lt hj))⟩
def OutX (a : Nat) (I : zI) (W : List Int32) : Prop := ∀ (i : Nat) (v : Int32), W[i]? = some v → I.1 a i = v
theorem s_putOff {e : Nat} {w : List Nat} {I : zI} {K : zI → Prop} (h2 : I.1 97 2 = zi w.length) (hl : w.length < 1000) (hS : StkW I w) (hK : ∀ J, eqQ Qst I J → J.1 97 2 = zi (e :: w).length → StkW J (e :: w) → K J) : w_Printer_putOff (enc e) I K := by
  unfold w_Printer_putOff
  rw [h2]
  refine (w_set (by decide)).mpr ?_
  rw [rs_in (by decide) hl]
  intro I2 e2
  have g : (zu I (98 + 1) w.length (enc e)).1 97 2 = zi w.length := by
    rw [zu_oo (by decide)]
    exact h2
  rw [g, zi_succ] at e2
  refine hK I2 ?_ (by rw [e2]; exact zu_self) ⟨?_, hS.kp (fun j hj => ?_)⟩
  · rw [e2]
    exact (eqQ.rf.zu (Or.inr rfl)).zu (Or.inl ⟨rfl, rfl⟩)
  · rw [e2, zu_oo (by decide)]
    exact zu_self
  · rw [e2, zu_oo (by decide), zu_at, if_neg (by omega)]
theorem s_wByte {a2 : Nat} {v : Int32} {W : List Int32} {I : zI} {K : zI → Prop} (hb : a2 = 109 ∨ a2 = 111) (h3 : I.1 97 3 = zi W.length) (hl : W.length < 700) (hO : OutX (a2 + 1) I W) (hK : ∀ J, eqQ (Qob (a2 + 1)) I J → J.1 97 3 = zi (W ++ [v]).length → OutX (a2 + 1) J (W ++ [v]) → K J) : w_Printer_writeByte v a2 700 I K := by
  unfold w_Printer_writeByte
  rw [h3]
  refine (w_set (by decide)).mpr ?_
  rw [rs_in (by decide) hl]
  intro I2 e2
  have g : (zu I (a2 + 1) W.length v).1 97 3 = zi W.length := by
    rw [zu_oo (by omega)]
    exact h3
  rw [g, zi_succ] at e2
  refine hK I2 ?_ (by rw [e2, zu_self, List.length_append]; rfl) (fun i u hi => ?_)
  · rw [e2]
    exact (eqQ.rf.zu (Or.inr rfl)).zu (Or.inl ⟨rfl, rfl⟩)
  · rw [e2, zu_oo (by omega)]
    rcases snoc_at hi with hi | ⟨rfl, rfl⟩
    · have hil := (List.getElem?_eq_some_iff.mp hi).1
      rw [zu_at, if_neg (by omega)]
      exact hO i u hi
    · exact zu_self
theorem s_wToken {a2 m c : Nat} {N : Nat → Nd} {W : List Int32} {I : zI} {K : zI → Prop} (hb : a2 = 109 ∨ a2 = 111) (rep : RepNX I m N) (hN : NdOk m N) (hm : m ≤ 3400) (hc : c < m) (hr : ndR (N c) < 0) (hy : bytY (N c)) (h3 : I.1 97 3 = zi W.length) (hl : (W ++ ndY (N c)).length ≤ 700) (hO : OutX (a2 + 1) I W) (hK : ∀ J, eqQ (Qob (a2 + 1)) I J → J.1 97 3 = zi (W ++ ndY (N c)).length → OutX (a2 + 1) J (W ++ ndY (N c)) → K J) : w_Printer_writeToken (zi c) a2 700 I K := by
  intro P2 h2
  have y8 := hy.1
  rw [List.length_append] at hl
  have rp : ∀ J, eqQ (Qob (a2 + 1)) I J → RepNX J m N := fun J q => rep.kp hN.ch (fun a j u1 u2 _ => q.1 a j (by unfold Qob; omega))
  have main : ∀ (d i : Nat) (J : zI), i + d = (ndY (N c)).length → eqQ (Qob (a2 + 1)) I J → J.1 97 3 = zi (W ++ (ndY (N c)).take i).length → OutX (a2 + 1) J (W ++ (ndY (N c)).take i) → P2 (zi i) J := by
    intro d
    induction d with
    | zero =>
      intro i J hi q j3 jO
      refine h2 _ _ ((w_get (by decide)).mpr ?_)
      rw [rg_in (by decide) (show c < 3400 by omega), show J.1 (35 + 1) c = zi (ndY (N c)).length from (((rp J q).2 c hc).2.2.2.2.2.2 hr).1, if_pos ((zi_le (by omega) (by omega)).mpr (by omega))]
      rw [List.take_of_length_le (by omega)] at j3 jO
      exact hK J q j3 jO
    | succ d ih =>
      intro i J hi q j3 jO
      refine h2 _ _ ((w_get (by decide)).mpr ?_)
      rw [rg_in (by decide) (show c < 3400 by omega), show J.1 (35 + 1) c = zi (ndY (N c)).length from (((rp J q).2 c hc).2.2.2.2.2.2 hr).1, if_neg (nle_zi' (by omega))]
      refine s_byteOf (rp J q) hm hc hr hy (by omega) ?_
      refine s_wByte hb j3 (by rw [List.length_append, List.length_take]; omega) jO (fun A qA a3 aO => ?_)
      intro v ev
      have hg : (ndY (N c))[i]? = some (bsF (ndY (N c)) i) := by
        unfold bsF
        rw [List.getD_eq_getElem?_getD, List.getElem?_eq_getElem (by omega)]
        rfl
      have ht : W ++ (ndY (N c)).take i ++ [bsF (ndY (N c)) i] = W ++ (ndY (N c)).take (i + 1) := by
        rw [List.take_add_one, hg, List.append_assoc]
        rfl
      rw [ht] at a3 aO
      rw [ev, zi_succ]
      exact ih (i + 1) A (by omega) (q.tr qA) a3 aO
  exact main (ndY (N c)).length 0 I (by omega) eqQ.rf (by rw [List.take_zero, List.append_nil]; exact h3) (by rw [List.take_zero, List.append_nil]; exact hO)
/-- what is laid there in place of a node -/
def opn (N : Nat → Nd) (c : Nat) (w : List Nat) : List Nat := if ndR (N c) = 4 ∨ ndR (N c) = 6 then 40 :: ((ndU (N c)).map (fun z => 1000 + z) ++ 41 :: w) else (ndU (N c)).map (fun z => 1000 + z) ++ w
theorem s_openUp {m c : Nat} {N : Nat → Nd} {w : List Nat} {I : zI} {K : zI → Prop} (rep : RepNX I m N) (hN : NdOk m N) (hm : m ≤ 3400) (hc : c < m) (hr : ¬ ndR (N c) < 0) (h2 : I.1 97 2 = zi w.length) (hl : w.length + 7 < 1000) (hS : StkW I w) (hK : ∀ J, eqQ Qst I J → J.1 97 2 = zi (opn N c w).length → StkW J (opn N c w) → K J) : w_Printer_openUp (zi c) I K := by
  unfold w_Printer_openUp
  refine (w_get (by decide)).mpr ?_
  have hc4 := hN.ch c hc
  rcases hN c hc with ⟨e1, -⟩ | ⟨r, s, hr11, -, e3, -, -, e6, -⟩
  · omega
  have rp : ∀ J, eqQ Qst I J → RepNX J m N := fun J q => rep.kp hN.ch (fun a j u1 u2 _ => q.1 a j (by unfold Qst; omega))
  have eqr : ∀ k : Nat, k < 100 → (zi r = zi k ↔ r = k) := fun k hk => zi_eq (by omega) (by omega)
  rw [rg_in (by decide) (show c < 3400 by omega), show I.1 (25 + 1) c = Int32.ofInt (ndR (N c)) from (rep.2 c hc).1, e3, zi_int r]
  intro P28 h28
  by_cases u10 : r = 10
  · -- only what is within
    have hU : ndU (N c) = ((ndC (N c)).drop 1).take 1 := by
      unfold ndU
      rw [if_pos (by omega)]
    have hlen : 3 = (ndC (N c)).length := by
      have h1 := congrArg List.length e6
      rw [List.length_map, u10] at h1
      exact h1.symm
    have hz : (ndC (N c))[1]? = some ((ndC (N c))[1]'(by omega)) := List.getElem?_eq_getElem (by omega)
    generalize hze : (ndC (N c))[1]'(by omega) = z at hz
    have hd : ((ndC (N c)).drop 1).take 1 = [z] := by
      rw [List.drop_eq_getElem_cons (by omega : 1 < (ndC (N c)).length), hze]
      rfl
    intro P23 _
    rw [if_neg (show ¬ zi r = 4 from fun v => by have := (eqr 4 (by decide)).mp v; omega), if_neg (show ¬ zi r = 6 from fun v => by have := (eqr 6 (by decide)).mp v; omega)]
    refine h28 0 ?_
    rw [if_pos (show zi r = 10 from (eqr 10 (by decide)).mpr u10)]
    refine s_childOf (k := 1) rep hm hc hc4 hz ?_
    rw [← enc_nd (c := z)]
    refine s_putOff h2 (by omega) hS (fun A qA a2 aS => ?_)
    have ho : opn N c w = (1000 + z) :: w := by
      unfold opn
      rw [if_neg (by omega), hU, hd]
      rfl
    rw [ho] at hK
    exact hK A qA a2 aS
  · have hU : ndU (N c) = ndC (N c) := by
      unfold ndU
      rw [if_neg (by omega)]
    -- all CHILDREN, the last one first
    have kids : ∀ (t : Int32) (w0 : List Nat) (P59 : zI → Prop), (∀ (I_3 : zI), (w_Nodes_childrenOf (zi c) I_3 (fun r_4 => ∀ v4_5, v4_5 = (r_4 - 1) → ∀ (P71 : Int32 → zI → Prop), (∀ (v4_6 : Int32) (I_7 : zI), ((if v4_6 < 0 then (if t = 0 then K I_7 else (w_Printer_putOff (-41) I_7 (fun I_8 => K I_8))) else (w_Nodes_childOf (zi c) v4_6 I_7 (fun r_10 => w_Printer_putOff r_10 I_7 (fun I_11 => ∀ v4_12, v4_12 = (v4_6 + (-1)) → P71 v4_12 I_11))))) → P71 v4_6 I_7) → P71 v4_5 I_3)) → P59 I_3) → (∀ B, eqQ Qst I B → B.1 97 2 = zi ((ndC (N c)).map (fun z => 1000 + z) ++ w0).length → StkW B ((ndC (N c)).map (fun z => 1000 + z) ++ w0) → (if t = 0 then K B else (w_Printer_putOff (-41) B (fun I_8 => K I_8)))) → w0.length + 5 < 1000 → ∀ A, eqQ Qst I A → A.1 97 2 = zi w0.length → StkW A w0 → P59 A := by
      intro t w0 P59 h59 hend hl0 A qA a2 aS
      refine h59 A (s_childrenOf (rp A qA) hN hm hc ?_)
      intro v4 ev4 P71 h71
      have inner : ∀ (k : Nat) (B : zI), k ≤ (ndC (N c)).length → eqQ Qst I B → B.1 97 2 = zi (((ndC (N c)).drop k).map (fun z => 1000 + z) ++ w0).length → StkW B (((ndC (N c)).drop k).map (fun z => 1000 + z) ++ w0) → P71 (zi k - 1) B := by
        intro k
        induction k with
        | zero =>
          intro B hk qB b2 bS
          refine h71 _ _ ?_
          rw [if_pos (show zi 0 - 1 < 0 by decide)]
          rw [List.drop_zero] at b2 bS
          exact hend B qB b2 bS
        | succ k ihk =>
          intro B hk qB b2 bS
          refine h71 _ _ ?_
          rw [show zi (k + 1) - 1 = zi k from zi_sub (b := 1) (by omega), if_neg (zi_pos (by omega))]
          have hz : (ndC (N c))[k]? = some ((ndC (N c))[k]'(by omega)) := List.getElem?_eq_getElem (by omega)
          have hd : (ndC (N c)).drop k = (ndC (N c))[k]'(by omega) :: (ndC (N c)).drop (k + 1) := List.drop_eq_getElem_cons (by omega)
          generalize (ndC (N c))[k]'(by omega) = z at hz hd
          refine s_childOf (rp B qB) hm hc hc4 hz ?_
          have hlen : (((ndC (N c)).drop (k + 1)).map (fun z => 1000 + z) ++ w0).length < 1000 := by
            rw [List.length_append, List.length_map, List.length_drop]
            omega
          rw [← enc_nd (c := z)]
          refine s_putOff b2 hlen bS (fun D qD d2 dS => ?_)
          intro v ev
          rw [ev, ← Int32.sub_eq_add_neg]
          have := ihk D (by omega) (qB.tr qD) (by rw [hd]; exact d2) (by rw [hd]; exact dS)
          exact this
      rw [ev4]
      exact inner (ndC (N c)).length A (Nat.le_refl _) qA (by rw [List.drop_length]; exact a2) (by rw [List.drop_length]; exact aS)
    by_cases u46 : r = 4 ∨ r = 6
    · have ho : opn N c w = 40 :: ((ndC (N c)).map (fun z => 1000 + z) ++ 41 :: w) := by
        unfold opn
        rw [if_pos (by omega), hU]
      rw [ho] at hK
      have yes : P28 1 := by
        refine h28 1 ?_
        rw [if_neg (show ¬ zi r = 10 from fun v => u10 ((eqr 10 (by decide)).mp v))]
        intro P59 h59
        rw [if_neg (show ¬ (1 : Int32) = 0 by decide)]
        refine s_putOff (e := 41) h2 (by omega) hS (fun A qA a2 aS => ?_)
        refine kids 1 (41 :: w) P59 h59 (fun B qB b2 bS => ?_) (by rw [List.length_cons]; omega) A qA a2 aS
        rw [if_neg (show ¬ (1 : Int32) = 0 by decide)]
        refine s_putOff (e := 40) b2 (by rw [List.length_append, List.length_map, List.length_cons]; omega) bS (fun D qD d2 dS => ?_)
        exact hK D (qB.tr qD) d2 dS
      intro P23 h23
      rcases u46 with u | u
      · rw [if_pos (show zi r = 4 from (eqr 4 (by decide)).mpr u)]
        exact h23 yes
      · rw [if_neg (show ¬ zi r = 4 from fun v => by have := (eqr 4 (by decide)).mp v; omega), if_pos (show zi r = 6 from (eqr 6 (by decide)).mpr u)]
        exact h23 yes
    · have ho : opn N c w = (ndC (N c)).map (fun z => 1000 + z) ++ w := by
        unfold opn
        rw [if_neg (by omega), hU]
      rw [ho] at hK
      intro P23 _
      rw [if_neg (show ¬ zi r = 4 from fun v => u46 (Or.inl ((eqr 4 (by decide)).mp v))), if_neg (show ¬ zi r = 6 from fun v => u46 (Or.inr ((eqr 6 (by decide)).mp v)))]
      refine h28 0 ?_
      rw [if_neg (show ¬ zi r = 10 from fun v => u10 ((eqr 10 (by decide)).mp v))]
      intro P59 h59
      rw [if_pos (show (0 : Int32) = 0 from rfl)]
      refine kids 0 w P59 h59 (fun B qB b2 bS => ?_) (by omega) I eqQ.rf h2 hS
      rw [if_pos (show (0 : Int32) = 0 from rfl)]
      exact hK B qB b2 bS
def mT (N : Nat → Nd) (e : Nat) : Nat := if 1000 ≤ e then 3 * sz N (e - 1000) else 1
theorem mT_nd {N : Nat → Nd} {c : Nat} : mT N (1000 + c) = 3 * sz N c := by
  unfold mT
  rw [if_pos (by omega), Nat.add_sub_cancel_left]
def sT (N : Nat → Nd) (w : List Nat) : Nat := (w.map (mT N)).sum
theorem sT_cons {N : Nat → Nd} {e : Nat} {w : List Nat} : sT N (e :: w) = mT N e + sT N w := by
  unfold sT
  rw [List.map_cons, List.sum_cons]
theorem sT_ch {N : Nat → Nd} {w : List Nat} : ∀ {l : List Nat}, sT N (l.map (fun z => 1000 + z) ++ w) = 3 * szS N l + sT N w
  | [] => by
    show sT N w = 3 * 0 + sT N w
    omega
  | c :: l => by
    rw [List.map_cons, List.cons_append, sT_cons, sT_ch, mT_nd, szS_cons]
    omega
def outW (N : Nat → Nd) (w : List Nat) : List Int32 := w.flatMap (pO N)
theorem outW_cons {N : Nat → Nd} {e : Nat} {w : List Nat} : outW N (e :: w) = pO N e ++ outW N w := by
  unfold outW
  rw [List.flatMap_cons]
theorem outW_ch {N : Nat → Nd} {w : List Nat} : ∀ {l : List Nat}, outW N (l.map (fun z => 1000 + z) ++ w) = l.flatMap (prt N) ++ outW N w
  | [] => rfl
  | c :: l => by rw [List.map_cons, List.cons_append, outW_cons, outW_ch, pO_nd, List.flatMap_cons, List.append_assoc]
def EnW (m : Nat) (N : Nat → Nd) (w : List Nat) : Prop := ∀ e ∈ w, e = 40 ∨ e = 41 ∨ ∃ c, e = 1000 + c ∧ c < m ∧ ∀ z ∈ yl N c, bytY (N z)
theorem EnW.pos {m e : Nat} {N : Nat → Nd} {w : List Nat} (hN : NdOk m N) (h : EnW m N (e :: w)) : 1 ≤ mT N e := by
  rcases h e (List.mem_cons_self ..) with rfl | rfl | ⟨c, rfl, hc, -⟩
  · exact Nat.le_refl _
  · exact Nat.le_refl _
  · have := sz_pos hN hc
    rw [mT_nd]
    omega
theorem EnW.len {m : Nat} {N : Nat → Nd} (hN : NdOk m N) : ∀ {w : List Nat}, EnW m N w → w.length ≤ sT N w
  | [], _ => Nat.zero_le _
  | e :: w, h => by
    have h1 := EnW.pos hN h
    have h2 := EnW.len hN (w := w) (fun x hx => h x (List.mem_cons_of_mem _ hx))
    rw [List.length_cons, sT_cons]
    omega
/-- a node opened up: it is printed as it was, takes fewer steps -/
theorem opn_ok {m c : Nat} {N : Nat → Nd} {w : List Nat} (hN : NdOk m N) (hc : c < m) (hr : ¬ ndR (N c) < 0) (hy : ∀ z ∈ yl N c, bytY (N z)) (hw : EnW m N w) : outW N (opn N c w) = prt N c ++ outW N w ∧ sT N (opn N c w) + 1 ≤ 3 * sz N c + sT N w ∧ EnW m N (opn N c w) := by
  have hs : szS N (ndU (N c)) ≤ szS N (ndC (N c)) := by
    unfold ndU
    by_cases u : ndR (N c) = 10
    · rw [if_pos u]
      exact sum_dt (f := sz N) (ndC (N c))
    · rw [if_neg u]
      exact Nat.le_refl _
  have hsz := sz_eq hN hc
  have ch : ∀ z ∈ ndU (N c), z < m ∧ ∀ y ∈ yl N z, bytY (N y) := fun z hz => by
    have hzC := ndU_sub hz
    have := hN.lt hc hzC
    refine ⟨by omega, fun y hy' => hy y ?_⟩
    rw [yl_eq hN hc, if_neg hr]
    exact List.mem_flatMap.mpr ⟨z, hzC, hy'⟩
  have enk : ∀ w0 : List Nat, EnW m N w0 → EnW m N ((ndU (N c)).map (fun z => 1000 + z) ++ w0) := fun w0 h0 x hx => by
    rcases List.mem_append.mp hx with hx | hx
    · obtain ⟨z, hz, rfl⟩ := List.mem_map.mp hx
      obtain ⟨c1, c2⟩ := ch z hz
      exact Or.inr (Or.inr ⟨z, rfl, c1, c2⟩)
    · exact h0 x hx
  rw [prt_eq hN hc, if_neg hr]
  unfold opn
  by_cases u : ndR (N c) = 4 ∨ ndR (N c) = 6
  · rw [if_pos u, if_pos u]
    refine ⟨?_, ?_, fun x hx => ?_⟩
    · rw [outW_cons, outW_ch, outW_cons, List.cons_append, List.append_assoc]
      rfl
    · rw [sT_cons, sT_ch, sT_cons, show mT N 40 = 1 from rfl, show mT N 41 = 1 from rfl]
      omega
    · rcases List.mem_cons.mp hx with rfl | hx
      · exact Or.inl rfl
      · refine enk (41 :: w) (fun y hy' => ?_) x hx
        rcases List.mem_cons.mp hy' with rfl | hy'
        · exact Or.inr (Or.inl rfl)
        · exact hw y hy'
  · rw [if_neg u, if_neg u]
    refine ⟨outW_ch, ?_, enk w hw⟩
    rw [sT_ch]
    omega
theorem s_write {a2 m c0 : Nat} {N : Nat → Nd} {I : zI} {K : Int32 → zI → Prop} (hb : a2 = 109 ∨ a2 = 111) (rep : RepNX I m N) (hN : NdOk m N) (hm : m ≤ 3400) (hc : c0 < m) (hsz : sz N c0 ≤ 300) (hlen : (prt N c0).length ≤ 700) (hy : ∀ z ∈ yl N c0, bytY (N z)) (hK : ∀ J, eqQ (Qpw (a2 + 1)) I J → OutX (a2 + 1) J (prt N c0) → K (zi (prt N c0).length) J) : w_Printer_write (zi c0) a2 700 I K := by
  intro I1 e1 I2 e2
  have q2 : eqQ (Qpw (a2 + 1)) I I2 := by
    rw [e2, e1]
    exact (eqQ.rf.zu (Or.inl ⟨rfl, Or.inr rfl⟩)).zu (Or.inl ⟨rfl, Or.inl rfl⟩)
  have qs : ∀ {A B : zI}, eqQ Qst A B → eqQ (Qpw (a2 + 1)) A B := fun q => q.mono (fun a j h => by unfold Qst at h; unfold Qpw; omega)
  have qo : ∀ {A B : zI}, eqQ (Qob (a2 + 1)) A B → eqQ (Qpw (a2 + 1)) A B := fun q => q.mono (fun a j h => by unfold Qob at h; unfold Qpw; omega)
  have rp : ∀ J, eqQ (Qpw (a2 + 1)) I J → RepNX J m N := fun J q => rep.kp hN.ch (fun a j u1 u2 _ => q.1 a j (by unfold Qpw; omega))
  rw [← enc_nd (c := c0)]
  refine s_putOff (e := 1000 + c0) (w := []) (by rw [e2]; exact zu_self) (by decide) trivial (fun I3 q3 g2 gS => ?_)
  intro P17 h17
  have main : ∀ (f : Nat) (w : List Nat) (W : List Int32) (t : Nat) (J : zI), sT N w ≤ f → t + sT N w ≤ 900 → EnW m N w → W ++ outW N w = prt N c0 → J.1 97 2 = zi w.length → J.1 97 3 = zi W.length → StkW J w → OutX (a2 + 1) J W → eqQ (Qpw (a2 + 1)) I J → P17 (zi t) J := by
    intro f
    have nil : ∀ (W : List Int32) (t : Nat) (J : zI), t ≤ 900 → W ++ outW N [] = prt N c0 → J.1 97 2 = zi ([] : List Nat).length → J.1 97 3 = zi W.length → OutX (a2 + 1) J W → eqQ (Qpw (a2 + 1)) I J → P17 (zi t) J := by
      intro W t J ht ho j2 j3 jO q
      refine h17 _ _ ?_
      intro P105 h105
      have hW : W = prt N c0 := by
        rw [← ho]
        exact (List.append_nil W).symm
      rw [if_neg (show ¬ (10000 : Int32) ≤ zi t from nle_zi' (n := 10000) (by omega)), j2, if_pos (show zi ([] : List Nat).length ≤ 0 by decide)]
      refine h105 ?_
      rw [j3, hW]
      rw [hW] at jO
      exact hK J q jO
    induction f with
    | zero =>
      intro w W t J hf ht hw ho j2 j3 jS jO q
      cases w with
      | nil => exact nil W t J (by omega) ho j2 j3 jO q
      | cons e w =>
        have := EnW.pos hN hw
        rw [sT_cons] at hf
        omega
    | succ f ih =>
      intro w W t J hf ht hw ho j2 j3 jS jO q
      cases w with
      | nil => exact nil W t J (by omega) ho j2 j3 jO q
      | cons e w =>
        have hl := EnW.len hN hw
        have hp := EnW.pos hN hw
        have hw' : EnW m N w := fun x hx => hw x (List.mem_cons_of_mem _ hx)
        rw [sT_cons] at hf ht hl
        rw [List.length_cons] at hl
        rw [outW_cons] at ho
        have hWl : W.length + ((pO N e).length + (outW N w).length) ≤ 700 := by
          have := congrArg List.length ho
          rw [List.length_append, List.length_append] at this
          omega
        refine h17 _ _ ?_
        intro P105 _
        rw [if_neg (show ¬ (10000 : Int32) ≤ zi t from nle_zi' (n := 10000) (by omega)), j2, List.length_cons, if_neg (show ¬ zi (w.length + 1) ≤ 0 from nle_zi' (k := 0) (by omega))]
        intro I6 e6
        rw [show zi (w.length + 1) - 1 = zi w.length from zi_sub (b := 1) (by omega)] at e6
        have s2 : I6.1 97 2 = zi w.length := by rw [e6, zu_self]
        have s3 : I6.1 97 3 = zi W.length := by
          rw [e6, zu_at, if_neg (by omega)]
          exact j3
        have sS : StkW I6 w := jS.2.kp (fun j _ => by rw [e6, zu_oo (by decide)])
        have sO : OutX (a2 + 1) I6 W := fun i v hi => by
          rw [e6, zu_oo (by omega)]
          exact jO i v hi
        have q6 : eqQ (Qpw (a2 + 1)) I I6 := by
          rw [e6]
          exact q.zu (Or.inl ⟨rfl, Or.inl rfl⟩)
        refine (w_get (by decide)).mpr ?_
        rw [s2, rg_in (by decide) (show w.length < 1000 by omega), show I6.1 (98 + 1) w.length = enc e by rw [e6, zu_oo (by decide)]; exact jS.1]
        intro P99 h99
        have nx : ∀ (w' : List Nat) (W' : List Int32) (L : zI), sT N w' + 1 ≤ mT N e + sT N w → EnW m N w' → W' ++ outW N w' = prt N c0 → L.1 97 2 = zi w'.length → L.1 97 3 = zi W'.length → StkW L w' → OutX (a2 + 1) L W' → eqQ (Qpw (a2 + 1)) I L → P99 L := fun w' W' L u1 u2 u3 u4 u5 u6 u7 u8 => h99 L (fun v ev => by
          rw [ev, zi_succ]
          exact ih w' W' (t + 1) L (by omega) (by omega) u2 u3 u4 u5 u6 u7 u8)
        -- a byte
        have byte : ∀ b : Int32, pO N e = [b] → w_Printer_writeByte b a2 700 I6 (fun I_14 => P99 I_14) := by
          intro b hpb
          rw [hpb] at hWl ho
          have hWl' : W.length + (1 + (outW N w).length) ≤ 700 := hWl
          refine s_wByte hb s3 (by omega) sO (fun A qA a3 aO => ?_)
          refine nx w (W ++ [b]) A (by omega) hw' (by rw [List.append_assoc]; exact ho) ?_ a3 (sS.kp (fun j _ => qA.1 99 j (by unfold Qob; omega))) aO (q6.tr (qo qA))
          rw [qA.1 97 2 (by unfold Qob; omega)]
          exact s2
        rcases hw e (List.mem_cons_self ..) with rfl | rfl | ⟨c, rfl, hcm, hcy⟩
        · rw [show enc 40 = -41 from rfl, if_neg (show ¬ (0 : Int32) ≤ -41 by decide), show (-1 : Int32) - (-41) = 40 by decide]
          exact byte 40 rfl
        · rw [show enc 41 = -42 from rfl, if_neg (show ¬ (0 : Int32) ≤ -42 by decide), show (-1 : Int32) - (-42) = 41 by decide]
          exact byte 41 rfl
        · rw [enc_nd, if_pos (zi_ge (by omega))]
          rw [mT_nd] at nx hf ht hl
          rw [pO_nd] at ho hWl
          refine s_isToken (rp I6 q6) hN hm hcm ?_
          by_cases hr : ndR (N c) < 0
          · rw [if_pos hr, if_neg (show ¬ (1 : Int32) = 0 by decide)]
            have hp : prt N c = ndY (N c) := by rw [prt_eq hN hcm, if_pos hr]
            rw [hp] at ho hWl
            have hself : c ∈ yl N c := by
              rw [yl_eq hN hcm, if_pos hr]
              exact List.mem_singleton.mpr rfl
            refine s_wToken hb (rp I6 q6) hN hm hcm hr (hcy c hself) s3 (by rw [List.length_append]; omega) sO (fun A qA a3 aO => ?_)
            have := sz_pos hN hcm
            refine nx w (W ++ ndY (N c)) A (by omega) hw' (by rw [List.append_assoc]; exact ho) ?_ a3 (sS.kp (fun j _ => qA.1 99 j (by unfold Qob; omega))) aO (q6.tr (qo qA))
            rw [qA.1 97 2 (by unfold Qob; omega)]
            exact s2
          · rw [if_neg hr, if_pos (show (0 : Int32) = 0 from rfl)]
            obtain ⟨o1, o2, o3⟩ := opn_ok hN hcm hr hcy hw'
            refine s_openUp (rp I6 q6) hN hm hcm hr s2 (by omega) sS (fun A qA a2' aS => ?_)
            refine nx (opn N c w) W A o2 o3 (by rw [o1]; exact ho) a2' ?_ aS (fun i v hi => ?_) (q6.tr (qs qA))
            · rw [qA.1 97 3 (by unfold Qst; omega)]
              exact s3
            · rw [qA.1 (a2 + 1) i (by unfold Qst; omega)]
              exact sO i v hi
  have z3 : I3.1 97 3 = zi ([] : List Int32).length := by
    rw [q3.1 97 3 (by unfold Qst; omega), e2, zu_at, if_neg (by omega), e1, zu_self]
    rfl
  refine main (sT N [1000 + c0]) [1000 + c0] [] 0 I3 (Nat.le_refl _) ?_ (fun x hx => ?_) ?_ g2 z3 gS (fun i v hi => by cases hi) (q2.tr (qs q3))
  · rw [sT_cons, mT_nd]
    show 0 + (3 * sz N c0 + 0) ≤ 900
    omega
  · cases List.mem_singleton.mp hx
    exact Or.inr (Or.inr ⟨c0, rfl, hc, hy⟩)
  · rw [outW_cons, pO_nd]
    exact List.append_nil _
/-- the class has the print of a TREE -/
def PnX (I : zI) (N : Nat → Nd) (R : Nat) : Prop := I.1 0 18 = zi (prt N R).length ∧ OutX 110 I (prt N R)
/-- all that the class sees of a TREE -/
def ViX (I : zI) (N : Nat → Nd) (R : Nat) : Prop :=
  I.1 43 13 = zi R ∧ FlX I (flR N R) ∧ (∀ (p : Nat) (x : Fl), (flR N R)[p]? = some x → I.1 53 p = zi x.2.2.2.1 ∧ I.1 55 p = zi x.2.2.2.2) ∧ RnX I (runsOf N R) ∧ PlX I ∧ RmX I N (flR N R) ∧ PnX I N R
/-- the class looks at a TREE, runs it, prints it -/
def Qla (a j : Nat) : Prop := Qvi a j ∨ Qrr a j ∨ Qpn a j ∨ (a = 0 ∧ j = 18)
theorem s_deskLook {m R n a : Nat} {e : Int32} {og : Nat → Nat} {N : Nat → Nd} {I : zI} {K : zI → Prop} (rep : RepNX I m N) (hN : NdOk m N) (hu : UqE m N) (hm : m ≤ 3400) (t : TreeI m N R n og) (htk : ∀ c, c < m → ndT (N c) ≤ 1000) (hpl : PlX I) (hp7 : (prt N R).length ≤ 700) (hpy : ∀ z ∈ yl N R, bytY (N z)) (ha : a < 24 ∨ 113 ≤ a) (hT : I.1 a 7 = zi R)
    (hK : ∀ J, eqQ Qla I J → ViX J N R → K J) : w_Desk_lookAt a e I K := by
  unfold w_Desk_lookAt
  have fg := t.flG hN hu
  refine s_lookAt rep hN hu hm t htk hpl hT (fun A qA vA => ?_)
  refine r_runAll (n := (flR N R).length) (by omega) vA.2.1.1 (by have := fg.1.1; omega) (fun B qB => ?_)
  have hTB : B.1 a 7 = zi R := by
    rw [qB.1 a 7 (by unfold Qrr; omega), qA.1 a 7 (by unfold Qvi; omega)]
    exact hT
  rw [hTB]
  refine s_write (a2 := 109) (Or.inl rfl) (rep.kp hN.ch (fun a j u1 u2 _ => by rw [qB.1 a j (by unfold Qrr; omega)]; exact qA.1 a j (by unfold Qvi; omega))) hN hm t.1 (by have := t.few hN; omega) hp7 hpy (fun C qC oC I5 e5 => ?_)
  have q5 : eqQ Qla I I5 := by
    rw [e5]
    exact (((qA.mono (fun a j h => Or.inl h)).tr (qB.mono (fun a j h => Or.inr (Or.inl h)))).tr (qC.mono (fun a j h => Or.inr (Or.inr (Or.inl (by unfold Qpw at h; unfold Qpn; omega)))))).zu (Or.inr (Or.inr (Or.inr ⟨rfl, rfl⟩)))
  have o : ∀ a j, 43 ≤ a → a ≤ 68 → I5.1 a j = A.1 a j := fun a j h1 h2 => by
    rw [e5, zu_oo (by omega), qC.1 a j (by unfold Qpw; omega), qB.1 a j (by unfold Qrr; omega)]
  obtain ⟨v1, v2, v3, v4, v5, v6⟩ := vA
  refine hK I5 q5 ⟨by rw [o _ _ (by decide) (by decide)]; exact v1, v2.kp (fun a j h1 h2 => o a j (by omega) (by omega)), fun p x hx => by rw [o 53 _ (by decide) (by decide), o 55 _ (by decide) (by decide)]; exact v3 p x hx, ⟨by rw [o _ _ (by decide) (by decide)]; exact v4.1, fun i r hi => by rw [o _ _ (by decide) (by decide)]; exact v4.2 i r hi⟩, fun c hc => ?_, fun r hr => by rw [o 61 r (by decide) (by decide)]; exact v6 r hr, ⟨by rw [e5, zu_self], fun i v hi => by rw [e5, zu_oo (by decide)]; exact oC i v hi⟩⟩
  obtain ⟨p, p1, p2⟩ := v5 c hc
  exact ⟨p, p1, by rw [o 47 c (by decide) (by decide)]; exact p2⟩
/-! ===== the state, and how both sides hold it ===== -/
def txF (l : List Int32) : Nat → Int32 := fun j => l.getD j 0
theorem txF_at {l : List Int32} {j : Nat} {v : Int32} (h : l[j]? = some v) : txF l j = v := by
  unfold txF
  rw [List.getD_eq_getElem?_getD, h]
  rfl
def lexL (l : List Int32) : List (Nat × Nat × Nat) := lex (txF l) l.length
/-- a TEXT as it is, the last good one, is it good, its TREE's root, its tokens' nodes -/
abbrev Mo : Type := List Int32 × List Int32 × Bool × Nat × (Nat → Nat) × Int32
def moT (x : Mo) : List Int32 := x.1
def moG (x : Mo) : List Int32 := x.2.1
def moB (x : Mo) : Bool := x.2.2.1
def moR (x : Mo) : Nat := x.2.2.2.1
def moO (x : Mo) : Nat → Nat := x.2.2.2.2.1
/-- its ROW -/
def moW (x : Mo) : Int32 := x.2.2.2.2.2
def txOk (l : List Int32) : Prop := l.length ≤ 300 ∧ (∀ j, j < l.length → byt (txF l j)) ∧ (lexL l).length ≤ 100
theorem lex_lxo {l : List Int32} (h : txOk l) : LxO (txF l) (lexL l) := by
  obtain ⟨h1, h2, h3⟩ := h
  have hlen : (lexL l).length = (lexF (txF l) l.length l.length 0).length + 1 := by
    show (lexF (txF l) l.length l.length 0 ++ [(10, l.length, 0)]).length = _
    rw [List.length_append]
    rfl
  refine ⟨fun x hx => (lex_ok h2 x hx).1, by omega, h3, fun i x hx => ?_⟩
  have hx' : (lexF (txF l) l.length l.length 0 ++ [(10, l.length, 0)])[i]? = some x := hx
  rcases snoc_at hx' with hx2 | ⟨e1, e2⟩
  · have hil := (List.getElem?_eq_some_iff.mp hx2).1
    have := (lexF_ok h2 _ _ x (List.mem_of_getElem? hx2)).2.1
    constructor
    · intro u
      exact absurd u this
    · intro u
      omega
  · rw [e2]
    constructor
    · intro _
      omega
    · intro _
      rfl
/-- a moment that can be -/
def MoOk (m : Nat) (N : Nat → Nd) (x : Mo) : Prop :=
  txOk (moT x) ∧ txOk (moG x) ∧ (moB x = true → moT x = moG x) ∧ TreeI m N (moR x) (lexL (moG x)).length (moO x) ∧ TkI N (txF (moG x)) (lexL (moG x)) (moO x)
theorem sum_rg {α : Type} {w : α → Nat} : ∀ {L : List α} {f : Nat → Nat}, (∀ i x, L[i]? = some x → f i = w x) → ∀ k, k ≤ L.length → ((List.range k).map f).sum ≤ (L.map w).sum
  | _, _, _, 0, _ => Nat.zero_le _
  | [], _, _, k + 1, hk => by
    change k + 1 ≤ 0 at hk
    omega
  | a :: L, f, h, k + 1, hk => by
    rw [List.length_cons] at hk
    rw [List.range_succ_eq_map, List.map_cons, List.sum_cons, List.map_map, List.map_cons, List.sum_cons]
    have h0 := h 0 a rfl
    have h1 := sum_rg (L := L) (w := w) (f := f ∘ Nat.succ) (fun i x hx => h (i + 1) x (by rw [List.getElem?_cons_succ]; exact hx)) k (by omega)
    omega
theorem lexF_sum {t : Nat → Int32} {n : Nat} : ∀ f i, ((lexF t n f i).map (fun x => x.2.2)).sum ≤ n - i
  | 0, _ => Nat.zero_le _
  | f + 1, i => by
    rw [lexF]
    by_cases h : n ≤ i
    · rw [if_pos h]
      exact Nat.zero_le _
    · rw [if_neg h]
      have hp := tkP_pos (t := t) (n := n) (i := i) (by omega)
      by_cases hB : isB (t i) = true
      · rw [if_pos hB]
        have := lexF_sum (t := t) (n := n) f (i + 1)
        omega
      · rw [if_neg hB, List.map_cons, List.sum_cons]
        have := lexF_sum (t := t) (n := n) f (i + (tkP t n i).2)
        dsimp only
        omega
/-- tokens, their bytes, what is printed of a node below another -/
theorem below_ok {m : Nat} {N : Nat → Nd} (h : NdOk m N) (R : Nat) : R < m → ∀ c ∈ po N R, tkb N c ≤ tkb N R ∧ ndT (N c) ≤ ndT (N R) ∧ sz N c ≤ sz N R ∧ ∀ z ∈ yl N c, z ∈ yl N R := by
  induction R using Nat.strongRecOn with
  | ind R ih =>
    intro hR c hc
    rw [po_eq h hR] at hc
    rcases List.mem_cons.mp hc with rfl | hc
    · exact ⟨Nat.le_refl _, Nat.le_refl _, Nat.le_refl _, fun z hz => hz⟩
    · obtain ⟨y, hy, hcy⟩ := List.mem_flatMap.mp hc
      have hlt := h.lt hR hy
      obtain ⟨i1, i2, i3, i4⟩ := ih y hlt (by omega) c hcy
      have hr : ¬ ndR (N R) < 0 ∧ ndT (N R) = tkS N (ndC (N R)) := by
        rcases h R hR with ⟨-, e2, -⟩ | ⟨r, s, -, -, e3, -, -, -, -, e8⟩
        · rw [e2] at hy
          cases hy
        · exact ⟨by omega, e8⟩
      have hmem : ∀ f : Nat → Nat, f y ≤ ((ndC (N R)).map f).sum := fun f => by
        obtain ⟨L1, L2, hL⟩ := List.append_of_mem hy
        rw [hL, List.map_append, List.map_cons, List.sum_append, List.sum_cons]
        omega
      have m1 := hmem (tkb N)
      have m2 := tkS_mem (N := N) hy
      have m3 : sz N y ≤ szS N (ndC (N R)) := hmem (sz N)
      rw [← tkb_ch h hR hr.1] at m1
      rw [← hr.2] at m2
      have m4 := sz_eq h hR
      refine ⟨by omega, by omega, by omega, fun z hz => ?_⟩
      rw [yl_eq h hR, if_neg hr.1]
      exact List.mem_flatMap.mpr ⟨y, hy, i4 z hz⟩
theorem prt_in {m c : Nat} {N : Nat → Nd} {x : Mo} (hN : NdOk m N) (o : MoOk m N x) (hc : c ∈ po N (moR x)) : (prt N c).length ≤ 498 ∧ sz N c ≤ 248 ∧ ∀ z ∈ yl N c, bytY (N z) := by
  obtain ⟨o1, o2, o3, t, tk⟩ := o
  have hR := t.1
  have hy := t.2.2.1
  obtain ⟨b1, b2, b3, b4⟩ := below_ok hN (moR x) hR c hc
  have hcm : c < m := by
    have := po_le hN (moR x) hR c hc
    omega
  have h1 := prt_len hN c hcm
  have h2 := t.tk hN
  have h3 := t.2.2.2.2.2.2.2
  have h4 := t.few hN
  have hs : tkb N (moR x) ≤ 300 := by
    unfold tkb
    rw [hy, List.map_map]
    have := sum_rg (L := lexL (moG x)) (w := fun w => w.2.2) (f := (fun z => (ndY (N z)).length) ∘ moO x) (fun i w hw => by
      show (ndY (N (moO x i))).length = w.2.2
      rw [(tk i w hw).2, tkBs_len]) ((lexL (moG x)).length - 1) (by omega)
    have h5 : ((lexL (moG x)).map (fun w => w.2.2)).sum ≤ (moG x).length := by
      show ((lexF (txF (moG x)) (moG x).length (moG x).length 0 ++ [(10, (moG x).length, 0)]).map (fun w : Nat × Nat × Nat => w.2.2)).sum ≤ _
      rw [List.map_append, List.sum_append]
      have := lexF_sum (t := txF (moG x)) (n := (moG x).length) (moG x).length 0
      show _ + 0 ≤ _
      omega
    have h6 := o2.1
    omega
  refine ⟨by omega, by omega, fun z hz => ?_⟩
  have hz2 := b4 z hz
  rw [hy] at hz2
  obtain ⟨i, hi, rfl⟩ := List.mem_map.mp hz2
  have hil := List.mem_range.mp hi
  have hw : (lexL (moG x))[i]? = some ((lexL (moG x))[i]'(by omega)) := List.getElem?_eq_getElem (by omega)
  generalize (lexL (moG x))[i]'(by omega) = w at hw
  obtain ⟨ok, -⟩ := lex_ok o2.2.1 w (List.mem_of_getElem? hw)
  unfold bytY
  rw [(tk i w hw).2, tkBs_len]
  refine ⟨ok.2.1, fun j hj => ?_⟩
  rw [tkBs_at hj]
  exact ok.2.2.1 j hj
theorem prt_R {m : Nat} {N : Nat → Nd} {x : Mo} (hN : NdOk m N) (o : MoOk m N x) : (prt N (moR x)).length ≤ 700 ∧ ∀ z ∈ yl N (moR x), bytY (N z) := by
  obtain ⟨a, -, b⟩ := prt_in hN o (c := moR x) (by
    rw [po_eq hN o.2.2.2.1.1]
    exact List.mem_cons_self ..)
  exact ⟨by omega, b⟩
/-- a moment in the class -/
def MoX (I : zI) (k : Nat) (x : Mo) : Prop :=
  I.1 k 1 = zi (moT x).length ∧ (∀ j, j < (moT x).length → I.1 (k + 2) j = txF (moT x) j) ∧ RepT I (k + 3) (txF (moT x)) (lexL (moT x)) ∧ I.1 k 3 = b01 (moB x) ∧
  I.1 k 6 = zi (lexL (moG x)).length ∧ (∀ j, j < (lexL (moG x)).length → I.1 (k + 15) j = zi (moO x j)) ∧ (∀ (j : Nat) (y : Nat × Nat × Nat), (lexL (moG x))[j]? = some y → I.1 (k + 17) j = zi y.2.1) ∧ I.1 k 7 = zi (moR x) ∧ I.1 k 8 = moW x
/-- in the model's rows of states -/
def MoM (I : zI) (s : Nat) (x : Mo) : Prop :=
  (∀ j, j < (moT x).length → I.1 542 (720 * s + j) = txF (moT x) j) ∧ (∀ j, j < (moG x).length → I.1 542 (720 * s + 300 + j) = txF (moG x) j) ∧ (∀ j, j < (lexL (moG x)).length → I.1 542 (720 * s + 600 + j) = zi (moO x j)) ∧
  I.1 542 (720 * s + 710) = zi (moT x).length ∧ I.1 542 (720 * s + 711) = zi (moG x).length ∧ I.1 542 (720 * s + 712) = b01 (moB x) ∧ I.1 542 (720 * s + 713) = zi (moR x)
/-- as it is now, in the model -/
def NowM (I : zI) (x : Mo) : Prop :=
  I.1 491 5 = zi (moT x).length ∧ (∀ j, j < (moT x).length → I.1 494 j = txF (moT x) j) ∧ I.1 491 15 = zi (lexL (moT x)).length ∧
  (∀ (j : Nat) (y : Nat × Nat × Nat), (lexL (moT x))[j]? = some y → I.1 501 j = zi y.1 ∧ I.1 502 j = zi y.2.1 ∧ I.1 503 j = zi y.2.2) ∧
  I.1 491 7 = zi (moG x).length ∧ (∀ j, j < (moG x).length → I.1 495 j = txF (moG x) j) ∧ OldU I (txF (moG x)) (lexL (moG x)) ∧ (∀ j, j < (lexL (moG x)).length → I.1 508 j = zi (moO x j)) ∧ I.1 491 8 = b01 (moB x) ∧ I.1 491 37 = zi (moR x)
/-- tape; nodes; PAIRS; EDITS; what was, now, what was undone -/
abbrev Sg : Type := List Int32 × (Nat × (Nat → Nd)) × List (Nat × Nat) × Nat × List Mo × Mo × List Mo
def sgT (x : Sg) : List Int32 := x.1
def sgM (x : Sg) : Nat := x.2.1.1
def sgN (x : Sg) : Nat → Nd := x.2.1.2
def sgP (x : Sg) : List (Nat × Nat) := x.2.2.1
def sgE (x : Sg) : Nat := x.2.2.2.1
def sgA (x : Sg) : List Mo := x.2.2.2.2.1
def sgC (x : Sg) : Mo := x.2.2.2.2.2.1
def sgZ (x : Sg) : List Mo := x.2.2.2.2.2.2
/-- what holds of it -/
def Iv (x : Sg) : Prop :=
  ((sgT x).length ≤ 200 ∧ ∀ b ∈ sgT x, byt b) ∧ NdOk (sgM x) (sgN x) ∧ UqE (sgM x) (sgN x) ∧ sgM x ≤ 3250 ∧ (∀ c, c < sgM x → ndT (sgN x c) ≤ 100) ∧
  (PrU (sgP x) ∧ (sgP x).length ≤ 3999) ∧ sgE x ≤ 100000 ∧ MoOk (sgM x) (sgN x) (sgC x) ∧ (∀ y ∈ sgA x, MoOk (sgM x) (sgN x) y) ∧ (∀ y ∈ sgZ x, MoOk (sgM x) (sgN x) y) ∧ (sgA x).length + (sgZ x).length ≤ 20
/-- the class holds it: its slot is s -/
def RX (I : zI) (x : Sg) : Prop :=
  TapX I (sgT x) ∧ RepNX I (sgM x) (sgN x) ∧ ViX I (sgN x) (moR (sgC x)) ∧ PrX I (sgP x) ∧ I.1 0 7 = zi (sgE x) ∧ I.1 0 5 = zi (sgA x).length ∧ I.1 0 6 = zi (sgZ x).length ∧
  ∃ s, s < 21 ∧ I.1 0 4 = zi s ∧ MoX I (zmom s) (sgC x) ∧ (∀ (k : Nat) (y : Mo), (sgA x)[k]? = some y → MoX I (zmom ((s + 20 - k) % 21)) y) ∧ ∀ (k : Nat) (y : Mo), (sgZ x)[k]? = some y → MoX I (zmom ((s + 1 + k) % 21)) y
/-- the model holds it -/
def RM (I : zI) (x : Sg) : Prop :=
  TapM I (sgT x) ∧ RepNM I (sgM x) (sgN x) ∧ ViM I (sgN x) (moR (sgC x)) (lexL (moG (sgC x))).length ∧ PrM I (sgP x) ∧ I.1 491 36 = zi (sgE x) ∧ I.1 491 75 = zi (sgA x).length ∧ I.1 491 76 = zi ((sgA x).length + (sgZ x).length) ∧
  NowM I (sgC x) ∧ MoM I (sgA x).length (sgC x) ∧ (∀ (k : Nat) (y : Mo), (sgA x)[k]? = some y → MoM I ((sgA x).length - 1 - k) y) ∧ ∀ (k : Nat) (y : Mo), (sgZ x)[k]? = some y → MoM I ((sgA x).length + 1 + k) y
/-! ===== what a change makes of it ===== -/
/-- a node's numbers of TOKENS stay small as a TREE grows -/
theorem grown_tk {F : List Fl} {A B n n' e m0 m1 R : Nat} {g kd og : Nat → Nat} {N0 : Nat → Nd} (h0 : NdOk m0 N0) (t0 : TreeI m0 N0 R n' og) (hF : F = flR N0 R) (hog : ∀ i, i < n → ∀ j, wasN A B n n' i = some j → g i = og j) (hnew : ∀ i, i < n → wasN A B n n' i = none → m0 ≤ g i) (h01 : m0 ≤ m1) (ge : GE F A B n n' g kd) : ∀ (x y : Gs) (k : Nat), GI F n n' g kd m1 x.1 x.2.1 x.2.2.1 x.2.2.2.1 k → (GJ m0 N0 g x.1 x.2.1 x.2.2.1 x.2.2.2.1 ∧ ∀ c, c < x.2.1 → ndT (x.2.2.1 c) ≤ 100) → gNx F A B n n' g e x.1 x.2.1 x.2.2.1 x.2.2.2.1 x.2.2.2.2 = some y → (GJ m0 N0 g y.1 y.2.1 y.2.2.1 y.2.2.2.1 ∧ ∀ c, c < y.2.1 → ndT (y.2.2.1 c) ≤ 100) := by
  intro x y k hx hp he
  subst hF
  have hJ := hp.1.nx h0 t0 hog hnew h01 ge hx he
  have hI := hx.nx ge he
  refine ⟨hJ, fun c hc => ?_⟩
  obtain ⟨e1, e2⟩ := gNx_E he
  by_cases u : c < x.2.1
  · rw [(e2 c u).2.2.1]
    exact hp.2 c u
  · -- a new node is on the stack
    have hN := hI.2.2.2.2.1
    have hin : ∃ p ∈ y.2.2.2.1.drop 1, p.1 = c := by
      obtain ⟨i, m, N, st, tk⟩ := x
      dsimp only at he u e1
      have s1 : 1 ≤ st.length := hx.2.1.1
      unfold gNx at he
      cases hb : bestOf (flR N0 R) N A B n n' i (topS st) (g i) with
      | some b =>
        rw [hb] at he
        cases he
        exact absurd hc u
      | none =>
        rw [hb] at he
        by_cases hz : ldN (topS st) (ndM (N (g i))) = 0
        · rw [if_pos hz] at he
          cases hr : rlN (topS st) with
          | none =>
            rw [hr] at he
            cases he
          | some r =>
            rw [hr] at he
            cases he
            obtain ⟨p0, q1, q2⟩ := top_at s1
            obtain ⟨f1, f2⟩ := st_fits hx.2.1.2.1 hx.2.1.2.2.1 s1 q1 q2 hr
            have f1' : lnN r < st.length := f1
            dsimp only at hc ⊢
            refine ⟨(m, ldN (byS st r) (syN r)), ?_, by show m = c; omega⟩
            unfold byT
            rw [drop1_snoc (by rw [List.length_take]; omega)]
            exact List.mem_append_right _ (List.mem_singleton.mpr rfl)
        · rw [if_neg hz] at he
          cases he
          exact absurd hc u
    obtain ⟨p, hp1, hp2⟩ := hin
    have hlen := yl_len hN c hc
    obtain ⟨L1, L2, hL⟩ := List.append_of_mem hp1
    have h1 := congrArg List.length hJ.1
    rw [hL, List.flatMap_append, List.flatMap_cons, List.length_append, List.length_append, hp2, hlen, List.length_map, List.length_range] at h1
    have := hI.1
    have := ge.1
    omega
/-- naming and growing: is it good; where it is wrong; the steps; how it ends -/
def reg (x : Sg) (d : List Int32) : (Nat × (Nat → Nat) × (Nat → Nd)) × Nat × Gs :=
  (fun nm => (nm, gRun (flR (sgN x) (moR (sgC x))) (kAhead (txF (moG (sgC x))) (lexL (moG (sgC x))) (txF d) (lexL d)) (kBehind (txF (moG (sgC x))) (lexL (moG (sgC x))) (txF d) (lexL d)) (lexL d).length (lexL (moG (sgC x))).length nm.2.1 (sgE x + 1) 2000 0 (0, nm.1, nm.2.2, [(0, 0)], 0)))
    (namF (txF d) (lexL d) (kAhead (txF (moG (sgC x))) (lexL (moG (sgC x))) (txF d) (lexL d)) (kBehind (txF (moG (sgC x))) (lexL (moG (sgC x))) (txF d) (lexL d)) (lexL (moG (sgC x))).length (moO (sgC x)) (sgE x + 1) (lexL d).length 0 (sgM x) (fun _ => 0) (sgN x))
def regY (x : Sg) (d : List Int32) : Gs := (reg x d).2.2
/-- it is good -/
def regB (x : Sg) (d : List Int32) : Prop := (regY x d).1 + 1 = (lexL d).length ∧ topS (regY x d).2.2.2.1 = 1
def regR (x : Sg) (d : List Int32) : Nat := ((regY x d).2.2.2.1.getD ((regY x d).2.2.2.1.length - 1) (0, 0)).1
/-- refused: too long, too many nodes, PAIRS, tokens -/
def refu (x : Sg) (d : List Int32) : Prop := 300 < d.length ∨ 3000 ≤ sgM x ∨ 3900 ≤ (sgP x).length ∨ 100 < (lexL d).length
def newC (x : Sg) (d : List Int32) : Mo := if (regY x d).1 + 1 = (lexL d).length ∧ topS (regY x d).2.2.2.1 = 1 then (d, d, true, regR x d, (reg x d).1.2.1, rowI (runsOf (regY x d).2.2.1 (regR x d)) (sgP x)) else (d, moG (sgC x), false, moR (sgC x), moO (sgC x), moW (sgC x))
/-- the state behind a change that is not refused; tp: the tape then -/
def chg (x : Sg) (d tp : List Int32) : Sg :=
  (tp, (if (regY x d).1 + 1 = (lexL d).length ∧ topS (regY x d).2.2.2.1 = 1 then ((regY x d).2.1, (regY x d).2.2.1) else (sgM x, sgN x)),
    (if (regY x d).1 + 1 = (lexL d).length ∧ topS (regY x d).2.2.2.1 = 1 then layAllR (runsOf (regY x d).2.2.1 (regR x d)) (sgP x) else sgP x), sgE x + 1, (sgC x :: sgA x).take 20, newC x d, [])
/-! ===== a change keeps what holds of the state ===== -/
theorem TreeI.cg {m m' R n : Nat} {N N' : Nat → Nd} {og : Nat → Nat} (h : NdOk m N) (t : TreeI m N R n og) (hm : m ≤ m') (e : ∀ k, k < m → N' k = N k) : TreeI m' N' R n og := by
  obtain ⟨t1, t2, t3, t4, t5, t6, t7, t8⟩ := t
  have hy : yl N' R = yl N R := yl_cg h (fun c hc => by rw [e c hc]; exact NdE.rf) t1
  refine ⟨by omega, by rw [e R t1]; exact t2, by rw [hy]; exact t3, t4, fun i hi => ?_, fun z hz => ?_, t7, t8⟩
  · obtain ⟨a, b⟩ := t5 i hi
    exact ⟨by omega, by rw [e _ a]; exact b⟩
  · rw [hy] at hz
    rw [e z (by have := (yl_mem h R t1 z hz).1; omega)]
    exact t6 z hz
theorem MoOk.cg {m m' : Nat} {N N' : Nat → Nd} {x : Mo} (h : NdOk m N) (o : MoOk m N x) (hm : m ≤ m') (e : ∀ k, k < m → N' k = N k) : MoOk m' N' x := by
  obtain ⟨o1, o2, o3, o4, o5⟩ := o
  refine ⟨o1, o2, o3, o4.cg h hm e, fun i y hy => ?_⟩
  have hi := (List.getElem?_eq_some_iff.mp hy).1
  rw [e _ (o4.2.2.2.2.1 i hi).1]
  exact o5 i y hy
theorem rnL_mem {N : Nat → Nd} {F : List Fl} : ∀ (d p : Nat), ∀ r ∈ rnL N F d p, ∃ x ∈ F, x.1 = r ∧ ndM (N r) = 1
  | 0, _, r, hr => by cases hr
  | d + 1, p, r, hr => by
    cases hx : F[p]? with
    | none =>
      rw [rnL_no (List.getElem?_eq_none_iff.mp hx)] at hr
      cases hr
    | some x =>
      rw [rnL_at hx] at hr
      by_cases u : ndM (N x.1) = 1
      · rw [if_pos u] at hr
        rcases List.mem_cons.mp hr with rfl | hr
        · exact ⟨x, List.mem_of_getElem? hx, rfl, u⟩
        · exact rnL_mem d _ r hr
      · rw [if_neg u] at hr
        exact rnL_mem d _ r hr
theorem runs_ok {m R n : Nat} {og : Nat → Nat} {N : Nat → Nd} (hN : NdOk m N) (hu : UqE m N) (t : TreeI m N R n og) : (∀ r ∈ runsOf N R, r < m) ∧ (runsOf N R).length ≤ 99 := by
  have fg := t.flG hN hu
  refine ⟨fun r hr => ?_, ?_⟩
  · obtain ⟨x, hx, hx1, -⟩ := rnL_mem 400 0 r hr
    obtain ⟨p, hp⟩ := List.mem_iff_getElem?.mp hx
    rw [← hx1]
    exact (fg.1.2 p x hp).1
  · have := rnL_len (F := flR N R) hN 400 0 0 [(R, 0, 1)] (fun y hy => by cases List.mem_singleton.mp hy; exact t.1) (by
      rw [List.drop_zero]
      show fl N R 0 0 0 1 = fl N R 0 0 0 1 ++ []
      rw [List.append_nil])
    rw [tkW_cons] at this
    change (runsOf N R).length ≤ ndT (N R) + 0 at this
    have h2 := t.tk hN
    have h3 := t.2.2.2.2.2.2.2
    omega
theorem layAllR_ok {rs : List Nat} {pl : List (Nat × Nat)} (hrs : ∀ r ∈ rs, r < 3400) (hu : PrU pl) : PrU (layAllR rs pl) ∧ pl.length ≤ (layAllR rs pl).length ∧ (layAllR rs pl).length ≤ pl.length + rs.length := by
  unfold layAllR
  by_cases h0 : rs.length = 0
  · rw [if_pos h0]
    exact ⟨hu, Nat.le_refl _, by omega⟩
  · rw [if_neg h0]
    obtain ⟨a1, a2, a3, a4⟩ := layR_ok hrs 9 0 rs.length pl (by omega) hu
    exact ⟨a1, a2, by omega⟩
/-- all about naming and growing, at once -/
theorem reg_ok {x : Sg} {d : List Int32} (hv : Iv x) (hd : txOk d) : ∃ (m1 : Nat) (g : Nat → Nat) (N1 : Nat → Nd) (k : Nat) (y : Gs), reg x d = ((m1, g, N1), k, y) ∧
    namF (txF d) (lexL d) (kAhead (txF (moG (sgC x))) (lexL (moG (sgC x))) (txF d) (lexL d)) (kBehind (txF (moG (sgC x))) (lexL (moG (sgC x))) (txF d) (lexL d)) (lexL (moG (sgC x))).length (moO (sgC x)) (sgE x + 1) (lexL d).length 0 (sgM x) (fun _ => 0) (sgN x) = (m1, g, N1) ∧
    gRun (flR (sgN x) (moR (sgC x))) (kAhead (txF (moG (sgC x))) (lexL (moG (sgC x))) (txF d) (lexL d)) (kBehind (txF (moG (sgC x))) (lexL (moG (sgC x))) (txF d) (lexL d)) (lexL d).length (lexL (moG (sgC x))).length g (sgE x + 1) 2000 0 (0, m1, N1, [(0, 0)], 0) = (k, y) ∧
    (GE (flR (sgN x) (moR (sgC x))) (kAhead (txF (moG (sgC x))) (lexL (moG (sgC x))) (txF d) (lexL d)) (kBehind (txF (moG (sgC x))) (lexL (moG (sgC x))) (txF d) (lexL d)) (lexL d).length (lexL (moG (sgC x))).length g (fun i => ((lexL d).getD i (10, 0, 0)).1) ∧
      GI (flR (sgN x) (moR (sgC x))) (lexL d).length (lexL (moG (sgC x))).length g (fun i => ((lexL d).getD i (10, 0, 0)).1) m1 0 m1 N1 [(0, 0)] 0 ∧
      (∀ i, i < (lexL d).length → ∀ j, wasN (kAhead (txF (moG (sgC x))) (lexL (moG (sgC x))) (txF d) (lexL d)) (kBehind (txF (moG (sgC x))) (lexL (moG (sgC x))) (txF d) (lexL d)) (lexL d).length (lexL (moG (sgC x))).length i = some j → g i = moO (sgC x) j) ∧ sgM x ≤ m1 ∧ m1 ≤ sgM x + 100) ∧
    ((∀ k, k < sgM x → y.2.2.1 k = sgN x k) ∧ m1 ≤ y.2.1 ∧ y.2.1 ≤ m1 + 149 ∧ NdOk y.2.1 y.2.2.1 ∧ UqE y.2.1 y.2.2.1 ∧ TkI y.2.2.1 (txF d) (lexL d) g ∧ (∀ c, c < y.2.1 → ndT (y.2.2.1 c) ≤ 100) ∧
      (y.1 + 1 = (lexL d).length → topS y.2.2.2.1 = 1 → ∃ b : Nat × Nat, y.2.2.2.1 = [b, (regR x d, 1)] ∧ TreeI y.2.1 y.2.2.1 (regR x d) (lexL d).length g)) := by
  obtain ⟨-, hN, hu, hm, hT, -, -, hC, -⟩ := hv
  obtain ⟨c1, c2, c3, c4, c5⟩ := hC
  have hl := lex_lxo hd
  have hl' := lex_lxo c2
  rcases hn : namF (txF d) (lexL d) (kAhead (txF (moG (sgC x))) (lexL (moG (sgC x))) (txF d) (lexL d)) (kBehind (txF (moG (sgC x))) (lexL (moG (sgC x))) (txF d) (lexL d)) (lexL (moG (sgC x))).length (moO (sgC x)) (sgE x + 1) (lexL d).length 0 (sgM x) (fun _ => 0) (sgN x) with ⟨m1, g, N1⟩
  rcases hr : gRun (flR (sgN x) (moR (sgC x))) (kAhead (txF (moG (sgC x))) (lexL (moG (sgC x))) (txF d) (lexL d)) (kBehind (txF (moG (sgC x))) (lexL (moG (sgC x))) (txF d) (lexL d)) (lexL d).length (lexL (moG (sgC x))).length g (sgE x + 1) 2000 0 (0, m1, N1, [(0, 0)], 0) with ⟨k, y⟩
  obtain ⟨ge, gi, gj, hog, hnew, hm0, hm1, htk, hinj⟩ := naming_ok hN hu c4 c5 hl hl' hn
  obtain ⟨q1, q2, q3, q4, q5, q6, q7⟩ := grown_ok hN hu c4 c5 hl hl' hn hr
  have hreg : reg x d = ((m1, g, N1), k, y) := by
    unfold reg
    dsimp only
    rw [hn]
    dsimp only
    rw [hr]
  have hk100 := hl.2.2.1
  refine ⟨m1, g, N1, k, y, hreg, rfl, hr, ⟨ge, gi, hog, hm0, by omega⟩, q1, q2, q3, q4, q5, q6, ?_, ?_⟩
  · have := gRun_inv (e := sgE x + 1) ge (P := fun z => GJ (sgM x) (sgN x) g z.1 z.2.1 z.2.2.1 z.2.2.2.1 ∧ ∀ c, c < z.2.1 → ndT (z.2.2.1 c) ≤ 100) (grown_tk hN c4 rfl hog hnew hm0 ge) 2000 0 (0, m1, N1, [(0, 0)], 0) gi ⟨gj, fun c hc => ?_⟩
    · rw [hr] at this
      exact this.2
    · dsimp only at hc ⊢
      by_cases u : c < sgM x
      · rw [gj.2.2.2.2.2 c u]
        exact hT c u
      · obtain ⟨-, -, -, -, -, a6, -⟩ := namF_ok _ _ _ _ _ _ _ _ hn
        obtain ⟨i', -, -, b3⟩ := a6 c (by omega) hc
        rw [b3]
        exact (by decide : 1 ≤ 100)
  · intro h1 h2
    obtain ⟨b, R', e1, e2⟩ := q7 h1 h2
    have hRR : regR x d = R' := by
      unfold regR regY
      rw [hreg]
      dsimp only
      rw [e1]
      rfl
    rw [hRR]
    exact ⟨b, e1, e2⟩
theorem chg_ok {x : Sg} {d tp : List Int32} (hv : Iv x) (hd : txOk d) (hr : ¬ refu x d) (htp : tp.length ≤ 200 ∧ ∀ b ∈ tp, byt b) (he : sgE x < 100000) : Iv (chg x d tp) := by
  obtain ⟨m1, g, N1, k, y, hreg, hn, hrun, ⟨ge, gi, hog, hm0, hm1⟩, q1, q2, q3, q4, q5, q6, q7, q8⟩ := reg_ok hv hd
  obtain ⟨-, hN, hu, hm, hT, ⟨hP1, hP2⟩, -, hC, hA, hZ, hAZ⟩ := hv
  have hY : regY x d = y := by
    unfold regY
    rw [hreg]
  unfold refu at hr
  have hA2 : ∀ z ∈ (sgC x :: sgA x).take 20, MoOk (sgM x) (sgN x) z := fun z hz => by
    rcases List.mem_cons.mp (List.mem_of_mem_take hz) with rfl | hz
    · exact hC
    · exact hA z hz
  have hlen : ((sgC x :: sgA x).take 20).length + ([] : List Mo).length ≤ 20 := by
    rw [List.length_take]
    show min 20 _ + 0 ≤ 20
    omega
  unfold Iv chg newC
  rw [hY]
  by_cases hg : y.1 + 1 = (lexL d).length ∧ topS y.2.2.2.1 = 1
  · rw [if_pos hg, if_pos hg, if_pos hg]
    obtain ⟨b, e1, e2⟩ := q8 hg.1 hg.2
    obtain ⟨r1, r2⟩ := runs_ok q4 q5 e2
    obtain ⟨l1, l2, l3⟩ := layAllR_ok (pl := sgP x) (rs := runsOf y.2.2.1 (regR x d)) (fun r hr => by have := r1 r hr; omega) hP1
    refine ⟨htp, q4, q5, (show y.2.1 ≤ 3250 by omega), q7, ⟨l1, (show (layAllR (runsOf y.2.2.1 (regR x d)) (sgP x)).length ≤ 3999 by omega)⟩, (show sgE x + 1 ≤ 100000 by omega), ⟨hd, hd, fun _ => rfl, ?_, ?_⟩, fun z hz => (hA2 z hz).cg hN (by show sgM x ≤ y.2.1; omega) q1, fun z hz => (by cases hz), hlen⟩
    · show TreeI y.2.1 y.2.2.1 (regR x d) (lexL d).length (reg x d).1.2.1
      rw [hreg]
      exact e2
    · show TkI y.2.2.1 (txF d) (lexL d) (reg x d).1.2.1
      rw [hreg]
      exact q6
  · rw [if_neg hg, if_neg hg, if_neg hg]
    exact ⟨htp, hN, hu, hm, hT, ⟨hP1, hP2⟩, (show sgE x + 1 ≤ 100000 by omega), ⟨hd, hC.2.1, (fun u => by cases u), hC.2.2.2.1, hC.2.2.2.2⟩, hA2, fun z hz => (by cases hz), hlen⟩
