/-! ===== the model reads a text: all of it ===== -/
def Qcut (a j : Nat) : Prop := (a = 491 ∧ (j = 9 ∨ j = 3)) ∨ (496 ≤ a ∧ a ≤ 499)
theorem s_cutsUp {n : Nat} {t : Nat → Int32} {I : zI} {K : zI → Prop} (hn : n < 700) (ht : ∀ j, j < n → I.1 493 j = t j)
    (hK : ∀ J, eqQ Qcut I J → J.1 491 3 = zi n → RepU J t (lex t n) → K J) : w_M_cutsUp (zi n) I K := by
  intro I1 e1 I2 e2 P hP
  have key : ∀ d i : Nat, n - i = d → i ≤ n → ∀ (l : List (Nat × Nat × Nat)) (J : zI), l.length ≤ i → eqQ Qcut I J → J.1 491 3 = zi n → RepU J t l → lexF t n n 0 = l ++ lexF t n (n - i) i → P (zi i) J := by
    intro d
    induction d using Nat.strongRecOn with
    | _ d ih =>
      intro i hd hin l J hl e hm rep hx
      refine hP _ _ ?_
      have htJ : ∀ j, j < n → J.1 493 j = t j := fun j hj => by rw [e.1 493 j (by unfold Qcut; omega)]; exact ht j hj
      by_cases hi : n ≤ i
      · rw [if_pos (by rw [zi_le (by omega) (by omega)]; exact hi)]
        have hx2 : lexF t n n 0 = l := by rw [hx, lexF_end hi, List.append_nil]
        have hin0 : ∀ {J : zI}, J.1 491 9 = zi l.length → vp_in (J.1 491 9) 710 := fun h => by rw [h]; exact (zin_iff (by omega)).mpr (by omega)
        refine ⟨hin0 rep.1, ?_⟩
        intro J1 f1
        have g1 : J1.1 491 9 = zi l.length := by rw [f1, zu_oo (by omega)]; exact rep.1
        refine ⟨hin0 g1, ?_⟩
        intro J2 f2
        have g2 : J2.1 491 9 = zi l.length := by rw [f2, zu_oo (by omega)]; exact g1
        refine ⟨hin0 g2, ?_⟩
        intro J3 f3
        have g3 : J3.1 491 9 = zi l.length := by rw [f3, zu_oo (by omega)]; exact g2
        refine ⟨hin0 g3, ?_⟩
        intro J4 f4 J5 f5
        have g4 : J4.1 491 9 = zi l.length := by rw [f4, zul_1]; exact g3
        rw [rep.1, zi_tn (by omega)] at f1
        rw [g1, zi_tn (by omega)] at f2
        rw [g2, zi_tn (by omega)] at f3
        rw [g3, zi_tn (by omega)] at f4
        rw [g4, zi_succ] at f5
        refine hK J5 ?_ ?_ ⟨?_, fun j x hx3 => ?_⟩
        · rw [f5, f4, f3, f2, f1]
          exact ((((e.zu (Or.inr ⟨by omega, by omega⟩)).zu (Or.inr ⟨by omega, by omega⟩)).zu (Or.inr ⟨by omega, by omega⟩)).zul (Or.inr ⟨by omega, by omega⟩)).zu (Or.inl ⟨rfl, Or.inl rfl⟩)
        · rw [f5, zu_at, if_neg (by omega), f4, zul_1, f3, zu_oo (by omega), f2, zu_oo (by omega), f1, zu_oo (by omega)]
          exact hm
        · rw [f5, zu_self]
          unfold lex
          rw [hx2, List.length_append]
          rfl
        · have c1 : ∀ j, J5.1 496 j = if j = l.length then 10 else J.1 496 j := fun j => by
            rw [f5, zu_oo (by omega), f4, zul_1, f3, zu_oo (by omega), f2, zu_oo (by omega), f1, zu_at]
            simp
          have c2 : ∀ j, J5.1 497 j = if j = l.length then zi n else J.1 497 j := fun j => by
            rw [f5, zu_oo (by omega), f4, zul_1, f3, zu_oo (by omega), f2, zu_at, f1, zu_oo (by omega)]
            simp
          have c3 : ∀ j, J5.1 498 j = if j = l.length then 0 else J.1 498 j := fun j => by
            rw [f5, zu_oo (by omega), f4, zul_1, f3, zu_at, f2, zu_oo (by omega), f1, zu_oo (by omega)]
            simp
          have c4 : ∀ j, J5.2 499 j = if j = l.length then 0 else J.2 499 j := fun j => by
            rw [f5, zu_2, f4, zul_at, f3, zu_2, f2, zu_2, f1, zu_2]
            simp
          unfold lex at hx3
          rw [hx2] at hx3
          rw [c1, c2, c3, c4]
          by_cases hj : j < l.length
          · rw [List.getElem?_append_left hj] at hx3
            have hne : ¬ j = l.length := by omega
            rw [if_neg hne, if_neg hne, if_neg hne, if_neg hne]
            exact rep.2 j x hx3
          · have hj2 : j = l.length := by
              have := (List.getElem?_eq_some_iff.mp hx3).1
              rw [List.length_append] at this
              simp at this
              omega
            subst hj2
            rw [List.getElem?_append_right (Nat.le_refl _), Nat.sub_self] at hx3
            cases hx3
            simp [isV]
            exact ⟨rfl, rfl⟩
      · rw [if_neg (by rw [zi_le (by omega) (by omega)]; exact hi)]
        refine ⟨(zin_iff (by omega)).mpr (by omega), ?_⟩
        intro v3 ev3
        rw [zi_tn (by omega), htJ i (by omega)] at ev3
        subst ev3
        intro P58 h58 P49 h49
        rw [lexF_step (by omega)] at hx
        have hblank : isB (t i) = true → P49 := by
          intro q
          refine h49 (h58 _ _ ?_)
          intro v ev
          rw [zi_succ] at ev
          subst ev
          rw [q, if_pos rfl] at hx
          exact ih (n - (i + 1)) (by omega) (i + 1) rfl (by omega) l J (by omega) e hm rep hx
        by_cases q1 : t i = 9
        · rw [if_pos q1]
          exact hblank (by unfold isB; simp [q1])
        rw [if_neg q1]
        by_cases q2 : t i = 10
        · rw [if_pos q2]
          exact hblank (by unfold isB; simp [q2])
        rw [if_neg q2]
        by_cases q3 : t i = 13
        · rw [if_pos q3]
          exact hblank (by unfold isB; simp [q3])
        rw [if_neg q3]
        by_cases q4 : t i = 32
        · rw [if_pos q4]
          exact hblank (by unfold isB; simp [q4])
        rw [if_neg q4]
        have hB : isB (t i) = false := by unfold isB; simp [q1, q2, q3, q4]
        rw [hB, if_neg (by decide)] at hx
        have hp := tkP_pos (t := t) (n := n) (i := i) (by omega)
        refine s_tokenAt (t := t) (l := l) (by omega) rep hm (by omega) (by omega) htJ (fun J2 e2 rep2 => ?_)
        refine h58 _ _ ?_
        intro v ev
        rw [zi_add] at ev
        subst ev
        have e3 : eqQ Qcut J J2 := e2.mono (fun a j q => by unfold Qtok at q; unfold Qcut; omega)
        refine ih (n - (i + (tkP t n i).2)) (by omega) (i + (tkP t n i).2) rfl (by omega) _ J2 (by rw [List.length_append]; simp; omega) (e.tr e3) ?_ rep2 (by rw [hx, List.append_assoc]; rfl)
        rw [e2.1 491 3 (by unfold Qtok; omega)]
        exact hm
  have f2 : eqQ Qcut I I2 := by rw [e2, e1]; exact (eqQ.rf.zu (Or.inl ⟨rfl, Or.inr rfl⟩)).zu (Or.inl ⟨rfl, Or.inl rfl⟩)
  refine key n 0 (by omega) (by omega) [] I2 (Nat.le_refl _) f2 ?_ ⟨?_, fun j x hx => by cases hx⟩ ?_
  · rw [e2, zu_at, if_neg (by omega), e1, zu_self]
  · rw [e2, zu_self]
    rfl
  · rw [List.nil_append]
    exact (lexF_more t n n (n - 0) 0 (by omega) (by omega)).symm
