/-! ===== the class reads a text ===== -/
theorem zu_oo {I : zI} {a i b j : Nat} {v : Int32} (h : b ≠ a) : (zu I a i v).1 b j = I.1 b j := by rw [zu_o h]
/-- the Tokens at k hold these ones of a text -/
def RepT (I : zI) (k : Nat) (t : Nat → Int32) (l : List (Nat × Nat × Nat)) : Prop :=
  I.1 k 5 = zi l.length ∧ ∀ j x, l[j]? = some x → I.1 (k + 2) j = zi x.1 ∧ I.1 (k + 4) j = zi x.2.1 ∧ I.1 (k + 6) j = zi x.2.2 ∧ I.1 (k + 8) j = hdT t x.2.1 x.2.2 ∧ I.1 (k + 10) j = tlT t x.2.1 x.2.2
theorem s_append {k a an kd s w : Nat} {t : Nat → Int32} {l : List (Nat × Nat × Nat)} {I : zI} {K : zI → Prop} (hl : l.length < 100) (rep : RepT I k t l) (hw : w ≤ 8) (han : an < 2147483648) (hs : s + w ≤ an) (ht : ∀ j, j < w → I.1 (a + 1) (s + j) = t (s + j)) (hak : a + 1 < k)
    (hK : ∀ J, eqX k (k + 11) I J → RepT J k t (l ++ [(kd, s, w)]) → K J) : w_Tokens_append k a an (zi kd) (zi s) (zi w) I K := by
  obtain ⟨hm, hr⟩ := rep
  have h1 : ∀ (J : zI) (b : Nat) (v : Int32), J.1 k 5 = zi l.length → rs J b 100 (J.1 k 5) v = zu J b l.length v := fun J b v h => by
    rw [h]
    exact rs_in (by decide) hl
  unfold w_Tokens_append
  refine (w_set (by decide)).mpr ?_
  rw [h1 I _ _ hm]
  generalize e1 : zu I (k + 1 + 1) l.length (zi kd) = J1
  have m1 : J1.1 k 5 = zi l.length := by rw [← e1, zu_oo (by omega)]; exact hm
  refine (w_set (by decide)).mpr ?_
  rw [h1 J1 _ _ m1]
  generalize e2 : zu J1 (k + 3 + 1) l.length (zi s) = J2
  have m2 : J2.1 k 5 = zi l.length := by rw [← e2, zu_oo (by omega)]; exact m1
  refine (w_set (by decide)).mpr ?_
  rw [h1 J2 _ _ m2]
  generalize e3 : zu J2 (k + 5 + 1) l.length (zi w) = J3
  have m3 : J3.1 k 5 = zi l.length := by rw [← e3, zu_oo (by omega)]; exact m2
  have t3 : ∀ j, J3.1 (a + 1) j = I.1 (a + 1) j := fun j => by rw [← e3, ← e2, ← e1, zu_oo (by omega), zu_oo (by omega), zu_oo (by omega)]
  have e4 : (if zi w < 4 then zi w else 4) = zi (min 4 w) := by
    rw [show (4 : Int32) = zi 4 from rfl]
    by_cases q : w < 4
    · rw [if_pos ((zi_lt (by omega) (by decide)).mpr q), show min 4 w = w by omega]
    · rw [if_neg (fun r => q ((zi_lt (by omega) (by decide)).mp r)), show min 4 w = 4 by omega]
  rw [e4]
  refine s_pack (t := t) han (by omega) (fun j hj => by rw [t3]; exact ht j (by omega)) ?_
  refine (w_set (by decide)).mpr ?_
  rw [h1 J3 _ _ m3]
  generalize e5 : zu J3 (k + 7 + 1) l.length (pkR t s (min 4 w)) = J4
  have m4 : J4.1 k 5 = zi l.length := by rw [← e5, zu_oo (by omega)]; exact m3
  have t4 : ∀ j, J4.1 (a + 1) j = I.1 (a + 1) j := fun j => by rw [← e5, zu_oo (by omega)]; exact t3 j
  have fin : (fun r_6 => w_Row_set (k + 9) 100 (J4.1 k 5) r_6 J4 (fun I_7 => ∀ I_8, I_8 = (zu I_7 k 5 ((I_7.1 k 5) + 1)) → K I_8)) (tlT t s w) := by
    refine (w_set (by decide)).mpr ?_
    rw [h1 J4 _ _ m4]
    generalize e6 : zu J4 (k + 9 + 1) l.length (tlT t s w) = J5
    have m5 : J5.1 k 5 = zi l.length := by rw [← e6, zu_oo (by omega)]; exact m4
    intro J6 e7
    rw [m5, zi_succ] at e7
    subst e7
    have f1 : eqX k (k + 11) I J1 := by rw [← e1]; exact eqX.rf.zu (by omega) (by omega)
    have f2 : eqX k (k + 11) I J2 := by rw [← e2]; exact f1.zu (by omega) (by omega)
    have f3 : eqX k (k + 11) I J3 := by rw [← e3]; exact f2.zu (by omega) (by omega)
    have f4 : eqX k (k + 11) I J4 := by rw [← e5]; exact f3.zu (by omega) (by omega)
    have f5 : eqX k (k + 11) I J5 := by rw [← e6]; exact f4.zu (by omega) (by omega)
    refine hK _ (f5.zu (by omega) (by omega)) ⟨?_, fun j x hx => ?_⟩
    · rw [zu_self, List.length_append]
      rfl
    · have c2 : ∀ j, (zu J5 k 5 (zi (l.length + 1))).1 (k + 2) j = if j = l.length then zi kd else I.1 (k + 2) j := fun j => by
        rw [zu_oo (by omega), ← e6, zu_oo (by omega), ← e5, zu_oo (by omega), ← e3, zu_oo (by omega), ← e2, zu_oo (by omega), ← e1, zu_at]
        simp
      have c4 : ∀ j, (zu J5 k 5 (zi (l.length + 1))).1 (k + 4) j = if j = l.length then zi s else I.1 (k + 4) j := fun j => by
        rw [zu_oo (by omega), ← e6, zu_oo (by omega), ← e5, zu_oo (by omega), ← e3, zu_oo (by omega), ← e2, zu_at, ← e1, zu_oo (by omega)]
        simp
      have c6 : ∀ j, (zu J5 k 5 (zi (l.length + 1))).1 (k + 6) j = if j = l.length then zi w else I.1 (k + 6) j := fun j => by
        rw [zu_oo (by omega), ← e6, zu_oo (by omega), ← e5, zu_oo (by omega), ← e3, zu_at, ← e2, zu_oo (by omega), ← e1, zu_oo (by omega)]
        simp
      have c8 : ∀ j, (zu J5 k 5 (zi (l.length + 1))).1 (k + 8) j = if j = l.length then hdT t s w else I.1 (k + 8) j := fun j => by
        rw [zu_oo (by omega), ← e6, zu_oo (by omega), ← e5, zu_at, ← e3, zu_oo (by omega), ← e2, zu_oo (by omega), ← e1, zu_oo (by omega)]
        simp [hdT]
      have c10 : ∀ j, (zu J5 k 5 (zi (l.length + 1))).1 (k + 10) j = if j = l.length then tlT t s w else I.1 (k + 10) j := fun j => by
        rw [zu_oo (by omega), ← e6, zu_at, ← e5, zu_oo (by omega), ← e3, zu_oo (by omega), ← e2, zu_oo (by omega), ← e1, zu_oo (by omega)]
        simp
      rw [c2, c4, c6, c8, c10]
      by_cases hj : j < l.length
      · rw [List.getElem?_append_left hj] at hx
        have hn : ¬ j = l.length := by omega
        rw [if_neg hn, if_neg hn, if_neg hn, if_neg hn, if_neg hn]
        exact hr j x hx
      · have hj2 : j = l.length := by
          have := (List.getElem?_eq_some_iff.mp hx).1
          rw [List.length_append] at this
          simp at this
          omega
        subst hj2
        rw [List.getElem?_append_right (Nat.le_refl _), Nat.sub_self] at hx
        cases hx
        simp
  by_cases hw4 : w < 4
  · have e8 : tlT t s w = 0 := by
      unfold tlT
      rw [show min 4 (w - 4) = 0 by omega]
      rfl
    rw [e8] at fin
    refine s_pack_neg ?_ fin
    rcases (by omega : w = 0 ∨ w = 1 ∨ w = 2 ∨ w = 3) with rfl | rfl | rfl | rfl <;> decide
  · have e9 : (if zi w - 4 < 4 then zi w - 4 else 4) = zi (min 4 (w - 4)) := by
      rw [show (4 : Int32) = zi 4 from rfl, zi_sub (by omega)]
      by_cases q : w - 4 < 4
      · rw [if_pos ((zi_lt (by omega) (by decide)).mpr q), show min 4 (w - 4) = w - 4 by omega]
      · rw [if_neg (fun r => q ((zi_lt (by omega) (by decide)).mp r)), show min 4 (w - 4) = 4 by omega]
    rw [e9, show zi s + 4 = zi (s + 4) from zi_add s 4]
    exact s_pack (t := t) han (by omega) (fun j hj => by
      rw [t4, show s + 4 + j = s + (4 + j) by omega]
      exact ht (4 + j) (by omega)) fin
theorem s_readOne {k a an n i : Nat} {t : Nat → Int32} {l : List (Nat × Nat × Nat)} {I : zI} {K : Int32 → zI → Prop} (hl : l.length < 100) (rep : RepT I k t l) (han : an < 2147483648) (hn : n ≤ an) (hi : i < n) (ht : ∀ j, j < n → I.1 (a + 1) j = t j) (hak : a + 1 < k)
    (hK : ∀ J, eqX k (k + 11) I J → RepT J k t (l ++ [((tkP t n i).1, i, (tkP t n i).2)]) → K (zi (tkP t n i).2) J) : w_Tokens_readOne k a an (zi n) (zi i) I K := by
  have hp := tkP_pos (t := t) hi
  unfold w_Tokens_readOne
  rw [w_get han, rg_in han (by omega), ht i hi, w_xS, w_xL]
  intro P107 h107
  have fin : P107 (zi (tkP t n i).1) (zi (tkP t n i).2) := h107 _ _ (s_append hl rep hp.2.2 han (by omega) (fun j hj => ht _ (by omega)) hak hK)
  intro P33 h33
  cases hL : isL (t i) with
  | true =>
    rw [if_neg (by decide)]
    refine h33 ?_
    rw [w_xL]
    intro P47 h47
    rw [hL, if_neg (by decide)]
    refine h47 _ ?_
    rw [show (8 : Int32) + 1 = zi 9 from rfl]
    refine s_runFrom (t := t) (p := isL) han hn hi (by decide) (by decide) ht (by rw [hL]; rfl) hL ?_
    rw [w_xL]
    intro P74 h74
    rw [hL, if_neg (by decide)]
    have hr := runN_le isL t (n - i) i
    refine h74 _ ?_
    by_cases h8 : 8 < runN isL t (n - i) i
    · have e : tkP t n i = (11, 1) := by unfold tkP; rw [if_pos hL, if_pos h8]
      rw [e] at fin
      have hc : ¬ zi (min 9 (runN isL t (n - i) i)) ≤ 8 := by
        rw [show (8 : Int32) = zi 8 from rfl, zi_le (by omega) (by decide)]
        omega
      intro P90 h90
      rw [if_neg hc]
      refine h90 _ ?_
      intro P105 h105
      rw [if_neg hc]
      exact h105 _ fin
    · have e : tkP t n i = (0, runN isL t (n - i) i) := by unfold tkP; rw [if_pos hL, if_neg h8]
      rw [e] at fin
      have hm : min 9 (runN isL t (n - i) i) = runN isL t (n - i) i := by omega
      rw [hm]
      have hc : zi (runN isL t (n - i) i) ≤ 8 := by
        rw [show (8 : Int32) = zi 8 from rfl, zi_le (by omega) (by decide)]
        omega
      intro P90 h90
      rw [if_pos hc]
      refine h90 _ ?_
      intro P105 h105
      rw [if_pos hc]
      exact h105 _ fin
  | false =>
    rw [if_pos (by decide), w_xD]
    cases hD : isD (t i) with
    | true =>
      rw [if_neg (by decide)]
      refine h33 ?_
      rw [w_xL]
      intro P47 h47
      rw [hL, if_pos (by decide)]
      refine h47 _ ?_
      rw [show (4 : Int32) + 1 = zi 5 from rfl]
      refine s_runFrom (t := t) (p := isD) han hn hi (by decide) (by decide) ht (by rw [hL]; rfl) hD ?_
      rw [w_xL]
      intro P74 h74
      rw [hL, if_pos (by decide)]
      have hr := runN_le isD t (n - i) i
      refine h74 _ ?_
      by_cases h4 : 4 < runN isD t (n - i) i
      · have e : tkP t n i = (11, 1) := by unfold tkP; rw [if_neg (by rw [hL]; decide), if_pos hD, if_pos h4]
        rw [e] at fin
        have hc : ¬ zi (min 5 (runN isD t (n - i) i)) ≤ 4 := by
          rw [show (4 : Int32) = zi 4 from rfl, zi_le (by omega) (by decide)]
          omega
        intro P90 h90
        rw [if_neg hc]
        refine h90 _ ?_
        intro P105 h105
        rw [if_neg hc]
        exact h105 _ fin
      · have e : tkP t n i = (1, runN isD t (n - i) i) := by unfold tkP; rw [if_neg (by rw [hL]; decide), if_pos hD, if_neg h4]
        rw [e] at fin
        have hm : min 5 (runN isD t (n - i) i) = runN isD t (n - i) i := by omega
        rw [hm]
        have hc : zi (runN isD t (n - i) i) ≤ 4 := by
          rw [show (4 : Int32) = zi 4 from rfl, zi_le (by omega) (by decide)]
          omega
        intro P90 h90
        rw [if_pos hc]
        refine h90 _ ?_
        intro P105 h105
        rw [if_pos hc]
        exact h105 _ fin
    | false =>
      rw [if_pos (by decide)]
      have e : tkP t n i = (sgn (t i), 1) := by unfold tkP; rw [if_neg (by rw [hL]; decide), if_neg (by rw [hD]; decide)]
      rw [e] at fin
      exact fin
theorem RepT.kept {I J : zI} {k : Nat} {t : Nat → Int32} {l : List (Nat × Nat × Nat)} (h : RepT I k t l) (e : ∀ b, k ≤ b → b < k + 11 → J.1 b = I.1 b) : RepT J k t l := by
  refine ⟨by rw [e k (by omega) (by omega)]; exact h.1, fun j x hx => ?_⟩
  rw [e (k + 2) (by omega) (by omega), e (k + 4) (by omega) (by omega), e (k + 6) (by omega) (by omega), e (k + 8) (by omega) (by omega), e (k + 10) (by omega) (by omega)]
  exact h.2 j x hx
theorem s_readAll {k a an n : Nat} {t : Nat → Int32} {I : zI} {K : Int32 → zI → Prop} (han : an < 2147483648) (hn : n ≤ an) (ht : ∀ j, j < n → I.1 (a + 1) j = t j) (hak : a + 1 < k)
    (h1 : (lexF t n n 0).length < 100 → ∀ J, eqX k (k + 11) I J → RepT J k t (lex t n) → K 1 J) (h0 : 100 ≤ (lexF t n n 0).length → ∀ J, eqX k (k + 11) I J → K 0 J) : w_Tokens_readAll k a an (zi n) I K := by
  unfold w_Tokens_readAll
  intro I1 e1
  intro P hP
  have key : ∀ d i : Nat, n - i = d → i ≤ n → ∀ (l : List (Nat × Nat × Nat)) (J : zI), l.length < 100 → eqX k (k + 11) I J → RepT J k t l → lexF t n n 0 = l ++ lexF t n (n - i) i → P (zi i) J := by
    intro d
    induction d using Nat.strongRecOn with
    | _ d ih =>
      intro i hd hin l J hl e rep hx
      refine hP _ _ ?_
      have htJ : ∀ j, j < n → J.1 (a + 1) j = t j := fun j hj => by rw [(e (a + 1) (Or.inl hak)).1]; exact ht j hj
      by_cases hi : n ≤ i
      · rw [if_pos (by rw [zi_le (by omega) (by omega)]; exact hi)]
        have hx2 : lexF t n n 0 = l := by rw [hx, lexF_end hi, List.append_nil]
        have := @s_append k a an 10 n 0 t l J (fun I_4 => K 1 I_4) hl rep (by decide) han (by omega) (fun j hj => by omega) hak (fun J2 e2 rep2 => h1 (by rw [hx2]; exact hl) J2 (e.tr e2) (by unfold lex; rw [hx2]; exact rep2))
        exact this
      · rw [if_neg (by rw [zi_le (by omega) (by omega)]; exact hi), w_get han, rg_in han (by omega), htJ i (by omega), w_xB]
        intro P34 h34
        rw [lexF_step (by omega)] at hx
        cases hB : isB (t i) with
        | true =>
          rw [hB, if_pos rfl] at hx
          rw [if_neg (by decide)]
          refine h34 _ _ ?_
          intro v ev
          subst ev
          rw [rep.1, if_pos (show zi l.length < 100 from (zi_lt (by omega) (by decide)).mpr hl), show zi i + (if (1 : Int32) < 1 then 1 else 1) = zi (i + 1) from by rw [if_neg (by decide)]; exact zi_succ i]
          exact ih (n - (i + 1)) (by omega) (i + 1) rfl (by omega) l J hl e rep hx
        | false =>
          rw [hB, if_neg (by decide)] at hx
          rw [if_pos (by decide)]
          have hp := tkP_pos (t := t) (n := n) (i := i) (by omega)
          refine s_readOne hl rep han hn (by omega) htJ hak (fun J2 e2 rep2 => ?_)
          refine h34 _ _ ?_
          intro v ev
          subst ev
          have ew : (if 1 < zi (tkP t n i).2 then zi (tkP t n i).2 else 1) = zi (tkP t n i).2 := by
            by_cases q : 1 < (tkP t n i).2
            · rw [if_pos (show 1 < zi _ from (zi_lt (by decide) (by omega)).mpr q)]
            · rw [if_neg (show ¬ 1 < zi _ from fun r => q ((zi_lt (by decide) (by omega)).mp r)), show (tkP t n i).2 = 1 by omega]
              rfl
          rw [ew, zi_add, rep2.1]
          have hx2 : lexF t n n 0 = (l ++ [((tkP t n i).1, i, (tkP t n i).2)]) ++ lexF t n (n - (i + (tkP t n i).2)) (i + (tkP t n i).2) := by rw [hx, List.append_assoc]; rfl
          by_cases hl2 : (l ++ [((tkP t n i).1, i, (tkP t n i).2)]).length < 100
          · rw [if_pos (show zi _ < 100 from (zi_lt (by omega) (by decide)).mpr hl2)]
            exact ih (n - (i + (tkP t n i).2)) (by omega) (i + (tkP t n i).2) rfl (by omega) _ J2 hl2 (e.tr e2) rep2 hx2
          · rw [if_neg (show ¬ zi _ < 100 from fun r => hl2 ((zi_lt (by simp; omega) (by decide)).mp r))]
            exact h0 (by rw [hx2, List.length_append]; omega) J2 (e.tr e2)
  subst e1
  refine key n 0 (by omega) (by omega) [] _ (by decide) (eqX.rf.zu (by omega) (by omega)) ⟨zu_self, fun j x hx => by cases hx⟩ ?_
  rw [List.nil_append]
  exact (lexF_more t n n (n - 0) 0 (by omega) (by omega)).symm
