/-! ===== what a text's tokens are ===== -/
theorem runN_all (p : Int32 → Bool) (t : Nat → Int32) : ∀ f i j, j < runN p t f i → p (t (i + j)) = true
  | 0, i, j, h => absurd h (by show ¬ j < 0; omega)
  | f + 1, i, j, h => by
    rw [runN] at h
    by_cases hp : p (t i) = true
    · rw [if_pos hp] at h
      cases j with
      | zero => exact hp
      | succ j =>
        have := runN_all p t f (i + 1) j (by omega)
        rwa [show i + (j + 1) = i + 1 + j by omega]
    · rw [if_neg hp] at h
      omega
theorem sgn_not (b : Int32) : ¬ sgn b = 0 ∧ ¬ sgn b = 1 ∧ ¬ sgn b = 10 := by
  unfold sgn
  repeat' (first | decide | split)
theorem tkP_ok {t : Nat → Int32} {n i : Nat} (h : i < n) (hb : ∀ j, j < n → byt (t j)) : tkOk t ((tkP t n i).1, i, (tkP t n i).2) ∧ (tkP t n i).1 ≠ 10 := by
  have hp := tkP_pos (t := t) h
  have hs := sgn_not (t i)
  have h0 : (∀ j, j < (tkP t n i).2 → byt (t (i + j))) := fun j hj => hb _ (by omega)
  have hk := tkP_kind (t := t) (n := n) (i := i)
  unfold tkOk
  refine ⟨⟨hk, hp.2.2, h0, ?_, ?_, ?_, ?_⟩, ?_⟩
  all_goals (try dsimp only)
  all_goals (clear h0 hk)
  · intro q
    refine ⟨hp.1, ?_⟩
    unfold tkP at q ⊢
    by_cases hL : isL (t i) = true
    · rw [if_pos hL] at q ⊢
      by_cases h8 : 8 < runN isL t (n - i) i
      · rw [if_pos h8] at q
        exact absurd q (by simp)
      · rw [if_neg h8]
        exact fun j hj => runN_all isL t _ _ j hj
    · rw [if_neg hL] at q
      by_cases hD : isD (t i) = true
      · rw [if_pos hD] at q
        by_cases h4 : 4 < runN isD t (n - i) i
        · rw [if_pos h4] at q
          exact absurd q (by simp)
        · rw [if_neg h4] at q
          exact absurd q (by simp)
      · rw [if_neg hD] at q
        exact absurd q hs.1
  · intro q
    refine ⟨hp.1, ?_⟩
    unfold tkP at q ⊢
    by_cases hL : isL (t i) = true
    · rw [if_pos hL] at q
      by_cases h8 : 8 < runN isL t (n - i) i
      · rw [if_pos h8] at q
        exact absurd q (by simp)
      · rw [if_neg h8] at q
        exact absurd q (by simp)
    · rw [if_neg hL] at q ⊢
      by_cases hD : isD (t i) = true
      · rw [if_pos hD] at q ⊢
        by_cases h4 : 4 < runN isD t (n - i) i
        · rw [if_pos h4] at q
          exact absurd q (by simp)
        · rw [if_neg h4]
          exact fun j hj => runN_all isD t _ _ j hj
      · rw [if_neg hD] at q
        exact absurd q hs.2.1
  · intro q
    exfalso
    unfold tkP at q
    revert q
    split
    · split <;> (intro q; exact absurd q (by simp))
    · split
      · split <;> (intro q; exact absurd q (by simp))
      · exact hs.2.2
  · intro q0 q1 q10
    unfold tkP at q0 q1 ⊢
    by_cases hL : isL (t i) = true
    · rw [if_pos hL] at q0 ⊢
      by_cases h8 : 8 < runN isL t (n - i) i
      · rw [if_pos h8]
      · rw [if_neg h8] at q0
        exact absurd rfl q0
    · rw [if_neg hL] at q1 ⊢
      by_cases hD : isD (t i) = true
      · rw [if_pos hD] at q1 ⊢
        by_cases h4 : 4 < runN isD t (n - i) i
        · rw [if_pos h4]
        · rw [if_neg h4] at q1
          exact absurd rfl q1
      · rw [if_neg hD]
  · intro q
    unfold tkP at q
    revert q
    split
    · split <;> (intro q; exact absurd q (by simp))
    · split
      · split <;> (intro q; exact absurd q (by simp))
      · exact hs.2.2
/-- each token of a text but END: it is one, no END, it begins behind the one ahead, ends in the text -/
theorem lexF_ok {t : Nat → Int32} {n : Nat} (hb : ∀ j, j < n → byt (t j)) : ∀ f i, ∀ x ∈ lexF t n f i, tkOk t x ∧ x.1 ≠ 10 ∧ i ≤ x.2.1 ∧ 1 ≤ x.2.2 ∧ x.2.1 + x.2.2 ≤ n
  | 0, i, x, hx => by cases hx
  | f + 1, i, x, hx => by
    rw [lexF] at hx
    by_cases h : n ≤ i
    · rw [if_pos h] at hx
      cases hx
    · rw [if_neg h] at hx
      have hp := tkP_pos (t := t) (n := n) (i := i) (by omega)
      by_cases hB : isB (t i) = true
      · rw [if_pos hB] at hx
        have := lexF_ok hb f (i + 1) x hx
        exact ⟨this.1, this.2.1, by omega, this.2.2.2.1, this.2.2.2.2⟩
      · rw [if_neg hB] at hx
        rcases List.mem_cons.mp hx with rfl | hx
        · have := tkP_ok (t := t) (n := n) (i := i) (by omega) hb
          exact ⟨this.1, this.2, Nat.le_refl _, hp.1, hp.2.1⟩
        · have := lexF_ok hb f _ x hx
          exact ⟨this.1, this.2.1, by omega, this.2.2.2.1, this.2.2.2.2⟩
theorem end_ok (t : Nat → Int32) (n : Nat) : tkOk t (10, n, 0) := ⟨show 10 < 12 by decide, show 0 ≤ 8 by decide, fun j hj => absurd hj (by show ¬ j < 0; omega), fun q => absurd q (show ¬ 10 = 0 by decide), fun q => absurd q (show ¬ 10 = 1 by decide), fun _ => rfl, fun _ _ q => absurd rfl q⟩
theorem lex_ok {t : Nat → Int32} {n : Nat} (hb : ∀ j, j < n → byt (t j)) : ∀ x ∈ lex t n, tkOk t x ∧ x.2.1 + x.2.2 ≤ n := by
  intro x hx
  unfold lex at hx
  rcases List.mem_append.mp hx with h | h
  · have := lexF_ok hb _ _ x h
    exact ⟨this.1, this.2.2.2.2⟩
  · rw [List.mem_singleton] at h
    subst h
    exact ⟨end_ok t n, Nat.le_refl _⟩
theorem lexF_cnt {t : Nat → Int32} {n : Nat} : ∀ f i, (lexF t n f i).length ≤ n - i
  | 0, i => Nat.zero_le _
  | f + 1, i => by
    rw [lexF]
    by_cases h : n ≤ i
    · rw [if_pos h]
      exact Nat.zero_le _
    · rw [if_neg h]
      have hp := tkP_pos (t := t) (n := n) (i := i) (by omega)
      by_cases hB : isB (t i) = true
      · rw [if_pos hB]
        have := lexF_cnt (t := t) (n := n) f (i + 1)
        omega
      · rw [if_neg hB, List.length_cons]
        have := lexF_cnt (t := t) (n := n) f (i + (tkP t n i).2)
        omega
/-- a text's tokens are told by its bytes alone -/
theorem runN_cg {p : Int32 → Bool} {t t' : Nat → Int32} : ∀ f i, (∀ j, i ≤ j → j < i + f → t j = t' j) → runN p t f i = runN p t' f i
  | 0, _, _ => rfl
  | f + 1, i, h => by
    rw [runN, runN, h i (Nat.le_refl _) (by omega), runN_cg f (i + 1) (fun j a b => h j (by omega) (by omega))]
theorem tkP_cg {t t' : Nat → Int32} {n i : Nat} (hi : i < n) (h : ∀ j, j < n → t j = t' j) : tkP t n i = tkP t' n i := by
  unfold tkP
  rw [h i hi, runN_cg (n - i) i (fun j a b => h j (by omega)), runN_cg (n - i) i (fun j a b => h j (by omega))]
theorem lexF_cg {t t' : Nat → Int32} {n : Nat} (h : ∀ j, j < n → t j = t' j) : ∀ f i, lexF t n f i = lexF t' n f i
  | 0, _ => rfl
  | f + 1, i => by
    rw [lexF, lexF]
    by_cases hi : n ≤ i
    · rw [if_pos hi, if_pos hi]
    · rw [if_neg hi, if_neg hi, h i (by omega), tkP_cg (by omega) h, lexF_cg h f, lexF_cg h f]
theorem lex_cg {t t' : Nat → Int32} {n : Nat} (h : ∀ j, j < n → t j = t' j) : lex t n = lex t' n := by
  unfold lex
  rw [lexF_cg h]
