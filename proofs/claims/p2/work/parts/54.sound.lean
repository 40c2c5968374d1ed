/-! ===== which nodes of the last good TEXT are sound ===== -/
/-- first token f, k TOKENS; A kept ahead, B behind, of n' old ones and n new ones -/
abbrev sndP (A B n' n f k : Nat) : Prop := f + k < A ∨ n' - B ≤ f ∨ (A + B = n' ∧ n' = n)
def sndI (A B n' n f k : Nat) : Int32 := if sndP A B n' n f k then 1 else 0
theorem s_isSound {A B n' n f k : Nat} {I : zI} {K : Int32 → Prop} (h5 : I.1 64 5 = zi n') (h6 : I.1 64 6 = zi n) (h7 : I.1 64 7 = zi A) (h8 : I.1 64 8 = zi B) (hB : B ≤ n') (hA : A ≤ 1000) (hn : n ≤ 1000) (hn' : n' ≤ 1000) (hf : f ≤ 1000) (hk : k ≤ 1000)
    (hK : K (sndI A B n' n f k)) : w_Grower_isSound (zi f) (zi k) I K := by
  unfold w_Grower_isSound
  rw [h5, h6, h7, h8, zi_sub hB, zi_add, zi_add]
  unfold sndI at hK
  intro P hP P1 hP1
  have a0 : sndP A B n' n f k = (f + k < A ∨ n' - B ≤ f ∨ (A + B = n' ∧ n' = n)) := rfl
  have no : ¬ (A + B = n' ∧ n' = n) → P1 := fun u => by
    refine hP1 (hP _ ?_)
    by_cases c1 : f + k < A
    · rw [if_pos ((zi_lt (by omega) (by omega)).mpr c1)]
      rw [if_pos (Or.inl c1)] at hK
      exact hK
    · rw [if_neg (fun v => c1 ((zi_lt (by omega) (by omega)).mp v))]
      by_cases c2 : n' - B ≤ f
      · rw [if_pos ((zi_le (by omega) (by omega)).mpr c2)]
        rw [if_pos (Or.inr (Or.inl c2))] at hK
        exact hK
      · rw [if_neg (fun v => c2 ((zi_le (by omega) (by omega)).mp v)), if_pos rfl]
        rw [if_neg (by rw [a0]; omega)] at hK
        exact hK
  by_cases e1 : A + B = n'
  · rw [if_pos (show zi (A + B) = zi n' by rw [e1])]
    by_cases e2 : n' = n
    · rw [if_pos (show zi n' = zi n by rw [e2])]
      refine hP _ ?_
      rw [if_pos (Or.inr (Or.inr ⟨e1, e2⟩))] at hK
      rw [if_neg (show ¬ (1 : Int32) = 0 by decide)]
      by_cases c1 : zi (f + k) < zi A
      · rw [if_pos c1]; exact hK
      · rw [if_neg c1]
        by_cases c2 : zi (n' - B) ≤ zi f
        · rw [if_pos c2]; exact hK
        · rw [if_neg c2]; exact hK
    · rw [if_neg (fun v => e2 ((zi_eq (by omega) (by omega)).mp v))]
      exact no (by omega)
  · rw [if_neg (fun v => e1 ((zi_eq (by omega) (by omega)).mp v))]
    exact no (by omega)
theorem s_areTogether {A B n' n f k : Nat} {I : zI} {K : Int32 → Prop} (h9 : I.1 491 9 = zi n) (h19 : I.1 491 19 = zi n') (h66 : I.1 491 66 = zi A) (h67 : I.1 491 67 = zi B) (hB : B ≤ n') (hA : A ≤ 1000) (hn : n ≤ 1000) (hn' : n' ≤ 1000) (hf : f ≤ 1000) (hk : k ≤ 1000)
    (hK : K (sndI A B n' n f k)) : w_M_areTogether (zi f) (zi (f + k)) I K := by
  unfold w_M_areTogether
  rw [h9, h19, h66, h67, zi_sub hB]
  unfold sndI at hK
  have a0 : sndP A B n' n f k = (f + k < A ∨ n' - B ≤ f ∨ (A + B = n' ∧ n' = n)) := rfl
  by_cases c1 : f + k < A
  · rw [if_pos ((zi_lt (by omega) (by omega)).mpr c1)]
    rw [if_pos (Or.inl c1)] at hK
    exact hK
  rw [if_neg (fun v => c1 ((zi_lt (by omega) (by omega)).mp v))]
  by_cases c2 : f < n' - B
  · rw [if_pos ((zi_lt (by omega) (by omega)).mpr c2)]
    by_cases c3 : A ≤ f
    · rw [if_pos ((zi_le (by omega) (by omega)).mpr c3)]
      rw [if_neg (by rw [a0]; omega)] at hK
      exact hK
    rw [if_neg (fun v => c3 ((zi_le (by omega) (by omega)).mp v))]
    by_cases c4 : f + k < n' - B
    · rw [if_pos ((zi_lt (by omega) (by omega)).mpr c4)]
      rw [if_neg (by rw [a0]; omega)] at hK
      exact hK
    rw [if_neg (fun v => c4 ((zi_lt (by omega) (by omega)).mp v))]
    by_cases c5 : A = n' - B
    · rw [if_pos (show zi A = zi (n' - B) by rw [← c5])]
      by_cases c6 : n = n'
      · rw [if_pos (show zi n = zi n' by rw [c6])]
        rw [if_pos (by rw [a0]; omega)] at hK
        exact hK
      · rw [if_neg (fun v => c6 ((zi_eq (by omega) (by omega)).mp v))]
        rw [if_neg (by rw [a0]; omega)] at hK
        exact hK
    · rw [if_neg (fun v => c5 ((zi_eq (by omega) (by omega)).mp v))]
      rw [if_neg (by rw [a0]; omega)] at hK
      exact hK
  · rw [if_neg (fun v => c2 ((zi_lt (by omega) (by omega)).mp v))]
    rw [if_pos (by rw [a0]; omega)] at hK
    exact hK
