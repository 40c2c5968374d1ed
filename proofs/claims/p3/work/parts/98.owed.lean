/-- what is owed still: the law's body, as a Prop over numbers and memory -/
theorem w_law_all {L : Nat} (hL : L ≤ 3072) (xs : Nat → Int32) : w_law L xs := sorry
