/-- the law's body, as a Prop over numbers and memory -/
theorem w_law_all {L : Nat} (hL : L ≤ 3072) (xs : Nat → Int32) : w_law L xs := by
  unfold w_law
  exact start_X (fun I1 hX hz => ⟨hz, start_M hX hz (fun J rx rm => lw_body hL ⟨rx, rm, x0_ls⟩ rfl)⟩)
