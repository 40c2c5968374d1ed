/-! ===== STATES and RULES ===== -/
/-- where a STATE leads by a symbol (0 .. 4) or a KIND (5 ..); 0: nowhere -/
def ldN (s y : Nat) : Nat := (zst_LEADS.getD (s * 17 + y) 0).toNatClampNeg
/-- a STATE's RULE -/
def rlN (s : Nat) : Option Nat := if zst_STATE_RULE.getD s 0 < 0 then none else some (zst_STATE_RULE.getD s 0).toNatClampNeg
def syN (r : Nat) : Nat := (zst_RULE_SYMBOL.getD r 0).toNatClampNeg
def lnN (r : Nat) : Nat := (zst_RULE_LENGTH.getD r 0).toNatClampNeg
def rlI (s : Nat) : Int32 := match rlN s with
  | some r => zi r
  | none => -1
set_option maxRecDepth 100000 in
theorem ld_fin : ∀ i, i < 357 → zst_LEADS.getD i 0 = zi (zst_LEADS.getD i 0).toNatClampNeg ∧ (zst_LEADS.getD i 0).toNatClampNeg < 21 := by decide +kernel
theorem rl_fin : ∀ s, s < 21 → zst_STATE_RULE.getD s 0 = rlI s := by decide +kernel
theorem rl_lt : ∀ s, s < 21 → ∀ r, r = rlN s → (r.getD 0) < 11 := by
  intro s hs r hr
  subst hr
  revert s
  decide +kernel
theorem sy_fin : ∀ r, r < 11 → zst_RULE_SYMBOL.getD r 0 = zi (syN r) ∧ syN r < 5 := by decide +kernel
theorem ln_fin : ∀ r, r < 11 → zst_RULE_LENGTH.getD r 0 = zi (lnN r) ∧ lnN r ≤ 4 := by decide +kernel
theorem ldN_lt {s y : Nat} (hs : s < 21) (hy : y < 17) : ldN s y < 21 := (ld_fin (s * 17 + y) (by omega)).2
theorem rlN_lt {s r : Nat} (hs : s < 21) (h : rlN s = some r) : r < 11 := by
  have := rl_lt s hs _ rfl
  rw [h] at this
  exact this
set_option maxRecDepth 100000 in
theorem zst_LEADS_len : zst_LEADS.length = 357 := by decide +kernel
theorem s_leadsTo {s y : Nat} {I : zI} {K : Int32 → Prop} (hs : s < 21) (hy : y < 17) (h : K (zi (ldN s y))) : w_Desk_leadsTo (zi s) (zi y) I K := by
  unfold w_Desk_leadsTo
  rw [if_neg (zi_pos (by omega)), if_neg (show ¬ (21 : Int32) ≤ zi s from fun q => by have := (zi_le (a := 21) (by decide) (by omega)).mp q; omega), if_neg (zi_pos (by omega)), if_pos (show zi y < 17 from (zi_lt (b := 17) (by omega) (by decide)).mpr hy)]
  intro v ev
  rw [show (17 : Int32) = zi 17 from rfl, zi_mul, zi_add] at ev
  subst ev
  rw [if_neg (show ¬ (357 : Int32) ≤ zi (s * 17 + y) from fun q => by have := (zi_le (a := 357) (by decide) (by omega)).mp q; omega)]
  refine ⟨(zin_iff (by omega)).mpr (by rw [zst_LEADS_len]; omega), ?_⟩
  rw [zi_tn (by omega), (ld_fin (s * 17 + y) (by omega)).1]
  exact h
theorem s_ruleAt {s : Nat} {I : zI} {K : Int32 → Prop} (hs : s < 21) (h : K (rlI s)) : w_Desk_ruleAt (zi s) I K := by
  unfold w_Desk_ruleAt
  rw [if_neg (zi_pos (by omega)), if_neg (show ¬ (21 : Int32) ≤ zi s from fun q => by have := (zi_le (a := 21) (by decide) (by omega)).mp q; omega)]
  refine ⟨(zin_iff (by omega)).mpr (by show s < 21; omega), ?_⟩
  rw [zi_tn (by omega), rl_fin s hs]
  exact h
theorem s_symbolOf {r : Nat} {I : zI} {K : Int32 → Prop} (hr : r < 11) (h : K (zi (syN r))) : w_Desk_symbolOf (zi r) I K := by
  unfold w_Desk_symbolOf
  rw [if_neg (zi_pos (by omega)), if_neg (show ¬ (11 : Int32) ≤ zi r from fun q => by have := (zi_le (a := 11) (by decide) (by omega)).mp q; omega)]
  refine ⟨(zin_iff (by omega)).mpr (by show r < 11; omega), ?_⟩
  rw [zi_tn (by omega), (sy_fin r hr).1]
  exact h
theorem s_lengthOf {r : Nat} {I : zI} {K : Int32 → Prop} (hr : r < 11) (h : K (zi (lnN r))) : w_Desk_lengthOf (zi r) I K := by
  unfold w_Desk_lengthOf
  rw [if_neg (zi_pos (by omega)), if_neg (show ¬ (11 : Int32) ≤ zi r from fun q => by have := (zi_le (a := 11) (by decide) (by omega)).mp q; omega)]
  refine ⟨(zin_iff (by omega)).mpr (by show r < 11; omega), ?_⟩
  rw [zi_tn (by omega), (ln_fin r hr).1]
  exact h
theorem s_lengthOf_neg {r : Int32} {I : zI} {K : Int32 → Prop} (hr : r < 0) (h : K 0) : w_Desk_lengthOf r I K := by
  unfold w_Desk_lengthOf
  rw [if_pos hr]
  exact h
/-! the model's -/
def shM (a0 a1 : Int32) : Int32 :=
  if a0 = 1 then (if a1 = 0 then 3 else if a1 = 8 then 4 else if a1 = 9 then (if a0 = 6 then 13 else -1) else -1)
  else if a0 = 3 then (if a1 = 2 then 5 else -1)
  else if a0 = 5 then (if a1 = 0 then 10 else if a1 = 1 then 11 else if a1 = 6 then 12 else -1)
  else if a0 = 6 then (if a1 = 0 then 3 else if a1 = 8 then 4 else if a1 = 9 then (if a0 = 6 then 13 else -1) else -1)
  else if a0 = 7 then (if a1 = 3 then 14 else if a1 = 4 then 15 else -1)
  else if a0 = 8 then (if a1 = 5 then 16 else -1)
  else if a0 = 12 then (if a1 = 0 then 10 else if a1 = 1 then 11 else if a1 = 6 then 12 else -1)
  else if a0 = 15 then (if a1 = 0 then 10 else if a1 = 1 then 11 else if a1 = 6 then 12 else -1)
  else if a0 = 16 then (if a1 = 0 then 10 else if a1 = 1 then 11 else if a1 = 6 then 12 else -1)
  else if a0 = 17 then (if a1 = 7 then 20 else if a1 = 4 then 15 else -1)
  else if a0 = 18 then (if a1 = 5 then 16 else -1)
  else -1
theorem w_shM {a0 a1 : Int32} {I : zI} {K : Int32 → Prop} (h : K (shM a0 a1)) : w_M_shifts a0 a1 I K := by
  intro P88 h88 P136 h136 P190 h190
  unfold shM at h
  by_cases c1 : a0 = 1
  · rw [if_pos c1] at h ⊢
    refine h88 ?_
    revert h
    repeat' split
    all_goals exact id
  rw [if_neg c1] at h ⊢
  by_cases c3 : a0 = 3
  · rw [if_pos c3] at h ⊢
    revert h
    repeat' split
    all_goals exact id
  rw [if_neg c3] at h ⊢
  by_cases c5 : a0 = 5
  · rw [if_pos c5] at h ⊢
    refine h136 ?_
    revert h
    repeat' split
    all_goals exact id
  rw [if_neg c5] at h ⊢
  by_cases c6 : a0 = 6
  · rw [if_pos c6] at h
    rw [if_pos c6]
    refine h88 ?_
    revert h
    repeat' split
    all_goals exact id
  rw [if_neg c6] at h ⊢
  by_cases c7 : a0 = 7
  · rw [if_pos c7] at h ⊢
    revert h
    repeat' split
    all_goals exact id
  rw [if_neg c7] at h ⊢
  by_cases c8 : a0 = 8
  · rw [if_pos c8] at h ⊢
    refine h190 ?_
    revert h
    repeat' split
    all_goals exact id
  rw [if_neg c8] at h ⊢
  by_cases c12 : a0 = 12
  · rw [if_pos c12] at h ⊢
    refine h136 ?_
    revert h
    repeat' split
    all_goals exact id
  rw [if_neg c12] at h ⊢
  by_cases c15 : a0 = 15
  · rw [if_pos c15] at h ⊢
    refine h136 ?_
    revert h
    repeat' split
    all_goals exact id
  rw [if_neg c15] at h ⊢
  by_cases c16 : a0 = 16
  · rw [if_pos c16] at h ⊢
    refine h136 ?_
    revert h
    repeat' split
    all_goals exact id
  rw [if_neg c16] at h ⊢
  by_cases c17 : a0 = 17
  · rw [if_pos c17] at h ⊢
    revert h
    repeat' split
    all_goals exact id
  rw [if_neg c17] at h ⊢
  by_cases c18 : a0 = 18
  · rw [if_pos c18] at h ⊢
    refine h190 ?_
    revert h
    repeat' split
    all_goals exact id
  rw [if_neg c18] at h ⊢
  exact h
def shI (s k : Nat) : Int32 := if ldN s (5 + k) = 0 then -1 else zi (ldN s (5 + k))
theorem sh_fin : ∀ s, s < 21 → ∀ k, k < 12 → shM (zi s) (zi k) = shI s k := by decide +kernel
theorem s_shifts {s k : Nat} {I : zI} {K : Int32 → Prop} (hs : s < 21) (hk : k < 12) (h : K (shI s k)) : w_M_shifts (zi s) (zi k) I K := w_shM (by rw [sh_fin s hs k hk]; exact h)
def ldM (a0 a1 : Int32) : Int32 := if a1 = 0 then (if a0 = 0 then 1 else 6) else (if a1 = 1 then 2 else (if a1 = 2 then (if a0 = 5 then 7 else 17) else (if a1 = 3 then (if a0 = 15 then 18 else 8) else (if a0 = 16 then 19 else 9))))
theorem w_ldM {a0 a1 : Int32} {I : zI} {K : Int32 → Prop} (h : K (ldM a0 a1)) : w_M_leads a0 a1 I K := by
  unfold w_M_leads
  unfold ldM at h
  revert h
  repeat' split
  all_goals exact id
theorem ldM_fin : ∀ s, s < 21 → ∀ y, y < 5 → ldN s y ≠ 0 → ldM (zi s) (zi y) = zi (ldN s y) := by decide +kernel
theorem s_leads {s y : Nat} {I : zI} {K : Int32 → Prop} (hs : s < 21) (hy : y < 5) (h0 : ldN s y ≠ 0) (h : K (zi (ldN s y))) : w_M_leads (zi s) (zi y) I K := w_ldM (by rw [ldM_fin s hs y hy h0]; exact h)
def rlM (a0 : Int32) : Int32 := if a0 = 0 then 0 else (if a0 = 2 then 1 else (if a0 = 4 then 0 else (if a0 = 8 then 5 else (if a0 = 9 then 7 else (if a0 = 10 then 8 else (if a0 = 11 then 9 else (if a0 = 13 then 3 else (if a0 = 14 then 2 else (if a0 = 18 then 4 else (if a0 = 19 then 6 else (if a0 = 20 then 10 else -1)))))))))))
theorem w_rlM {a0 : Int32} {I : zI} {K : Int32 → Prop} (h : K (rlM a0)) : w_M_ruleOf a0 I K := by
  unfold w_M_ruleOf
  unfold rlM at h
  by_cases c0 : a0 = 0
  · rw [if_pos c0] at h ⊢
    exact h
  rw [if_neg c0] at h ⊢
  by_cases c2 : a0 = 2
  · rw [if_pos c2] at h ⊢
    exact h
  rw [if_neg c2] at h ⊢
  by_cases c4 : a0 = 4
  · rw [if_pos c4] at h ⊢
    exact h
  rw [if_neg c4] at h ⊢
  by_cases c8 : a0 = 8
  · rw [if_pos c8] at h ⊢
    exact h
  rw [if_neg c8] at h ⊢
  by_cases c9 : a0 = 9
  · rw [if_pos c9] at h ⊢
    exact h
  rw [if_neg c9] at h ⊢
  by_cases c10 : a0 = 10
  · rw [if_pos c10] at h ⊢
    exact h
  rw [if_neg c10] at h ⊢
  by_cases c11 : a0 = 11
  · rw [if_pos c11] at h ⊢
    exact h
  rw [if_neg c11] at h ⊢
  by_cases c13 : a0 = 13
  · rw [if_pos c13] at h ⊢
    exact h
  rw [if_neg c13] at h ⊢
  by_cases c14 : a0 = 14
  · rw [if_pos c14] at h ⊢
    exact h
  rw [if_neg c14] at h ⊢
  by_cases c18 : a0 = 18
  · rw [if_pos c18] at h ⊢
    exact h
  rw [if_neg c18] at h ⊢
  by_cases c19 : a0 = 19
  · rw [if_pos c19] at h ⊢
    exact h
  rw [if_neg c19] at h ⊢
  by_cases c20 : a0 = 20
  · rw [if_pos c20] at h ⊢
    exact h
  rw [if_neg c20] at h ⊢
  exact h
theorem rlM_fin : ∀ s, s < 21 → rlM (zi s) = rlI s := by decide +kernel
theorem s_ruleOf {s : Nat} {I : zI} {K : Int32 → Prop} (hs : s < 21) (h : K (rlI s)) : w_M_ruleOf (zi s) I K := w_rlM (by rw [rlM_fin s hs]; exact h)
def lnM (a0 : Int32) : Int32 := if a0 = 0 then 0 else (if a0 = 1 then 2 else (if a0 = 2 then 4 else (if a0 = 5 then 1 else (if a0 = 7 then 1 else (if a0 = 8 then 1 else (if a0 = 9 then 1 else 3))))))
theorem w_lnM {a0 : Int32} {I : zI} {K : Int32 → Prop} (h : K (lnM a0)) : w_M_manyOf a0 I K := by
  unfold w_M_manyOf
  unfold lnM at h
  revert h
  repeat' split
  all_goals exact id
theorem lnM_fin : ∀ r, r < 11 → lnM (zi r) = zi (lnN r) := by decide +kernel
theorem s_manyOf {r : Nat} {I : zI} {K : Int32 → Prop} (hr : r < 11) (h : K (zi (lnN r))) : w_M_manyOf (zi r) I K := w_lnM (by rw [lnM_fin r hr]; exact h)
def syM (a0 : Int32) : Int32 := if 2 ≤ a0 then (if 4 ≤ a0 then (if 6 ≤ a0 then (if 8 ≤ a0 then 4 else 3) else 2) else 1) else 0
theorem w_syM {a0 : Int32} {I : zI} {K : Int32 → Prop} (h : K (syM a0)) : w_M_symbolOf a0 I K := by
  unfold w_M_symbolOf
  unfold syM at h
  revert h
  repeat' split
  all_goals exact id
theorem syM_fin : ∀ r, r < 11 → syM (zi r) = zi (syN r) := by decide +kernel
theorem s_MsymbolOf {r : Nat} {I : zI} {K : Int32 → Prop} (hr : r < 11) (h : K (zi (syN r))) : w_M_symbolOf (zi r) I K := w_syM (by rw [syM_fin r hr]; exact h)
