/-! ===== what is answered, alike on both sides ===== -/
/-- a number below n -/
def ixI (n : Nat) (a : Int32) : Option Nat := if 0 ≤ a ∧ a < zi n then some a.toNatClampNeg else none
theorem ixI_some {n k : Nat} (hn : n < 2147483648) (hk : k < n) : ixI n (zi k) = some k := by
  unfold ixI
  rw [if_pos ⟨zi_ge (by omega), (zi_lt (by omega) hn).mpr hk⟩, zi_tn (by omega)]
theorem ixI_none {n : Nat} {a : Int32} (h : ¬ (0 ≤ a ∧ a < zi n)) : ixI n a = none := if_neg h
theorem ix_cs {n : Nat} (hn : n < 2147483648) (a : Int32) : (∃ k, k < n ∧ a = zi k ∧ ixI n a = some k) ∨ (ixI n a = none ∧ (a < 0 ∨ (¬ a < 0 ∧ zi n ≤ a))) := by
  by_cases c0 : a < 0
  · exact Or.inr ⟨ixI_none (fun u => Int32.not_le.mpr c0 u.1), Or.inl c0⟩
  · obtain ⟨k, hk, rfl⟩ := zi_of (Int32.not_lt.mp c0)
    by_cases c1 : k < n
    · exact Or.inl ⟨k, c1, rfl, ixI_some hn c1⟩
    · exact Or.inr ⟨ixI_none (fun u => c1 ((zi_lt hk hn).mp u.2)), Or.inr ⟨c0, (zi_le hn hk).mpr (by omega)⟩⟩
theorem u_in {n : Nat} {a : Int32} {I : zI} {K : Int32 → Prop} (hn : n < 2147483648) (h1 : ∀ k, k < n → a = zi k → ixI n a = some k → K 1) (h0 : ixI n a = none → K 0) : w_M_in a 0 (zi n - 1) I K := by
  refine s_in (fun c => ?_) (fun c => ?_)
  · obtain ⟨k, hk, e⟩ := in_idx hn c
    exact h1 k hk e (by rw [e]; exact ixI_some hn hk)
  · refine h0 (ixI_none (fun u => c ⟨u.1, ?_⟩))
    obtain ⟨k, hk, e⟩ := zi_of u.1
    have u2 := u.2
    rw [e] at u2 ⊢
    have hkn := (zi_lt hk hn).mp u2
    rw [show zi n - 1 = zi (n - 1) from zi_sub (b := 1) (by omega)]
    exact (zi_le hk (by omega)).mpr (by omega)
theorem zi_ne {a b : Nat} (ha : a < 2147483648) (hb : b < 2147483648) (h : a ≠ b) : ¬ zi a = zi b := fun u => h ((zi_eq ha hb).mp u)
theorem nle_zi {k n : Nat} (hk : k < n) (hn : n < 2147483648) : ¬ zi n ≤ zi k := fun u => by
  have := (zi_le hn (by omega)).mp u
  omega
/-! text -/
def vText (x : Sg) (a : Int32) : Int32 := match ixI (moT (sgC x)).length a with
  | some k => txF (moT (sgC x)) k
  | none => -1
theorem t_text {x : Sg} {a : Int32} {I : zI} {K : Int32 → Prop} (hv : Iv x) (hR : RX I x) (h : K (vText x a)) : w_Desk_text a I K := by
  obtain ⟨s, hA⟩ := hR.now
  have l300 := hv.2.2.2.2.2.2.2.1.1.1
  refine s_now hA.1 hA.2.1 ?_
  rw [hA.2.2.1]
  unfold vText at h
  rcases ix_cs (n := (moT (sgC x)).length) (by omega) a with ⟨k, hk, rfl, e⟩ | ⟨e, c | ⟨c, d⟩⟩
  · rw [e] at h
    rw [if_neg (zi_pos (by omega)), if_neg (nle_zi hk (by omega))]
    refine (w_get (by decide)).mpr ?_
    rw [rg_in (by decide) (show k < 300 by omega), hA.2.2.txt k hk]
    exact h
  · rw [e] at h
    rw [if_pos c]
    exact h
  · rw [e] at h
    rw [if_neg c, if_pos d]
    exact h
theorem u_text {x : Sg} {a : Int32} {I : zI} {K : Int32 → Prop} (hv : Iv x) (hR : RM I x) (h : K (vText x a)) : w_M_text a I K := by
  have nw := hR.2.2.2.2.2.2.2.1
  have l300 := hv.2.2.2.2.2.2.2.1.1.1
  unfold w_M_text
  rw [nw.1]
  unfold vText at h
  refine u_in (by omega) (fun k hk e e2 => ?_) (fun e => ?_)
  · rw [e2] at h
    rw [if_neg (by decide), e, zi_tn (show k < 2147483648 by omega), nw.2.1 k hk]
    exact ⟨(zin_iff (by omega)).mpr (by omega), h⟩
  · rw [e] at h
    rw [if_pos rfl]
    exact h
/-! token -/
def tkT (x : Sg) (k : Nat) : Nat × Nat × Nat := (lexL (moT (sgC x))).getD k (10, 0, 0)
theorem tkT_at {x : Sg} {k : Nat} (h : k < (lexL (moT (sgC x))).length) : (lexL (moT (sgC x)))[k]? = some (tkT x k) := by
  unfold tkT
  rw [List.getD_eq_getElem?_getD, List.getElem?_eq_getElem h]
  rfl
theorem tkG_at {x : Sg} {k : Nat} (h : k < (lexL (moG (sgC x))).length) : (lexL (moG (sgC x)))[k]? = some (tkG x k) := by
  unfold tkG
  rw [List.getD_eq_getElem?_getD, List.getElem?_eq_getElem h]
  rfl
def vToken (x : Sg) (a b : Int32) : Int32 := match ixI (lexL (moT (sgC x))).length a with
  | some k => if b = 0 then zi (tkT x k).1 else if b = 1 then zi (tkT x k).2.1 else if b = 2 then zi (tkT x k).2.2 else -1
  | none => -1
theorem t_tkhas {k n : Nat} {a : Int32} {I : zI} {K : Int32 → Prop} (hn : n < 2147483648) (h5 : I.1 k 5 = zi n) (h1 : ∀ i, i < n → a = zi i → ixI n a = some i → K 1) (h0 : ixI n a = none → K 0) : w_Tokens_has k a I K := by
  unfold w_Tokens_has
  rw [h5]
  rcases ix_cs hn a with ⟨i, hi, e, e2⟩ | ⟨e, c | ⟨c, d⟩⟩
  · rw [e, if_neg (zi_pos (by omega)), if_neg (nle_zi hi hn)]
    exact h1 i hi e e2
  · rw [if_pos c]
    exact h0 e
  · rw [if_neg c, if_pos d]
    exact h0 e
theorem t_hasGood {k n : Nat} {a : Int32} {I : zI} {K : Int32 → Prop} (hn : n < 2147483648) (h6 : I.1 k 6 = zi n) (h1 : ∀ i, i < n → a = zi i → ixI n a = some i → K 1) (h0 : ixI n a = none → K 0) : w_Moment_hasGood k a I K := by
  unfold w_Moment_hasGood
  rw [h6]
  rcases ix_cs hn a with ⟨i, hi, e, e2⟩ | ⟨e, c | ⟨c, d⟩⟩
  · rw [e, if_neg (zi_pos (by omega)), if_neg (nle_zi hi hn)]
    exact h1 i hi e e2
  · rw [if_pos c]
    exact h0 e
  · rw [if_neg c, if_pos d]
    exact h0 e
theorem t_token {x : Sg} {a b : Int32} {I : zI} {K : Int32 → Prop} (hv : Iv x) (hR : RX I x) (h : K (vToken x a b)) : w_Desk_token a b I K := by
  obtain ⟨s, hA⟩ := hR.now
  have l100 := hv.2.2.2.2.2.2.2.1.1.2.2
  refine s_now hA.1 hA.2.1 ?_
  obtain ⟨p1, p2⟩ := hA.2.2.2.2.1
  unfold vToken at h
  refine t_tkhas (n := (lexL (moT (sgC x))).length) (by omega) p1 (fun k hk e e2 => ?_) (fun e => ?_)
  · rw [e2] at h
    dsimp only at h
    obtain ⟨q1, q2, q3, -⟩ := p2 k _ (tkT_at hk)
    rw [if_neg (by decide), e]
    by_cases c0 : b = 0
    · rw [if_pos c0] at h ⊢
      refine (w_get (by decide)).mpr ?_
      rw [rg_in (by decide) (show k < 100 by omega)]
      change K (I.1 (zmom s + 3 + 2) k)
      rw [q1]
      exact h
    rw [if_neg c0] at h ⊢
    by_cases c1 : b = 1
    · rw [if_pos c1] at h ⊢
      refine (w_get (by decide)).mpr ?_
      rw [rg_in (by decide) (show k < 100 by omega)]
      change K (I.1 (zmom s + 3 + 4) k)
      rw [q2]
      exact h
    rw [if_neg c1] at h ⊢
    by_cases c2 : b = 2
    · rw [if_pos c2] at h ⊢
      refine (w_get (by decide)).mpr ?_
      rw [rg_in (by decide) (show k < 100 by omega)]
      change K (I.1 (zmom s + 3 + 6) k)
      rw [q3]
      exact h
    rw [if_neg c2] at h ⊢
    exact h
  · rw [e] at h
    rw [if_pos rfl]
    exact h
theorem u_token {x : Sg} {a b : Int32} {I : zI} {K : Int32 → Prop} (hv : Iv x) (hR : RM I x) (h : K (vToken x a b)) : w_M_token a b I K := by
  have nw := hR.2.2.2.2.2.2.2.1
  have l100 := hv.2.2.2.2.2.2.2.1.1.2.2
  unfold w_M_token
  rw [nw.2.2.1]
  unfold vToken at h
  refine u_in (by omega) (fun k hk e e2 => ?_) (fun e => ?_)
  · rw [e2] at h
    dsimp only at h
    obtain ⟨q1, q2, q3⟩ := nw.2.2.2.1 k _ (tkT_at hk)
    have hin : vp_in (zi k) 110 := (zin_iff (by omega)).mpr (by omega)
    rw [if_neg (by decide), e, zi_tn (show k < 2147483648 by omega), q1, q2, q3]
    refine u_in (n := 3) (by decide) (fun j hj ej _ => ?_) (fun ej => ?_)
    · rw [if_neg (by decide)]
      rw [ej] at h ⊢
      match j, hj with
      | 0, _ =>
        rw [if_pos (show zi 0 = 0 from rfl)] at h ⊢
        exact ⟨hin, h⟩
      | 1, _ =>
        rw [if_neg (by decide), if_pos (show zi 1 = 1 from rfl)] at h ⊢
        exact ⟨hin, h⟩
      | 2, _ =>
        rw [if_neg (by decide), if_neg (by decide), if_pos (show zi 2 = 2 from rfl)] at h
        rw [if_neg (by decide), if_neg (by decide)]
        exact ⟨hin, h⟩
    · rw [if_pos rfl]
      have no : ∀ j : Nat, j < 3 → b ≠ zi j := fun j hj u => by
        rw [u, ixI_some (by decide) hj] at ej
        cases ej
      rw [if_neg (show ¬ b = 0 from no 0 (by decide)), if_neg (show ¬ b = 1 from no 1 (by decide)), if_neg (show ¬ b = 2 from no 2 (by decide))] at h
      exact h
  · rw [e] at h
    rw [if_pos rfl]
    exact h
/-! good -/
def vGood (x : Sg) (a : Int32) : Int32 := match ixI (lexL (moG (sgC x))).length a with
  | some k => zi (moO (sgC x) k)
  | none => -1
theorem t_good {x : Sg} {a : Int32} {I : zI} {K : Int32 → Prop} (hv : Iv x) (hR : RX I x) (h : K (vGood x a)) : w_Desk_good a I K := by
  obtain ⟨s, hA⟩ := hR.now
  have l100 := hv.2.2.2.2.2.2.2.1.2.1.2.2
  refine s_now hA.1 hA.2.1 ?_
  unfold vGood at h
  refine t_hasGood (n := (lexL (moG (sgC x))).length) (by omega) hA.2.2.2.2.2.2.1 (fun k hk e e2 => ?_) (fun e => ?_)
  · rw [e2] at h
    rw [if_neg (by decide), e]
    refine (w_get (by decide)).mpr ?_
    rw [rg_in (by decide) (show k < 100 by omega), show I.1 (zmom s + 14 + 1) k = zi (moO (sgC x) k) from hA.2.2.2.2.2.2.2.1 k hk]
    exact h
  · rw [e] at h
    rw [if_pos rfl]
    exact h
theorem u_isToken {x : Sg} {a : Int32} {I : zI} {K : Int32 → Prop} (hv : Iv x) (hR : RM I x) (h1 : ∀ i, i < (lexL (moG (sgC x))).length → a = zi i → ixI (lexL (moG (sgC x))).length a = some i → K 1) (h0 : ixI (lexL (moG (sgC x))).length a = none → K 0) : w_M_isToken a I K := by
  have l100 := hv.2.2.2.2.2.2.2.1.2.1.2.2
  unfold w_M_isToken
  rw [(hR.view hv).2.2.2.2.2.1]
  exact u_in (by omega) (fun k hk e e2 => ⟨Or.inr rfl, h1 k hk e e2⟩) (fun e => ⟨Or.inl rfl, h0 e⟩)
theorem u_good {x : Sg} {a : Int32} {I : zI} {K : Int32 → Prop} (hv : Iv x) (hR : RM I x) (h : K (vGood x a)) : w_M_good a I K := by
  have l100 := hv.2.2.2.2.2.2.2.1.2.1.2.2
  have V := hR.view hv
  unfold vGood at h
  refine u_isToken hv hR (fun k hk e e2 => ?_) (fun e => ?_)
  · rw [e2] at h
    rw [if_neg (by decide), e, zi_tn (show k < 2147483648 by omega), V.2.2.2.2.2.2.1 k hk]
    exact ⟨(zin_iff (by omega)).mpr (by omega), h⟩
  · rw [e] at h
    rw [if_pos rfl]
    exact h
/-! under -/
def cvrs (i : Nat) (y : Nat × Nat × Nat) : Bool := decide (y.2.1 ≤ i) && decide (i < y.2.1 + y.2.2)
def cvN (l : List (Nat × Nat × Nat)) (i : Nat) : Nat → Nat → Int32
  | 0, _ => -2
  | d + 1, k => if k < l.length then (if cvrs i (l.getD k (10, 0, 0)) = true then zi k else cvN l i d (k + 1)) else -2
def vUnder (x : Sg) (a : Int32) : Int32 := match ixI (moT (sgC x)).length a with
  | some k => cvN (lexL (moT (sgC x))) k 101 0
  | none => -1
theorem t_covering {k i : Nat} {t : Nat → Int32} {l : List (Nat × Nat × Nat)} {I : zI} {K : Int32 → Prop} (rep : RepT I k t l) (hl : l.length ≤ 100) (hi : i < 300) (hb : ∀ (j : Nat) (y : Nat × Nat × Nat), l[j]? = some y → y.2.1 + y.2.2 ≤ 300) (h : K (cvN l i 101 0)) : w_Tokens_covering k (zi i) I K := by
  intro P2 h2
  have main : ∀ (d j : Nat), j + d = 101 → K (cvN l i d j) → P2 (zi j) := by
    intro d
    induction d with
    | zero =>
      intro j hj hK
      refine h2 _ ?_
      rw [rep.1, if_pos ((zi_le (by omega) (by omega)).mpr (by omega))]
      exact hK
    | succ d ih =>
      intro j hj hK
      refine h2 _ ?_
      rw [rep.1]
      unfold cvN at hK
      by_cases u : j < l.length
      · rw [if_pos u] at hK
        have hat : l[j]? = some (l.getD j (10, 0, 0)) := by
          rw [List.getD_eq_getElem?_getD, List.getElem?_eq_getElem u]
          rfl
        have hb2 := hb j _ hat
        obtain ⟨q1, q2, q3, -⟩ := rep.2 j _ hat
        rw [if_neg (nle_zi u (by omega))]
        refine (w_get (by decide)).mpr ?_
        rw [rg_in (by decide) (show j < 100 by omega)]
        change (∀ (P45 : Prop), _ → (if zi i < I.1 (k + 4) j then P45 else _))
        rw [q2]
        intro P45 h45
        have nx : cvrs i (l.getD j (10, 0, 0)) = false → P45 := fun c => h45 (fun v' ev => by
          rw [c, if_neg (by decide)] at hK
          rw [ev, zi_succ]
          exact ih (j + 1) (by omega) hK)
        by_cases c1 : (l.getD j (10, 0, 0)).2.1 ≤ i
        · rw [if_neg (fun w => by have := (zi_lt (by omega) (by omega)).mp w; omega)]
          refine (w_get (by decide)).mpr ((w_get (by decide)).mpr ?_)
          rw [rg_in (by decide) (show j < 100 by omega), rg_in (by decide) (show j < 100 by omega)]
          change (if I.1 (k + 4) j + I.1 (k + 6) j ≤ zi i then P45 else K (zi j))
          rw [q2, q3, zi_add]
          by_cases c2 : i < (l.getD j (10, 0, 0)).2.1 + (l.getD j (10, 0, 0)).2.2
          · rw [if_neg (fun w => by have := (zi_le (by omega) (by omega)).mp w; omega)]
            rw [if_pos (show cvrs i (l.getD j (10, 0, 0)) = true from Bool.and_eq_true_iff.mpr ⟨decide_eq_true c1, decide_eq_true c2⟩)] at hK
            exact hK
          · rw [if_pos ((zi_le (by omega) (by omega)).mpr (by omega))]
            refine nx ?_
            unfold cvrs
            rw [decide_eq_false c2, Bool.and_false]
        · rw [if_pos ((zi_lt (by omega) (by omega)).mpr (by omega))]
          refine nx ?_
          unfold cvrs
          rw [decide_eq_false c1, Bool.false_and]
      · rw [if_neg u] at hK
        rw [if_pos ((zi_le (by omega) (by omega)).mpr (by omega))]
        exact hK
  exact main 101 0 rfl h
theorem lexL_300 {l : List Int32} (h : txOk l) : ∀ (j : Nat) (y : Nat × Nat × Nat), (lexL l)[j]? = some y → y.2.1 + y.2.2 ≤ 300 := fun j y hy => by
  have := lexL_in h hy
  have := h.1
  omega
theorem t_under {x : Sg} {a : Int32} {I : zI} {K : Int32 → Prop} (hv : Iv x) (hR : RX I x) (h : K (vUnder x a)) : w_Desk_under a I K := by
  obtain ⟨s, hA⟩ := hR.now
  have hT := hv.2.2.2.2.2.2.2.1.1
  have l300 := hT.1
  refine s_now hA.1 hA.2.1 ?_
  rw [hA.2.2.1]
  unfold vUnder at h
  rcases ix_cs (n := (moT (sgC x)).length) (by omega) a with ⟨k, hk, rfl, e⟩ | ⟨e, c | ⟨c, d⟩⟩
  · rw [e] at h
    rw [if_neg (zi_pos (by omega)), if_pos ((zi_lt (by omega) (by omega)).mpr hk)]
    exact t_covering hA.2.2.2.2.1 hT.2.2 (by omega) (lexL_300 hT) h
  · rw [e] at h
    rw [if_pos c]
    exact h
  · rw [e] at h
    rw [if_neg c, if_neg (Int32.not_lt.mpr d)]
    exact h
theorem u_under {x : Sg} {a : Int32} {I : zI} {K : Int32 → Prop} (hv : Iv x) (hR : RM I x) (h : K (vUnder x a)) : w_M_under a I K := by
  have nw := hR.2.2.2.2.2.2.2.1
  have hT := hv.2.2.2.2.2.2.2.1.1
  have l300 := hT.1
  have l100 := hT.2.2
  unfold w_M_under
  rw [nw.1]
  unfold vUnder at h
  refine u_in (by omega) (fun i hi e e2 => ?_) (fun e => ?_)
  · rw [e2] at h
    rw [if_neg (by decide), e]
    intro P18 h18
    have main : ∀ (d j : Nat), j + d = 101 → K (cvN (lexL (moT (sgC x))) i d j) → P18 (zi j) := by
      intro d
      induction d with
      | zero =>
        intro j hj hK
        refine h18 _ ?_
        rw [nw.2.2.1, if_pos ((zi_le (by omega) (by omega)).mpr (by omega))]
        exact hK
      | succ d ih =>
        intro j hj hK
        refine h18 _ ?_
        rw [nw.2.2.1]
        unfold cvN at hK
        by_cases u : j < (lexL (moT (sgC x))).length
        · rw [if_pos u] at hK
          have hat := tkT_at u
          have hb2 := lexL_300 hT j _ hat
          obtain ⟨q1, q2, q3⟩ := nw.2.2.2.1 j _ hat
          change K (if cvrs i (tkT x j) = true then _ else _) at hK
          have hin : vp_in (zi j) 110 := (zin_iff (by omega)).mpr (by omega)
          rw [if_neg (nle_zi u (by omega)), zi_tn (show j < 2147483648 by omega), q2, q3, zi_add]
          refine ⟨hin, hin, hin, s_in (fun c => ?_) (fun c => ?_)⟩
          · have w0 : 1 ≤ (tkT x j).2.1 + (tkT x j).2.2 := by
              refine Nat.pos_of_ne_zero (fun z => ?_)
              rw [z] at c
              have := Int32.le_trans (zi_ge (show i < 2147483648 by omega)) c.2
              exact absurd this (by decide)
            rw [show zi ((tkT x j).2.1 + (tkT x j).2.2) - 1 = zi ((tkT x j).2.1 + (tkT x j).2.2 - 1) from zi_sub (b := 1) w0] at c
            have c1 := (zi_le (by omega) (by omega)).mp c.1
            have c2 := (zi_le (by omega) (by omega)).mp c.2
            rw [if_neg (by decide)]
            rw [if_pos (show cvrs i (tkT x j) = true from Bool.and_eq_true_iff.mpr ⟨decide_eq_true c1, decide_eq_true (by omega)⟩)] at hK
            exact hK
          · rw [if_pos rfl]
            have no : ¬ cvrs i (tkT x j) = true := fun w => by
              obtain ⟨w1, w2⟩ := Bool.and_eq_true_iff.mp w
              have w1 := of_decide_eq_true w1
              have w2 := of_decide_eq_true w2
              refine c ⟨(zi_le (by omega) (by omega)).mpr w1, ?_⟩
              rw [show zi ((tkT x j).2.1 + (tkT x j).2.2) - 1 = zi ((tkT x j).2.1 + (tkT x j).2.2 - 1) from zi_sub (b := 1) (by omega)]
              exact (zi_le (by omega) (by omega)).mpr (by omega)
            rw [if_neg no] at hK
            intro v ev
            rw [ev, zi_succ]
            exact ih (j + 1) (by omega) hK
        · rw [if_neg u] at hK
          rw [if_pos ((zi_le (by omega) (by omega)).mpr (by omega))]
          exact hK
    exact main 101 0 rfl h
  · rw [e] at h
    rw [if_pos rfl]
    exact h
/-! child -/
def vChild (x : Sg) (a b : Int32) : Int32 := match ixI (sgM x) a with
  | some k => (match ixI (ndC (sgN x k)).length b with
    | some i => zi ((ndC (sgN x k)).getD i 0)
    | none => -1)
  | none => -1
theorem t_has {n : Nat} {a : Int32} {I : zI} {K : Int32 → Prop} (hn : n < 2147483648) (h9 : I.1 24 9 = zi n) (h1 : ∀ i, i < n → a = zi i → ixI n a = some i → K 1) (h0 : ixI n a = none → K 0) : w_Nodes_has a I K := by
  unfold w_Nodes_has
  rw [h9]
  rcases ix_cs hn a with ⟨i, hi, e, e2⟩ | ⟨e, c | ⟨c, d⟩⟩
  · rw [e, if_neg (zi_pos (by omega)), if_neg (nle_zi hi hn)]
    exact h1 i hi e e2
  · rw [if_pos c]
    exact h0 e
  · rw [if_neg c, if_pos d]
    exact h0 e
theorem t_child {x : Sg} {a b : Int32} {I : zI} {K : Int32 → Prop} (hv : Iv x) (hR : RX I x) (h : K (vChild x a b)) : w_Desk_child a b I K := by
  obtain ⟨-, rep, -⟩ := hR
  have hN := hv.2.1
  have hm := hv.2.2.2.1
  unfold w_Desk_child
  unfold vChild at h
  refine t_has (n := sgM x) (by omega) rep.1 (fun k hk e e2 => ?_) (fun e => ?_)
  · rw [e2] at h
    dsimp only at h
    have hch := hN.ch k hk
    rw [if_neg (by decide), e]
    rcases ix_cs (n := (ndC (sgN x k)).length) (by omega) b with ⟨i, hi, rfl, eb⟩ | ⟨eb, c | ⟨c, d⟩⟩
    · rw [eb] at h
      rw [if_neg (zi_pos (by omega))]
      refine s_childrenOf rep hN (by omega) hk ?_
      rw [if_pos ((zi_lt (by omega) (by omega)).mpr hi)]
      exact s_childOf rep (by omega) hk hch (by rw [List.getElem?_eq_getElem hi]) (by
        dsimp only at h
        rw [List.getD_eq_getElem?_getD, List.getElem?_eq_getElem hi] at h
        exact h)
    · rw [eb] at h
      rw [if_pos c]
      exact h
    · rw [eb] at h
      rw [if_neg c]
      refine s_childrenOf rep hN (by omega) hk ?_
      rw [if_neg (Int32.not_lt.mpr d)]
      exact h
  · rw [e] at h
    rw [if_pos rfl]
    exact h
theorem u_child {x : Sg} {a b : Int32} {I : zI} {K : Int32 → Prop} (hv : Iv x) (hR : RM I x) (h : K (vChild x a b)) : w_M_child a b I K := by
  have V := hR.view hv
  obtain ⟨l1, l2, l3, l4, l5, l6, l7⟩ := V.len
  have hm := V.2.2.1
  unfold w_M_child
  unfold vChild at h
  rw [l6]
  refine u_in (by omega) (fun k hk e e2 => ?_) (fun e => ?_)
  · rw [e2] at h
    dsimp only at h
    rw [if_neg (by decide), e]
    refine ⟨(zin_iff (by omega)).mpr (by omega), ?_⟩
    obtain ⟨w1, w2⟩ := V.chs hk
    rw [zi_tn (show k < 2147483648 by omega), w1]
    refine u_in (by omega) (fun i hi eb e3 => ?_) (fun eb => ?_)
    · rw [e3] at h
      rw [if_neg (by decide), eb]
      exact s_MchildOf V.1 (by omega) hk w2 (by rw [List.getElem?_eq_getElem hi]) (by
        dsimp only at h
        rw [List.getD_eq_getElem?_getD, List.getElem?_eq_getElem hi] at h
        exact h)
    · rw [eb] at h
      rw [if_pos rfl]
      exact h
  · rw [e] at h
    rw [if_pos rfl]
    exact h
/-! pair -/
def vPair (x : Sg) (a b : Int32) : Int32 := match ixI (sgP x).length a with
  | some k => if b = 0 then zi ((sgP x).getD k (0, 0)).1 else if b = 1 then zi ((sgP x).getD k (0, 0)).2 else -1
  | none => -1
theorem sgP_at {x : Sg} {k : Nat} (h : k < (sgP x).length) : (sgP x)[k]? = some ((sgP x).getD k (0, 0)) := by
  rw [List.getD_eq_getElem?_getD, List.getElem?_eq_getElem h]
  rfl
theorem t_pair {x : Sg} {a b : Int32} {I : zI} {K : Int32 → Prop} (hv : Iv x) (hR : RX I x) (h : K (vPair x a b)) : w_Desk_pair a b I K := by
  obtain ⟨p1, p2, -⟩ := hR.2.2.2.1
  have hl := hv.2.2.2.2.2.1.2
  unfold w_Desk_pair
  unfold vPair at h
  rw [p1]
  rcases ix_cs (n := (sgP x).length) (by omega) a with ⟨k, hk, rfl, e⟩ | ⟨e, c | ⟨c, d⟩⟩
  · rw [e] at h
    dsimp only at h
    obtain ⟨q1, q2, -⟩ := p2 k _ (sgP_at hk)
    rw [if_neg (zi_pos (by omega)), if_pos ((zi_lt (by omega) (by omega)).mpr hk)]
    by_cases c0 : b = 0
    · rw [if_pos c0] at h ⊢
      refine (w_get (by decide)).mpr ?_
      rw [rg_in (by decide) (show k < 4000 by omega)]
      change K (I.1 90 k)
      rw [q1]
      exact h
    rw [if_neg c0] at h ⊢
    by_cases c1 : b = 1
    · rw [if_pos c1] at h ⊢
      refine (w_get (by decide)).mpr ?_
      rw [rg_in (by decide) (show k < 4000 by omega)]
      change K (I.1 92 k)
      rw [q2]
      exact h
    rw [if_neg c1] at h ⊢
    exact h
  · rw [e] at h
    rw [if_pos c]
    exact h
  · rw [e] at h
    rw [if_neg c, if_neg (Int32.not_lt.mpr d)]
    exact h
theorem u_pair {x : Sg} {a b : Int32} {I : zI} {K : Int32 → Prop} (hv : Iv x) (hR : RM I x) (h : K (vPair x a b)) : w_M_pair a b I K := by
  obtain ⟨p1, p2, -⟩ := hR.2.2.2.1
  have hl := hv.2.2.2.2.2.1.2
  unfold w_M_pair
  unfold vPair at h
  rw [p1]
  refine u_in (by omega) (fun k hk e e2 => ?_) (fun e => ?_)
  · rw [e2] at h
    dsimp only at h
    obtain ⟨q1, q2⟩ := p2 k _ (sgP_at hk)
    have hin : vp_in (zi k) 4100 := (zin_iff (by omega)).mpr (by omega)
    rw [if_neg (by decide), e, zi_tn (show k < 2147483648 by omega), q1, q2]
    refine u_in (n := 2) (by decide) (fun j hj ej _ => ?_) (fun ej => ?_)
    · rw [if_neg (by decide)]
      rw [ej] at h ⊢
      match j, hj with
      | 0, _ =>
        rw [if_pos (show zi 0 = 0 from rfl)] at h ⊢
        exact ⟨hin, h⟩
      | 1, _ =>
        rw [if_neg (by decide), if_pos (show zi 1 = 1 from rfl)] at h
        rw [if_neg (by decide)]
        exact ⟨hin, h⟩
    · rw [if_pos rfl]
      have no : ∀ j : Nat, j < 2 → b ≠ zi j := fun j hj u => by
        rw [u, ixI_some (by decide) hj] at ej
        cases ej
      rw [if_neg (show ¬ b = 0 from no 0 (by decide)), if_neg (show ¬ b = 1 from no 1 (by decide))] at h
      exact h
  · rw [e] at h
    rw [if_pos rfl]
    exact h
/-! runs -/
def rnR (x : Sg) : List Nat := runsOf (sgN x) (moR (sgC x))
def vRuns (x : Sg) : Int32 := zi (rnR x).length
theorem t_runs {x : Sg} {I : zI} {K : Int32 → Prop} (hR : RX I x) (h : K (vRuns x)) : w_Desk_runs I K := by
  unfold w_Desk_runs
  rw [show I.1 43 11 = zi (rnR x).length from hR.2.2.1.2.2.2.1.1]
  exact h
theorem u_runs {x : Sg} {I : zI} {K : Int32 → Prop} (hR : RM I x) (h : K (vRuns x)) : w_M_runs I K := by
  unfold w_M_runs
  rw [show I.1 491 51 = zi (rnR x).length from hR.2.2.1.2.2.2.1]
  exact h
def vRun (x : Sg) (a : Int32) : Int32 := match ixI (rnR x).length a with
  | some k => zi ((rnR x).getD k 0)
  | none => -1
theorem rnR_at {x : Sg} {k : Nat} (h : k < (rnR x).length) : (rnR x)[k]? = some ((rnR x).getD k 0) := by
  rw [List.getD_eq_getElem?_getD, List.getElem?_eq_getElem h]
  rfl
theorem rnR_99 {x : Sg} (hv : Iv x) : (rnR x).length ≤ 99 := (runs_ok hv.2.1 hv.2.2.1 hv.2.2.2.2.2.2.2.1.2.2.2.1).2
theorem t_hasRun {x : Sg} {a : Int32} {I : zI} {K : Int32 → Prop} (hv : Iv x) (hR : RX I x) (h1 : ∀ k, k < (rnR x).length → a = zi k → ixI (rnR x).length a = some k → K 1) (h0 : ixI (rnR x).length a = none → K 0) : w_TreeView_hasRun a I K := by
  have l := rnR_99 hv
  unfold w_TreeView_hasRun
  rw [show I.1 43 11 = zi (rnR x).length from hR.2.2.1.2.2.2.1.1]
  rcases ix_cs (n := (rnR x).length) (by omega) a with ⟨i, hi, e, e2⟩ | ⟨e, c | ⟨c, d⟩⟩
  · rw [e, if_neg (zi_pos (by omega)), if_neg (nle_zi hi (by omega))]
    exact h1 i hi e e2
  · rw [if_pos c]
    exact h0 e
  · rw [if_neg c, if_pos d]
    exact h0 e
theorem u_isRun {x : Sg} {a : Int32} {I : zI} {K : Int32 → Prop} (hv : Iv x) (hR : RM I x) (h1 : ∀ k, k < (rnR x).length → a = zi k → ixI (rnR x).length a = some k → K 1) (h0 : ixI (rnR x).length a = none → K 0) : w_M_isRun a I K := by
  have l := rnR_99 hv
  unfold w_M_isRun
  rw [show I.1 491 51 = zi (rnR x).length from hR.2.2.1.2.2.2.1]
  exact u_in (by omega) (fun k hk e e2 => ⟨Or.inr rfl, h1 k hk e e2⟩) (fun e => ⟨Or.inl rfl, h0 e⟩)
theorem t_run {x : Sg} {a : Int32} {I : zI} {K : Int32 → Prop} (hv : Iv x) (hR : RX I x) (h : K (vRun x a)) : w_Desk_run a I K := by
  have l := rnR_99 hv
  unfold w_Desk_run
  unfold vRun at h
  refine t_hasRun hv hR (fun k hk e e2 => ?_) (fun e => ?_)
  · rw [e2] at h
    rw [if_neg (by decide), e]
    refine (w_get (by decide)).mpr ?_
    rw [rg_in (by decide) (show k < 100 by omega), show I.1 (62 + 1) k = zi ((rnR x).getD k 0) from hR.2.2.1.2.2.2.1.2 k _ (rnR_at hk)]
    exact h
  · rw [e] at h
    rw [if_pos rfl]
    exact h
theorem u_run {x : Sg} {a : Int32} {I : zI} {K : Int32 → Prop} (hv : Iv x) (hR : RM I x) (h : K (vRun x a)) : w_M_run a I K := by
  have l := rnR_99 hv
  unfold w_M_run
  unfold vRun at h
  refine u_isRun hv hR (fun k hk e e2 => ?_) (fun e => ?_)
  · rw [e2] at h
    rw [if_neg (by decide), e, zi_tn (show k < 2147483648 by omega), show I.1 528 k = zi ((rnR x).getD k 0) from hR.2.2.1.2.2.2.2.2.1 k _ (rnR_at hk)]
    exact ⟨(zin_iff (by omega)).mpr (by omega), h⟩
  · rw [e] at h
    rw [if_pos rfl]
    exact h
