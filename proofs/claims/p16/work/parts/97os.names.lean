/-! ===== NAMES, what was RUN: what the class answers ===== -/
/-- a NAME of the last good TEXT -/
def gnI (x : Sg) (a : Int32) : Option Nat := match ixI (nG x) a with
  | some i => if ndM (sgN x (moO (sgC x) i)) = 5 then some i else none
  | none => none
abbrev ruR (x : Sg) : RuZ := ruN (sgN x) (moR (sgC x))
abbrev ylR (x : Sg) : List Nat := yl (sgN x) (moR (sgC x))
theorem yl_at {x : Sg} (hv : Iv x) {i : Nat} (h : i + 1 < nG x) : (ylR x)[i]? = some (moO (sgC x) i) := by
  show (yl (sgN x) (moR (sgC x)))[i]? = _
  rw [hv.tr.2.2.1, List.getElem?_map, List.getElem?_range (by omega)]
  rfl
theorem gn_in {x : Sg} (hv : Iv x) {i : Nat} (h : i < nG x) (h5 : ndM (sgN x (moO (sgC x) i)) = 5) : i + 1 < nG x := by
  refine Nat.lt_of_le_of_ne (by omega) (fun u => ?_)
  have := (tkz_R hv.2.1 hv.2.2.2.2.2.2.2.1).1
  change ndM (sgN x (moO (sgC x) (nG x - 1))) ≠ 5 at this
  rw [show nG x - 1 = i by omega] at this
  exact this h5
theorem RX.ev {I : zI} {x : Sg} (h : RX I x) : EvX I (sgN x) (moR (sgC x)) := h.2.2.1.2.2.2.2.2.2.1
theorem ix_100 {x : Sg} (hv : Iv x) {z : Nat} (hz : z ∈ ylR x) (h5 : ndM (sgN x z) = 5) : ixNm (sgN x) (nmV (sgN x) z) (ylR x) < 100 := by
  have h1 := ixN_lt hz h5
  have h2 := hv.tr.tk hv.2.1
  have h3 := hv.tr.2.2.2.2.2.2.2
  rw [yl_len hv.2.1 _ hv.tr.1] at h1
  omega
theorem t_isGoodName {x : Sg} {a : Int32} {I : zI} {K : Int32 → Prop} (hv : Iv x) (hR : RX I x) (h1 : ∀ i, i + 1 < nG x → a = zi i → gnI x a = some i → ndM (sgN x (moO (sgC x) i)) = 5 → K 1) (h0 : gnI x a = none → K 0) : w_Desk_isGoodName a I K := by
  obtain ⟨s, hA⟩ := hR.now
  have l100 : nG x ≤ 100 := hv.2.2.2.2.2.2.2.1.2.1.2.2
  have hm := hv.2.2.2.1
  unfold gnI at h1 h0
  refine s_now hA.1 hA.2.1 ?_
  refine t_hasGood (n := nG x) (by omega) hA.2.2.2.2.2.2.1 (fun i hi e e2 => ?_) (fun e => ?_)
  · have h1' := h1 i
    rw [e2] at h1' h0
    dsimp only at h1' h0
    rw [if_neg (by decide), e]
    refine (w_get (by decide)).mpr ?_
    rw [rg_in (by decide) (show i < 100 by omega), show I.1 (zmom s + 14 + 1) i = zi (moO (sgC x) i) from hA.2.2.2.2.2.2.2.1 i hi]
    have hlt := (hv.tr.2.2.2.2.1 i hi).1
    refine (w_get (by decide)).mpr ?_
    rw [rg_in (by decide) (show moO (sgC x) i < 3400 by omega), show I.1 (27 + 1) (moO (sgC x) i) = zi (ndM (sgN x (moO (sgC x) i))) from (hR.2.1.2 _ hlt).2.1]
    by_cases u : ndM (sgN x (moO (sgC x) i)) = 5
    · rw [if_pos (show zi (ndM (sgN x (moO (sgC x) i))) = 5 by rw [u]; rfl)]
      rw [if_pos u] at h1'
      exact h1' (gn_in hv hi u) e rfl u
    · have h17 := hv.2.1.sym _ hlt
      rw [if_neg (show ¬ zi (ndM (sgN x (moO (sgC x) i))) = 5 from fun w => u ((zi_eq (b := 5) (by omega) (by decide)).mp w))]
      rw [if_neg u] at h0
      exact h0 rfl
  · rw [if_pos rfl]
    rw [e] at h0
    exact h0 rfl
theorem t_ixn {x : Sg} {i : Nat} {I : zI} {K : Int32 → Prop} (hv : Iv x) (hR : RX I x) (hi : i + 1 < nG x) (h5 : ndM (sgN x (moO (sgC x) i)) = 5) (h : ∀ j, j < 100 → j = ixNm (sgN x) (nmV (sgN x) (moO (sgC x) i)) (ylR x) → K (zi j)) : w_Row_get 70 100 (zi i) I K := by
  have l100 : nG x ≤ 100 := hv.2.2.2.2.2.2.2.1.2.1.2.2
  have hy := yl_at hv hi
  refine (w_get (by decide)).mpr ?_
  rw [rg_in (by decide) (show i < 100 by omega), show I.1 (70 + 1) i = _ from hR.ev.1 i _ hy h5]
  exact h _ (ix_100 hv (List.mem_of_getElem? hy) h5) rfl
def vValue (x : Sg) (a : Int32) : Int32 := match gnI x a with
  | some i => ruE (ruR x) (nmV (sgN x) (moO (sgC x) i))
  | none => 0
theorem t_value {x : Sg} {a : Int32} {I : zI} {K : Int32 → Prop} (hv : Iv x) (hR : RX I x) (h : K (vValue x a)) : w_Desk_value a I K := by
  unfold vValue at h
  refine t_isGoodName hv hR (fun i hi e e2 h5 => ?_) (fun e => ?_)
  · rw [e2] at h
    rw [if_neg (by decide), e]
    refine t_ixn hv hR hi h5 (fun j hj ej => (w_get (by decide)).mpr ?_)
    rw [rg_in (by decide) hj, ej, show I.1 (72 + 1) _ = _ from hR.ev.2.1.1 _ (List.mem_of_getElem? (yl_at hv hi)) h5]
    exact h
  · rw [e] at h
    rw [if_pos rfl]
    exact h
def vSets (x : Sg) (a : Int32) : Int32 := match gnI x a with
  | some i => zi (ruT (ruR x) (nmV (sgN x) (moO (sgC x) i)))
  | none => 0
theorem t_sets {x : Sg} {a : Int32} {I : zI} {K : Int32 → Prop} (hv : Iv x) (hR : RX I x) (h : K (vSets x a)) : w_Desk_sets a I K := by
  unfold vSets at h
  refine t_isGoodName hv hR (fun i hi e e2 h5 => ?_) (fun e => ?_)
  · rw [e2] at h
    rw [if_neg (by decide), e]
    refine t_ixn hv hR hi h5 (fun j hj ej => (w_get (by decide)).mpr ?_)
    rw [rg_in (by decide) hj, ej, show I.1 (74 + 1) _ = _ from (hR.ev.2.1.2.1 _ (List.mem_of_getElem? (yl_at hv hi)) h5).1]
    exact h
  · rw [e] at h
    rw [if_pos rfl]
    exact h
def vUses (x : Sg) (a : Int32) : Int32 := match gnI x a with
  | some i => (ruQ (ruR x)).2 i
  | none => -1
theorem t_uses {x : Sg} {a : Int32} {I : zI} {K : Int32 → Prop} (hv : Iv x) (hR : RX I x) (h : K (vUses x a)) : w_Desk_uses a I K := by
  have l100 : nG x ≤ 100 := hv.2.2.2.2.2.2.2.1.2.1.2.2
  unfold vUses at h
  refine t_isGoodName hv hR (fun i hi e e2 h5 => ?_) (fun e => ?_)
  · rw [e2] at h
    rw [if_neg (by decide), e]
    refine (w_get (by decide)).mpr ?_
    rw [rg_in (by decide) (show i < 100 by omega), show I.1 (80 + 1) i = _ from hR.ev.2.1.2.2.1 i (by omega)]
    exact h
  · rw [e] at h
    rw [if_pos rfl]
    exact h
def vWorth (x : Sg) (a : Int32) : Int32 := match inT x a with
  | some p => if 4 ≤ ndR (sgN x (ffA x p).1) then evN (sgN x) (ruE (ruR x)) (ffA x p).1 else 0
  | none => 0
theorem t_worth {x : Sg} {a : Int32} {I : zI} {K : Int32 → Prop} (hv : Iv x) (hR : RX I x) (h : K (vWorth x a)) : w_Desk_worth a I K := by
  have f248 := hv.f248
  unfold vWorth at h
  refine t_holdsE hv hR (fun p f hp e _ e2 h4 => ?_) (fun p f hp e2 h4 => ?_) (fun e => ?_)
  · have hpl := (List.getElem?_eq_some_iff.mp hp).1
    rw [e2] at h
    dsimp only at h
    rw [ffA_at hp, if_pos h4] at h
    rw [if_neg (by decide), e]
    refine t_place hv hR hp ((w_get (by decide)).mpr ?_)
    rw [rg_in (by decide) (show p < 400 by omega), show I.1 (82 + 1) p = _ from hR.ev.2.2 p f (Nat.zero_le _) hpl hp h4]
    exact h
  · rw [e2] at h
    dsimp only at h
    rw [ffA_at hp, if_neg h4] at h
    rw [if_pos rfl]
    exact h
  · rw [e] at h
    rw [if_pos rfl]
    exact h
/-- places in what is known of the idle ones -/
theorem ruAt_lt {N : Nat → Nd} {F : List Fl} : ∀ p, p ≤ F.length → (∀ v q, (ruQ (ruAt N F p)).1 v = some q → q < p) ∧ ∀ q ∈ ruD (ruAt N F p), q < p
  | 0, _ => by
    refine ⟨fun v q hq => ?_, fun q hq => ?_⟩
    · change (none : Option Nat) = some q at hq
      cases hq
    · change q ∈ ([] : List Nat) at hq
      cases hq
  | p + 1, hp => by
    obtain ⟨i1, i2⟩ := ruAt_lt (N := N) (F := F) p (by omega)
    have hx : F[p]? = some (F[p]'(by omega)) := List.getElem?_eq_getElem (by omega)
    generalize F[p]'(by omega) = x at hx
    rw [ruAt_s hx]
    by_cases u : ndR (N x.1) = 2
    · rw [if_pos u]
      generalize hw : ntR N (ruL (ruAt N F p)) ((F.drop (p + 3)).take (sz N (chN (N x.1) 2))) (ruQ (ruAt N F p)) = w
      have hlt : ∀ v q, w.1 v = some q → q < p := by
        rw [← hw]
        have gen : ∀ (l : List Fl) (u : UaZ), (∀ v q, u.1 v = some q → q < p) → ∀ v q, (ntR N (ruL (ruAt N F p)) l u).1 v = some q → q < p := by
          intro l
          induction l with
          | nil => exact fun u h => h
          | cons y l ih =>
            intro u h
            refine ih (nt1 N (ruL (ruAt N F p)) y u) (fun v q hq => ?_)
            unfold nt1 at hq
            by_cases u8 : ndR (N y.1) = 8
            · rw [if_pos u8] at hq
              dsimp only at hq
              unfold up6 at hq
              by_cases e : v = nmC N y.1
              · rw [if_pos e] at hq
                cases hq
              · rw [if_neg e] at hq
                exact h v q hq
            · rw [if_neg u8] at hq
              exact h v q hq
        exact gen _ _ i1
      have e1 : ruQ (ruS N F p x.1 (ruAt N F p)) = (up6 w.1 (nmC N x.1) (some p), w.2) := by rw [← hw]; rfl
      have e2 : ruD (ruS N F p x.1 (ruAt N F p)) = dnD (ruD (ruAt N F p)) (w.1 (nmC N x.1)) := by rw [← hw]; rfl
      rw [e1, e2]
      refine ⟨fun v q hq => ?_, fun q hq => ?_⟩
      · have hq' : up6 w.1 (nmC N x.1) (some p) v = some q := hq
        unfold up6 at hq'
        by_cases e : v = nmC N x.1
        · rw [if_pos e] at hq'
          cases hq'
          omega
        · rw [if_neg e] at hq'
          have := hlt v q hq'
          omega
      · cases hU : w.1 (nmC N x.1) with
        | none =>
          rw [hU] at hq
          have := i2 q hq
          omega
        | some q' =>
          rw [hU] at hq
          have hq' : q ∈ ruD (ruAt N F p) ++ [q'] := hq
          rcases List.mem_append.mp hq' with h | h
          · have := i2 q h
            omega
          · rw [List.mem_singleton] at h
            have := hlt _ _ hU
            omega
    · rw [if_neg u]
      exact ⟨fun v q hq => by have := i1 v q hq; omega, fun q hq => by have := i2 q hq; omega⟩
theorem mnD_in : ∀ {l : List Nat} {n : Nat}, l ≠ [] → (∀ q ∈ l, q < n) → n ≤ 400 → mnD l < n
  | [], _, h, _, _ => absurd rfl h
  | a :: l, n, _, h, hn => by
    have := h a (List.mem_cons_self ..)
    show min a (mnD l) < n
    omega
def vIdle (x : Sg) (b : Int32) : Int32 := if b = 0 then zi (ruD (ruR x)).length else if b = 1 then (if (ruD (ruR x)).length = 0 then -2 else zi (ffA x (mnD (ruD (ruR x)))).1) else -1
theorem ruD_len {N : Nat → Nd} {F : List Fl} : ∀ p, (ruD (ruAt N F p)).length ≤ p
  | 0 => Nat.le_refl _
  | p + 1 => by
    have i := ruD_len (N := N) (F := F) p
    show (ruD (match F[p]? with | some x => if ndR (N x.1) = 2 then ruS N F p x.1 (ruAt N F p) else ruAt N F p | none => ruAt N F p)).length ≤ p + 1
    cases hx : F[p]? with
    | none => exact Nat.le_succ_of_le i
    | some x =>
      dsimp only
      by_cases u : ndR (N x.1) = 2
      · rw [if_pos u]
        show (dnD (ruD (ruAt N F p)) _).length ≤ p + 1
        generalize ((ruQ (ruN1 N (List.take (sz N (chN (N x.1) 2)) (List.drop (p + 3) F)) (ruAt N F p))).1 (nmC N x.1)) = w
        cases w with
        | none => exact Nat.le_succ_of_le i
        | some q =>
          show (ruD (ruAt N F p) ++ [q]).length ≤ p + 1
          rw [List.length_append]
          exact Nat.succ_le_succ i
      · rw [if_neg u]
        exact Nat.le_succ_of_le i
theorem t_idle {x : Sg} {b : Int32} {I : zI} {K : Int32 → Prop} (hv : Iv x) (hR : RX I x) (h : K (vIdle x b)) : w_Desk_idle b I K := by
  have f248 := hv.f248
  obtain ⟨-, -, -, d1, d2, -⟩ := hR.ev.2.1
  have dl : (ruD (ruR x)).length ≤ (FF x).length := ruD_len _
  unfold w_Desk_idle
  unfold vIdle at h
  by_cases c0 : b = 0
  · rw [if_pos c0] at h ⊢
    rw [d1]
    exact h
  rw [if_neg c0] at h ⊢
  by_cases c1 : b = 1
  · rw [if_pos c1] at h ⊢
    rw [d1]
    by_cases u : (ruD (ruR x)).length = 0
    · rw [if_pos u] at h
      rw [if_pos (show zi (ruD (ruR x)).length = 0 by rw [u]; rfl)]
      exact h
    · rw [if_neg u] at h
      rw [if_neg (show ¬ zi (ruD (ruR x)).length = 0 from fun w => u ((zi_eq (b := 0) (by omega) (by decide)).mp w))]
      have hlt : mnD (ruD (ruR x)) < (FF x).length := mnD_in (fun e => u (by rw [e]; rfl)) (ruAt_lt _ (Nat.le_refl _)).2 (by omega)
      refine (w_get (by decide)).mpr ?_
      rw [d2, rg_in (by decide) (show mnD (ruD (ruR x)) < 400 by omega), show I.1 (44 + 1) _ = _ from (hR.2.2.1.2.1.2 _ _ (ffA_is hlt)).1]
      exact h
  · rw [if_neg c1] at h ⊢
    exact h
