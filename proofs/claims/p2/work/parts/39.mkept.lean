/-! ===== KEPT: the model ===== -/
/-- the last good TEXT's tokens in the model -/
def OldU (I : zI) (t : Nat → Int32) (l : List (Nat × Nat × Nat)) : Prop :=
  I.1 491 19 = zi l.length ∧ ∀ j x, l[j]? = some x → I.1 504 j = zi x.1 ∧ I.1 505 j = zi x.2.1 ∧ I.1 506 j = zi x.2.2 ∧ I.2 507 j = isV t x
theorem lg_cmp0 {x y : Int64} : lg_cmp x y = 0 ↔ x = y := by
  unfold lg_cmp
  constructor
  · intro h
    split at h
    · exact absurd h (by decide)
    · split at h
      · assumption
      · exact absurd h (by decide)
  · rintro rfl
    have h1 : ¬ x < x := Int64.lt_irrefl
    simp [h1]
theorem s_areAlike {i j : Nat} {t t' : Nat → Int32} {l l' : List (Nat × Nat × Nat)} {I : zI} {K : Int32 → Prop} (rep : RepU I t l) (old : OldU I t' l') (hi : i < l.length) (hj : j < l'.length) (hl : l.length ≤ 100) (hl' : l'.length ≤ 100) (hok : ∀ x ∈ l, tkOk t x) (hok' : ∀ x ∈ l', tkOk t' x) (hK : K (b01 (alA t' l' t l j i))) : w_M_areAlike (zi i) (zi j) I K := by
  obtain ⟨y, hy⟩ : ∃ y, l'[j]? = some y := ⟨l'[j], List.getElem?_eq_getElem hj⟩
  obtain ⟨x, hx⟩ : ∃ x, l[i]? = some x := ⟨l[i], List.getElem?_eq_getElem hi⟩
  obtain ⟨a1, -, a3, a4⟩ := rep.2 i x hx
  obtain ⟨b1, -, b3, b4⟩ := old.2 j y hy
  have ox := hok x (List.mem_of_getElem? hx)
  have oy := hok' y (List.mem_of_getElem? hy)
  have e0 := tkA_m oy ox
  have hx1 := ox.1
  have hy1 := oy.1
  have hx2 := ox.2.1
  have hy2 := oy.2.1
  have eA : alA t' l' t l j i = alB t' y t x := by unfold alA; rw [hy, hx]
  rw [eA] at hK
  have hfalse : ¬ tkA t' y t x → K 0 := fun q => by
    have : alB t' y t x = false := by
      cases hq : alB t' y t x with
      | false => rfl
      | true => exact absurd (alB_iff.mp hq) q
    rw [this] at hK
    exact hK
  have hi1 : vp_in (zi i) 710 := (zin_iff (by omega)).mpr (by omega)
  have hj1 : vp_in (zi j) 110 := (zin_iff (by omega)).mpr (by omega)
  unfold w_M_areAlike
  refine ⟨hi1, hj1, ?_⟩
  rw [zi_tn (by omega), zi_tn (by omega), a1, b1]
  by_cases q1 : x.1 = y.1
  · rw [if_pos (by rw [q1])]
    refine ⟨hi1, hj1, ?_⟩
    rw [a3, b3]
    by_cases q2 : x.2.2 = y.2.2
    · rw [if_pos (by rw [q2])]
      refine ⟨hi1, hj1, ?_⟩
      rw [a4, b4]
      by_cases q3 : isV t x = isV t' y
      · rw [if_pos (lg_cmp0.mpr q3)]
        rw [alB_iff.mpr (e0.mpr ⟨q1.symm, q2.symm, q3.symm⟩)] at hK
        exact hK
      · rw [if_neg (fun r => q3 (lg_cmp0.mp r))]
        exact hfalse (fun r => q3 (e0.mp r).2.2.symm)
    · rw [if_neg (fun r => q2 ((zi_eq (by omega) (by omega)).mp r))]
      exact hfalse (fun r => q2 (e0.mp r).2.1.symm)
  · rw [if_neg (fun r => q1 ((zi_eq (by omega) (by omega)).mp r))]
    exact hfalse (fun r => q1 (e0.mp r).1.symm)
theorem s_fillsKept {t t' : Nat → Int32} {l l' : List (Nat × Nat × Nat)} {I : zI} {K : zI → Prop} (rep : RepU I t l) (old : OldU I t' l') (hl0 : 1 ≤ l.length) (hl0' : 1 ≤ l'.length) (hl : l.length ≤ 100) (hl' : l'.length ≤ 100) (hok : ∀ x ∈ l, tkOk t x) (hok' : ∀ x ∈ l', tkOk t' x)
    (hK : ∀ J, eqQ (fun a j => a = 491 ∧ (j = 66 ∨ j = 67)) I J → J.1 491 66 = zi (kAhead t' l' t l) → J.1 491 67 = zi (kBehind t' l' t l) → K J) : w_M_fillsKept I K := by
  intro v1 e1 v2 e2
  rw [rep.1, show (1 : Int32) = zi 1 from rfl, zi_sub hl0] at e1
  rw [old.1, show (1 : Int32) = zi 1 from rfl, zi_sub hl0'] at e2
  subst e1 e2
  have hA : kAhead t' l' t l = cntW (fun i => alA t' l' t l i i) (min l'.length l.length - 1) 0 := rfl
  have hB : kBehind t' l' t l = cntW (fun i => alA t' l' t l (l'.length - 2 - i) (l.length - 2 - i)) (min l'.length l.length - 1 - kAhead t' l' t l) 0 + 1 := rfl
  generalize hb : min l'.length l.length - 1 = both at hA hB
  have hAle := cntW_le (fun i => alA t' l' t l i i) both 0
  rw [← hA] at hAle
  generalize kAhead t' l' t l = A at *
  generalize kBehind t' l' t l = Bh at *
  have back : ∀ I4 : zI, I4 = zu I 491 66 (zi A) → ∀ (P48 : Int32 → Prop), (∀ (v3_5 : Int32), (∀ (P91 : Prop), ((∀ I_6, I_6 = (zu I4 491 67 (v3_5 + 1)) → K I_6) → P91) → (if (zi (l.length - 1) - (I4.1 491 66)) ≤ v3_5 then P91 else (if (zi (l'.length - 1) - (I4.1 491 66)) ≤ v3_5 then P91 else (w_M_areAlike ((zi (l.length - 1) - 1) - v3_5) ((zi (l'.length - 1) - 1) - v3_5) I4 (fun r_7 => (if r_7 = 0 then P91 else (∀ v3_8, v3_8 = (v3_5 + 1) → P48 v3_8))))))) → P48 v3_5) → P48 0 := by
    intro I4 e4 P48 h48
    have eq4 : eqQ (fun a j => a = 491 ∧ (j = 66 ∨ j = 67)) I I4 := by rw [e4]; exact eqQ.rf.zu ⟨rfl, Or.inl rfl⟩
    have f66 : I4.1 491 66 = zi A := by rw [e4, zu_self]
    have rep4 : RepU I4 t l := ⟨by rw [eq4.1 491 9 (by omega)]; exact rep.1, fun j x hx => by
      rw [eq4.1 496 j (by omega), eq4.1 497 j (by omega), eq4.1 498 j (by omega), eq4.2 499 j (by omega)]
      exact rep.2 j x hx⟩
    have old4 : OldU I4 t' l' := ⟨by rw [eq4.1 491 19 (by omega)]; exact old.1, fun j x hx => by
      rw [eq4.1 504 j (by omega), eq4.1 505 j (by omega), eq4.1 506 j (by omega), eq4.2 507 j (by omega)]
      exact old.2 j x hx⟩
    have stop : ∀ b : Nat, b + 1 = Bh → ∀ P91 : Prop, ((∀ I_6, I_6 = (zu I4 491 67 (zi b + 1)) → K I_6) → P91) → P91 := by
      intro b hbb P91 h91
      refine h91 (fun I6 e6 => ?_)
      rw [zi_succ] at e6
      subst e6
      exact hK _ (eq4.zu ⟨rfl, Or.inr rfl⟩) (by rw [zu_i (by omega)]; exact f66) (by rw [zu_self, hbb])
    have key : ∀ d b : Nat, b + d = both - A → b + cntW (fun i => alA t' l' t l (l'.length - 2 - i) (l.length - 2 - i)) d b + 1 = Bh → P48 (zi b) := by
      intro d
      induction d with
      | zero =>
        intro b hbd hc
        refine h48 _ ?_
        intro P91 h91
        have s1 := stop b (by rw [← hc]; rfl) P91 h91
        rw [f66, zi_sub (by omega), zi_sub (by omega)]
        by_cases q : l.length - 1 - A ≤ b
        · rw [if_pos ((zi_le (by omega) (by omega)).mpr q)]
          exact s1
        · rw [if_neg (fun r => q ((zi_le (by omega) (by omega)).mp r)), if_pos ((zi_le (by omega) (by omega)).mpr (by omega))]
          exact s1
      | succ d ih =>
        intro b hbd hc
        refine h48 _ ?_
        intro P91 h91
        rw [f66, zi_sub (by omega), zi_sub (by omega), if_neg (fun r => by have := (zi_le (by omega) (by omega)).mp r; omega), if_neg (fun r => by have := (zi_le (by omega) (by omega)).mp r; omega)]
        rw [show zi (l.length - 1) - 1 - zi b = zi (l.length - 2 - b) by
          rw [show (1 : Int32) = zi 1 from rfl, zi_sub (by omega), zi_sub (by omega)]
          congr 1, show zi (l'.length - 1) - 1 - zi b = zi (l'.length - 2 - b) by
          rw [show (1 : Int32) = zi 1 from rfl, zi_sub (by omega), zi_sub (by omega)]
          congr 1]
        refine s_areAlike rep4 old4 (by omega) (by omega) hl hl' hok hok' ?_
        rw [cntW] at hc
        cases hal : alA t' l' t l (l'.length - 2 - b) (l.length - 2 - b) with
        | true =>
          rw [if_neg (by decide)]
          rw [hal, if_pos rfl] at hc
          intro v ev
          rw [zi_succ] at ev
          subst ev
          exact ih (b + 1) (by omega) (by omega)
        | false =>
          rw [if_pos (by decide)]
          rw [hal, if_neg (by decide)] at hc
          exact stop b (by omega) P91 h91
    exact key (both - A) 0 (by omega) (by omega)
  intro P16 h16
  have key : ∀ d a : Nat, a + d = both → a + cntW (fun i => alA t' l' t l i i) d a = A → P16 (zi a) := by
    intro d
    induction d with
    | zero =>
      intro a had hc
      have hc' : a = A := by rw [← hc]; rfl
      refine h16 _ ?_
      intro P41 h41
      have s1 : P41 := h41 (fun I4 e4 => back I4 (by rw [e4, hc']))
      by_cases q : l.length - 1 ≤ a
      · rw [if_pos ((zi_le (by omega) (by omega)).mpr q)]
        exact s1
      · rw [if_neg (fun r => q ((zi_le (by omega) (by omega)).mp r)), if_pos ((zi_le (by omega) (by omega)).mpr (by omega))]
        exact s1
    | succ d ih =>
      intro a had hc
      refine h16 _ ?_
      intro P41 h41
      rw [if_neg (fun r => by have := (zi_le (by omega) (by omega)).mp r; omega), if_neg (fun r => by have := (zi_le (by omega) (by omega)).mp r; omega)]
      refine s_areAlike rep old (by omega) (by omega) hl hl' hok hok' ?_
      rw [cntW] at hc
      cases hal : alA t' l' t l a a with
      | true =>
        rw [if_neg (by decide)]
        rw [hal, if_pos rfl] at hc
        intro v ev
        rw [zi_succ] at ev
        subst ev
        exact ih (a + 1) (by omega) (by omega)
      | false =>
        rw [if_pos (by decide)]
        rw [hal, if_neg (by decide)] at hc
        have hc' : a = A := by omega
        exact h41 (fun I4 e4 => back I4 (by rw [e4, hc']))
  exact key both 0 (by omega) (by rw [Nat.zero_add]; exact hA.symm)
