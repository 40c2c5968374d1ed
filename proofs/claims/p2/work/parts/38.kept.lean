/-! ===== KEPT ahead and behind ===== -/
/-- how many there are one behind the other, from a place on, so many at most -/
def cntW (p : Nat → Bool) : Nat → Nat → Nat
  | 0, _ => 0
  | f + 1, i => if p i then cntW p f (i + 1) + 1 else 0
theorem cntW_le (p : Nat → Bool) : ∀ f i, cntW p f i ≤ f
  | 0, _ => Nat.le_refl _
  | f + 1, i => by
    rw [cntW]
    have := cntW_le p f (i + 1)
    split <;> omega
def alB (t : Nat → Int32) (x : Nat × Nat × Nat) (t' : Nat → Int32) (y : Nat × Nat × Nat) : Bool := decide (x.1 = y.1) && decide (x.2.2 = y.2.2) && (List.range x.2.2).all (fun j => decide (t (x.2.1 + j) = t' (y.2.1 + j)))
theorem alB_iff {t t' : Nat → Int32} {x y : Nat × Nat × Nat} : alB t x t' y = true ↔ tkA t x t' y := by
  unfold alB tkA
  simp only [Bool.and_eq_true, decide_eq_true_eq, List.all_eq_true, List.mem_range, and_assoc]
/-- the tokens of the last good TEXT, in a Moment and in the nodes -/
def OldX (I : zI) (k : Nat) (t : Nat → Int32) (l : List (Nat × Nat × Nat)) : Prop :=
  I.1 k 6 = zi l.length ∧ ∀ j x, l[j]? = some x → ∃ g : Nat, g < 3400 ∧ I.1 (k + 15) j = zi g ∧ I.1 28 g = zi (5 + x.1) ∧ I.1 36 g = zi x.2.2 ∧ I.1 38 g = hdT t x.2.1 x.2.2 ∧ I.1 40 g = tlT t x.2.1 x.2.2
theorem s_isLike {k g i : Nat} {t t' : Nat → Int32} {l : List (Nat × Nat × Nat)} {x y : Nat × Nat × Nat} {I : zI} {K : Int32 → Prop} (rep : RepT I k t l) (hi : l[i]? = some x) (hl : l.length ≤ 100) (hg : g < 3400) (h1 : I.1 28 g = zi (5 + y.1)) (h2 : I.1 36 g = zi y.2.2) (h3 : I.1 38 g = hdT t' y.2.1 y.2.2) (h4 : I.1 40 g = tlT t' y.2.1 y.2.2) (hx : tkOk t x) (hy : tkOk t' y)
    (hK : K (b01 (alB t' y t x))) : w_Nodes_isLike (zi g) k (zi i) I K := by
  have hil : i < 100 := by
    have := (List.getElem?_eq_some_iff.mp hi).1
    omega
  obtain ⟨r1, -, r3, r4, r5⟩ := rep.2 i x hi
  have hk1 := hx.1
  have hk2 := hy.1
  have hw1 := hx.2.1
  have hw2 := hy.2.1
  unfold w_Nodes_isLike
  rw [w_get (by decide), w_get (by decide), rg_in (by decide) hg, rg_in (by decide) hil, h1, r1, show (5 : Int32) + zi x.1 = zi (5 + x.1) from zi_add 5 _]
  have e0 := tkA_x hy hx
  have hfalse : ¬ tkA t' y t x → K 0 := fun q => by
    have : alB t' y t x = false := by
      cases hq : alB t' y t x with
      | false => rfl
      | true => exact absurd (alB_iff.mp hq) q
    rw [this] at hK
    exact hK
  by_cases q1 : y.1 = x.1
  · rw [if_pos (by rw [q1]), w_get (by decide), w_get (by decide), rg_in (by decide) hg, rg_in (by decide) hil, h2, r3]
    by_cases q2 : y.2.2 = x.2.2
    · rw [if_pos (by rw [q2]), w_get (by decide), w_get (by decide), rg_in (by decide) hg, rg_in (by decide) hil, h3, r4]
      by_cases q3 : hdT t' y.2.1 y.2.2 = hdT t x.2.1 x.2.2
      · rw [if_pos q3, w_get (by decide), w_get (by decide), rg_in (by decide) hg, rg_in (by decide) hil, h4, r5]
        by_cases q4 : tlT t' y.2.1 y.2.2 = tlT t x.2.1 x.2.2
        · rw [if_pos q4]
          rw [alB_iff.mpr (e0.mpr ⟨q1, q2, q3, q4⟩)] at hK
          exact hK
        · rw [if_neg q4]
          exact hfalse (fun r => q4 (e0.mp r).2.2.2)
      · rw [if_neg q3]
        exact hfalse (fun r => q3 (e0.mp r).2.2.1)
    · rw [if_neg (fun r => q2 ((zi_eq (by omega) (by omega)).mp r))]
      exact hfalse (fun r => q2 (e0.mp r).2.1)
  · rw [if_neg (fun r => q1 (by have := (zi_eq (by omega) (by omega)).mp r; omega))]
    exact hfalse (fun r => q1 (e0.mp r).1)
/-- the i-th ones of both are alike -/
def alA (t' : Nat → Int32) (l' : List (Nat × Nat × Nat)) (t : Nat → Int32) (l : List (Nat × Nat × Nat)) (i j : Nat) : Bool := match l'[i]?, l[j]? with
  | some y, some x => alB t' y t x
  | _, _ => false
/-- KEPT ahead: l' the last good TEXT's tokens, l the new ones -/
def kAhead (t' : Nat → Int32) (l' : List (Nat × Nat × Nat)) (t : Nat → Int32) (l : List (Nat × Nat × Nat)) : Nat := cntW (fun i => alA t' l' t l i i) (min l'.length l.length - 1) 0
/-- KEPT behind, END too -/
def kBehind (t' : Nat → Int32) (l' : List (Nat × Nat × Nat)) (t : Nat → Int32) (l : List (Nat × Nat × Nat)) : Nat := cntW (fun i => alA t' l' t l (l'.length - 2 - i) (l.length - 2 - i)) (min l'.length l.length - 1 - kAhead t' l' t l) 0 + 1
theorem s_keepAlike {k kt : Nat} {t t' : Nat → Int32} {l l' : List (Nat × Nat × Nat)} {I : zI} {K : zI → Prop} (hk : 113 ≤ k) (hkt : kt = 7 ∨ 113 ≤ kt) (rep : RepT I kt t l) (old : OldX I k t' l') (ho : I.1 64 5 = zi l'.length) (hn : I.1 64 6 = zi l.length) (hl0 : 1 ≤ l.length) (hl0' : 1 ≤ l'.length) (hl : l.length ≤ 100) (hl' : l'.length ≤ 100) (hok : ∀ x ∈ l, tkOk t x) (hok' : ∀ x ∈ l', tkOk t' x)
    (hK : ∀ J, eqQ (fun a j => a = 64 ∧ (j = 7 ∨ j = 8)) I J → J.1 64 7 = zi (kAhead t' l' t l) → J.1 64 8 = zi (kBehind t' l' t l) → K J) : w_Grower_keepAlike k kt I K := by
  unfold w_Grower_keepAlike
  intro v3 ev3
  have ev : v3 = zi (min l'.length l.length - 1) := by
    rw [ev3, hn, ho]
    by_cases q : l.length < l'.length
    · rw [if_pos ((zi_lt (by omega) (by omega)).mpr q), show (1 : Int32) = zi 1 from rfl, zi_sub hl0, show min l'.length l.length = l.length by omega]
    · rw [if_neg (fun r => q ((zi_lt (by omega) (by omega)).mp r)), show (1 : Int32) = zi 1 from rfl, zi_sub hl0', show min l'.length l.length = l'.length by omega]
  subst ev
  clear ev3
  generalize hb : min l'.length l.length - 1 = both
  intro I2 e2
  -- what a step's comparison answers, in any memory that differs at the two counts alone
  have cmp : ∀ (J : zI) (i j : Nat) (K2 : Int32 → Prop), eqQ (fun a j => a = 64 ∧ (j = 7 ∨ j = 8)) I J → i < l'.length → j < l.length → K2 (b01 (alA t' l' t l i j)) → w_Row_get (k + 14) 100 (zi i) J (fun r => w_Nodes_isLike r kt (zi j) J K2) := by
    intro J i j K2 e hi hj hK2
    obtain ⟨y, hy⟩ : ∃ y, l'[i]? = some y := ⟨l'[i], List.getElem?_eq_getElem hi⟩
    obtain ⟨x, hx⟩ : ∃ x, l[j]? = some x := ⟨l[j], List.getElem?_eq_getElem hj⟩
    obtain ⟨g, g0, g1, g2, g3, g4, g5⟩ := old.2 i y hy
    rw [w_get (by decide), rg_in (by decide) (by omega), e.1 (k + 14 + 1) i (by omega), g1]
    have rep' : RepT J kt t l := rep.kept (fun b h1 h2 => by
      funext q
      exact e.1 b q (by omega))
    refine s_isLike rep' hx hl g0 (by rw [e.1 _ _ (by omega)]; exact g2) (by rw [e.1 _ _ (by omega)]; exact g3) (by rw [e.1 _ _ (by omega)]; exact g4) (by rw [e.1 _ _ (by omega)]; exact g5) (hok x (List.mem_of_getElem? hx)) (hok' y (List.mem_of_getElem? hy)) ?_
    have : alA t' l' t l i j = alB t' y t x := by unfold alA; rw [hy, hx]
    rw [← this]
    exact hK2
  have hA : kAhead t' l' t l = cntW (fun i => alA t' l' t l i i) both 0 := by unfold kAhead; rw [hb]
  have hAle := cntW_le (fun i => alA t' l' t l i i) both 0
  rw [← hA] at hAle
  have hB : kBehind t' l' t l = cntW (fun i => alA t' l' t l (l'.length - 2 - i) (l.length - 2 - i)) (both - kAhead t' l' t l) 0 + 1 := by unfold kBehind; rw [hb]
  generalize kAhead t' l' t l = A at *
  generalize kBehind t' l' t l = Bh at *
  -- behind
  have back : ∀ (P66 : Prop) (J : zI), eqQ (fun a j => a = 64 ∧ (j = 7 ∨ j = 8)) I J → J.1 64 7 = zi A →
      ((∀ I_4, I_4 = (zu J 64 8 1) → ∀ (P71 : zI → Prop), (∀ (I_5 : zI), ((if (zi both - (I_5.1 64 7)) < (I_5.1 64 8) then K I_5 else (w_Row_get (k + 14) 100 (((I_5.1 64 5) - 1) - (I_5.1 64 8)) I_5 (fun r_6 => w_Nodes_isLike r_6 kt (((I_5.1 64 6) - 1) - (I_5.1 64 8)) I_5 (fun r_7 => (if r_7 = 0 then K I_5 else (∀ I_8, I_8 = (zu I_5 64 8 ((I_5.1 64 8) + 1)) → P71 I_8))))))) → P71 I_5) → P71 I_4) → P66) → P66 := by
    intro P66 J e hJ h66
    refine h66 (fun J1 e1 P71 h71 => ?_)
    have key : ∀ d b : Nat, b + d = both - A → b + cntW (fun i => alA t' l' t l (l'.length - 2 - i) (l.length - 2 - i)) d b + 1 = Bh → ∀ L : zI, eqQ (fun a j => a = 64 ∧ (j = 7 ∨ j = 8)) I L → L.1 64 7 = zi A → L.1 64 8 = zi (b + 1) → P71 L := by
      intro d
      induction d with
      | zero =>
        intro b hbd hc L eL h7 h8
        refine h71 _ ?_
        rw [h7, h8, zi_sub (by omega), if_pos ((zi_lt (by omega) (by omega)).mpr (by omega))]
        refine hK L eL h7 (by rw [h8]; congr 1)
      | succ d ih =>
        intro b hbd hc L eL h7 h8
        refine h71 _ ?_
        have g5 : L.1 64 5 = zi l'.length := by rw [eL.1 64 5 (by omega)]; exact ho
        have g6 : L.1 64 6 = zi l.length := by rw [eL.1 64 6 (by omega)]; exact hn
        rw [h7, h8, zi_sub (by omega), if_neg (fun r => by have := (zi_lt (by omega) (by omega)).mp r; omega), g5, g6]
        rw [show zi l'.length - 1 - zi (b + 1) = zi (l'.length - 2 - b) by
          rw [show (1 : Int32) = zi 1 from rfl, zi_sub (by omega), zi_sub (by omega)]
          congr 1
          omega, show zi l.length - 1 - zi (b + 1) = zi (l.length - 2 - b) by
          rw [show (1 : Int32) = zi 1 from rfl, zi_sub (by omega), zi_sub (by omega)]
          congr 1
          omega]
        refine cmp L _ _ _ eL (by omega) (by omega) ?_
        rw [cntW] at hc
        cases hal : alA t' l' t l (l'.length - 2 - b) (l.length - 2 - b) with
        | true =>
          rw [if_neg (by decide)]
          rw [hal, if_pos rfl] at hc
          intro L2 eL2
          rw [zi_succ] at eL2
          subst eL2
          exact ih (b + 1) (by omega) (by omega) _ (eL.zu ⟨rfl, Or.inr rfl⟩) (by rw [zu_i (by omega)]; exact h7) zu_self
        | false =>
          rw [if_pos (by decide)]
          rw [hal, if_neg (by decide)] at hc
          exact hK L eL h7 (by rw [h8]; congr 1)
    subst e1
    exact key (both - A) 0 (by omega) (by omega) _ (e.zu ⟨rfl, Or.inr rfl⟩) (by rw [zu_i (by omega)]; exact hJ) zu_self
  intro P19 h19
  have key : ∀ d a : Nat, a + d = both → a + cntW (fun i => alA t' l' t l i i) d a = A → ∀ J : zI, eqQ (fun a j => a = 64 ∧ (j = 7 ∨ j = 8)) I J → J.1 64 7 = zi a → P19 J := by
    intro d
    induction d with
    | zero =>
      intro a had hc J e hJ
      refine h19 _ ?_
      intro P66 h66
      rw [hJ, if_pos ((zi_le (by omega) (by omega)).mpr (by omega))]
      exact back P66 J e (by rw [hJ]; congr 1) h66
    | succ d ih =>
      intro a had hc J e hJ
      refine h19 _ ?_
      intro P66 h66
      have hback : J.1 64 7 = zi A → P66 := fun q => back P66 J e q h66
      rw [hJ, if_neg (fun r => by have := (zi_le (by omega) (by omega)).mp r; omega)]
      refine cmp J a a _ e (by omega) (by omega) ?_
      rw [cntW] at hc
      cases hal : alA t' l' t l a a with
      | true =>
        rw [if_neg (by decide)]
        rw [hal, if_pos rfl] at hc
        intro J2 e2
        rw [zi_succ] at e2
        subst e2
        exact ih (a + 1) (by omega) (by omega) _ (e.zu ⟨rfl, Or.inl rfl⟩) zu_self
      | false =>
        rw [if_pos (by decide)]
        rw [hal, if_neg (by decide)] at hc
        exact hback (by rw [hJ]; congr 1)
  subst e2
  exact key both 0 (by omega) (by rw [Nat.zero_add]; exact hA.symm) _ (eqQ.rf.zu ⟨rfl, Or.inl rfl⟩) zu_self
