/-! ===== what a text's tokens are ===== -/
theorem runN_all (p : Int32 → Bool) (t : Nat → Int32) : ∀ f i j, j < runN p t f i → p (t (i + j)) = true
  | 0, i, j, h => absurd h (by show ¬ j < 0; omega)
  | f + 1, i, j, h => by
    rw [runN] at h
    by_cases hp : p (t i) = true
    · rw [if_pos hp] at h
      cases j with
      | zero => exact hp
      | succ j =>
        have := runN_all p t f (i + 1) j (by omega)
        rwa [show i + (j + 1) = i + 1 + j by omega]
    · rw [if_neg hp] at h
      omega
theorem sgn_not (b : Int32) : ¬ sgn b = 0 ∧ ¬ sgn b = 1 ∧ ¬ sgn b = 10 := by
  unfold sgn
  repeat' (first | decide | split)
theorem tkP_ok {t : Nat → Int32} {n i : Nat} (h : i < n) (hb : ∀ j, j < n → byt (t j)) : tkOk t ((tkP t n i).1, i, (tkP t n i).2) ∧ (tkP t n i).1 ≠ 10 := by
  have hp := tkP_pos (t := t) h
  have hs := sgn_not (t i)
  have h0 : (∀ j, j < (tkP t n i).2 → byt (t (i + j))) := fun j hj => hb _ (by omega)
  have hk := tkP_kind (t := t) (n := n) (i := i)
  unfold tkOk
  refine ⟨⟨hk, hp.2.2, h0, ?_, ?_, ?_, ?_⟩, ?_⟩
  all_goals (try dsimp only)
  all_goals (clear h0 hk)
  · intro q
    refine ⟨hp.1, ?_⟩
    unfold tkP at q ⊢
    by_cases hL : isL (t i) = true
    · rw [if_pos hL] at q ⊢
      by_cases h8 : 8 < runN isL t (n - i) i
      · rw [if_pos h8] at q
        exact absurd q (by simp)
      · rw [if_neg h8]
        exact fun j hj => runN_all isL t _ _ j hj
    · rw [if_neg hL] at q
      by_cases hD : isD (t i) = true
      · rw [if_pos hD] at q
        by_cases h4 : 4 < runN isD t (n - i) i
        · rw [if_pos h4] at q
          exact absurd q (by simp)
        · rw [if_neg h4] at q
          exact absurd q (by simp)
      · rw [if_neg hD] at q
        exact absurd q hs.1
  · intro q
    refine ⟨hp.1, ?_⟩
    unfold tkP at q ⊢
    by_cases hL : isL (t i) = true
    · rw [if_pos hL] at q
      by_cases h8 : 8 < runN isL t (n - i) i
      · rw [if_pos h8] at q
        exact absurd q (by simp)
      · rw [if_neg h8] at q
        exact absurd q (by simp)
    · rw [if_neg hL] at q ⊢
      by_cases hD : isD (t i) = true
      · rw [if_pos hD] at q ⊢
        by_cases h4 : 4 < runN isD t (n - i) i
        · rw [if_pos h4] at q
          exact absurd q (by simp)
        · rw [if_neg h4]
          exact fun j hj => runN_all isD t _ _ j hj
      · rw [if_neg hD] at q
        exact absurd q hs.2.1
  · intro q
    exfalso
    unfold tkP at q
    revert q
    split
    · split <;> (intro q; exact absurd q (by simp))
    · split
      · split <;> (intro q; exact absurd q (by simp))
      · exact hs.2.2
  · intro q0 q1 q10
    unfold tkP at q0 q1 ⊢
    by_cases hL : isL (t i) = true
    · rw [if_pos hL] at q0 ⊢
      by_cases h8 : 8 < runN isL t (n - i) i
      · rw [if_pos h8]
      · rw [if_neg h8] at q0
        exact absurd rfl q0
    · rw [if_neg hL] at q1 ⊢
      by_cases hD : isD (t i) = true
      · rw [if_pos hD] at q1 ⊢
        by_cases h4 : 4 < runN isD t (n - i) i
        · rw [if_pos h4]
        · rw [if_neg h4] at q1
          exact absurd rfl q1
      · rw [if_neg hD]
  · intro q
    unfold tkP at q
    revert q
    split
    · split <;> (intro q; exact absurd q (by simp))
    · split
      · split <;> (intro q; exact absurd q (by simp))
      · exact hs.2.2
/-- each token of a text but END: it is one, no END, it begins behind the one ahead, ends in the text -/
theorem lexF_ok {t : Nat → Int32} {n : Nat} (hb : ∀ j, j < n → byt (t j)) : ∀ f i, ∀ x ∈ lexF t n f i, tkOk t x ∧ x.1 ≠ 10 ∧ i ≤ x.2.1 ∧ 1 ≤ x.2.2 ∧ x.2.1 + x.2.2 ≤ n
  | 0, i, x, hx => by cases hx
  | f + 1, i, x, hx => by
    rw [lexF] at hx
    by_cases h : n ≤ i
    · rw [if_pos h] at hx
      cases hx
    · rw [if_neg h] at hx
      have hp := tkP_pos (t := t) (n := n) (i := i) (by omega)
      by_cases hB : isB (t i) = true
      · rw [if_pos hB] at hx
        have := lexF_ok hb f (i + 1) x hx
        exact ⟨this.1, this.2.1, by omega, this.2.2.2.1, this.2.2.2.2⟩
      · rw [if_neg hB] at hx
        rcases List.mem_cons.mp hx with rfl | hx
        · have := tkP_ok (t := t) (n := n) (i := i) (by omega) hb
          exact ⟨this.1, this.2, Nat.le_refl _, hp.1, hp.2.1⟩
        · have := lexF_ok hb f _ x hx
          exact ⟨this.1, this.2.1, by omega, this.2.2.2.1, this.2.2.2.2⟩
theorem end_ok (t : Nat → Int32) (n : Nat) : tkOk t (10, n, 0) := ⟨show 10 < 12 by decide, show 0 ≤ 8 by decide, fun j hj => absurd hj (by show ¬ j < 0; omega), fun q => absurd q (show ¬ 10 = 0 by decide), fun q => absurd q (show ¬ 10 = 1 by decide), fun _ => rfl, fun _ _ q => absurd rfl q⟩
theorem lex_ok {t : Nat → Int32} {n : Nat} (hb : ∀ j, j < n → byt (t j)) : ∀ x ∈ lex t n, tkOk t x ∧ x.2.1 + x.2.2 ≤ n := by
  intro x hx
  unfold lex at hx
  rcases List.mem_append.mp hx with h | h
  · have := lexF_ok hb _ _ x h
    exact ⟨this.1, this.2.2.2.2⟩
  · rw [List.mem_singleton] at h
    subst h
    exact ⟨end_ok t n, Nat.le_refl _⟩
theorem lexF_cnt {t : Nat → Int32} {n : Nat} : ∀ f i, (lexF t n f i).length ≤ n - i
  | 0, i => Nat.zero_le _
  | f + 1, i => by
    rw [lexF]
    by_cases h : n ≤ i
    · rw [if_pos h]
      exact Nat.zero_le _
    · rw [if_neg h]
      have hp := tkP_pos (t := t) (n := n) (i := i) (by omega)
      by_cases hB : isB (t i) = true
      · rw [if_pos hB]
        have := lexF_cnt (t := t) (n := n) f (i + 1)
        omega
      · rw [if_neg hB, List.length_cons]
        have := lexF_cnt (t := t) (n := n) f (i + (tkP t n i).2)
        omega
/-- how many there are one behind the other, from a place on, so many at most -/
def cntW (p : Nat → Bool) : Nat → Nat → Nat
  | 0, _ => 0
  | f + 1, i => if p i then cntW p f (i + 1) + 1 else 0
theorem cntW_le (p : Nat → Bool) : ∀ f i, cntW p f i ≤ f
  | 0, _ => Nat.le_refl _
  | f + 1, i => by
    rw [cntW]
    have := cntW_le p f (i + 1)
    split <;> omega
def alB (t : Nat → Int32) (x : Nat × Nat × Nat) (t' : Nat → Int32) (y : Nat × Nat × Nat) : Bool := decide (x.1 = y.1) && decide (x.2.2 = y.2.2) && (List.range x.2.2).all (fun j => decide (t (x.2.1 + j) = t' (y.2.1 + j)))
theorem alB_iff {t t' : Nat → Int32} {x y : Nat × Nat × Nat} : alB t x t' y = true ↔ tkA t x t' y := by
  unfold alB tkA
  simp only [Bool.and_eq_true, decide_eq_true_eq, List.all_eq_true, List.mem_range, and_assoc]
/-- the tokens of the last good TEXT, in a Moment and in the nodes -/
def OldX (I : zI) (k : Nat) (t : Nat → Int32) (l : List (Nat × Nat × Nat)) : Prop :=
  I.1 k 6 = zi l.length ∧ ∀ j x, l[j]? = some x → ∃ g : Nat, g < 3400 ∧ I.1 (k + 15) j = zi g ∧ I.1 28 g = zi (5 + x.1) ∧ I.1 36 g = zi x.2.2 ∧ I.1 38 g = hdT t x.2.1 x.2.2 ∧ I.1 40 g = tlT t x.2.1 x.2.2
theorem s_isLike {k g i : Nat} {t t' : Nat → Int32} {l : List (Nat × Nat × Nat)} {x y : Nat × Nat × Nat} {I : zI} {K : Int32 → Prop} (rep : RepT I k t l) (hi : l[i]? = some x) (hl : l.length ≤ 100) (hg : g < 3400) (h1 : I.1 28 g = zi (5 + y.1)) (h2 : I.1 36 g = zi y.2.2) (h3 : I.1 38 g = hdT t' y.2.1 y.2.2) (h4 : I.1 40 g = tlT t' y.2.1 y.2.2) (hx : tkOk t x) (hy : tkOk t' y)
    (hK : K (b01 (alB t' y t x))) : w_Nodes_isLike (zi g) k (zi i) I K := by
  have hil : i < 100 := by
    have := (List.getElem?_eq_some_iff.mp hi).1
    omega
  obtain ⟨r1, -, r3, r4, r5⟩ := rep.2 i x hi
  have hk1 := hx.1
  have hk2 := hy.1
  have hw1 := hx.2.1
  have hw2 := hy.2.1
  unfold w_Nodes_isLike
  rw [w_get (by decide), w_get (by decide), rg_in (by decide) hg, rg_in (by decide) hil, h1, r1, show (5 : Int32) + zi x.1 = zi (5 + x.1) from zi_add 5 _]
  have e0 := tkA_x hy hx
  have hfalse : ¬ tkA t' y t x → K 0 := fun q => by
    have : alB t' y t x = false := by
      cases hq : alB t' y t x with
      | false => rfl
      | true => exact absurd (alB_iff.mp hq) q
    rw [this] at hK
    exact hK
  by_cases q1 : y.1 = x.1
  · rw [if_pos (by rw [q1]), w_get (by decide), w_get (by decide), rg_in (by decide) hg, rg_in (by decide) hil, h2, r3]
    by_cases q2 : y.2.2 = x.2.2
    · rw [if_pos (by rw [q2]), w_get (by decide), w_get (by decide), rg_in (by decide) hg, rg_in (by decide) hil, h3, r4]
      by_cases q3 : hdT t' y.2.1 y.2.2 = hdT t x.2.1 x.2.2
      · rw [if_pos q3, w_get (by decide), w_get (by decide), rg_in (by decide) hg, rg_in (by decide) hil, h4, r5]
        by_cases q4 : tlT t' y.2.1 y.2.2 = tlT t x.2.1 x.2.2
        · rw [if_pos q4]
          rw [alB_iff.mpr (e0.mpr ⟨q1, q2, q3, q4⟩)] at hK
          exact hK
        · rw [if_neg q4]
          exact hfalse (fun r => q4 (e0.mp r).2.2.2)
      · rw [if_neg q3]
        exact hfalse (fun r => q3 (e0.mp r).2.2.1)
    · rw [if_neg (fun r => q2 ((zi_eq (by omega) (by omega)).mp r))]
      exact hfalse (fun r => q2 (e0.mp r).2.1)
  · rw [if_neg (fun r => q1 (by have := (zi_eq (by omega) (by omega)).mp r; omega))]
    exact hfalse (fun r => q1 (e0.mp r).1)
/-- the i-th ones of both are alike -/
def alA (t' : Nat → Int32) (l' : List (Nat × Nat × Nat)) (t : Nat → Int32) (l : List (Nat × Nat × Nat)) (i j : Nat) : Bool := match l'[i]?, l[j]? with
  | some y, some x => alB t' y t x
  | _, _ => false
/-- KEPT ahead: l' the last good TEXT's tokens, l the new ones -/
def kAhead (t' : Nat → Int32) (l' : List (Nat × Nat × Nat)) (t : Nat → Int32) (l : List (Nat × Nat × Nat)) : Nat := cntW (fun i => alA t' l' t l i i) (min l'.length l.length - 1) 0
/-- KEPT behind, END too -/
def kBehind (t' : Nat → Int32) (l' : List (Nat × Nat × Nat)) (t : Nat → Int32) (l : List (Nat × Nat × Nat)) : Nat := cntW (fun i => alA t' l' t l (l'.length - 2 - i) (l.length - 2 - i)) (min l'.length l.length - 1 - kAhead t' l' t l) 0 + 1
theorem s_keepAlike {k kt : Nat} {t t' : Nat → Int32} {l l' : List (Nat × Nat × Nat)} {I : zI} {K : zI → Prop} (hk : 113 ≤ k) (hkt : kt = 7 ∨ 113 ≤ kt) (rep : RepT I kt t l) (old : OldX I k t' l') (ho : I.1 64 5 = zi l'.length) (hn : I.1 64 6 = zi l.length) (hl0 : 1 ≤ l.length) (hl0' : 1 ≤ l'.length) (hl : l.length ≤ 100) (hl' : l'.length ≤ 100) (hok : ∀ x ∈ l, tkOk t x) (hok' : ∀ x ∈ l', tkOk t' x)
    (hK : ∀ J, eqQ (fun a j => a = 64 ∧ (j = 7 ∨ j = 8)) I J → J.1 64 7 = zi (kAhead t' l' t l) → J.1 64 8 = zi (kBehind t' l' t l) → K J) : w_Grower_keepAlike k kt I K := by
  unfold w_Grower_keepAlike
  intro v3 ev3
  have ev : v3 = zi (min l'.length l.length - 1) := by
    rw [ev3, hn, ho]
    by_cases q : l.length < l'.length
    · rw [if_pos ((zi_lt (by omega) (by omega)).mpr q), show (1 : Int32) = zi 1 from rfl, zi_sub hl0, show min l'.length l.length = l.length by omega]
    · rw [if_neg (fun r => q ((zi_lt (by omega) (by omega)).mp r)), show (1 : Int32) = zi 1 from rfl, zi_sub hl0', show min l'.length l.length = l'.length by omega]
  subst ev
  clear ev3
  generalize hb : min l'.length l.length - 1 = both
  intro I2 e2
  -- what a step's comparison answers, in any memory that differs at the two counts alone
  have cmp : ∀ (J : zI) (i j : Nat) (K2 : Int32 → Prop), eqQ (fun a j => a = 64 ∧ (j = 7 ∨ j = 8)) I J → i < l'.length → j < l.length → K2 (b01 (alA t' l' t l i j)) → w_Row_get (k + 14) 100 (zi i) J (fun r => w_Nodes_isLike r kt (zi j) J K2) := by
    intro J i j K2 e hi hj hK2
    obtain ⟨y, hy⟩ : ∃ y, l'[i]? = some y := ⟨l'[i], List.getElem?_eq_getElem hi⟩
    obtain ⟨x, hx⟩ : ∃ x, l[j]? = some x := ⟨l[j], List.getElem?_eq_getElem hj⟩
    obtain ⟨g, g0, g1, g2, g3, g4, g5⟩ := old.2 i y hy
    rw [w_get (by decide), rg_in (by decide) (by omega), e.1 (k + 14 + 1) i (by omega), g1]
    have rep' : RepT J kt t l := rep.kept (fun b h1 h2 => by
      funext q
      exact e.1 b q (by omega))
    refine s_isLike rep' hx hl g0 (by rw [e.1 _ _ (by omega)]; exact g2) (by rw [e.1 _ _ (by omega)]; exact g3) (by rw [e.1 _ _ (by omega)]; exact g4) (by rw [e.1 _ _ (by omega)]; exact g5) (hok x (List.mem_of_getElem? hx)) (hok' y (List.mem_of_getElem? hy)) ?_
    have : alA t' l' t l i j = alB t' y t x := by unfold alA; rw [hy, hx]
    rw [← this]
    exact hK2
  have hA : kAhead t' l' t l = cntW (fun i => alA t' l' t l i i) both 0 := by unfold kAhead; rw [hb]
  have hAle := cntW_le (fun i => alA t' l' t l i i) both 0
  rw [← hA] at hAle
  have hB : kBehind t' l' t l = cntW (fun i => alA t' l' t l (l'.length - 2 - i) (l.length - 2 - i)) (both - kAhead t' l' t l) 0 + 1 := by unfold kBehind; rw [hb]
  generalize kAhead t' l' t l = A at *
  generalize kBehind t' l' t l = Bh at *
  -- behind
  have back : ∀ (P66 : Prop) (J : zI), eqQ (fun a j => a = 64 ∧ (j = 7 ∨ j = 8)) I J → J.1 64 7 = zi A →
      ((∀ I_4, I_4 = (zu J 64 8 1) → ∀ (P71 : zI → Prop), (∀ (I_5 : zI), ((if (zi both - (I_5.1 64 7)) < (I_5.1 64 8) then K I_5 else (w_Row_get (k + 14) 100 (((I_5.1 64 5) - 1) - (I_5.1 64 8)) I_5 (fun r_6 => w_Nodes_isLike r_6 kt (((I_5.1 64 6) - 1) - (I_5.1 64 8)) I_5 (fun r_7 => (if r_7 = 0 then K I_5 else (∀ I_8, I_8 = (zu I_5 64 8 ((I_5.1 64 8) + 1)) → P71 I_8))))))) → P71 I_5) → P71 I_4) → P66) → P66 := by
    intro P66 J e hJ h66
    refine h66 (fun J1 e1 P71 h71 => ?_)
    have key : ∀ d b : Nat, b + d = both - A → b + cntW (fun i => alA t' l' t l (l'.length - 2 - i) (l.length - 2 - i)) d b + 1 = Bh → ∀ L : zI, eqQ (fun a j => a = 64 ∧ (j = 7 ∨ j = 8)) I L → L.1 64 7 = zi A → L.1 64 8 = zi (b + 1) → P71 L := by
      intro d
      induction d with
      | zero =>
        intro b hbd hc L eL h7 h8
        refine h71 _ ?_
        rw [h7, h8, zi_sub (by omega), if_pos ((zi_lt (by omega) (by omega)).mpr (by omega))]
        refine hK L eL h7 (by rw [h8]; congr 1)
      | succ d ih =>
        intro b hbd hc L eL h7 h8
        refine h71 _ ?_
        have g5 : L.1 64 5 = zi l'.length := by rw [eL.1 64 5 (by omega)]; exact ho
        have g6 : L.1 64 6 = zi l.length := by rw [eL.1 64 6 (by omega)]; exact hn
        rw [h7, h8, zi_sub (by omega), if_neg (fun r => by have := (zi_lt (by omega) (by omega)).mp r; omega), g5, g6]
        rw [show zi l'.length - 1 - zi (b + 1) = zi (l'.length - 2 - b) by
          rw [show (1 : Int32) = zi 1 from rfl, zi_sub (by omega), zi_sub (by omega)]
          congr 1
          omega, show zi l.length - 1 - zi (b + 1) = zi (l.length - 2 - b) by
          rw [show (1 : Int32) = zi 1 from rfl, zi_sub (by omega), zi_sub (by omega)]
          congr 1
          omega]
        refine cmp L _ _ _ eL (by omega) (by omega) ?_
        rw [cntW] at hc
        cases hal : alA t' l' t l (l'.length - 2 - b) (l.length - 2 - b) with
        | true =>
          rw [if_neg (by decide)]
          rw [hal, if_pos rfl] at hc
          intro L2 eL2
          rw [zi_succ] at eL2
          subst eL2
          exact ih (b + 1) (by omega) (by omega) _ (eL.zu ⟨rfl, Or.inr rfl⟩) (by rw [zu_i (by omega)]; exact h7) zu_self
        | false =>
          rw [if_pos (by decide)]
          rw [hal, if_neg (by decide)] at hc
          exact hK L eL h7 (by rw [h8]; congr 1)
    subst e1
    exact key (both - A) 0 (by omega) (by omega) _ (e.zu ⟨rfl, Or.inr rfl⟩) (by rw [zu_i (by omega)]; exact hJ) zu_self
  intro P19 h19
  have key : ∀ d a : Nat, a + d = both → a + cntW (fun i => alA t' l' t l i i) d a = A → ∀ J : zI, eqQ (fun a j => a = 64 ∧ (j = 7 ∨ j = 8)) I J → J.1 64 7 = zi a → P19 J := by
    intro d
    induction d with
    | zero =>
      intro a had hc J e hJ
      refine h19 _ ?_
      intro P66 h66
      rw [hJ, if_pos ((zi_le (by omega) (by omega)).mpr (by omega))]
      exact back P66 J e (by rw [hJ]; congr 1) h66
    | succ d ih =>
      intro a had hc J e hJ
      refine h19 _ ?_
      intro P66 h66
      have hback : J.1 64 7 = zi A → P66 := fun q => back P66 J e q h66
      rw [hJ, if_neg (fun r => by have := (zi_le (by omega) (by omega)).mp r; omega)]
      refine cmp J a a _ e (by omega) (by omega) ?_
      rw [cntW] at hc
      cases hal : alA t' l' t l a a with
      | true =>
        rw [if_neg (by decide)]
        rw [hal, if_pos rfl] at hc
        intro J2 e2
        rw [zi_succ] at e2
        subst e2
        exact ih (a + 1) (by omega) (by omega) _ (e.zu ⟨rfl, Or.inl rfl⟩) zu_self
      | false =>
        rw [if_pos (by decide)]
        rw [hal, if_neg (by decide)] at hc
        exact hback (by rw [hJ]; congr 1)
  subst e2
  exact key both 0 (by omega) (by rw [Nat.zero_add]; exact hA.symm) _ (eqQ.rf.zu ⟨rfl, Or.inl rfl⟩) zu_self
/-! ===== KEPT: the model ===== -/
/-- the last good TEXT's tokens in the model -/
def OldU (I : zI) (t : Nat → Int32) (l : List (Nat × Nat × Nat)) : Prop :=
  I.1 491 19 = zi l.length ∧ ∀ j x, l[j]? = some x → I.1 504 j = zi x.1 ∧ I.1 505 j = zi x.2.1 ∧ I.1 506 j = zi x.2.2 ∧ I.2 507 j = isV t x
theorem lg_cmp0 {x y : Int64} : lg_cmp x y = 0 ↔ x = y := by
  unfold lg_cmp
  constructor
  · intro h
    split at h
    · exact absurd h (by decide)
    · split at h
      · assumption
      · exact absurd h (by decide)
  · rintro rfl
    have h1 : ¬ x < x := Int64.lt_irrefl
    simp [h1]
theorem s_areAlike {i j : Nat} {t t' : Nat → Int32} {l l' : List (Nat × Nat × Nat)} {I : zI} {K : Int32 → Prop} (rep : RepU I t l) (old : OldU I t' l') (hi : i < l.length) (hj : j < l'.length) (hl : l.length ≤ 100) (hl' : l'.length ≤ 100) (hok : ∀ x ∈ l, tkOk t x) (hok' : ∀ x ∈ l', tkOk t' x) (hK : K (b01 (alA t' l' t l j i))) : w_M_areAlike (zi i) (zi j) I K := by
  obtain ⟨y, hy⟩ : ∃ y, l'[j]? = some y := ⟨l'[j], List.getElem?_eq_getElem hj⟩
  obtain ⟨x, hx⟩ : ∃ x, l[i]? = some x := ⟨l[i], List.getElem?_eq_getElem hi⟩
  obtain ⟨a1, -, a3, a4⟩ := rep.2 i x hx
  obtain ⟨b1, -, b3, b4⟩ := old.2 j y hy
  have ox := hok x (List.mem_of_getElem? hx)
  have oy := hok' y (List.mem_of_getElem? hy)
  have e0 := tkA_m oy ox
  have hx1 := ox.1
  have hy1 := oy.1
  have hx2 := ox.2.1
  have hy2 := oy.2.1
  have eA : alA t' l' t l j i = alB t' y t x := by unfold alA; rw [hy, hx]
  rw [eA] at hK
  have hfalse : ¬ tkA t' y t x → K 0 := fun q => by
    have : alB t' y t x = false := by
      cases hq : alB t' y t x with
      | false => rfl
      | true => exact absurd (alB_iff.mp hq) q
    rw [this] at hK
    exact hK
  have hi1 : vp_in (zi i) 710 := (zin_iff (by omega)).mpr (by omega)
  have hj1 : vp_in (zi j) 110 := (zin_iff (by omega)).mpr (by omega)
  unfold w_M_areAlike
  refine ⟨hi1, hj1, ?_⟩
  rw [zi_tn (by omega), zi_tn (by omega), a1, b1]
  by_cases q1 : x.1 = y.1
  · rw [if_pos (by rw [q1])]
    refine ⟨hi1, hj1, ?_⟩
    rw [a3, b3]
    by_cases q2 : x.2.2 = y.2.2
    · rw [if_pos (by rw [q2])]
      refine ⟨hi1, hj1, ?_⟩
      rw [a4, b4]
      by_cases q3 : isV t x = isV t' y
      · rw [if_pos (lg_cmp0.mpr q3)]
        rw [alB_iff.mpr (e0.mpr ⟨q1.symm, q2.symm, q3.symm⟩)] at hK
        exact hK
      · rw [if_neg (fun r => q3 (lg_cmp0.mp r))]
        exact hfalse (fun r => q3 (e0.mp r).2.2.symm)
    · rw [if_neg (fun r => q2 ((zi_eq (by omega) (by omega)).mp r))]
      exact hfalse (fun r => q2 (e0.mp r).2.1.symm)
  · rw [if_neg (fun r => q1 ((zi_eq (by omega) (by omega)).mp r))]
    exact hfalse (fun r => q1 (e0.mp r).1.symm)
theorem s_fillsKept {t t' : Nat → Int32} {l l' : List (Nat × Nat × Nat)} {I : zI} {K : zI → Prop} (rep : RepU I t l) (old : OldU I t' l') (hl0 : 1 ≤ l.length) (hl0' : 1 ≤ l'.length) (hl : l.length ≤ 100) (hl' : l'.length ≤ 100) (hok : ∀ x ∈ l, tkOk t x) (hok' : ∀ x ∈ l', tkOk t' x)
    (hK : ∀ J, eqQ (fun a j => a = 491 ∧ (j = 66 ∨ j = 67)) I J → J.1 491 66 = zi (kAhead t' l' t l) → J.1 491 67 = zi (kBehind t' l' t l) → K J) : w_M_fillsKept I K := by
  intro v1 e1 v2 e2
  rw [rep.1, show (1 : Int32) = zi 1 from rfl, zi_sub hl0] at e1
  rw [old.1, show (1 : Int32) = zi 1 from rfl, zi_sub hl0'] at e2
  subst e1 e2
  have hA : kAhead t' l' t l = cntW (fun i => alA t' l' t l i i) (min l'.length l.length - 1) 0 := rfl
  have hB : kBehind t' l' t l = cntW (fun i => alA t' l' t l (l'.length - 2 - i) (l.length - 2 - i)) (min l'.length l.length - 1 - kAhead t' l' t l) 0 + 1 := rfl
  generalize hb : min l'.length l.length - 1 = both at hA hB
  have hAle := cntW_le (fun i => alA t' l' t l i i) both 0
  rw [← hA] at hAle
  generalize kAhead t' l' t l = A at *
  generalize kBehind t' l' t l = Bh at *
  have back : ∀ I4 : zI, I4 = zu I 491 66 (zi A) → ∀ (P48 : Int32 → Prop), (∀ (v3_5 : Int32), (∀ (P91 : Prop), ((∀ I_6, I_6 = (zu I4 491 67 (v3_5 + 1)) → K I_6) → P91) → (if (zi (l.length - 1) - (I4.1 491 66)) ≤ v3_5 then P91 else (if (zi (l'.length - 1) - (I4.1 491 66)) ≤ v3_5 then P91 else (w_M_areAlike ((zi (l.length - 1) - 1) - v3_5) ((zi (l'.length - 1) - 1) - v3_5) I4 (fun r_7 => (if r_7 = 0 then P91 else (∀ v3_8, v3_8 = (v3_5 + 1) → P48 v3_8))))))) → P48 v3_5) → P48 0 := by
    intro I4 e4 P48 h48
    have eq4 : eqQ (fun a j => a = 491 ∧ (j = 66 ∨ j = 67)) I I4 := by rw [e4]; exact eqQ.rf.zu ⟨rfl, Or.inl rfl⟩
    have f66 : I4.1 491 66 = zi A := by rw [e4, zu_self]
    have rep4 : RepU I4 t l := ⟨by rw [eq4.1 491 9 (by omega)]; exact rep.1, fun j x hx => by
      rw [eq4.1 496 j (by omega), eq4.1 497 j (by omega), eq4.1 498 j (by omega), eq4.2 499 j (by omega)]
      exact rep.2 j x hx⟩
    have old4 : OldU I4 t' l' := ⟨by rw [eq4.1 491 19 (by omega)]; exact old.1, fun j x hx => by
      rw [eq4.1 504 j (by omega), eq4.1 505 j (by omega), eq4.1 506 j (by omega), eq4.2 507 j (by omega)]
      exact old.2 j x hx⟩
    have stop : ∀ b : Nat, b + 1 = Bh → ∀ P91 : Prop, ((∀ I_6, I_6 = (zu I4 491 67 (zi b + 1)) → K I_6) → P91) → P91 := by
      intro b hbb P91 h91
      refine h91 (fun I6 e6 => ?_)
      rw [zi_succ] at e6
      subst e6
      exact hK _ (eq4.zu ⟨rfl, Or.inr rfl⟩) (by rw [zu_i (by omega)]; exact f66) (by rw [zu_self, hbb])
    have key : ∀ d b : Nat, b + d = both - A → b + cntW (fun i => alA t' l' t l (l'.length - 2 - i) (l.length - 2 - i)) d b + 1 = Bh → P48 (zi b) := by
      intro d
      induction d with
      | zero =>
        intro b hbd hc
        refine h48 _ ?_
        intro P91 h91
        have s1 := stop b (by rw [← hc]; rfl) P91 h91
        rw [f66, zi_sub (by omega), zi_sub (by omega)]
        by_cases q : l.length - 1 - A ≤ b
        · rw [if_pos ((zi_le (by omega) (by omega)).mpr q)]
          exact s1
        · rw [if_neg (fun r => q ((zi_le (by omega) (by omega)).mp r)), if_pos ((zi_le (by omega) (by omega)).mpr (by omega))]
          exact s1
      | succ d ih =>
        intro b hbd hc
        refine h48 _ ?_
        intro P91 h91
        rw [f66, zi_sub (by omega), zi_sub (by omega), if_neg (fun r => by have := (zi_le (by omega) (by omega)).mp r; omega), if_neg (fun r => by have := (zi_le (by omega) (by omega)).mp r; omega)]
        rw [show zi (l.length - 1) - 1 - zi b = zi (l.length - 2 - b) by
          rw [show (1 : Int32) = zi 1 from rfl, zi_sub (by omega), zi_sub (by omega)]
          congr 1, show zi (l'.length - 1) - 1 - zi b = zi (l'.length - 2 - b) by
          rw [show (1 : Int32) = zi 1 from rfl, zi_sub (by omega), zi_sub (by omega)]
          congr 1]
        refine s_areAlike rep4 old4 (by omega) (by omega) hl hl' hok hok' ?_
        rw [cntW] at hc
        cases hal : alA t' l' t l (l'.length - 2 - b) (l.length - 2 - b) with
        | true =>
          rw [if_neg (by decide)]
          rw [hal, if_pos rfl] at hc
          intro v ev
          rw [zi_succ] at ev
          subst ev
          exact ih (b + 1) (by omega) (by omega)
        | false =>
          rw [if_pos (by decide)]
          rw [hal, if_neg (by decide)] at hc
          exact stop b (by omega) P91 h91
    exact key (both - A) 0 (by omega) (by omega)
  intro P16 h16
  have key : ∀ d a : Nat, a + d = both → a + cntW (fun i => alA t' l' t l i i) d a = A → P16 (zi a) := by
    intro d
    induction d with
    | zero =>
      intro a had hc
      have hc' : a = A := by rw [← hc]; rfl
      refine h16 _ ?_
      intro P41 h41
      have s1 : P41 := h41 (fun I4 e4 => back I4 (by rw [e4, hc']))
      by_cases q : l.length - 1 ≤ a
      · rw [if_pos ((zi_le (by omega) (by omega)).mpr q)]
        exact s1
      · rw [if_neg (fun r => q ((zi_le (by omega) (by omega)).mp r)), if_pos ((zi_le (by omega) (by omega)).mpr (by omega))]
        exact s1
    | succ d ih =>
      intro a had hc
      refine h16 _ ?_
      intro P41 h41
      rw [if_neg (fun r => by have := (zi_le (by omega) (by omega)).mp r; omega), if_neg (fun r => by have := (zi_le (by omega) (by omega)).mp r; omega)]
      refine s_areAlike rep old (by omega) (by omega) hl hl' hok hok' ?_
      rw [cntW] at hc
      cases hal : alA t' l' t l a a with
      | true =>
        rw [if_neg (by decide)]
        rw [hal, if_pos rfl] at hc
        intro v ev
        rw [zi_succ] at ev
        subst ev
        exact ih (a + 1) (by omega) (by omega)
      | false =>
        rw [if_pos (by decide)]
        rw [hal, if_neg (by decide)] at hc
        have hc' : a = A := by omega
        exact h41 (fun I4 e4 => back I4 (by rw [e4, hc']))
  exact key both 0 (by omega) (by rw [Nat.zero_add]; exact hA.symm)
/-! ===== the tape ===== -/
/-- a byte of a number, from so many bits on -/
def byW (w s : Int32) : Int32 := (w >>> (s &&& 31)) &&& 255
theorem byW_u24 (w : Int32) : ((w.toUInt32 >>> ((24 : Int32).toUInt32 &&& Int32.toUInt32 31)).toInt32) &&& 255 = byW w 24 := by
  apply Int32.toBitVec_inj.mp
  show ((w.toBitVec >>> (24 : Nat)) &&& (255#32)) = (w.toBitVec.sshiftRight 24 &&& 255#32)
  apply BitVec.eq_of_getLsbD_eq
  intro i hi
  rw [BitVec.getLsbD_and, BitVec.getLsbD_and, BitVec.getLsbD_ushiftRight, BitVec.getLsbD_sshiftRight]
  by_cases h : i < 8
  · simp [show 24 + i < 32 by omega, show ¬ 32 ≤ i by omega]
  · have : (255#32).getLsbD i = false := by
      have h2 : ∀ i, i < 32 → ¬ i < 8 → (255#32).getLsbD i = false := by decide
      exact h2 i hi h
    rw [this, Bool.and_false, Bool.and_false]
theorem byW_u16 (w : Int32) : ((w.toUInt32 >>> ((16 : Int32).toUInt32 &&& Int32.toUInt32 31)).toInt32) &&& 255 = byW w 16 := by
  apply Int32.toBitVec_inj.mp
  show ((w.toBitVec >>> (16 : Nat)) &&& (255#32)) = (w.toBitVec.sshiftRight 16 &&& 255#32)
  apply BitVec.eq_of_getLsbD_eq
  intro i hi
  rw [BitVec.getLsbD_and, BitVec.getLsbD_and, BitVec.getLsbD_ushiftRight, BitVec.getLsbD_sshiftRight]
  by_cases h : i < 8
  · simp [show 16 + i < 32 by omega, show ¬ 32 ≤ i by omega]
  · have : (255#32).getLsbD i = false := by
      have h2 : ∀ i, i < 32 → ¬ i < 8 → (255#32).getLsbD i = false := by decide
      exact h2 i hi h
    rw [this, Bool.and_false, Bool.and_false]
theorem byW_u8 (w : Int32) : ((w.toUInt32 >>> ((8 : Int32).toUInt32 &&& Int32.toUInt32 31)).toInt32) &&& 255 = byW w 8 := by
  apply Int32.toBitVec_inj.mp
  show ((w.toBitVec >>> (8 : Nat)) &&& (255#32)) = (w.toBitVec.sshiftRight 8 &&& 255#32)
  apply BitVec.eq_of_getLsbD_eq
  intro i hi
  rw [BitVec.getLsbD_and, BitVec.getLsbD_and, BitVec.getLsbD_ushiftRight, BitVec.getLsbD_sshiftRight]
  by_cases h : i < 8
  · simp [show 8 + i < 32 by omega, show ¬ 32 ≤ i by omega]
  · have : (255#32).getLsbD i = false := by
      have h2 : ∀ i, i < 32 → ¬ i < 8 → (255#32).getLsbD i = false := by decide
      exact h2 i hi h
    rw [this, Bool.and_false, Bool.and_false]
theorem byW_u0 (w : Int32) : ((w.toUInt32 >>> ((0 : Int32).toUInt32 &&& Int32.toUInt32 31)).toInt32) &&& 255 = byW w 0 := by
  apply Int32.toBitVec_inj.mp
  show ((w.toBitVec >>> (0 : Nat)) &&& (255#32)) = (w.toBitVec.sshiftRight 0 &&& 255#32)
  apply BitVec.eq_of_getLsbD_eq
  intro i hi
  rw [BitVec.getLsbD_and, BitVec.getLsbD_and, BitVec.getLsbD_ushiftRight, BitVec.getLsbD_sshiftRight]
  by_cases h : i < 8
  · simp [hi, show ¬ 32 ≤ i by omega]
  · have : (255#32).getLsbD i = false := by
      have h2 : ∀ i, i < 32 → ¬ i < 8 → (255#32).getLsbD i = false := by decide
      exact h2 i hi h
    rw [this, Bool.and_false, Bool.and_false]
def by4 (w : Int32) : List Int32 := [byW w 24, byW w 16, byW w 8, byW w 0]
/-- the tape: the class's, the model's -/
def TapX (I : zI) (tp : List Int32) : Prop := I.1 0 1 = zi tp.length ∧ ∀ j v, tp[j]? = some v → I.1 2 j = v
def TapM (I : zI) (tp : List Int32) : Prop := I.1 491 0 = zi tp.length ∧ ∀ j v, tp[j]? = some v → I.1 492 j = v
def Qtx (a j : Nat) : Prop := (a = 0 ∧ j = 1) ∨ a = 2
def Qtm (a j : Nat) : Prop := (a = 491 ∧ j = 0) ∨ a = 492
theorem app_get {tp : List Int32} {v x : Int32} {j : Nat} (h : (tp ++ [v])[j]? = some x) : (j < tp.length ∧ tp[j]? = some x) ∨ (j = tp.length ∧ x = v) := by
  by_cases hj : j < tp.length
  · rw [List.getElem?_append_left hj] at h
    exact Or.inl ⟨hj, h⟩
  · have h2 := (List.getElem?_eq_some_iff.mp h).1
    rw [List.length_append, List.length_singleton] at h2
    have hj2 : j = tp.length := by omega
    subst hj2
    rw [List.getElem?_append_right (Nat.le_refl _), Nat.sub_self] at h
    cases h
    exact Or.inr ⟨rfl, rfl⟩
theorem TapX.push {I : zI} {tp : List Int32} (h : TapX I tp) (v : Int32) : TapX (zu (zu I 2 tp.length v) 0 1 (zi (tp.length + 1))) (tp ++ [v]) := by
  refine ⟨by rw [zu_self, List.length_append]; rfl, fun j x hx => ?_⟩
  rw [zu_oo (by omega), zu_at]
  rcases app_get hx with ⟨h1, h2⟩ | ⟨h1, h2⟩
  · rw [if_neg (by omega)]
    exact h.2 j x h2
  · rw [if_pos ⟨rfl, h1⟩, h2]
theorem TapM.push {I : zI} {tp : List Int32} (h : TapM I tp) (v : Int32) : TapM (zu (zu I 492 tp.length v) 491 0 (zi (tp.length + 1))) (tp ++ [v]) := by
  refine ⟨by rw [zu_self, List.length_append]; rfl, fun j x hx => ?_⟩
  rw [zu_oo (by omega), zu_at]
  rcases app_get hx with ⟨h1, h2⟩ | ⟨h1, h2⟩
  · rw [if_neg (by omega)]
    exact h.2 j x h2
  · rw [if_pos ⟨rfl, h1⟩, h2]
theorem s_feedFour {w : Int32} {tp : List Int32} {I : zI} {K : zI → Prop} (ht : TapX I tp) (hl : tp.length + 4 ≤ 200) (hK : ∀ J, eqQ Qtx I J → TapX J (tp ++ by4 w) → K J) : w_Desk_feedFour w I K := by
  intro P hP
  have step : ∀ (s s2 : Int32) (J : zI) (q : List Int32), TapX J q → q.length < 200 → ¬ s < 0 → s + (-8) = s2 → ((w.toUInt32 >>> (s.toUInt32 &&& Int32.toUInt32 31)).toInt32) &&& 255 = byW w s → P s2 (zu (zu J 2 q.length (byW w s)) 0 1 (zi (q.length + 1))) → P s J := by
    intro s s2 J q hq hql hs hs2 hb hp
    refine hP _ _ ?_
    rw [if_neg hs, w_set (by decide), hq.1, rs_in (by decide) hql, hb]
    intro J2 e2 v ev
    rw [show (zu J (1 + 1) q.length (byW w s)).1 0 1 = zi q.length by rw [zu_oo (by omega)]; exact hq.1, zi_succ] at e2
    subst e2 ev
    rw [hs2]
    exact hp
  have q0 : eqQ Qtx I I := eqQ.rf
  have hn : ∀ {J : zI} {a b c : Nat} {x y : Int32}, a = 2 → eqQ Qtx I J → eqQ Qtx I (zu (zu J a b x) 0 1 y) := fun ha h => (h.zu (Or.inr ha)).zu (Or.inl ⟨rfl, rfl⟩)
  refine step 24 16 I tp ht (by omega) (by decide) (by decide) (byW_u24 w) ?_
  refine step 16 8 _ _ (ht.push _) (by rw [List.length_append, List.length_singleton]; omega) (by decide) (by decide) (byW_u16 w) ?_
  refine step 8 0 _ _ ((ht.push _).push _) (by simp only [List.length_append, List.length_singleton]; omega) (by decide) (by decide) (byW_u8 w) ?_
  refine step 0 (-8) _ _ (((ht.push _).push _).push _) (by simp only [List.length_append, List.length_singleton]; omega) (by decide) (by decide) (byW_u0 w) ?_
  refine hP _ _ ?_
  rw [if_pos (by decide)]
  refine hK _ (hn (c := 0) rfl (hn (c := 0) rfl (hn (c := 0) rfl (hn (c := 0) rfl q0)))) ?_
  have := (((ht.push (byW w 24)).push (byW w 16)).push (byW w 8)).push (byW w 0)
  rw [show tp ++ by4 w = (((tp ++ [byW w 24]) ++ [byW w 16]) ++ [byW w 8]) ++ [byW w 0] by simp [by4]]
  exact this
theorem s_lays {w : Int32} {tp : List Int32} {I : zI} {K : zI → Prop} (ht : TapM I tp) (hl : tp.length + 4 ≤ 200) (hK : ∀ J, eqQ Qtm I J → TapM J (tp ++ by4 w) → K J) : w_M_lays w I K := by
  intro P hP
  have step : ∀ (s s2 : Int32) (J : zI) (q : List Int32), TapM J q → q.length < 200 → ¬ s < 0 → s + (-8) = s2 → P s2 (zu (zu J 492 q.length (byW w s)) 491 0 (zi (q.length + 1))) → P s J := by
    intro s s2 J q hq hql hs hs2 hp
    refine hP _ _ ?_
    rw [if_neg hs, hq.1]
    refine ⟨(zin_iff (by omega)).mpr (by omega), ?_⟩
    intro J1 e1 J2 e2 v ev
    rw [zi_tn (by omega)] at e1
    rw [e1, show (zu J 492 q.length ((w >>> (s &&& 31)) &&& 255)).1 491 0 = zi q.length by rw [zu_oo (by omega)]; exact hq.1, zi_succ] at e2
    subst e2 ev
    rw [hs2]
    exact hp
  have q0 : eqQ Qtm I I := eqQ.rf
  have hn : ∀ {J : zI} {a b c : Nat} {x y : Int32}, a = 492 → eqQ Qtm I J → eqQ Qtm I (zu (zu J a b x) 491 0 y) := fun ha h => (h.zu (Or.inr ha)).zu (Or.inl ⟨rfl, rfl⟩)
  refine step 24 16 I tp ht (by omega) (by decide) (by decide) ?_
  refine step 16 8 _ _ (ht.push _) (by rw [List.length_append, List.length_singleton]; omega) (by decide) (by decide) ?_
  refine step 8 0 _ _ ((ht.push _).push _) (by simp only [List.length_append, List.length_singleton]; omega) (by decide) (by decide) ?_
  refine step 0 (-8) _ _ (((ht.push _).push _).push _) (by simp only [List.length_append, List.length_singleton]; omega) (by decide) (by decide) ?_
  refine hP _ _ ?_
  rw [if_pos (by decide)]
  refine hK _ (hn (c := 0) rfl (hn (c := 0) rfl (hn (c := 0) rfl (hn (c := 0) rfl q0)))) ?_
  have := (((ht.push (byW w 24)).push (byW w 16)).push (byW w 8)).push (byW w 0)
  rw [show tp ++ by4 w = (((tp ++ [byW w 24]) ++ [byW w 16]) ++ [byW w 8]) ++ [byW w 0] by simp [by4]]
  exact this
/-- twenty bytes more -/
def by20 (a b c d e : Int32) : List Int32 := by4 a ++ (by4 b ++ (by4 c ++ (by4 d ++ by4 e)))
theorem by4_len (w : Int32) : (by4 w).length = 4 := rfl
theorem s_feed {a b c d e : Int32} {tp : List Int32} {I : zI} {K : Int32 → zI → Prop} (ht : TapX I tp) (hl : tp.length ≤ 200)
    (h1 : tp.length + 20 ≤ 200 → ∀ J, eqQ Qtx I J → TapX J (tp ++ by20 a b c d e) → K (zi (tp.length + 20)) J) (h0 : ¬ tp.length + 20 ≤ 200 → K (-1) I) : w_Desk_feed a b c d e I K := by
  unfold w_Desk_feed
  rw [ht.1, show zi tp.length + 20 = zi (tp.length + 20) from zi_add _ 20]
  by_cases q : tp.length + 20 ≤ 200
  · rw [if_pos (show zi (tp.length + 20) ≤ 200 from (zi_le (by omega) (by decide)).mpr q)]
    refine s_feedFour ht (by omega) (fun J1 e1 t1 => ?_)
    refine s_feedFour t1 (by simp only [List.length_append, by4_len]; omega) (fun J2 e2 t2 => ?_)
    refine s_feedFour t2 (by simp only [List.length_append, by4_len]; omega) (fun J3 e3 t3 => ?_)
    refine s_feedFour t3 (by simp only [List.length_append, by4_len]; omega) (fun J4 e4 t4 => ?_)
    refine s_feedFour t4 (by simp only [List.length_append, by4_len]; omega) (fun J5 e5 t5 => ?_)
    have e0 : tp ++ by4 a ++ by4 b ++ by4 c ++ by4 d ++ by4 e = tp ++ by20 a b c d e := by simp only [by20, List.append_assoc]
    rw [e0] at t5
    have hlen : (tp ++ by20 a b c d e).length = tp.length + 20 := by
      simp only [by20, List.length_append, by4_len]
    rw [t5.1, hlen]
    exact h1 q J5 ((((e1.tr e2).tr e3).tr e4).tr e5) t5
  · rw [if_neg (show ¬ zi (tp.length + 20) ≤ 200 from fun r => q ((zi_le (by omega) (by decide)).mp r))]
    exact h0 q
theorem s_Mfeed {a b c d e : Int32} {tp : List Int32} {I : zI} {K : Int32 → zI → Prop} (ht : TapM I tp) (hl : tp.length ≤ 200)
    (h1 : tp.length + 20 ≤ 200 → ∀ J, eqQ Qtm I J → TapM J (tp ++ by20 a b c d e) → K (zi (tp.length + 20)) J) (h0 : ¬ tp.length + 20 ≤ 200 → K (-1) I) : w_M_feed a b c d e I K := by
  unfold w_M_feed
  rw [ht.1, show zi tp.length + 20 = zi (tp.length + 20) from zi_add _ 20]
  by_cases q : tp.length + 20 ≤ 200
  · rw [if_pos (show zi (tp.length + 20) ≤ 200 from (zi_le (by omega) (by decide)).mpr q)]
    refine s_lays ht (by omega) (fun J1 e1 t1 => ?_)
    refine s_lays t1 (by simp only [List.length_append, by4_len]; omega) (fun J2 e2 t2 => ?_)
    refine s_lays t2 (by simp only [List.length_append, by4_len]; omega) (fun J3 e3 t3 => ?_)
    refine s_lays t3 (by simp only [List.length_append, by4_len]; omega) (fun J4 e4 t4 => ?_)
    refine s_lays t4 (by simp only [List.length_append, by4_len]; omega) (fun J5 e5 t5 => ?_)
    have e0 : tp ++ by4 a ++ by4 b ++ by4 c ++ by4 d ++ by4 e = tp ++ by20 a b c d e := by simp only [by20, List.append_assoc]
    rw [e0] at t5
    have hlen : (tp ++ by20 a b c d e).length = tp.length + 20 := by
      simp only [by20, List.length_append, by4_len]
    rw [t5.1, hlen]
    exact h1 q J5 ((((e1.tr e2).tr e3).tr e4).tr e5) t5
  · rw [if_neg (show ¬ zi (tp.length + 20) ≤ 200 from fun r => q ((zi_le (by omega) (by decide)).mp r))]
    exact h0 q
/-- how many bytes back takes; none: it is refused -/
def backN (tp : List Int32) (n : Int32) : Option Nat := if n < 0 then none else if zi tp.length < n then none else some n.toNatClampNeg
theorem s_back {n : Int32} {tp : List Int32} {I : zI} {K : Int32 → zI → Prop} (ht : TapX I tp) (hl : tp.length ≤ 200) (h1 : ∀ k, backN tp n = some k → ∀ J, eqQ Qtx I J → TapX J (tp.take (tp.length - k)) → K (zi (tp.length - k)) J) (h0 : backN tp n = none → K (-1) I) : w_Desk_back n I K := by
  unfold w_Desk_back
  rw [ht.1]
  unfold backN at h1 h0
  by_cases q : n < 0
  · rw [if_pos q]
    rw [if_pos q] at h0
    exact h0 rfl
  · rw [if_neg q] at h0 h1 ⊢
    obtain ⟨a, ha, rfl⟩ := zi_of (Int32.not_lt.mp q)
    by_cases q2 : zi tp.length < zi a
    · rw [if_neg (Int32.not_le.mpr q2)]
      rw [if_pos q2] at h0
      exact h0 rfl
    · have q3 := (zi_le ha (by omega)).mp (Int32.not_lt.mp q2)
      rw [if_neg q2] at h1
      rw [if_pos (Int32.not_lt.mp q2), zi_sub q3]
      intro J e
      subst e
      rw [zu_self]
      refine h1 a (by rw [zi_tn ha]) _ (eqQ.rf.zu (Or.inl ⟨rfl, rfl⟩)) ⟨by rw [zu_self, List.length_take]; congr 1; omega, fun j v hv => ?_⟩
      rw [zu_oo (by omega)]
      rw [List.getElem?_take] at hv
      split at hv
      · exact ht.2 j v hv
      · cases hv
theorem s_Mback {n : Int32} {tp : List Int32} {I : zI} {K : Int32 → zI → Prop} (ht : TapM I tp) (hl : tp.length ≤ 200) (h1 : ∀ k, backN tp n = some k → ∀ J, eqQ Qtm I J → TapM J (tp.take (tp.length - k)) → K (zi (tp.length - k)) J) (h0 : backN tp n = none → K (-1) I) : w_M_back n I K := by
  unfold w_M_back
  rw [ht.1]
  unfold backN at h1 h0
  by_cases q : n < 0
  · rw [if_pos q]
    rw [if_pos q] at h0
    exact h0 rfl
  · rw [if_neg q] at h0 h1 ⊢
    obtain ⟨a, ha, rfl⟩ := zi_of (Int32.not_lt.mp q)
    by_cases q2 : zi tp.length < zi a
    · rw [if_neg (Int32.not_le.mpr q2)]
      rw [if_pos q2] at h0
      exact h0 rfl
    · have q3 := (zi_le ha (by omega)).mp (Int32.not_lt.mp q2)
      rw [if_neg q2] at h1
      rw [if_pos (Int32.not_lt.mp q2), zi_sub q3]
      intro J e
      subst e
      rw [zu_self]
      refine h1 a (by rw [zi_tn ha]) _ (eqQ.rf.zu (Or.inl ⟨rfl, rfl⟩)) ⟨by rw [zu_self, List.length_take]; congr 1; omega, fun j v hv => ?_⟩
      rw [zu_oo (by omega)]
      rw [List.getElem?_take] at hv
      split at hv
      · exact ht.2 j v hv
      · cases hv
/-! ===== STATES and RULES ===== -/
/-- where a STATE leads by a symbol (0 .. 4) or a KIND (5 ..); 0: nowhere -/
def ldN (s y : Nat) : Nat := (zst_LEADS.getD (s * 17 + y) 0).toNatClampNeg
/-- a STATE's RULE -/
def rlN (s : Nat) : Option Nat := if zst_STATE_RULE.getD s 0 < 0 then none else some (zst_STATE_RULE.getD s 0).toNatClampNeg
def syN (r : Nat) : Nat := (zst_RULE_SYMBOL.getD r 0).toNatClampNeg
def lnN (r : Nat) : Nat := (zst_RULE_LENGTH.getD r 0).toNatClampNeg
def rlI (s : Nat) : Int32 := match rlN s with
  | some r => zi r
  | none => -1
set_option maxRecDepth 100000 in
theorem ld_fin : ∀ i, i < 357 → zst_LEADS.getD i 0 = zi (zst_LEADS.getD i 0).toNatClampNeg ∧ (zst_LEADS.getD i 0).toNatClampNeg < 21 := by decide +kernel
theorem rl_fin : ∀ s, s < 21 → zst_STATE_RULE.getD s 0 = rlI s := by decide +kernel
theorem rl_lt : ∀ s, s < 21 → ∀ r, r = rlN s → (r.getD 0) < 11 := by
  intro s hs r hr
  subst hr
  revert s
  decide +kernel
theorem sy_fin : ∀ r, r < 11 → zst_RULE_SYMBOL.getD r 0 = zi (syN r) ∧ syN r < 5 := by decide +kernel
theorem ln_fin : ∀ r, r < 11 → zst_RULE_LENGTH.getD r 0 = zi (lnN r) ∧ lnN r ≤ 4 := by decide +kernel
theorem ldN_lt {s y : Nat} (hs : s < 21) (hy : y < 17) : ldN s y < 21 := (ld_fin (s * 17 + y) (by omega)).2
theorem rlN_lt {s r : Nat} (hs : s < 21) (h : rlN s = some r) : r < 11 := by
  have := rl_lt s hs _ rfl
  rw [h] at this
  exact this
set_option maxRecDepth 100000 in
theorem zst_LEADS_len : zst_LEADS.length = 357 := by decide +kernel
theorem s_leadsTo {s y : Nat} {I : zI} {K : Int32 → Prop} (hs : s < 21) (hy : y < 17) (h : K (zi (ldN s y))) : w_Desk_leadsTo (zi s) (zi y) I K := by
  unfold w_Desk_leadsTo
  rw [if_neg (zi_pos (by omega)), if_neg (show ¬ (21 : Int32) ≤ zi s from fun q => by have := (zi_le (a := 21) (by decide) (by omega)).mp q; omega), if_neg (zi_pos (by omega)), if_pos (show zi y < 17 from (zi_lt (b := 17) (by omega) (by decide)).mpr hy)]
  intro v ev
  rw [show (17 : Int32) = zi 17 from rfl, zi_mul, zi_add] at ev
  subst ev
  rw [if_neg (show ¬ (357 : Int32) ≤ zi (s * 17 + y) from fun q => by have := (zi_le (a := 357) (by decide) (by omega)).mp q; omega)]
  refine ⟨(zin_iff (by omega)).mpr (by rw [zst_LEADS_len]; omega), ?_⟩
  rw [zi_tn (by omega), (ld_fin (s * 17 + y) (by omega)).1]
  exact h
theorem s_ruleAt {s : Nat} {I : zI} {K : Int32 → Prop} (hs : s < 21) (h : K (rlI s)) : w_Desk_ruleAt (zi s) I K := by
  unfold w_Desk_ruleAt
  rw [if_neg (zi_pos (by omega)), if_neg (show ¬ (21 : Int32) ≤ zi s from fun q => by have := (zi_le (a := 21) (by decide) (by omega)).mp q; omega)]
  refine ⟨(zin_iff (by omega)).mpr (by show s < 21; omega), ?_⟩
  rw [zi_tn (by omega), rl_fin s hs]
  exact h
theorem s_symbolOf {r : Nat} {I : zI} {K : Int32 → Prop} (hr : r < 11) (h : K (zi (syN r))) : w_Desk_symbolOf (zi r) I K := by
  unfold w_Desk_symbolOf
  rw [if_neg (zi_pos (by omega)), if_neg (show ¬ (11 : Int32) ≤ zi r from fun q => by have := (zi_le (a := 11) (by decide) (by omega)).mp q; omega)]
  refine ⟨(zin_iff (by omega)).mpr (by show r < 11; omega), ?_⟩
  rw [zi_tn (by omega), (sy_fin r hr).1]
  exact h
theorem s_lengthOf {r : Nat} {I : zI} {K : Int32 → Prop} (hr : r < 11) (h : K (zi (lnN r))) : w_Desk_lengthOf (zi r) I K := by
  unfold w_Desk_lengthOf
  rw [if_neg (zi_pos (by omega)), if_neg (show ¬ (11 : Int32) ≤ zi r from fun q => by have := (zi_le (a := 11) (by decide) (by omega)).mp q; omega)]
  refine ⟨(zin_iff (by omega)).mpr (by show r < 11; omega), ?_⟩
  rw [zi_tn (by omega), (ln_fin r hr).1]
  exact h
theorem s_lengthOf_neg {r : Int32} {I : zI} {K : Int32 → Prop} (hr : r < 0) (h : K 0) : w_Desk_lengthOf r I K := by
  unfold w_Desk_lengthOf
  rw [if_pos hr]
  exact h
/-! the model's -/
def shM (a0 a1 : Int32) : Int32 :=
  if a0 = 1 then (if a1 = 0 then 3 else if a1 = 8 then 4 else if a1 = 9 then (if a0 = 6 then 13 else -1) else -1)
  else if a0 = 3 then (if a1 = 2 then 5 else -1)
  else if a0 = 5 then (if a1 = 0 then 10 else if a1 = 1 then 11 else if a1 = 6 then 12 else -1)
  else if a0 = 6 then (if a1 = 0 then 3 else if a1 = 8 then 4 else if a1 = 9 then (if a0 = 6 then 13 else -1) else -1)
  else if a0 = 7 then (if a1 = 3 then 14 else if a1 = 4 then 15 else -1)
  else if a0 = 8 then (if a1 = 5 then 16 else -1)
  else if a0 = 12 then (if a1 = 0 then 10 else if a1 = 1 then 11 else if a1 = 6 then 12 else -1)
  else if a0 = 15 then (if a1 = 0 then 10 else if a1 = 1 then 11 else if a1 = 6 then 12 else -1)
  else if a0 = 16 then (if a1 = 0 then 10 else if a1 = 1 then 11 else if a1 = 6 then 12 else -1)
  else if a0 = 17 then (if a1 = 7 then 20 else if a1 = 4 then 15 else -1)
  else if a0 = 18 then (if a1 = 5 then 16 else -1)
  else -1
theorem w_shM {a0 a1 : Int32} {I : zI} {K : Int32 → Prop} (h : K (shM a0 a1)) : w_M_shifts a0 a1 I K := by
  intro P88 h88 P136 h136 P190 h190
  unfold shM at h
  by_cases c1 : a0 = 1
  · rw [if_pos c1] at h ⊢
    refine h88 ?_
    revert h
    repeat' split
    all_goals exact id
  rw [if_neg c1] at h ⊢
  by_cases c3 : a0 = 3
  · rw [if_pos c3] at h ⊢
    revert h
    repeat' split
    all_goals exact id
  rw [if_neg c3] at h ⊢
  by_cases c5 : a0 = 5
  · rw [if_pos c5] at h ⊢
    refine h136 ?_
    revert h
    repeat' split
    all_goals exact id
  rw [if_neg c5] at h ⊢
  by_cases c6 : a0 = 6
  · rw [if_pos c6] at h
    rw [if_pos c6]
    refine h88 ?_
    revert h
    repeat' split
    all_goals exact id
  rw [if_neg c6] at h ⊢
  by_cases c7 : a0 = 7
  · rw [if_pos c7] at h ⊢
    revert h
    repeat' split
    all_goals exact id
  rw [if_neg c7] at h ⊢
  by_cases c8 : a0 = 8
  · rw [if_pos c8] at h ⊢
    refine h190 ?_
    revert h
    repeat' split
    all_goals exact id
  rw [if_neg c8] at h ⊢
  by_cases c12 : a0 = 12
  · rw [if_pos c12] at h ⊢
    refine h136 ?_
    revert h
    repeat' split
    all_goals exact id
  rw [if_neg c12] at h ⊢
  by_cases c15 : a0 = 15
  · rw [if_pos c15] at h ⊢
    refine h136 ?_
    revert h
    repeat' split
    all_goals exact id
  rw [if_neg c15] at h ⊢
  by_cases c16 : a0 = 16
  · rw [if_pos c16] at h ⊢
    refine h136 ?_
    revert h
    repeat' split
    all_goals exact id
  rw [if_neg c16] at h ⊢
  by_cases c17 : a0 = 17
  · rw [if_pos c17] at h ⊢
    revert h
    repeat' split
    all_goals exact id
  rw [if_neg c17] at h ⊢
  by_cases c18 : a0 = 18
  · rw [if_pos c18] at h ⊢
    refine h190 ?_
    revert h
    repeat' split
    all_goals exact id
  rw [if_neg c18] at h ⊢
  exact h
def shI (s k : Nat) : Int32 := if ldN s (5 + k) = 0 then -1 else zi (ldN s (5 + k))
theorem sh_fin : ∀ s, s < 21 → ∀ k, k < 12 → shM (zi s) (zi k) = shI s k := by decide +kernel
theorem s_shifts {s k : Nat} {I : zI} {K : Int32 → Prop} (hs : s < 21) (hk : k < 12) (h : K (shI s k)) : w_M_shifts (zi s) (zi k) I K := w_shM (by rw [sh_fin s hs k hk]; exact h)
def ldM (a0 a1 : Int32) : Int32 := if a1 = 0 then (if a0 = 0 then 1 else 6) else (if a1 = 1 then 2 else (if a1 = 2 then (if a0 = 5 then 7 else 17) else (if a1 = 3 then (if a0 = 15 then 18 else 8) else (if a0 = 16 then 19 else 9))))
theorem w_ldM {a0 a1 : Int32} {I : zI} {K : Int32 → Prop} (h : K (ldM a0 a1)) : w_M_leads a0 a1 I K := by
  unfold w_M_leads
  unfold ldM at h
  revert h
  repeat' split
  all_goals exact id
theorem ldM_fin : ∀ s, s < 21 → ∀ y, y < 5 → ldN s y ≠ 0 → ldM (zi s) (zi y) = zi (ldN s y) := by decide +kernel
theorem s_leads {s y : Nat} {I : zI} {K : Int32 → Prop} (hs : s < 21) (hy : y < 5) (h0 : ldN s y ≠ 0) (h : K (zi (ldN s y))) : w_M_leads (zi s) (zi y) I K := w_ldM (by rw [ldM_fin s hs y hy h0]; exact h)
def rlM (a0 : Int32) : Int32 := if a0 = 0 then 0 else (if a0 = 2 then 1 else (if a0 = 4 then 0 else (if a0 = 8 then 5 else (if a0 = 9 then 7 else (if a0 = 10 then 8 else (if a0 = 11 then 9 else (if a0 = 13 then 3 else (if a0 = 14 then 2 else (if a0 = 18 then 4 else (if a0 = 19 then 6 else (if a0 = 20 then 10 else -1)))))))))))
theorem w_rlM {a0 : Int32} {I : zI} {K : Int32 → Prop} (h : K (rlM a0)) : w_M_ruleOf a0 I K := by
  unfold w_M_ruleOf
  unfold rlM at h
  by_cases c0 : a0 = 0
  · rw [if_pos c0] at h ⊢
    exact h
  rw [if_neg c0] at h ⊢
  by_cases c2 : a0 = 2
  · rw [if_pos c2] at h ⊢
    exact h
  rw [if_neg c2] at h ⊢
  by_cases c4 : a0 = 4
  · rw [if_pos c4] at h ⊢
    exact h
  rw [if_neg c4] at h ⊢
  by_cases c8 : a0 = 8
  · rw [if_pos c8] at h ⊢
    exact h
  rw [if_neg c8] at h ⊢
  by_cases c9 : a0 = 9
  · rw [if_pos c9] at h ⊢
    exact h
  rw [if_neg c9] at h ⊢
  by_cases c10 : a0 = 10
  · rw [if_pos c10] at h ⊢
    exact h
  rw [if_neg c10] at h ⊢
  by_cases c11 : a0 = 11
  · rw [if_pos c11] at h ⊢
    exact h
  rw [if_neg c11] at h ⊢
  by_cases c13 : a0 = 13
  · rw [if_pos c13] at h ⊢
    exact h
  rw [if_neg c13] at h ⊢
  by_cases c14 : a0 = 14
  · rw [if_pos c14] at h ⊢
    exact h
  rw [if_neg c14] at h ⊢
  by_cases c18 : a0 = 18
  · rw [if_pos c18] at h ⊢
    exact h
  rw [if_neg c18] at h ⊢
  by_cases c19 : a0 = 19
  · rw [if_pos c19] at h ⊢
    exact h
  rw [if_neg c19] at h ⊢
  by_cases c20 : a0 = 20
  · rw [if_pos c20] at h ⊢
    exact h
  rw [if_neg c20] at h ⊢
  exact h
theorem rlM_fin : ∀ s, s < 21 → rlM (zi s) = rlI s := by decide +kernel
theorem s_ruleOf {s : Nat} {I : zI} {K : Int32 → Prop} (hs : s < 21) (h : K (rlI s)) : w_M_ruleOf (zi s) I K := w_rlM (by rw [rlM_fin s hs]; exact h)
def lnM (a0 : Int32) : Int32 := if a0 = 0 then 0 else (if a0 = 1 then 2 else (if a0 = 2 then 4 else (if a0 = 5 then 1 else (if a0 = 7 then 1 else (if a0 = 8 then 1 else (if a0 = 9 then 1 else 3))))))
theorem w_lnM {a0 : Int32} {I : zI} {K : Int32 → Prop} (h : K (lnM a0)) : w_M_manyOf a0 I K := by
  unfold w_M_manyOf
  unfold lnM at h
  revert h
  repeat' split
  all_goals exact id
theorem lnM_fin : ∀ r, r < 11 → lnM (zi r) = zi (lnN r) := by decide +kernel
theorem s_manyOf {r : Nat} {I : zI} {K : Int32 → Prop} (hr : r < 11) (h : K (zi (lnN r))) : w_M_manyOf (zi r) I K := w_lnM (by rw [lnM_fin r hr]; exact h)
def syM (a0 : Int32) : Int32 := if 2 ≤ a0 then (if 4 ≤ a0 then (if 6 ≤ a0 then (if 8 ≤ a0 then 4 else 3) else 2) else 1) else 0
theorem w_syM {a0 : Int32} {I : zI} {K : Int32 → Prop} (h : K (syM a0)) : w_M_symbolOf a0 I K := by
  unfold w_M_symbolOf
  unfold syM at h
  revert h
  repeat' split
  all_goals exact id
theorem syM_fin : ∀ r, r < 11 → syM (zi r) = zi (syN r) := by decide +kernel
theorem s_MsymbolOf {r : Nat} {I : zI} {K : Int32 → Prop} (hr : r < 11) (h : K (zi (syN r))) : w_M_symbolOf (zi r) I K := w_syM (by rw [syM_fin r hr]; exact h)
/-! ===== nodes ===== -/
/-- a node: RULE (a token: -2), KIND (a token's), STATE, TOKENS, by which EDIT, CHILDREN, bytes (a token's) -/
abbrev Nd : Type := Int × Nat × Int × Nat × Nat × List Nat × List Int32
def ndR (x : Nd) : Int := x.1
def ndK (x : Nd) : Nat := x.2.1
def ndS (x : Nd) : Int := x.2.2.1
def ndT (x : Nd) : Nat := x.2.2.2.1
def ndB (x : Nd) : Nat := x.2.2.2.2.1
def ndC (x : Nd) : List Nat := x.2.2.2.2.2.1
def ndY (x : Nd) : List Int32 := x.2.2.2.2.2.2
/-- its symbol: of a token 5 and its KIND -/
def ndM (x : Nd) : Nat := if ndR x < 0 then 5 + ndK x else syN (ndR x).toNat
/-- how many CHILDREN its RULE has -/
def ndL (x : Nd) : Nat := if ndR x < 0 then 0 else lnN (ndR x).toNat
def bsF (bs : List Int32) : Nat → Int32 := fun j => bs.getD j 0
def upN (N : Nat → Nd) (m : Nat) (x : Nd) : Nat → Nd := fun k => if k = m then x else N k
theorem upN_self {N : Nat → Nd} {m : Nat} {x : Nd} : upN N m x m = x := if_pos rfl
theorem upN_o {N : Nat → Nd} {m k : Nat} {x : Nd} (h : k ≠ m) : upN N m x k = N k := if_neg h
/-- a node in the class's rows -/
def NdX (I : zI) (k : Nat) (x : Nd) : Prop :=
  I.1 26 k = Int32.ofInt (ndR x) ∧ I.1 28 k = zi (ndM x) ∧ I.1 30 k = Int32.ofInt (ndS x) ∧ I.1 32 k = zi (ndT x) ∧ I.1 34 k = zi (ndB x) ∧ (∀ i c, (ndC x)[i]? = some c → I.1 42 (4 * k + i) = zi c) ∧
  (ndR x < 0 → I.1 36 k = zi (ndY x).length ∧ I.1 38 k = hdT (bsF (ndY x)) 0 (ndY x).length ∧ I.1 40 k = tlT (bsF (ndY x)) 0 (ndY x).length)
def RepNX (I : zI) (m : Nat) (N : Nat → Nd) : Prop := I.1 24 9 = zi m ∧ ∀ k, k < m → NdX I k (N k)
/-- and in the model's -/
def NdM (I : zI) (k : Nat) (x : Nd) : Prop :=
  I.1 509 k = Int32.ofInt (ndR x) ∧ I.1 514 k = Int32.ofInt (ndS x) ∧ I.1 515 k = zi (ndT x) ∧ I.1 516 k = zi (ndB x) ∧ I.1 512 k = zi (ndL x) ∧ (∀ i c, (ndC x)[i]? = some c → I.1 513 (4 * k + i) = zi c) ∧
  (ndR x < 0 → I.1 510 k = zi (ndK x) ∧ I.2 511 k = isV (bsF (ndY x)) (ndK x, 0, (ndY x).length))
def RepNM (I : zI) (m : Nat) (N : Nat → Nd) : Prop := I.1 491 25 = zi m ∧ ∀ k, k < m → NdM I k (N k)
/-- the places of the class that a node of number m, or of a greater one, may change -/
def Qnx (m a j : Nat) : Prop := (a = 24 ∧ j = 9) ∨ (25 ≤ a ∧ a ≤ 40 ∧ m ≤ j) ∨ (a = 42 ∧ 4 * m ≤ j)
def Qnm (m a j : Nat) : Prop := (a = 491 ∧ j = 25) ∨ (509 ≤ a ∧ a ≤ 512 ∧ m ≤ j) ∨ (514 ≤ a ∧ a ≤ 517 ∧ m ≤ j) ∨ (a = 513 ∧ 4 * m ≤ j)
theorem NdX.kept {I J : zI} {k : Nat} {x : Nd} (h : NdX I k x) (hc : (ndC x).length ≤ 4) (e : ∀ a, 25 ≤ a → a ≤ 40 → J.1 a k = I.1 a k) (e2 : ∀ i, i < 4 → J.1 42 (4 * k + i) = I.1 42 (4 * k + i)) : NdX J k x := by
  obtain ⟨h1, h2, h3, h4, h5, h6, h7⟩ := h
  refine ⟨by rw [e _ (by omega) (by omega)]; exact h1, by rw [e _ (by omega) (by omega)]; exact h2, by rw [e _ (by omega) (by omega)]; exact h3, by rw [e _ (by omega) (by omega)]; exact h4, by rw [e _ (by omega) (by omega)]; exact h5, fun i c hi => ?_, fun q => ?_⟩
  · have := (List.getElem?_eq_some_iff.mp hi).1
    rw [e2 i (by omega)]
    exact h6 i c hi
  · obtain ⟨a, b, c⟩ := h7 q
    exact ⟨by rw [e _ (by omega) (by omega)]; exact a, by rw [e _ (by omega) (by omega)]; exact b, by rw [e _ (by omega) (by omega)]; exact c⟩
theorem NdM.kept {I J : zI} {k : Nat} {x : Nd} (h : NdM I k x) (hc : (ndC x).length ≤ 4) (e : ∀ a, 509 ≤ a → a ≤ 517 → a ≠ 513 → J.1 a k = I.1 a k) (e2 : ∀ i, i < 4 → J.1 513 (4 * k + i) = I.1 513 (4 * k + i)) (e3 : J.2 511 k = I.2 511 k) : NdM J k x := by
  obtain ⟨h1, h2, h3, h4, h5, h6, h7⟩ := h
  refine ⟨by rw [e _ (by omega) (by omega) (by omega)]; exact h1, by rw [e _ (by omega) (by omega) (by omega)]; exact h2, by rw [e _ (by omega) (by omega) (by omega)]; exact h3, by rw [e _ (by omega) (by omega) (by omega)]; exact h4, by rw [e _ (by omega) (by omega) (by omega)]; exact h5, fun i c hi => ?_, fun q => ?_⟩
  · have := (List.getElem?_eq_some_iff.mp hi).1
    rw [e2 i (by omega)]
    exact h6 i c hi
  · obtain ⟨a, b⟩ := h7 q
    exact ⟨by rw [e _ (by omega) (by omega) (by omega)]; exact a, by rw [e3]; exact b⟩
/-- a token's node made by the class -/
theorem s_makeToken {m kd e : Nat} {bs : List Int32} {N : Nat → Nd} {I : zI} {K : Int32 → zI → Prop} (rep : RepNX I m N) (hc : ∀ k, k < m → (ndC (N k)).length ≤ 4) (hm : m < 3400)
    (hK : ∀ J, eqQ (Qnx m) I J → RepNX J (m + 1) (upN N m (-2, kd, -2, 1, e, [], bs)) → K (zi m) J) : w_Nodes_makeToken (zi kd) (zi bs.length) (hdT (bsF bs) 0 bs.length) (tlT (bsF bs) 0 bs.length) (zi e) I K := by
  unfold w_Nodes_makeToken w_Nodes_make
  intro v ev
  rw [rep.1] at ev
  subst ev
  refine (w_set (by decide)).mpr ?_
  rw [rs_in (by decide) hm]
  generalize e1 : zu I (25 + 1) m (-2) = J1
  refine (w_set (by decide)).mpr ?_
  rw [rs_in (by decide) hm]
  generalize e2 : zu J1 (27 + 1) m (5 + zi kd) = J2
  refine (w_set (by decide)).mpr ?_
  rw [rs_in (by decide) hm]
  generalize e3 : zu J2 (29 + 1) m (-2) = J3
  refine (w_set (by decide)).mpr ?_
  rw [rs_in (by decide) hm]
  generalize e4 : zu J3 (33 + 1) m (zi e) = J4
  intro J5 e5
  have g9 : J4.1 24 9 = zi m := by rw [← e4, zu_oo (by omega), ← e3, zu_oo (by omega), ← e2, zu_oo (by omega), ← e1, zu_oo (by omega)]; exact rep.1
  rw [g9, zi_succ] at e5
  refine (w_set (by decide)).mpr ?_
  rw [rs_in (by decide) hm]
  generalize e6 : zu J5 (31 + 1) m 1 = J6
  refine (w_set (by decide)).mpr ?_
  rw [rs_in (by decide) hm]
  generalize e7 : zu J6 (35 + 1) m (zi bs.length) = J7
  refine (w_set (by decide)).mpr ?_
  rw [rs_in (by decide) hm]
  generalize e8 : zu J7 (37 + 1) m (hdT (bsF bs) 0 bs.length) = J8
  refine (w_set (by decide)).mpr ?_
  rw [rs_in (by decide) hm]
  generalize e9 : zu J8 (39 + 1) m (tlT (bsF bs) 0 bs.length) = J9
  have f1 : eqQ (Qnx m) I J1 := by rw [← e1]; exact eqQ.rf.zu (Or.inr (Or.inl (by omega)))
  have f2 : eqQ (Qnx m) I J2 := by rw [← e2]; exact f1.zu (Or.inr (Or.inl (by omega)))
  have f3 : eqQ (Qnx m) I J3 := by rw [← e3]; exact f2.zu (Or.inr (Or.inl (by omega)))
  have f4 : eqQ (Qnx m) I J4 := by rw [← e4]; exact f3.zu (Or.inr (Or.inl (by omega)))
  have f5 : eqQ (Qnx m) I J5 := by rw [e5]; exact f4.zu (Or.inl ⟨rfl, rfl⟩)
  have f6 : eqQ (Qnx m) I J6 := by rw [← e6]; exact f5.zu (Or.inr (Or.inl (by omega)))
  have f7 : eqQ (Qnx m) I J7 := by rw [← e7]; exact f6.zu (Or.inr (Or.inl (by omega)))
  have f8 : eqQ (Qnx m) I J8 := by rw [← e8]; exact f7.zu (Or.inr (Or.inl (by omega)))
  have f9 : eqQ (Qnx m) I J9 := by rw [← e9]; exact f8.zu (Or.inr (Or.inl (by omega)))
  refine hK J9 f9 ⟨?_, fun k hk => ?_⟩
  · rw [← e9, zu_oo (by omega), ← e8, zu_oo (by omega), ← e7, zu_oo (by omega), ← e6, zu_oo (by omega), e5, zu_self]
  · by_cases hkm : k = m
    · subst hkm
      rw [upN_self]
      refine ⟨?_, ?_, ?_, ?_, ?_, (fun i c hi => by cases hi), fun _ => ⟨?_, ?_, ?_⟩⟩
      · rw [← e9, zu_oo (by omega), ← e8, zu_oo (by omega), ← e7, zu_oo (by omega), ← e6, zu_oo (by omega), e5, zu_oo (by omega), ← e4, zu_oo (by omega), ← e3, zu_oo (by omega), ← e2, zu_oo (by omega), ← e1, zu_self]
        rfl
      · rw [← e9, zu_oo (by omega), ← e8, zu_oo (by omega), ← e7, zu_oo (by omega), ← e6, zu_oo (by omega), e5, zu_oo (by omega), ← e4, zu_oo (by omega), ← e3, zu_oo (by omega), ← e2, zu_self]
        exact zi_add 5 kd
      · rw [← e9, zu_oo (by omega), ← e8, zu_oo (by omega), ← e7, zu_oo (by omega), ← e6, zu_oo (by omega), e5, zu_oo (by omega), ← e4, zu_oo (by omega), ← e3, zu_self]
        rfl
      · rw [← e9, zu_oo (by omega), ← e8, zu_oo (by omega), ← e7, zu_oo (by omega), ← e6, zu_self]
        rfl
      · rw [← e9, zu_oo (by omega), ← e8, zu_oo (by omega), ← e7, zu_oo (by omega), ← e6, zu_oo (by omega), e5, zu_oo (by omega), ← e4, zu_self]
        rfl
      · rw [← e9, zu_oo (by omega), ← e8, zu_oo (by omega), ← e7, zu_self]
        rfl
      · rw [← e9, zu_oo (by omega), ← e8, zu_self]
        rfl
      · rw [← e9, zu_self]
        rfl
    · rw [upN_o hkm]
      exact (rep.2 k (by omega)).kept (hc k (by omega)) (fun a h1 h2 => f9.1 a k (by unfold Qnx; omega)) (fun i hi => f9.1 42 _ (by unfold Qnx; omega))
/-- a node made by the model (its KIND and bytes, a token's, are set behind it) -/
theorem s_newNode {m tk e : Nat} {r : Int} {N : Nat → Nd} {I : zI} {K : Int32 → zI → Prop} (rep : RepNM I m N) (hc : ∀ k, k < m → (ndC (N k)).length ≤ 4) (hm : m < 3700) (he : I.1 491 36 = zi e)
    (hK : ∀ J, eqQ (Qnm m) I J → J.1 491 25 = zi (m + 1) → (∀ k, k < m → NdM J k (N k)) → J.1 509 m = Int32.ofInt r → J.1 514 m = -2 → J.1 515 m = zi tk → J.1 516 m = zi e → J.1 512 m = 0 → K (zi m) J) : w_M_newNode (Int32.ofInt r) (zi tk) I K := by
  intro v ev
  rw [rep.1] at ev
  subst ev
  have hin : vp_in (zi m) 3700 := (zin_iff (by omega)).mpr hm
  refine ⟨hin, fun J1 e1 => ⟨hin, fun J2 e2 => ⟨hin, fun J3 e3 => ⟨hin, fun J4 e4 => ⟨hin, fun J5 e5 => ⟨hin, fun J6 e6 => ⟨hin, fun J7 e7 => ⟨hin, fun J8 e8 J9 e9 => ?_⟩⟩⟩⟩⟩⟩⟩⟩
  rw [zi_tn (by omega)] at e1 e2 e3 e4 e5 e6 e7 e8
  have f1 : eqQ (Qnm m) I J1 := by rw [e1]; exact eqQ.rf.zu (Or.inr (Or.inl (by omega)))
  have f2 : eqQ (Qnm m) I J2 := by rw [e2]; exact f1.zu (Or.inr (Or.inl (by omega)))
  have f3 : eqQ (Qnm m) I J3 := by rw [e3]; exact f2.zul (Or.inr (Or.inl (by omega)))
  have f4 : eqQ (Qnm m) I J4 := by rw [e4]; exact f3.zu (Or.inr (Or.inl (by omega)))
  have f5 : eqQ (Qnm m) I J5 := by rw [e5]; exact f4.zu (Or.inr (Or.inr (Or.inl (by omega))))
  have f6 : eqQ (Qnm m) I J6 := by rw [e6]; exact f5.zu (Or.inr (Or.inr (Or.inl (by omega))))
  have g36 : J6.1 491 36 = zi e := by rw [f6.1 491 36 (by unfold Qnm; omega)]; exact he
  rw [g36] at e7
  have f7 : eqQ (Qnm m) I J7 := by rw [e7]; exact f6.zu (Or.inr (Or.inr (Or.inl (by omega))))
  have f8 : eqQ (Qnm m) I J8 := by rw [e8]; exact f7.zu (Or.inr (Or.inr (Or.inl (by omega))))
  have g25 : J8.1 491 25 = zi m := by
    rw [e8, zu_oo (by omega), e7, zu_oo (by omega), e6, zu_oo (by omega), e5, zu_oo (by omega), e4, zu_oo (by omega), e3, zul_1, e2, zu_oo (by omega), e1, zu_oo (by omega)]
    exact rep.1
  rw [g25, zi_succ] at e9
  have f9 : eqQ (Qnm m) I J9 := by rw [e9]; exact f8.zu (Or.inl ⟨rfl, rfl⟩)
  refine hK J9 f9 (by rw [e9, zu_self]) (fun k hk => (rep.2 k hk).kept (hc k hk) (fun a h1 h2 h3 => f9.1 a k (by unfold Qnm; omega)) (fun i hi => f9.1 513 _ (by unfold Qnm; omega)) (f9.2 511 k (by unfold Qnm; omega))) ?_ ?_ ?_ ?_ ?_
  · rw [e9, zu_oo (by omega), e8, zu_oo (by omega), e7, zu_oo (by omega), e6, zu_oo (by omega), e5, zu_oo (by omega), e4, zu_oo (by omega), e3, zul_1, e2, zu_oo (by omega), e1, zu_self]
  · rw [e9, zu_oo (by omega), e8, zu_oo (by omega), e7, zu_oo (by omega), e6, zu_oo (by omega), e5, zu_self]
  · rw [e9, zu_oo (by omega), e8, zu_oo (by omega), e7, zu_oo (by omega), e6, zu_self]
  · rw [e9, zu_oo (by omega), e8, zu_oo (by omega), e7, zu_self]
  · rw [e9, zu_oo (by omega), e8, zu_oo (by omega), e7, zu_oo (by omega), e6, zu_oo (by omega), e5, zu_oo (by omega), e4, zu_self]
/-! ===== the tokens' nodes ===== -/
/-- which token of the last good TEXT the i-th new one was; none: a node is made -/
def wasN (A Bh n n' i : Nat) : Option Nat := if i < A then some i else if n - Bh ≤ i then some (i + n' - n) else none
theorem s_oldPlace {i A Bh n n' : Nat} {I : zI} {K : Int32 → Prop} (h5 : I.1 64 5 = zi n') (h6 : I.1 64 6 = zi n) (h7 : I.1 64 7 = zi A) (h8 : I.1 64 8 = zi Bh) (hA : A ≤ 100) (hB : Bh ≤ n) (hB' : Bh ≤ n') (hn : n ≤ 100) (hn' : n' ≤ 100) (hi : i < n)
    (hK : K (match wasN A Bh n n' i with | some j => zi j | none => -2)) : w_Grower_oldPlace (zi i) I K := by
  unfold w_Grower_oldPlace
  rw [h5, h6, h7, h8, zi_sub hB]
  unfold wasN at hK
  by_cases q : i < A
  · rw [if_pos q] at hK
    rw [if_neg (fun r => by have := (zi_le (by omega) (by omega)).mp r; omega)]
    exact hK
  · rw [if_neg q] at hK
    rw [if_pos ((zi_le (by omega) (by omega)).mpr (by omega))]
    by_cases q2 : n - Bh ≤ i
    · rw [if_pos q2] at hK
      rw [if_neg (fun r => by have := (zi_lt (by omega) (by omega)).mp r; omega)]
      have e : zi i - zi n + zi n' = zi (i + n' - n) := by
        rw [Int32.sub_eq_add_neg, Int32.add_assoc, Int32.add_comm (-zi n), ← Int32.add_assoc, ← Int32.sub_eq_add_neg, zi_add, zi_sub (by omega)]
      rw [e]
      exact hK
    · rw [if_neg q2] at hK
      rw [if_pos ((zi_lt (by omega) (by omega)).mpr (by omega))]
      exact hK
theorem s_wasOf {i A Bh n n' : Nat} {I : zI} {K : Int32 → Prop} (h9 : I.1 491 9 = zi n) (h19 : I.1 491 19 = zi n') (h66 : I.1 491 66 = zi A) (h67 : I.1 491 67 = zi Bh) (hA : A ≤ 100) (hB : Bh ≤ n) (hB' : Bh ≤ n') (hn : n ≤ 100) (hn' : n' ≤ 100) (hi : i < n)
    (hK : K (match wasN A Bh n n' i with | some j => zi j | none => -1)) : w_M_wasOf (zi i) I K := by
  unfold w_M_wasOf
  rw [h9, h19, h66, h67, zi_sub hB]
  unfold wasN at hK
  by_cases q : i < A
  · rw [if_pos q] at hK
    rw [if_neg (fun r => by have := (zi_le (by omega) (by omega)).mp r; omega)]
    exact hK
  · rw [if_neg q] at hK
    rw [if_pos ((zi_le (by omega) (by omega)).mpr (by omega))]
    by_cases q2 : n - Bh ≤ i
    · rw [if_pos q2] at hK
      rw [if_neg (fun r => by have := (zi_lt (by omega) (by omega)).mp r; omega)]
      have e : zi i - zi n + zi n' = zi (i + n' - n) := by
        rw [Int32.sub_eq_add_neg, Int32.add_assoc, Int32.add_comm (-zi n), ← Int32.add_assoc, ← Int32.sub_eq_add_neg, zi_add, zi_sub (by omega)]
      rw [e]
      exact hK
    · rw [if_neg q2] at hK
      rw [if_pos ((zi_lt (by omega) (by omega)).mpr (by omega))]
      exact hK
/-- a token's bytes -/
def tkBs (t : Nat → Int32) (x : Nat × Nat × Nat) : List Int32 := (List.range x.2.2).map (fun j => t (x.2.1 + j))
theorem tkBs_len {t : Nat → Int32} {x : Nat × Nat × Nat} : (tkBs t x).length = x.2.2 := by
  unfold tkBs
  rw [List.length_map, List.length_range]
theorem tkBs_at {t : Nat → Int32} {x : Nat × Nat × Nat} {j : Nat} (h : j < x.2.2) : bsF (tkBs t x) j = t (x.2.1 + j) := by
  unfold bsF tkBs
  rw [List.getD_eq_getElem?_getD, List.getElem?_map, List.getElem?_range h]
  rfl
theorem pkR_cg {t t' : Nat → Int32} {s s' : Nat} : ∀ m, (∀ j, j < m → t (s + j) = t' (s' + j)) → pkR t s m = pkR t' s' m
  | 0, _ => rfl
  | m + 1, h => by
    show pkR t s m ||| _ = pkR t' s' m ||| _
    rw [pkR_cg m (fun j hj => h j (by omega)), h m (by omega)]
theorem hdT_bs {t : Nat → Int32} {x : Nat × Nat × Nat} : hdT (bsF (tkBs t x)) 0 (tkBs t x).length = hdT t x.2.1 x.2.2 := by
  unfold hdT
  rw [tkBs_len]
  exact pkR_cg _ (fun j hj => by rw [Nat.zero_add]; exact tkBs_at (by omega))
theorem tlT_bs {t : Nat → Int32} {x : Nat × Nat × Nat} : tlT (bsF (tkBs t x)) 0 (tkBs t x).length = tlT t x.2.1 x.2.2 := by
  unfold tlT
  rw [tkBs_len]
  exact pkR_cg _ (fun j hj => by rw [show 0 + 4 + j = 4 + j by omega, show x.2.1 + 4 + j = x.2.1 + (4 + j) by omega]; exact tkBs_at (by omega))
theorem valL_cg {t t' : Nat → Int32} {s s' : Nat} : ∀ m, (∀ j, j < m → t (s + j) = t' (s' + j)) → valL t s m = valL t' s' m
  | 0, _ => rfl
  | m + 1, h => by
    show 27 * valL t s m + _ = 27 * valL t' s' m + _
    rw [valL_cg m (fun j hj => h j (by omega)), h m (by omega)]
theorem valD_cg {t t' : Nat → Int32} {s s' : Nat} : ∀ m, (∀ j, j < m → t (s + j) = t' (s' + j)) → valD t s m = valD t' s' m
  | 0, _ => rfl
  | m + 1, h => by
    show 10 * valD t s m + _ = 10 * valD t' s' m + _
    rw [valD_cg m (fun j hj => h j (by omega)), h m (by omega)]
theorem isV_bs {t : Nat → Int32} {x : Nat × Nat × Nat} (ok : tkOk t x) : isV (bsF (tkBs t x)) (x.1, 0, (tkBs t x).length) = isV t x := by
  unfold isV
  dsimp only
  rw [tkBs_len]
  by_cases k0 : x.1 = 0
  · rw [if_pos k0, if_pos k0]
    exact valL_cg _ (fun j hj => by rw [Nat.zero_add]; exact tkBs_at hj)
  rw [if_neg k0, if_neg k0]
  by_cases k1 : x.1 = 1
  · rw [if_pos k1, if_pos k1]
    exact valD_cg _ (fun j hj => by rw [Nat.zero_add]; exact tkBs_at hj)
  rw [if_neg k1, if_neg k1]
  by_cases k10 : x.1 = 10
  · rw [if_pos k10, if_pos k10]
  rw [if_neg k10, if_neg k10, tkBs_at (by rw [ok.2.2.2.2.2.2 k0 k1 k10]; decide), Nat.add_zero]
/-- a new token's node -/
def tkNd (t : Nat → Int32) (x : Nat × Nat × Nat) (e : Nat) : Nd := (-2, x.1, -2, 1, e, [], tkBs t x)
/-- the nodes of the new tokens from the i-th on: how many nodes then, which, the table -/
def namF (t : Nat → Int32) (l : List (Nat × Nat × Nat)) (A Bh n' : Nat) (og : Nat → Nat) (e : Nat) : Nat → Nat → Nat → (Nat → Nat) → (Nat → Nd) → Nat × (Nat → Nat) × (Nat → Nd)
  | 0, _, m, g, N => (m, g, N)
  | d + 1, i, m, g, N => match wasN A Bh l.length n' i with
    | some j => namF t l A Bh n' og e d (i + 1) m (fun k => if k = i then og j else g k) N
    | none => namF t l A Bh n' og e d (i + 1) (m + 1) (fun k => if k = i then m else g k) (upN N m (tkNd t (l.getD i (10, 0, 0)) e))
/-! ===== naming the new tokens' nodes: the class ===== -/
def Qnt (m k a j : Nat) : Prop := Qnx m a j ∨ (a = 64 ∧ j = 9) ∨ (a = k + 15 ∧ j < 100)
theorem s_nameTokens {a1 a2 m e A Bh n' : Nat} {t : Nat → Int32} {l : List (Nat × Nat × Nat)} {og g : Nat → Nat} {N : Nat → Nd} {I : zI} {K : zI → Prop} (h12 : a1 ≠ a2) (ha1 : a1 + 15 < 24 ∨ 113 ≤ a1) (ha2 : a2 + 15 < 24 ∨ 113 ≤ a2) (rep : RepNX I m N) (hc : ∀ k, k < m → (ndC (N k)).length ≤ 4) (hT : RepT I (a2 + 3) t l)
    (h5 : I.1 64 5 = zi n') (h6 : I.1 64 6 = zi l.length) (h7 : I.1 64 7 = zi A) (h8 : I.1 64 8 = zi Bh) (hA : A ≤ 100) (hAn : A ≤ n') (hB : Bh ≤ l.length) (hB' : Bh ≤ n') (hn : l.length ≤ 100) (hn' : n' ≤ 100) (hog : ∀ j, j < n' → I.1 (a1 + 15) j = zi (og j)) (hm : m + l.length ≤ 3400)
    (hK : ∀ m' g' N' J, namF t l A Bh n' og e l.length 0 m g N = (m', g', N') → eqQ (Qnt m a2) I J → RepNX J m' N' → (∀ k, k < m' → (ndC (N' k)).length ≤ 4) → m ≤ m' → J.1 64 9 = zi (m' - m) → (∀ k, k < l.length → J.1 (a2 + 15) k = zi (g' k)) → K J) : w_Grower_nameTokens a1 a2 (zi e) I K := by
  intro I1 e1 P hP
  have main : ∀ d i m1 g1 N1 J, i + d = l.length → eqQ (Qnt m a2) I J → RepNX J m1 N1 → (∀ k, k < m1 → (ndC (N1 k)).length ≤ 4) → m ≤ m1 → m1 + d ≤ 3400 → J.1 64 9 = zi (m1 - m) → (∀ k, k < i → J.1 (a2 + 15) k = zi (g1 k)) → (∀ m' g' N' J', namF t l A Bh n' og e d i m1 g1 N1 = (m', g', N') → eqQ (Qnt m a2) I J' → RepNX J' m' N' → (∀ k, k < m' → (ndC (N' k)).length ≤ 4) → m ≤ m' → J'.1 64 9 = zi (m' - m) → (∀ k, k < l.length → J'.1 (a2 + 15) k = zi (g' k)) → K J') → P (zi i) J := by
    intro d
    induction d with
    | zero =>
      intro i m1 g1 N1 J hi q r c hmm hd h9 hg hk
      refine hP _ _ ?_
      have g6 : J.1 64 6 = zi l.length := by rw [q.1 64 6 (by unfold Qnt Qnx; omega)]; exact h6
      rw [g6, if_pos ((zi_le (by omega) (by omega)).mpr (by omega))]
      exact hk m1 g1 N1 J rfl q r c hmm h9 (fun k hk => hg k (by omega))
    | succ d ih =>
      intro i m1 g1 N1 J hi q r c hmm hd h9 hg hk
      refine hP _ _ ?_
      have g5 : J.1 64 5 = zi n' := by rw [q.1 64 5 (by unfold Qnt Qnx; omega)]; exact h5
      have g6 : J.1 64 6 = zi l.length := by rw [q.1 64 6 (by unfold Qnt Qnx; omega)]; exact h6
      have g7 : J.1 64 7 = zi A := by rw [q.1 64 7 (by unfold Qnt Qnx; omega)]; exact h7
      have g8 : J.1 64 8 = zi Bh := by rw [q.1 64 8 (by unfold Qnt Qnx; omega)]; exact h8
      have hT' : RepT J (a2 + 3) t l := hT.kept (fun b b1 b2 => funext fun j => q.1 b j (by unfold Qnt Qnx; omega))
      have hx : ∃ x, l[i]? = some x := ⟨l[i]'(by omega), List.getElem?_eq_getElem (by omega)⟩
      obtain ⟨x, hx⟩ := hx
      have hxd : l.getD i (10, 0, 0) = x := by rw [List.getD_eq_getElem?_getD, hx]; rfl
      rw [g6, if_neg (fun r => by have := (zi_le (by omega) (by omega)).mp r; omega)]
      refine s_oldPlace g5 g6 g7 g8 hA hB hB' hn hn' (by omega) ?_
      cases hw : wasN A Bh l.length n' i with
      | none =>
        intro P2 hP2
        rw [if_pos (show (-2 : Int32) < 0 by decide)]
        obtain ⟨x1, x2, x3, x4, x5⟩ := hT'.2 i x hx
        refine (w_get (by decide)).mpr ((w_get (by decide)).mpr ((w_get (by decide)).mpr ((w_get (by decide)).mpr ?_)))
        rw [rg_in (by decide) (show i < 100 by omega), rg_in (by decide) (show i < 100 by omega), rg_in (by decide) (show i < 100 by omega), rg_in (by decide) (show i < 100 by omega)]
        rw [show J.1 (a2 + 3 + 1 + 1) i = zi x.1 from x1, show J.1 (a2 + 3 + 5 + 1) i = zi x.2.2 from x3, show J.1 (a2 + 3 + 7 + 1) i = hdT t x.2.1 x.2.2 from x4, show J.1 (a2 + 3 + 9 + 1) i = tlT t x.2.1 x.2.2 from x5]
        rw [← hdT_bs (t := t) (x := x), ← tlT_bs (t := t) (x := x), ← tkBs_len (t := t) (x := x)]
        refine s_makeToken (N := N1) r c (by omega) (fun J2 q2 r2 => ?_)
        refine (w_set (by decide)).mpr ?_
        rw [rs_in (by decide) (show i < 100 by omega)]
        intro J4 e4
        have f2 : eqQ (Qnt m a2) I J2 := q.tr (q2.mono (fun a j h => by unfold Qnx at h; unfold Qnt Qnx; omega))
        have f3 : eqQ (Qnt m a2) I (zu J2 (a2 + 14 + 1) i (zi m1)) := f2.zu (Or.inr (Or.inr ⟨rfl, by omega⟩))
        have f4 : eqQ (Qnt m a2) I J4 := by rw [e4]; exact f3.zu (Or.inr (Or.inl ⟨rfl, rfl⟩))
        refine hP2 J4 (fun v ev => ?_)
        rw [ev, zi_succ]
        have k9 : J2.1 64 9 = zi (m1 - m) := by rw [q2.1 64 9 (by unfold Qnx; omega)]; exact h9
        have o4 : ∀ a j, a ≠ 64 → a ≠ a2 + 15 → J4.1 a j = J2.1 a j := fun a j u1 u2 => by rw [e4, zu_oo (by omega), zu_oo (by omega)]
        refine ih (i + 1) (m1 + 1) (fun k => if k = i then m1 else g1 k) (upN N1 m1 (tkNd t x e)) J4 (by omega) f4 ?_ ?_ (by omega) (by omega) ?_ ?_ ?_
        · refine ⟨by rw [o4 _ _ (by decide) (by omega)]; exact r2.1, fun k hk => ?_⟩
          refine (r2.2 k hk).kept ?_ (fun a u1 u2 => o4 a k (by omega) (by omega)) (fun j hj => o4 _ _ (by decide) (by omega))
          by_cases u : k = m1
          · subst u; rw [upN_self]; exact Nat.zero_le _
          · rw [upN_o u]; exact c k (by omega)
        · intro k hk
          by_cases u : k = m1
          · subst u; rw [upN_self]; exact Nat.zero_le _
          · rw [upN_o u]; exact c k (by omega)
        · rw [e4, zu_self, zu_oo (by omega), k9, zi_succ, show m1 - m + 1 = m1 + 1 - m by omega]
        · intro k hk
          rw [e4, zu_oo (by omega)]
          by_cases u : k = i
          · subst u
            rw [if_pos rfl]
            exact zu_self
          · rw [if_neg u, zu_at, if_neg (show ¬ (a2 + 15 = a2 + 14 + 1 ∧ k = i) from fun r => u r.2), q2.1 (a2 + 15) k (by unfold Qnx; omega)]
            exact hg k (by omega)
        · intro m' g' N' J' hf
          refine hk m' g' N' J' ?_
          rw [← hf]
          show (match wasN A Bh l.length n' i with | some j => _ | none => _) = _
          rw [hw, hxd]
      | some j =>
        intro P2 hP2
        have hj : j < n' := by
          unfold wasN at hw
          by_cases u : i < A
          · rw [if_pos u] at hw; cases hw; omega
          · rw [if_neg u] at hw
            by_cases u2 : l.length - Bh ≤ i
            · rw [if_pos u2] at hw; cases hw; omega
            · rw [if_neg u2] at hw; cases hw
        rw [if_neg (zi_pos (show j < 2147483648 by omega))]
        refine (w_get (by decide)).mpr ?_
        rw [rg_in (by decide) (show j < 100 by omega)]
        have gj : J.1 (a1 + 14 + 1) j = zi (og j) := by rw [q.1 (a1 + 14 + 1) j (by unfold Qnt Qnx; omega)]; exact hog j hj
        rw [gj]
        refine (w_set (by decide)).mpr ?_
        rw [rs_in (by decide) (show i < 100 by omega)]
        refine hP2 _ (fun v ev => ?_)
        rw [ev, zi_succ]
        have o4 : ∀ a b, a ≠ a2 + 15 → (zu J (a2 + 14 + 1) i (zi (og j))).1 a b = J.1 a b := fun a b u => by rw [zu_oo (by omega)]
        refine ih (i + 1) m1 (fun k => if k = i then og j else g1 k) N1 _ (by omega) (q.zu (Or.inr (Or.inr ⟨rfl, by omega⟩))) ?_ c hmm (by omega) ?_ ?_ ?_
        · exact ⟨by rw [o4 _ _ (by omega)]; exact r.1, fun k hk => (r.2 k hk).kept (c k hk) (fun a u1 u2 => o4 a k (by omega)) (fun b hb => o4 _ _ (by omega))⟩
        · rw [o4 _ _ (by omega)]; exact h9
        · intro k hk
          by_cases u : k = i
          · subst u
            rw [if_pos rfl]
            exact zu_self
          · rw [if_neg u, zu_at, if_neg (show ¬ (a2 + 15 = a2 + 14 + 1 ∧ k = i) from fun r => u r.2)]
            exact hg k (by omega)
        · intro m' g' N' J' hf
          refine hk m' g' N' J' ?_
          rw [← hf]
          show (match wasN A Bh l.length n' i with | some j => _ | none => _) = _
          rw [hw]
  have o1 : ∀ a b, ¬ (a = 64 ∧ b = 9) → I1.1 a b = I.1 a b := fun a b u => by rw [e1, zu_at, if_neg u]
  exact main l.length 0 m g N I1 (by omega) (by rw [e1]; exact eqQ.rf.zu (Or.inr (Or.inl ⟨rfl, rfl⟩))) ⟨by rw [o1 _ _ (by omega)]; exact rep.1, fun k hk => (rep.2 k hk).kept (hc k hk) (fun a u1 u2 => o1 a k (by omega)) (fun b hb => o1 _ _ (by omega))⟩ hc (Nat.le_refl _) hm (by rw [e1, zu_self, Nat.sub_self]; rfl) (fun k hk => absurd hk (by omega)) hK
/-! ===== naming the new tokens' nodes: the model ===== -/
def Qnu (m a j : Nat) : Prop := Qnm m a j ∨ (a = 500 ∧ j < 110)
theorem s_makesTokens {m e A Bh n' : Nat} {t : Nat → Int32} {l : List (Nat × Nat × Nat)} {og g : Nat → Nat} {N : Nat → Nd} {I : zI} {K : Int32 → zI → Prop} (rep : RepNM I m N) (hc : ∀ k, k < m → (ndC (N k)).length ≤ 4) (hT : RepU I t l) (ok : ∀ x ∈ l, tkOk t x) (he : I.1 491 36 = zi e)
    (h5 : I.1 491 19 = zi n') (h7 : I.1 491 66 = zi A) (h8 : I.1 491 67 = zi Bh) (hA : A ≤ 100) (hAn : A ≤ n') (hB : Bh ≤ l.length) (hB' : Bh ≤ n') (hn : l.length ≤ 100) (hn' : n' ≤ 100) (hog : ∀ j, j < n' → I.1 508 j = zi (og j)) (hm : m + l.length ≤ 3700)
    (hK : ∀ m' g' N' J, namF t l A Bh n' og e l.length 0 m g N = (m', g', N') → eqQ (Qnu m) I J → RepNM J m' N' → (∀ k, k < m' → (ndC (N' k)).length ≤ 4) → m ≤ m' → (∀ k, k < l.length → J.1 500 k = zi (g' k)) → K (zi (m' - m)) J) : w_M_makesTokens I K := by
  intro P hP
  have main : ∀ d i m1 g1 N1 J, i + d = l.length → eqQ (Qnu m) I J → RepNM J m1 N1 → (∀ k, k < m1 → (ndC (N1 k)).length ≤ 4) → m ≤ m1 → m1 + d ≤ 3700 → (∀ k, k < i → J.1 500 k = zi (g1 k)) → (∀ m' g' N' J', namF t l A Bh n' og e d i m1 g1 N1 = (m', g', N') → eqQ (Qnu m) I J' → RepNM J' m' N' → (∀ k, k < m' → (ndC (N' k)).length ≤ 4) → m ≤ m' → (∀ k, k < l.length → J'.1 500 k = zi (g' k)) → K (zi (m' - m)) J') → P (zi (m1 - m)) (zi i) J := by
    intro d
    induction d with
    | zero =>
      intro i m1 g1 N1 J hi q r c hmm hd hg hk
      refine hP _ _ _ ?_
      have g6 : J.1 491 9 = zi l.length := by rw [q.1 491 9 (by unfold Qnu Qnm; omega)]; exact hT.1
      rw [g6, if_pos ((zi_le (by omega) (by omega)).mpr (by omega))]
      exact hk m1 g1 N1 J rfl q r c hmm (fun k hk => hg k (by omega))
    | succ d ih =>
      intro i m1 g1 N1 J hi q r c hmm hd hg hk
      refine hP _ _ _ ?_
      have g5 : J.1 491 19 = zi n' := by rw [q.1 _ _ (by unfold Qnu Qnm; omega)]; exact h5
      have g6 : J.1 491 9 = zi l.length := by rw [q.1 _ _ (by unfold Qnu Qnm; omega)]; exact hT.1
      have g7 : J.1 491 66 = zi A := by rw [q.1 _ _ (by unfold Qnu Qnm; omega)]; exact h7
      have g8 : J.1 491 67 = zi Bh := by rw [q.1 _ _ (by unfold Qnu Qnm; omega)]; exact h8
      have hx : ∃ x, l[i]? = some x := ⟨l[i]'(by omega), List.getElem?_eq_getElem (by omega)⟩
      obtain ⟨x, hx⟩ := hx
      have hxd : l.getD i (10, 0, 0) = x := by rw [List.getD_eq_getElem?_getD, hx]; rfl
      have okx : tkOk t x := ok x (List.mem_of_getElem? hx)
      rw [g6, if_neg (fun r => by have := (zi_le (by omega) (by omega)).mp r; omega)]
      refine s_wasOf g6 g5 g7 g8 hA hB hB' hn hn' (by omega) ?_
      cases hw : wasN A Bh l.length n' i with
      | none =>
        intro P2 hP2
        rw [if_pos (show (-1 : Int32) < 0 by decide)]
        obtain ⟨x1, x2, x3, x4⟩ := hT.2 i x hx
        have e36 : J.1 491 36 = zi e := by rw [q.1 _ _ (by unfold Qnu Qnm; omega)]; exact he
        refine s_newNode (N := N1) (r := -2) (tk := 1) r c (by omega) e36 (fun J2 q2 m2 r2 n1 n2 n3 n4 n5 => ?_)
        refine ⟨(zin_iff (by omega)).mpr (by omega), (zin_iff (by omega)).mpr (by omega), fun J3 e3 => ⟨(zin_iff (by omega)).mpr (by omega), (zin_iff (by omega)).mpr (by omega), fun J4 e4 => ⟨(zin_iff (by omega)).mpr (by omega), fun J5 e5 v1 ev1 => ?_⟩⟩⟩
        rw [zi_tn (show i < 2147483648 by omega), zi_tn (show m1 < 2147483648 by omega)] at e3 e4
        rw [zi_tn (show i < 2147483648 by omega)] at e5
        have f2 : eqQ (Qnu m) I J2 := q.tr (q2.mono (fun a j h => by unfold Qnm at h; unfold Qnu Qnm; omega))
        have f3 : eqQ (Qnu m) I J3 := by rw [e3]; exact f2.zu (Or.inl (Or.inr (Or.inl (by omega))))
        have f4 : eqQ (Qnu m) I J4 := by rw [e4]; exact f3.zul (Or.inl (Or.inr (Or.inl (by omega))))
        have f5 : eqQ (Qnu m) I J5 := by rw [e5]; exact f4.zu (Or.inr ⟨rfl, by omega⟩)
        have kd : J2.1 496 i = zi x.1 := by rw [f2.1 496 i (by unfold Qnu Qnm; omega)]; exact x1
        have ks : J3.2 499 i = isV t x := by rw [f3.2 499 i (by unfold Qnu Qnm; omega)]; exact x4
        rw [kd] at e3
        rw [ks] at e4
        refine hP2 v1 J5 (fun v ev => ?_)
        rw [ev, zi_succ, ev1, zi_succ, show m1 - m + 1 = m1 + 1 - m by omega]
        have o5 : ∀ a j, a ≠ 510 → a ≠ 500 → J5.1 a j = J2.1 a j := fun a j u1 u2 => by rw [e5, zu_oo (by omega), e4, zul_1, e3, zu_oo (by omega)]
        have o5k : ∀ k, k < m1 → J5.1 510 k = J2.1 510 k := fun k hk => by rw [e5, zu_oo (by omega), e4, zul_1, e3, zu_at, if_neg (show ¬ (510 = 510 ∧ k = m1) by omega)]
        have o52 : ∀ k, k < m1 → J5.2 511 k = J2.2 511 k := fun k hk => by rw [e5]; show J4.2 511 k = _; rw [e4, zul_at, if_neg (show ¬ (511 = 511 ∧ k = m1) by omega), e3]; rfl
        refine ih (i + 1) (m1 + 1) (fun k => if k = i then m1 else g1 k) (upN N1 m1 (tkNd t x e)) J5 (by omega) f5 ⟨?_, fun k hk => ?_⟩ ?_ (by omega) (by omega) ?_ ?_
        · rw [o5 _ _ (by decide) (by decide)]; exact m2
        · by_cases u : k = m1
          · subst u
            rw [upN_self]
            refine ⟨?_, ?_, ?_, ?_, ?_, (fun j y hj => by cases hj), fun _ => ⟨?_, ?_⟩⟩
            · rw [o5 _ _ (by decide) (by decide)]; exact n1
            · rw [o5 _ _ (by decide) (by decide)]; exact n2
            · rw [o5 _ _ (by decide) (by decide)]; exact n3
            · rw [o5 _ _ (by decide) (by decide)]; exact n4
            · rw [o5 _ _ (by decide) (by decide)]; exact n5
            · rw [e5, zu_oo (by omega), e4, zul_1, e3, zu_self]
              rfl
            · rw [e5]
              show J4.2 511 k = _
              rw [e4, zul_at, if_pos ⟨rfl, rfl⟩]
              exact (isV_bs okx).symm
          · rw [upN_o u]
            refine (r2 k (by omega)).kept (c k (by omega)) (fun a u1 u2 u3 => ?_) (fun j hj => o5 _ _ (by decide) (by decide)) (o52 k (by omega))
            by_cases u4 : a = 510
            · rw [u4]; exact o5k k (by omega)
            · exact o5 a k u4 (by omega)
        · intro k hk
          by_cases u : k = m1
          · subst u; rw [upN_self]; exact Nat.zero_le _
          · rw [upN_o u]; exact c k (by omega)
        · intro k hk
          rw [e5]
          by_cases u : k = i
          · subst u
            rw [if_pos rfl]
            exact zu_self
          · rw [if_neg u, zu_at, if_neg (show ¬ (500 = 500 ∧ k = i) from fun r => u r.2), e4, zul_1, e3, zu_oo (by omega), q2.1 500 k (by unfold Qnm; omega)]
            exact hg k (by omega)
        · intro m' g' N' J' hf
          refine hk m' g' N' J' ?_
          rw [← hf]
          show (match wasN A Bh l.length n' i with | some j => _ | none => _) = _
          rw [hw, hxd]
      | some j =>
        intro P2 hP2
        have hj : j < n' := by
          unfold wasN at hw
          by_cases u : i < A
          · rw [if_pos u] at hw; cases hw; omega
          · rw [if_neg u] at hw
            by_cases u2 : l.length - Bh ≤ i
            · rw [if_pos u2] at hw; cases hw; omega
            · rw [if_neg u2] at hw; cases hw
        rw [if_neg (zi_pos (show j < 2147483648 by omega))]
        refine ⟨(zin_iff (by omega)).mpr (by omega), (zin_iff (by omega)).mpr (by omega), fun J3 e3 => ?_⟩
        rw [zi_tn (show i < 2147483648 by omega), zi_tn (show j < 2147483648 by omega)] at e3
        have gj : J.1 508 j = zi (og j) := by rw [q.1 508 j (by unfold Qnu Qnm; omega)]; exact hog j hj
        rw [gj] at e3
        refine hP2 _ J3 (fun v ev => ?_)
        rw [ev, zi_succ]
        have o4 : ∀ a b, a ≠ 500 → J3.1 a b = J.1 a b := fun a b u => by rw [e3, zu_oo (by omega)]
        have o42 : ∀ a b, J3.2 a b = J.2 a b := fun a b => by rw [e3]; rfl
        refine ih (i + 1) m1 (fun k => if k = i then og j else g1 k) N1 _ (by omega) (by rw [e3]; exact q.zu (Or.inr ⟨rfl, by omega⟩)) ?_ c hmm (by omega) ?_ ?_
        · exact ⟨by rw [o4 _ _ (by omega)]; exact r.1, fun k hk => (r.2 k hk).kept (c k hk) (fun a u1 u2 u3 => o4 a k (by omega)) (fun b hb => o4 _ _ (by omega)) (o42 _ _)⟩
        · intro k hk
          rw [e3]
          by_cases u : k = i
          · subst u
            rw [if_pos rfl]
            exact zu_self
          · rw [if_neg u, zu_at, if_neg (show ¬ (500 = 500 ∧ k = i) from fun r => u r.2)]
            exact hg k (by omega)
        · intro m' g' N' J' hf
          refine hk m' g' N' J' ?_
          rw [← hf]
          show (match wasN A Bh l.length n' i with | some j => _ | none => _) = _
          rw [hw]
  have h0 := main l.length 0 m g N I (by omega) eqQ.rf rep hc (Nat.le_refl _) hm (fun k hk => absurd hk (by omega)) hK
  rw [Nat.sub_self] at h0
  exact h0
