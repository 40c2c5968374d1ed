/-! ===== reading tokens: what they are ===== -/
def isL (b : Int32) : Bool := !(decide (b < 97)) && !(decide (122 < b))
def isD (b : Int32) : Bool := !(decide (b < 48)) && !(decide (57 < b))
def isB (b : Int32) : Bool := decide (b = 9) || decide (b = 10) || decide (b = 13) || decide (b = 32)
def sgn (b : Int32) : Nat := if b = 40 then 6 else if b = 41 then 7 else if b = 42 then 5 else if b = 43 then 4 else if b = 59 then 3 else if b = 61 then 2 else if b = 123 then 8 else if b = 125 then 9 else 11
def b01 (b : Bool) : Int32 := if b then 1 else 0
theorem b01_0 {b : Bool} : b01 b = 0 ↔ b = false := by cases b <;> simp [b01]
theorem w_xL {b : Int32} {I : zI} {K : Int32 → Prop} : w_Tokens_isLetter b I K ↔ K (b01 (isL b)) := by
  unfold w_Tokens_isLetter isL b01
  by_cases h1 : b < 97
  · simp [h1]
  · by_cases h2 : 122 < b
    · simp [h1, h2]
    · simp [h1, h2]
theorem w_xD {b : Int32} {I : zI} {K : Int32 → Prop} : w_Tokens_isDigit b I K ↔ K (b01 (isD b)) := by
  unfold w_Tokens_isDigit isD b01
  by_cases h1 : b < 48
  · simp [h1]
  · by_cases h2 : 57 < b
    · simp [h1, h2]
    · simp [h1, h2]
theorem w_mL {b : Int32} {I : zI} {K : Int32 → Prop} : w_M_isLetter b I K ↔ K (b01 (isL b)) := w_xL (I := I)
theorem w_mD {b : Int32} {I : zI} {K : Int32 → Prop} : w_M_isDigit b I K ↔ K (b01 (isD b)) := w_xD (I := I)
theorem w_xB {b : Int32} {I : zI} {K : Int32 → Prop} : w_Tokens_isBlank b I K ↔ K (b01 (isB b)) := by
  unfold w_Tokens_isBlank isB b01
  by_cases h1 : b = 9
  · simp [h1]
  · by_cases h2 : b = 10
    · simp [h2]
    · by_cases h3 : b = 13
      · simp [h3]
      · by_cases h4 : b = 32
        · simp [h4]
        · simp [h1, h2, h3, h4]
theorem w_xS {b : Int32} {I : zI} {K : Int32 → Prop} : w_Tokens_signOf b I K ↔ K (zi (sgn b)) := by
  unfold w_Tokens_signOf sgn
  repeat' (first | rfl | split)
theorem w_mS {b : Int32} {I : zI} {K : Int32 → Prop} : w_M_kindOf b I K ↔ K (zi (sgn b)) := w_xS (I := I)
/-- how many of a kind stand there one behind the other, of so many at most -/
def runN (p : Int32 → Bool) (t : Nat → Int32) : Nat → Nat → Nat
  | 0, _ => 0
  | f + 1, i => if p (t i) then runN p t f (i + 1) + 1 else 0
theorem runN_le (p : Int32 → Bool) (t : Nat → Int32) : ∀ f i, runN p t f i ≤ f
  | 0, _ => Nat.le_refl _
  | f + 1, i => by
    unfold runN
    have := runN_le p t f (i + 1)
    split <;> omega
/-- a token's KIND and how many bytes it has -/
def tkP (t : Nat → Int32) (n i : Nat) : Nat × Nat :=
  if isL (t i) then (if 8 < runN isL t (n - i) i then (11, 1) else (0, runN isL t (n - i) i))
  else if isD (t i) then (if 4 < runN isD t (n - i) i then (11, 1) else (1, runN isD t (n - i) i))
  else (sgn (t i), 1)
theorem tkP_pos {t : Nat → Int32} {n i : Nat} (h : i < n) : 1 ≤ (tkP t n i).2 ∧ i + (tkP t n i).2 ≤ n ∧ (tkP t n i).2 ≤ 8 := by
  unfold tkP
  obtain ⟨f, hf⟩ : ∃ f, n - i = f + 1 := ⟨n - i - 1, by omega⟩
  have h1 := runN_le isL t (n - i) i
  have h2 := runN_le isD t (n - i) i
  rw [hf] at h1 h2 ⊢
  by_cases hl : isL (t i) = true
  · have e : runN isL t (f + 1) i = runN isL t f (i + 1) + 1 := by rw [runN, if_pos hl]
    rw [if_pos hl]
    split
    · exact ⟨Nat.le_refl _, by show i + 1 ≤ n; omega, by show 1 ≤ 8; omega⟩
    · exact ⟨by show 1 ≤ runN _ _ _ _; omega, by show i + runN _ _ _ _ ≤ n; omega, by show runN _ _ _ _ ≤ 8; omega⟩
  · rw [if_neg hl]
    by_cases hd : isD (t i) = true
    · have e : runN isD t (f + 1) i = runN isD t f (i + 1) + 1 := by rw [runN, if_pos hd]
      rw [if_pos hd]
      split
      · exact ⟨Nat.le_refl _, by show i + 1 ≤ n; omega, by show 1 ≤ 8; omega⟩
      · exact ⟨by show 1 ≤ runN _ _ _ _; omega, by show i + runN _ _ _ _ ≤ n; omega, by show runN _ _ _ _ ≤ 8; omega⟩
    · rw [if_neg hd]
      exact ⟨Nat.le_refl _, by show i + 1 ≤ n; omega, by show 1 ≤ 8; omega⟩
theorem sgn_lt (b : Int32) : sgn b < 12 := by
  unfold sgn
  repeat' (first | decide | split)
theorem tkP_kind {t : Nat → Int32} {n i : Nat} : (tkP t n i).1 < 12 := by
  have := sgn_lt (t i)
  unfold tkP
  split
  · split
    · decide
    · show 0 < 12
      decide
  · split
    · split
      · decide
      · show 1 < 12
        decide
    · exact this
/-- the tokens from a place on: KIND, first byte's place, how many bytes -/
def lexF (t : Nat → Int32) (n : Nat) : Nat → Nat → List (Nat × Nat × Nat)
  | 0, _ => []
  | f + 1, i => if n ≤ i then [] else if isB (t i) then lexF t n f (i + 1) else ((tkP t n i).1, i, (tkP t n i).2) :: lexF t n f (i + (tkP t n i).2)
def lex (t : Nat → Int32) (n : Nat) : List (Nat × Nat × Nat) := lexF t n n 0 ++ [(10, n, 0)]
theorem lexF_more (t : Nat → Int32) (n : Nat) : ∀ f g i, n ≤ i + f → f ≤ g → lexF t n g i = lexF t n f i
  | 0, g, i, h, _ => by
    cases g with
    | zero => rfl
    | succ g =>
      show (if n ≤ i then [] else _) = _
      rw [if_pos (by omega)]
      rfl
  | f + 1, g, i, h, hg => by
    obtain ⟨g, rfl⟩ : ∃ k, g = k + 1 := ⟨g - 1, by omega⟩
    rw [lexF, lexF]
    by_cases h1 : n ≤ i
    · rw [if_pos h1, if_pos h1]
    · have := tkP_pos (t := t) (n := n) (i := i) (by omega)
      rw [if_neg h1, if_neg h1, lexF_more t n f g (i + 1) (by omega) (by omega), lexF_more t n f g (i + (tkP t n i).2) (by omega) (by omega)]
theorem lexF_step {t : Nat → Int32} {n i : Nat} (h : i < n) : lexF t n (n - i) i = if isB (t i) then lexF t n (n - (i + 1)) (i + 1) else ((tkP t n i).1, i, (tkP t n i).2) :: lexF t n (n - (i + (tkP t n i).2)) (i + (tkP t n i).2) := by
  obtain ⟨f, hf⟩ : ∃ f, n - i = f + 1 := ⟨n - i - 1, by omega⟩
  have := tkP_pos (t := t) (n := n) (i := i) h
  rw [hf, lexF, if_neg (by omega), lexF_more t n (n - (i + 1)) f (i + 1) (by omega) (by omega), lexF_more t n (n - (i + (tkP t n i).2)) f _ (by omega) (by omega)]
theorem lexF_end {t : Nat → Int32} {n i : Nat} (h : n ≤ i) : lexF t n (n - i) i = [] := by
  rw [show n - i = 0 by omega]
  rfl
/-! ===== the class's ===== -/
/-- bytes one behind the other in a number -/
def pkR (t : Nat → Int32) (at_ : Nat) : Nat → Int32
  | 0 => 0
  | m + 1 => pkR t at_ m ||| (t (at_ + m) <<< ((24 - 8 * zi m) &&& 31))
def hdT (t : Nat → Int32) (s w : Nat) : Int32 := pkR t s (min 4 w)
def tlT (t : Nat → Int32) (s w : Nat) : Int32 := pkR t (s + 4) (min 4 (w - 4))
theorem s_pack {a an at_ m : Nat} {t : Nat → Int32} {I : zI} {K : Int32 → Prop} (han : an < 2147483648) (h : at_ + m ≤ an) (ht : ∀ j, j < m → I.1 (a + 1) (at_ + j) = t (at_ + j)) (hK : K (pkR t at_ m)) : w_Tokens_pack a an (zi at_) (zi m) I K := by
  intro P hP
  have key : ∀ d i : Nat, i + d = m → P (pkR t at_ i) (zi i) := by
    intro d
    induction d with
    | zero =>
      intro i hi
      refine hP _ _ ?_
      have : i = m := by omega
      subst this
      rw [if_pos (by rw [zi_le (by omega) (by omega)]; exact Nat.le_refl _)]
      exact hK
    | succ d ih =>
      intro i hi
      refine hP _ _ ?_
      rw [if_neg (by rw [zi_le (by omega) (by omega)]; omega), w_get han]
      intro v ev v2 ev2
      subst ev ev2
      rw [zi_add, rg_in han (by omega), ht i (by omega), zi_succ]
      exact ih (i + 1) (by omega)
  exact key m 0 (by omega)
theorem s_pack_neg {a an : Nat} {at_ m : Int32} {I : zI} {K : Int32 → Prop} (h : m ≤ 0) (hK : K 0) : w_Tokens_pack a an at_ m I K := by
  intro P hP
  refine hP _ _ ?_
  rw [if_pos h]
  exact hK
theorem s_runFrom {a an n i bd : Nat} {t : Nat → Int32} {I : zI} {K : Int32 → Prop} (han : an < 2147483648) (hn : n ≤ an) (hi : i < n) (hb : 1 ≤ bd) (hbd : bd < 100) (ht : ∀ j, j < n → I.1 (a + 1) j = t j)
    (p : Int32 → Bool) (hp : p = if isL (t i) then isL else isD) (hpi : p (t i) = true) (hK : K (zi (min bd (runN p t (n - i) i)))) : w_Tokens_runFrom a an (zi n) (zi i) (zi bd) I K := by
  unfold w_Tokens_runFrom
  rw [w_get han, rg_in han (by omega), ht i hi, w_xL]
  intro P hP
  have key : ∀ d r : Nat, r + d = bd → i + r ≤ n → K (zi (r + min d (runN p t (n - i - r) (i + r)))) → P (zi r) := by
    intro d
    induction d with
    | zero =>
      intro r hr h1 hK2
      refine hP _ ?_
      have : r = bd := by omega
      subst this
      rw [if_pos (by rw [zi_le (by omega) (by omega)]; exact Nat.le_refl _)]
      rw [show r + min 0 (runN p t (n - i - r) (i + r)) = r by omega] at hK2
      exact hK2
    | succ d ih =>
      intro r hr h1 hK2
      refine hP _ ?_
      rw [if_neg (by rw [zi_le (by omega) (by omega)]; omega), zi_add]
      by_cases h2 : n ≤ i + r
      · rw [if_pos (by rw [zi_le (by omega) (by omega)]; exact h2)]
        rw [show n - i - r = 0 by omega] at hK2
        exact hK2
      · rw [if_neg (by rw [zi_le (by omega) (by omega)]; exact h2)]
        obtain ⟨f, hf⟩ : ∃ f, n - i - r = f + 1 := ⟨n - i - r - 1, by omega⟩
        have hstop : p (t (i + r)) = false → K (zi r) := by
          intro q
          rw [hf, runN, if_neg (by rw [q]; decide)] at hK2
          exact hK2
        have hgo : p (t (i + r)) = true → P (zi (r + 1)) := by
          intro q
          refine ih (r + 1) (by omega) (by omega) ?_
          rw [hf, runN, if_pos q] at hK2
          rw [show n - i - (r + 1) = f by omega, show i + (r + 1) = i + r + 1 by omega, show r + 1 + min d (runN p t f (i + r + 1)) = r + min (d + 1) (runN p t f (i + r + 1) + 1) by omega]
          exact hK2
        intro P2 hP2
        have hP3 : P (zi (r + 1)) → P2 := fun q => hP2 (fun v ev => by rw [ev, zi_succ]; exact q)
        rw [w_get han, w_get han, rg_in han (by omega), ht _ (by omega), w_xD, w_xL]
        rw [hp] at hstop hgo
        by_cases hl : isL (t i) = true
        · rw [if_pos hl] at hstop hgo
          rw [if_neg (by rw [b01_0, hl]; decide)]
          cases hc : isL (t (i + r)) with
          | true =>
            rw [if_neg (by decide)]
            exact hP3 (hgo hc)
          | false =>
            rw [if_pos (by decide)]
            exact hstop hc
        · rw [if_neg hl] at hstop hgo
          rw [if_pos (by rw [b01_0]; exact Bool.not_eq_true _ ▸ hl)]
          cases hc : isD (t (i + r)) with
          | true =>
            rw [if_neg (by decide)]
            exact hP3 (hgo hc)
          | false =>
            rw [if_pos (by decide)]
            exact hstop hc
  obtain ⟨f, hf⟩ : ∃ f, n - i = f + 1 := ⟨n - i - 1, by omega⟩
  obtain ⟨d, hd⟩ : ∃ d, bd = d + 1 := ⟨bd - 1, by omega⟩
  refine key d 1 (by omega) (by omega) ?_
  rw [hf, runN, if_pos hpi] at hK
  rw [show n - i - 1 = f by omega, show 1 + min d (runN p t f (i + 1)) = min bd (runN p t f (i + 1) + 1) by omega]
  exact hK
