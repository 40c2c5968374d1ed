/-! ===== numbers ===== -/
abbrev zi (n : Nat) : Int32 := Int32.ofNat n
theorem zi_lt {a b : Nat} (ha : a < 2147483648) (hb : b < 2147483648) : zi a < zi b ↔ a < b := Int32.ofNat_lt_iff_lt ha hb
theorem zi_le {a b : Nat} (ha : a < 2147483648) (hb : b < 2147483648) : zi a ≤ zi b ↔ a ≤ b := Int32.ofNat_le_iff_le ha hb
theorem zi_toInt {a : Nat} (ha : a < 2147483648) : (zi a).toInt = a := Int32.toInt_ofNat_of_lt ha
theorem zi_eq {a b : Nat} (ha : a < 2147483648) (hb : b < 2147483648) : zi a = zi b ↔ a = b := by
  rw [← Int32.toInt_inj, zi_toInt ha, zi_toInt hb]
  omega
theorem zi_tn {a : Nat} (ha : a < 2147483648) : (zi a).toNatClampNeg = a := Int32.toNatClampNeg_ofNat_of_lt ha
theorem zi_add (a b : Nat) : zi a + zi b = zi (a + b) := (Int32.ofNat_add a b).symm
theorem zi_succ (a : Nat) : zi a + 1 = zi (a + 1) := zi_add a 1
theorem zi_sub {a b : Nat} (h : b ≤ a) : zi a - zi b = zi (a - b) := (Int32.ofNat_sub a b h).symm
theorem zi_mul (a b : Nat) : zi a * zi b = zi (a * b) := (Int32.ofNat_mul a b).symm
theorem zi_pos {a : Nat} (ha : a < 2147483648) : ¬ zi a < 0 := by
  rw [show (0 : Int32) = zi 0 from rfl, zi_lt ha (by decide)]
  omega
theorem zi_ge {a : Nat} (ha : a < 2147483648) : 0 ≤ zi a := by
  rw [show (0 : Int32) = zi 0 from rfl, zi_le (by decide) ha]
  omega
theorem zi_pred {a : Nat} (h : 1 ≤ a) : zi a + (-1) = zi (a - 1) := by
  have e : zi a = zi (a - 1) + 1 := by rw [zi_succ]; congr 1; omega
  rw [e, Int32.add_assoc, show (1 : Int32) + (-1) = 0 from rfl, Int32.add_zero]
/-- a number that isn't below 0 is one of a Nat -/
theorem zi_of {v : Int32} (h : 0 ≤ v) : ∃ a : Nat, a < 2147483648 ∧ v = zi a := by
  have h1 : (0 : Int) ≤ v.toInt := by simpa using Int32.le_iff_toInt_le.mp h
  have h2 := v.toInt_lt
  have h3 : v.toInt.toNat < 2147483648 := by omega
  refine ⟨v.toInt.toNat, h3, Int32.toInt_inj.mp ?_⟩
  rw [zi_toInt h3]
  omega
theorem zin_iff {i n : Nat} (h : i < 2147483648) : vp_in (zi i) n ↔ i < n := by
  unfold vp_in
  rw [zi_tn h]
  have := zi_pos h
  constructor
  · intro q
    exact Nat.not_le.mp fun r => q (Or.inr r)
  · rintro q (r | r)
    · exact this r
    · omega
/-! ===== joins without a way back ===== -/
/-- what a Row of n cells answers -/
def rg (n : Nat) (f : Nat → Int32) (i : Int32) : Int32 := if i < 0 then 0 else if zi n ≤ i then 0 else f i.toNatClampNeg
theorem rg_in {n i : Nat} {f : Nat → Int32} (hn : n < 2147483648) (h : i < n) : rg n f (zi i) = f i := by
  unfold rg
  rw [if_neg (zi_pos (by omega)), if_neg (by rw [zi_le hn (by omega)]; omega), zi_tn (by omega)]
theorem w_get {k n : Nat} {i : Int32} {I : zI} {K : Int32 → Prop} (hn : n < 2147483648) : w_Row_get k n i I K ↔ K (rg n (I.1 (k + 1)) i) := by
  unfold w_Row_get rg
  by_cases h1 : i < 0
  · rw [if_pos h1, if_pos h1]
  · rw [if_neg h1, if_neg h1]
    by_cases h2 : zi n ≤ i
    · rw [if_pos h2, if_pos h2]
    · rw [if_neg h2, if_neg h2]
      obtain ⟨a, ha, rfl⟩ := zi_of (Int32.not_lt.mp h1)
      have h3 : a < n := by
        rw [zi_le hn ha] at h2
        omega
      exact ⟨fun q => q.2, fun q => ⟨(zin_iff ha).mpr h3, q⟩⟩
/-- a Row of n cells behind a set -/
def rs (I : zI) (a n : Nat) (i v : Int32) : zI := if i < 0 then I else if zi n ≤ i then I else zu I a i.toNatClampNeg v
theorem rs_in {I : zI} {a n i : Nat} {v : Int32} (hn : n < 2147483648) (h : i < n) : rs I a n (zi i) v = zu I a i v := by
  unfold rs
  rw [if_neg (zi_pos (by omega)), if_neg (by rw [zi_le hn (by omega)]; omega), zi_tn (by omega)]
theorem rs_out {I : zI} {a n i : Nat} {v : Int32} (hn : n < 2147483648) (hi : i < 2147483648) (h : n ≤ i) : rs I a n (zi i) v = I := by
  unfold rs
  rw [if_neg (zi_pos hi), if_pos (by rw [zi_le hn hi]; exact h)]
theorem rs_neg {I : zI} {a n : Nat} {i v : Int32} (h : i < 0) : rs I a n i v = I := by
  unfold rs
  rw [if_pos h]
theorem w_set {k n : Nat} {i v : Int32} {I : zI} {K : zI → Prop} (hn : n < 2147483648) : w_Row_set k n i v I K ↔ K (rs I (k + 1) n i v) := by
  unfold w_Row_set rs
  by_cases h1 : i < 0
  · rw [if_pos h1, if_pos h1]
  · rw [if_neg h1, if_neg h1]
    by_cases h2 : zi n ≤ i
    · rw [if_pos h2, if_pos h2]
    · rw [if_neg h2, if_neg h2]
      obtain ⟨a, ha, rfl⟩ := zi_of (Int32.not_lt.mp h1)
      have h3 : a < n := by
        rw [zi_le hn ha] at h2
        omega
      exact ⟨fun q => q.2 _ rfl, fun q => ⟨(zin_iff ha).mpr h3, fun J e => e ▸ q⟩⟩
theorem w_add {k n : Nat} {i v : Int32} {I : zI} {K : zI → Prop} (hn : n < 2147483648) : w_Row_add k n i v I K ↔ K (rs I (k + 1) n i (rg n (I.1 (k + 1)) i + v)) := by
  unfold w_Row_add
  rw [w_get hn, w_set hn]
/-! ===== what stays: cells outside lo .. hi ===== -/
def eqX (lo hi : Nat) (I J : zI) : Prop := ∀ a, (a < lo ∨ hi ≤ a) → J.1 a = I.1 a ∧ J.2 a = I.2 a
theorem eqX.rf {lo hi : Nat} {I : zI} : eqX lo hi I I := fun _ _ => ⟨rfl, rfl⟩
theorem eqX.tr {lo hi : Nat} {I J L : zI} (h1 : eqX lo hi I J) (h2 : eqX lo hi J L) : eqX lo hi I L := fun a ha => ⟨(h2 a ha).1.trans (h1 a ha).1, (h2 a ha).2.trans (h1 a ha).2⟩
theorem eqX.mono {lo hi lo' hi' : Nat} {I J : zI} (h : eqX lo hi I J) (h1 : lo' ≤ lo) (h2 : hi ≤ hi') : eqX lo' hi' I J := fun a ha => h a (by omega)
theorem zu_at {I : zI} {a i b j : Nat} {v : Int32} : (zu I a i v).1 b j = if b = a ∧ j = i then v else I.1 b j := rfl
theorem zu_self {I : zI} {a i : Nat} {v : Int32} : (zu I a i v).1 a i = v := if_pos ⟨rfl, rfl⟩
theorem zu_o {I : zI} {a i b : Nat} {v : Int32} (h : b ≠ a) : (zu I a i v).1 b = I.1 b := (zu_ne h).1
theorem zu_i {I : zI} {a i b j : Nat} {v : Int32} (h : j ≠ i) : (zu I a i v).1 b j = I.1 b j := by
  rw [zu_at, if_neg (fun q => h q.2)]
theorem zu_2 {I : zI} {a i : Nat} {v : Int32} : (zu I a i v).2 = I.2 := rfl
theorem eqX.zu {lo hi : Nat} {I J : zI} {a i : Nat} {v : Int32} (h : eqX lo hi I J) (h1 : lo ≤ a) (h2 : a < hi) : eqX lo hi I (zu J a i v) := fun b hb => by
  have hn : b ≠ a := by omega
  exact ⟨(zu_ne hn).1.trans (h b hb).1, (zu_ne hn).2.trans (h b hb).2⟩
theorem eqX.rs {lo hi : Nat} {I J : zI} {a n : Nat} {i v : Int32} (h : eqX lo hi I J) (h1 : lo ≤ a) (h2 : a < hi) : eqX lo hi I (rs J a n i v) := by
  unfold Jvm.Pilot.@@N@@.rs
  split
  · exact h
  · split
    · exact h
    · exact h.zu h1 h2
theorem rs_o {I : zI} {a n b : Nat} {i v : Int32} (h : b ≠ a) : (rs I a n i v).1 b = I.1 b := by
  unfold rs
  split
  · rfl
  · split
    · rfl
    · exact zu_o h
theorem rs_2 {I : zI} {a n : Nat} {i v : Int32} : (rs I a n i v).2 = I.2 := by
  unfold rs
  split
  · rfl
  · split <;> rfl
/-! ===== fill, copyFrom ===== -/
theorem s_fill {k n : Nat} {v : Int32} {I : zI} {K : zI → Prop} (hn : n < 2147483648) (h : ∀ J : zI, eqX (k + 1) (k + 2) I J → (∀ j, J.1 (k + 1) j = if j < n then v else I.1 (k + 1) j) → K J) : w_Row_fill k n v I K := by
  intro P hP
  have key : ∀ d i : Nat, i + d = n → ∀ J : zI, eqX (k + 1) (k + 2) I J → (∀ j, J.1 (k + 1) j = if j < i then v else I.1 (k + 1) j) → P (zi i) J := by
    intro d
    induction d with
    | zero =>
      intro i hi J e c
      refine hP _ _ ?_
      have hin : i = n := by omega
      subst hin
      rw [if_pos (by rw [zi_le hn hn]; exact Nat.le_refl _)]
      exact h J e c
    | succ d ih =>
      intro i hi J e c
      refine hP _ _ ?_
      rw [if_neg (by rw [zi_le hn (by omega)]; omega)]
      refine ⟨(zin_iff (by omega)).mpr (by omega), fun J2 e2 v2 ev2 => ?_⟩
      subst e2 ev2
      rw [zi_succ, zi_tn (by omega)]
      refine ih (i + 1) (by omega) _ (e.zu (Nat.le_refl _) (by omega)) (fun j => ?_)
      rw [zu_at, c]
      by_cases hj : j = i
      · rw [if_pos ⟨rfl, hj⟩, if_pos (by omega)]
      · rw [if_neg (fun q => hj q.2)]
        by_cases h2 : j < i
        · rw [if_pos h2, if_pos (by omega)]
        · rw [if_neg h2, if_neg (by omega)]
  exact key n 0 (by omega) I .rf (fun j => by rw [if_neg (by omega)])
theorem zcp_at {I : zI} {k k0 n b j : Nat} : (zcp I k k0 0 0 n).1 b j = if b = k ∧ j < n then I.1 k0 j else I.1 b j := by
  unfold zcp va_cpy
  by_cases hb : b = k
  · subst hb
    by_cases hj : j < n
    · simp [hj]
    · simp [hj]
  · simp [hb]
/-- copyFrom of as many as both Rows have room for -/
theorem s_copy {k n a an c : Nat} {I : zI} {K : zI → Prop} (hn : n < 2147483648) (han : an < 2147483648) (hcn : c ≤ n) (hca : c ≤ an) (h : ∀ J : zI, eqX (k + 1) (k + 2) I J → (∀ j, J.1 (k + 1) j = if j < c then I.1 (a + 1) j else I.1 (k + 1) j) → K J) : w_Row_copyFrom k n a an (zi c) I K := by
  unfold w_Row_copyFrom
  intro v ev
  have e1 : v = zi c := by
    rw [ev]
    by_cases q : zi an < zi n
    · rw [if_pos q]
      by_cases q2 : zi an < zi c
      · rw [zi_lt han (by omega)] at q2
        omega
      · rw [if_neg q2]
    · rw [if_neg q]
      by_cases q2 : zi n < zi c
      · rw [zi_lt hn (by omega)] at q2
        omega
      · rw [if_neg q2]
  subst e1
  have hc : c < 2147483648 := by omega
  by_cases h0 : zi c ≤ 0
  · rw [if_pos h0]
    have : c = 0 := by
      rw [show (0 : Int32) = zi 0 from rfl, zi_le hc (by decide)] at h0
      omega
    subst this
    exact h I .rf (fun j => by rw [if_neg (by omega)])
  · rw [if_neg h0]
    refine ⟨⟨zi_ge hc, by rw [zi_tn hc]; exact hca, by rw [zi_tn hc]; exact hcn⟩, fun J e => ?_⟩
    subst e
    rw [zi_tn hc]
    refine h _ (fun b hb => ?_) (fun j => by rw [zcp_at]; simp)
    have hbk : b ≠ k + 1 := by omega
    exact zcp_ne hbk
/-! ===== reading tokens: what they are ===== -/
def isL (b : Int32) : Bool := !(decide (b < 97)) && !(decide (122 < b))
def isD (b : Int32) : Bool := !(decide (b < 48)) && !(decide (57 < b))
def isB (b : Int32) : Bool := decide (b = 9) || decide (b = 10) || decide (b = 13) || decide (b = 32)
def sgn (b : Int32) : Nat := if b = 40 then 6 else if b = 41 then 7 else if b = 42 then 5 else if b = 43 then 4 else if b = 59 then 3 else if b = 61 then 2 else if b = 123 then 8 else if b = 125 then 9 else 11
def b01 (b : Bool) : Int32 := if b then 1 else 0
theorem b01_0 {b : Bool} : b01 b = 0 ↔ b = false := by cases b <;> simp [b01]
theorem w_xL {b : Int32} {I : zI} {K : Int32 → Prop} : w_Tokens_isLetter b I K ↔ K (b01 (isL b)) := by
  unfold w_Tokens_isLetter isL b01
  by_cases h1 : b < 97
  · simp [h1]
  · by_cases h2 : 122 < b
    · simp [h1, h2]
    · simp [h1, h2]
theorem w_xD {b : Int32} {I : zI} {K : Int32 → Prop} : w_Tokens_isDigit b I K ↔ K (b01 (isD b)) := by
  unfold w_Tokens_isDigit isD b01
  by_cases h1 : b < 48
  · simp [h1]
  · by_cases h2 : 57 < b
    · simp [h1, h2]
    · simp [h1, h2]
theorem w_mL {b : Int32} {I : zI} {K : Int32 → Prop} : w_M_isLetter b I K ↔ K (b01 (isL b)) := w_xL (I := I)
theorem w_mD {b : Int32} {I : zI} {K : Int32 → Prop} : w_M_isDigit b I K ↔ K (b01 (isD b)) := w_xD (I := I)
theorem w_xB {b : Int32} {I : zI} {K : Int32 → Prop} : w_Tokens_isBlank b I K ↔ K (b01 (isB b)) := by
  unfold w_Tokens_isBlank isB b01
  by_cases h1 : b = 9
  · simp [h1]
  · by_cases h2 : b = 10
    · simp [h2]
    · by_cases h3 : b = 13
      · simp [h3]
      · by_cases h4 : b = 32
        · simp [h4]
        · simp [h1, h2, h3, h4]
theorem w_xS {b : Int32} {I : zI} {K : Int32 → Prop} : w_Tokens_signOf b I K ↔ K (zi (sgn b)) := by
  unfold w_Tokens_signOf sgn
  repeat' (first | rfl | split)
theorem w_mS {b : Int32} {I : zI} {K : Int32 → Prop} : w_M_kindOf b I K ↔ K (zi (sgn b)) := w_xS (I := I)
/-- how many of a kind stand there one behind the other, of so many at most -/
def runN (p : Int32 → Bool) (t : Nat → Int32) : Nat → Nat → Nat
  | 0, _ => 0
  | f + 1, i => if p (t i) then runN p t f (i + 1) + 1 else 0
theorem runN_le (p : Int32 → Bool) (t : Nat → Int32) : ∀ f i, runN p t f i ≤ f
  | 0, _ => Nat.le_refl _
  | f + 1, i => by
    unfold runN
    have := runN_le p t f (i + 1)
    split <;> omega
/-- a token's KIND and how many bytes it has -/
def tkP (t : Nat → Int32) (n i : Nat) : Nat × Nat :=
  if isL (t i) then (if 8 < runN isL t (n - i) i then (11, 1) else (0, runN isL t (n - i) i))
  else if isD (t i) then (if 4 < runN isD t (n - i) i then (11, 1) else (1, runN isD t (n - i) i))
  else (sgn (t i), 1)
theorem tkP_pos {t : Nat → Int32} {n i : Nat} (h : i < n) : 1 ≤ (tkP t n i).2 ∧ i + (tkP t n i).2 ≤ n ∧ (tkP t n i).2 ≤ 8 := by
  unfold tkP
  obtain ⟨f, hf⟩ : ∃ f, n - i = f + 1 := ⟨n - i - 1, by omega⟩
  have h1 := runN_le isL t (n - i) i
  have h2 := runN_le isD t (n - i) i
  rw [hf] at h1 h2 ⊢
  by_cases hl : isL (t i) = true
  · have e : runN isL t (f + 1) i = runN isL t f (i + 1) + 1 := by rw [runN, if_pos hl]
    rw [if_pos hl]
    split
    · exact ⟨Nat.le_refl _, by show i + 1 ≤ n; omega, by show 1 ≤ 8; omega⟩
    · exact ⟨by show 1 ≤ runN _ _ _ _; omega, by show i + runN _ _ _ _ ≤ n; omega, by show runN _ _ _ _ ≤ 8; omega⟩
  · rw [if_neg hl]
    by_cases hd : isD (t i) = true
    · have e : runN isD t (f + 1) i = runN isD t f (i + 1) + 1 := by rw [runN, if_pos hd]
      rw [if_pos hd]
      split
      · exact ⟨Nat.le_refl _, by show i + 1 ≤ n; omega, by show 1 ≤ 8; omega⟩
      · exact ⟨by show 1 ≤ runN _ _ _ _; omega, by show i + runN _ _ _ _ ≤ n; omega, by show runN _ _ _ _ ≤ 8; omega⟩
    · rw [if_neg hd]
      exact ⟨Nat.le_refl _, by show i + 1 ≤ n; omega, by show 1 ≤ 8; omega⟩
theorem sgn_lt (b : Int32) : sgn b < 12 := by
  unfold sgn
  repeat' (first | decide | split)
theorem tkP_kind {t : Nat → Int32} {n i : Nat} : (tkP t n i).1 < 12 := by
  have := sgn_lt (t i)
  unfold tkP
  split
  · split
    · decide
    · show 0 < 12
      decide
  · split
    · split
      · decide
      · show 1 < 12
        decide
    · exact this
/-- the tokens from a place on: KIND, first byte's place, how many bytes -/
def lexF (t : Nat → Int32) (n : Nat) : Nat → Nat → List (Nat × Nat × Nat)
  | 0, _ => []
  | f + 1, i => if n ≤ i then [] else if isB (t i) then lexF t n f (i + 1) else ((tkP t n i).1, i, (tkP t n i).2) :: lexF t n f (i + (tkP t n i).2)
def lex (t : Nat → Int32) (n : Nat) : List (Nat × Nat × Nat) := lexF t n n 0 ++ [(10, n, 0)]
theorem lexF_more (t : Nat → Int32) (n : Nat) : ∀ f g i, n ≤ i + f → f ≤ g → lexF t n g i = lexF t n f i
  | 0, g, i, h, _ => by
    cases g with
    | zero => rfl
    | succ g =>
      show (if n ≤ i then [] else _) = _
      rw [if_pos (by omega)]
      rfl
  | f + 1, g, i, h, hg => by
    obtain ⟨g, rfl⟩ : ∃ k, g = k + 1 := ⟨g - 1, by omega⟩
    rw [lexF, lexF]
    by_cases h1 : n ≤ i
    · rw [if_pos h1, if_pos h1]
    · have := tkP_pos (t := t) (n := n) (i := i) (by omega)
      rw [if_neg h1, if_neg h1, lexF_more t n f g (i + 1) (by omega) (by omega), lexF_more t n f g (i + (tkP t n i).2) (by omega) (by omega)]
theorem lexF_step {t : Nat → Int32} {n i : Nat} (h : i < n) : lexF t n (n - i) i = if isB (t i) then lexF t n (n - (i + 1)) (i + 1) else ((tkP t n i).1, i, (tkP t n i).2) :: lexF t n (n - (i + (tkP t n i).2)) (i + (tkP t n i).2) := by
  obtain ⟨f, hf⟩ : ∃ f, n - i = f + 1 := ⟨n - i - 1, by omega⟩
  have := tkP_pos (t := t) (n := n) (i := i) h
  rw [hf, lexF, if_neg (by omega), lexF_more t n (n - (i + 1)) f (i + 1) (by omega) (by omega), lexF_more t n (n - (i + (tkP t n i).2)) f _ (by omega) (by omega)]
theorem lexF_end {t : Nat → Int32} {n i : Nat} (h : n ≤ i) : lexF t n (n - i) i = [] := by
  rw [show n - i = 0 by omega]
  rfl
/-! ===== the class's ===== -/
/-- bytes one behind the other in a number -/
def pkR (t : Nat → Int32) (at_ : Nat) : Nat → Int32
  | 0 => 0
  | m + 1 => pkR t at_ m ||| (t (at_ + m) <<< ((24 - 8 * zi m) &&& 31))
def hdT (t : Nat → Int32) (s w : Nat) : Int32 := pkR t s (min 4 w)
def tlT (t : Nat → Int32) (s w : Nat) : Int32 := pkR t (s + 4) (min 4 (w - 4))
theorem s_pack {a an at_ m : Nat} {t : Nat → Int32} {I : zI} {K : Int32 → Prop} (han : an < 2147483648) (h : at_ + m ≤ an) (ht : ∀ j, j < m → I.1 (a + 1) (at_ + j) = t (at_ + j)) (hK : K (pkR t at_ m)) : w_Tokens_pack a an (zi at_) (zi m) I K := by
  intro P hP
  have key : ∀ d i : Nat, i + d = m → P (pkR t at_ i) (zi i) := by
    intro d
    induction d with
    | zero =>
      intro i hi
      refine hP _ _ ?_
      have : i = m := by omega
      subst this
      rw [if_pos (by rw [zi_le (by omega) (by omega)]; exact Nat.le_refl _)]
      exact hK
    | succ d ih =>
      intro i hi
      refine hP _ _ ?_
      rw [if_neg (by rw [zi_le (by omega) (by omega)]; omega), w_get han]
      intro v ev v2 ev2
      subst ev ev2
      rw [zi_add, rg_in han (by omega), ht i (by omega), zi_succ]
      exact ih (i + 1) (by omega)
  exact key m 0 (by omega)
theorem s_pack_neg {a an : Nat} {at_ m : Int32} {I : zI} {K : Int32 → Prop} (h : m ≤ 0) (hK : K 0) : w_Tokens_pack a an at_ m I K := by
  intro P hP
  refine hP _ _ ?_
  rw [if_pos h]
  exact hK
theorem s_runFrom {a an n i bd : Nat} {t : Nat → Int32} {I : zI} {K : Int32 → Prop} (han : an < 2147483648) (hn : n ≤ an) (hi : i < n) (hb : 1 ≤ bd) (hbd : bd < 100) (ht : ∀ j, j < n → I.1 (a + 1) j = t j)
    (p : Int32 → Bool) (hp : p = if isL (t i) then isL else isD) (hpi : p (t i) = true) (hK : K (zi (min bd (runN p t (n - i) i)))) : w_Tokens_runFrom a an (zi n) (zi i) (zi bd) I K := by
  unfold w_Tokens_runFrom
  rw [w_get han, rg_in han (by omega), ht i hi, w_xL]
  intro P hP
  have key : ∀ d r : Nat, r + d = bd → i + r ≤ n → K (zi (r + min d (runN p t (n - i - r) (i + r)))) → P (zi r) := by
    intro d
    induction d with
    | zero =>
      intro r hr h1 hK2
      refine hP _ ?_
      have : r = bd := by omega
      subst this
      rw [if_pos (by rw [zi_le (by omega) (by omega)]; exact Nat.le_refl _)]
      rw [show r + min 0 (runN p t (n - i - r) (i + r)) = r by omega] at hK2
      exact hK2
    | succ d ih =>
      intro r hr h1 hK2
      refine hP _ ?_
      rw [if_neg (by rw [zi_le (by omega) (by omega)]; omega), zi_add]
      by_cases h2 : n ≤ i + r
      · rw [if_pos (by rw [zi_le (by omega) (by omega)]; exact h2)]
        rw [show n - i - r = 0 by omega] at hK2
        exact hK2
      · rw [if_neg (by rw [zi_le (by omega) (by omega)]; exact h2)]
        obtain ⟨f, hf⟩ : ∃ f, n - i - r = f + 1 := ⟨n - i - r - 1, by omega⟩
        have hstop : p (t (i + r)) = false → K (zi r) := by
          intro q
          rw [hf, runN, if_neg (by rw [q]; decide)] at hK2
          exact hK2
        have hgo : p (t (i + r)) = true → P (zi (r + 1)) := by
          intro q
          refine ih (r + 1) (by omega) (by omega) ?_
          rw [hf, runN, if_pos q] at hK2
          rw [show n - i - (r + 1) = f by omega, show i + (r + 1) = i + r + 1 by omega, show r + 1 + min d (runN p t f (i + r + 1)) = r + min (d + 1) (runN p t f (i + r + 1) + 1) by omega]
          exact hK2
        intro P2 hP2
        have hP3 : P (zi (r + 1)) → P2 := fun q => hP2 (fun v ev => by rw [ev, zi_succ]; exact q)
        rw [w_get han, w_get han, rg_in han (by omega), ht _ (by omega), w_xD, w_xL]
        rw [hp] at hstop hgo
        by_cases hl : isL (t i) = true
        · rw [if_pos hl] at hstop hgo
          rw [if_neg (by rw [b01_0, hl]; decide)]
          cases hc : isL (t (i + r)) with
          | true =>
            rw [if_neg (by decide)]
            exact hP3 (hgo hc)
          | false =>
            rw [if_pos (by decide)]
            exact hstop hc
        · rw [if_neg hl] at hstop hgo
          rw [if_pos (by rw [b01_0]; exact Bool.not_eq_true _ ▸ hl)]
          cases hc : isD (t (i + r)) with
          | true =>
            rw [if_neg (by decide)]
            exact hP3 (hgo hc)
          | false =>
            rw [if_pos (by decide)]
            exact hstop hc
  obtain ⟨f, hf⟩ : ∃ f, n - i = f + 1 := ⟨n - i - 1, by omega⟩
  obtain ⟨d, hd⟩ : ∃ d, bd = d + 1 := ⟨bd - 1, by omega⟩
  refine key d 1 (by omega) (by omega) ?_
  rw [hf, runN, if_pos hpi] at hK
  rw [show n - i - 1 = f by omega, show 1 + min d (runN p t f (i + 1)) = min bd (runN p t f (i + 1) + 1) by omega]
  exact hK
/-! ===== the class reads a text ===== -/
theorem zu_oo {I : zI} {a i b j : Nat} {v : Int32} (h : b ≠ a) : (zu I a i v).1 b j = I.1 b j := by rw [zu_o h]
/-- the Tokens at k hold these ones of a text -/
def RepT (I : zI) (k : Nat) (t : Nat → Int32) (l : List (Nat × Nat × Nat)) : Prop :=
  I.1 k 5 = zi l.length ∧ ∀ j x, l[j]? = some x → I.1 (k + 2) j = zi x.1 ∧ I.1 (k + 4) j = zi x.2.1 ∧ I.1 (k + 6) j = zi x.2.2 ∧ I.1 (k + 8) j = hdT t x.2.1 x.2.2 ∧ I.1 (k + 10) j = tlT t x.2.1 x.2.2
theorem s_append {k a an kd s w : Nat} {t : Nat → Int32} {l : List (Nat × Nat × Nat)} {I : zI} {K : zI → Prop} (hl : l.length < 100) (rep : RepT I k t l) (hw : w ≤ 8) (han : an < 2147483648) (hs : s + w ≤ an) (ht : ∀ j, j < w → I.1 (a + 1) (s + j) = t (s + j)) (hak : a + 1 < k)
    (hK : ∀ J, eqX k (k + 11) I J → RepT J k t (l ++ [(kd, s, w)]) → K J) : w_Tokens_append k a an (zi kd) (zi s) (zi w) I K := by
  obtain ⟨hm, hr⟩ := rep
  have h1 : ∀ (J : zI) (b : Nat) (v : Int32), J.1 k 5 = zi l.length → rs J b 100 (J.1 k 5) v = zu J b l.length v := fun J b v h => by
    rw [h]
    exact rs_in (by decide) hl
  unfold w_Tokens_append
  refine (w_set (by decide)).mpr ?_
  rw [h1 I _ _ hm]
  generalize e1 : zu I (k + 1 + 1) l.length (zi kd) = J1
  have m1 : J1.1 k 5 = zi l.length := by rw [← e1, zu_oo (by omega)]; exact hm
  refine (w_set (by decide)).mpr ?_
  rw [h1 J1 _ _ m1]
  generalize e2 : zu J1 (k + 3 + 1) l.length (zi s) = J2
  have m2 : J2.1 k 5 = zi l.length := by rw [← e2, zu_oo (by omega)]; exact m1
  refine (w_set (by decide)).mpr ?_
  rw [h1 J2 _ _ m2]
  generalize e3 : zu J2 (k + 5 + 1) l.length (zi w) = J3
  have m3 : J3.1 k 5 = zi l.length := by rw [← e3, zu_oo (by omega)]; exact m2
  have t3 : ∀ j, J3.1 (a + 1) j = I.1 (a + 1) j := fun j => by rw [← e3, ← e2, ← e1, zu_oo (by omega), zu_oo (by omega), zu_oo (by omega)]
  have e4 : (if zi w < 4 then zi w else 4) = zi (min 4 w) := by
    rw [show (4 : Int32) = zi 4 from rfl]
    by_cases q : w < 4
    · rw [if_pos ((zi_lt (by omega) (by decide)).mpr q), show min 4 w = w by omega]
    · rw [if_neg (fun r => q ((zi_lt (by omega) (by decide)).mp r)), show min 4 w = 4 by omega]
  rw [e4]
  refine s_pack (t := t) han (by omega) (fun j hj => by rw [t3]; exact ht j (by omega)) ?_
  refine (w_set (by decide)).mpr ?_
  rw [h1 J3 _ _ m3]
  generalize e5 : zu J3 (k + 7 + 1) l.length (pkR t s (min 4 w)) = J4
  have m4 : J4.1 k 5 = zi l.length := by rw [← e5, zu_oo (by omega)]; exact m3
  have t4 : ∀ j, J4.1 (a + 1) j = I.1 (a + 1) j := fun j => by rw [← e5, zu_oo (by omega)]; exact t3 j
  have fin : (fun r_6 => w_Row_set (k + 9) 100 (J4.1 k 5) r_6 J4 (fun I_7 => ∀ I_8, I_8 = (zu I_7 k 5 ((I_7.1 k 5) + 1)) → K I_8)) (tlT t s w) := by
    refine (w_set (by decide)).mpr ?_
    rw [h1 J4 _ _ m4]
    generalize e6 : zu J4 (k + 9 + 1) l.length (tlT t s w) = J5
    have m5 : J5.1 k 5 = zi l.length := by rw [← e6, zu_oo (by omega)]; exact m4
    intro J6 e7
    rw [m5, zi_succ] at e7
    subst e7
    have f1 : eqX k (k + 11) I J1 := by rw [← e1]; exact eqX.rf.zu (by omega) (by omega)
    have f2 : eqX k (k + 11) I J2 := by rw [← e2]; exact f1.zu (by omega) (by omega)
    have f3 : eqX k (k + 11) I J3 := by rw [← e3]; exact f2.zu (by omega) (by omega)
    have f4 : eqX k (k + 11) I J4 := by rw [← e5]; exact f3.zu (by omega) (by omega)
    have f5 : eqX k (k + 11) I J5 := by rw [← e6]; exact f4.zu (by omega) (by omega)
    refine hK _ (f5.zu (by omega) (by omega)) ⟨?_, fun j x hx => ?_⟩
    · rw [zu_self, List.length_append]
      rfl
    · have c2 : ∀ j, (zu J5 k 5 (zi (l.length + 1))).1 (k + 2) j = if j = l.length then zi kd else I.1 (k + 2) j := fun j => by
        rw [zu_oo (by omega), ← e6, zu_oo (by omega), ← e5, zu_oo (by omega), ← e3, zu_oo (by omega), ← e2, zu_oo (by omega), ← e1, zu_at]
        simp
      have c4 : ∀ j, (zu J5 k 5 (zi (l.length + 1))).1 (k + 4) j = if j = l.length then zi s else I.1 (k + 4) j := fun j => by
        rw [zu_oo (by omega), ← e6, zu_oo (by omega), ← e5, zu_oo (by omega), ← e3, zu_oo (by omega), ← e2, zu_at, ← e1, zu_oo (by omega)]
        simp
      have c6 : ∀ j, (zu J5 k 5 (zi (l.length + 1))).1 (k + 6) j = if j = l.length then zi w else I.1 (k + 6) j := fun j => by
        rw [zu_oo (by omega), ← e6, zu_oo (by omega), ← e5, zu_oo (by omega), ← e3, zu_at, ← e2, zu_oo (by omega), ← e1, zu_oo (by omega)]
        simp
      have c8 : ∀ j, (zu J5 k 5 (zi (l.length + 1))).1 (k + 8) j = if j = l.length then hdT t s w else I.1 (k + 8) j := fun j => by
        rw [zu_oo (by omega), ← e6, zu_oo (by omega), ← e5, zu_at, ← e3, zu_oo (by omega), ← e2, zu_oo (by omega), ← e1, zu_oo (by omega)]
        simp [hdT]
      have c10 : ∀ j, (zu J5 k 5 (zi (l.length + 1))).1 (k + 10) j = if j = l.length then tlT t s w else I.1 (k + 10) j := fun j => by
        rw [zu_oo (by omega), ← e6, zu_at, ← e5, zu_oo (by omega), ← e3, zu_oo (by omega), ← e2, zu_oo (by omega), ← e1, zu_oo (by omega)]
        simp
      rw [c2, c4, c6, c8, c10]
      by_cases hj : j < l.length
      · rw [List.getElem?_append_left hj] at hx
        have hn : ¬ j = l.length := by omega
        rw [if_neg hn, if_neg hn, if_neg hn, if_neg hn, if_neg hn]
        exact hr j x hx
      · have hj2 : j = l.length := by
          have := (List.getElem?_eq_some_iff.mp hx).1
          rw [List.length_append] at this
          simp at this
          omega
        subst hj2
        rw [List.getElem?_append_right (Nat.le_refl _), Nat.sub_self] at hx
        cases hx
        simp
  by_cases hw4 : w < 4
  · have e8 : tlT t s w = 0 := by
      unfold tlT
      rw [show min 4 (w - 4) = 0 by omega]
      rfl
    rw [e8] at fin
    refine s_pack_neg ?_ fin
    rcases (by omega : w = 0 ∨ w = 1 ∨ w = 2 ∨ w = 3) with rfl | rfl | rfl | rfl <;> decide
  · have e9 : (if zi w - 4 < 4 then zi w - 4 else 4) = zi (min 4 (w - 4)) := by
      rw [show (4 : Int32) = zi 4 from rfl, zi_sub (by omega)]
      by_cases q : w - 4 < 4
      · rw [if_pos ((zi_lt (by omega) (by decide)).mpr q), show min 4 (w - 4) = w - 4 by omega]
      · rw [if_neg (fun r => q ((zi_lt (by omega) (by decide)).mp r)), show min 4 (w - 4) = 4 by omega]
    rw [e9, show zi s + 4 = zi (s + 4) from zi_add s 4]
    exact s_pack (t := t) han (by omega) (fun j hj => by
      rw [t4, show s + 4 + j = s + (4 + j) by omega]
      exact ht (4 + j) (by omega)) fin
theorem s_readOne {k a an n i : Nat} {t : Nat → Int32} {l : List (Nat × Nat × Nat)} {I : zI} {K : Int32 → zI → Prop} (hl : l.length < 100) (rep : RepT I k t l) (han : an < 2147483648) (hn : n ≤ an) (hi : i < n) (ht : ∀ j, j < n → I.1 (a + 1) j = t j) (hak : a + 1 < k)
    (hK : ∀ J, eqX k (k + 11) I J → RepT J k t (l ++ [((tkP t n i).1, i, (tkP t n i).2)]) → K (zi (tkP t n i).2) J) : w_Tokens_readOne k a an (zi n) (zi i) I K := by
  have hp := tkP_pos (t := t) hi
  unfold w_Tokens_readOne
  rw [w_get han, rg_in han (by omega), ht i hi, w_xS, w_xL]
  intro P107 h107
  have fin : P107 (zi (tkP t n i).1) (zi (tkP t n i).2) := h107 _ _ (s_append hl rep hp.2.2 han (by omega) (fun j hj => ht _ (by omega)) hak hK)
  intro P33 h33
  cases hL : isL (t i) with
  | true =>
    rw [if_neg (by decide)]
    refine h33 ?_
    rw [w_xL]
    intro P47 h47
    rw [hL, if_neg (by decide)]
    refine h47 _ ?_
    rw [show (8 : Int32) + 1 = zi 9 from rfl]
    refine s_runFrom (t := t) (p := isL) han hn hi (by decide) (by decide) ht (by rw [hL]; rfl) hL ?_
    rw [w_xL]
    intro P74 h74
    rw [hL, if_neg (by decide)]
    have hr := runN_le isL t (n - i) i
    refine h74 _ ?_
    by_cases h8 : 8 < runN isL t (n - i) i
    · have e : tkP t n i = (11, 1) := by unfold tkP; rw [if_pos hL, if_pos h8]
      rw [e] at fin
      have hc : ¬ zi (min 9 (runN isL t (n - i) i)) ≤ 8 := by
        rw [show (8 : Int32) = zi 8 from rfl, zi_le (by omega) (by decide)]
        omega
      intro P90 h90
      rw [if_neg hc]
      refine h90 _ ?_
      intro P105 h105
      rw [if_neg hc]
      exact h105 _ fin
    · have e : tkP t n i = (0, runN isL t (n - i) i) := by unfold tkP; rw [if_pos hL, if_neg h8]
      rw [e] at fin
      have hm : min 9 (runN isL t (n - i) i) = runN isL t (n - i) i := by omega
      rw [hm]
      have hc : zi (runN isL t (n - i) i) ≤ 8 := by
        rw [show (8 : Int32) = zi 8 from rfl, zi_le (by omega) (by decide)]
        omega
      intro P90 h90
      rw [if_pos hc]
      refine h90 _ ?_
      intro P105 h105
      rw [if_pos hc]
      exact h105 _ fin
  | false =>
    rw [if_pos (by decide), w_xD]
    cases hD : isD (t i) with
    | true =>
      rw [if_neg (by decide)]
      refine h33 ?_
      rw [w_xL]
      intro P47 h47
      rw [hL, if_pos (by decide)]
      refine h47 _ ?_
      rw [show (4 : Int32) + 1 = zi 5 from rfl]
      refine s_runFrom (t := t) (p := isD) han hn hi (by decide) (by decide) ht (by rw [hL]; rfl) hD ?_
      rw [w_xL]
      intro P74 h74
      rw [hL, if_pos (by decide)]
      have hr := runN_le isD t (n - i) i
      refine h74 _ ?_
      by_cases h4 : 4 < runN isD t (n - i) i
      · have e : tkP t n i = (11, 1) := by unfold tkP; rw [if_neg (by rw [hL]; decide), if_pos hD, if_pos h4]
        rw [e] at fin
        have hc : ¬ zi (min 5 (runN isD t (n - i) i)) ≤ 4 := by
          rw [show (4 : Int32) = zi 4 from rfl, zi_le (by omega) (by decide)]
          omega
        intro P90 h90
        rw [if_neg hc]
        refine h90 _ ?_
        intro P105 h105
        rw [if_neg hc]
        exact h105 _ fin
      · have e : tkP t n i = (1, runN isD t (n - i) i) := by unfold tkP; rw [if_neg (by rw [hL]; decide), if_pos hD, if_neg h4]
        rw [e] at fin
        have hm : min 5 (runN isD t (n - i) i) = runN isD t (n - i) i := by omega
        rw [hm]
        have hc : zi (runN isD t (n - i) i) ≤ 4 := by
          rw [show (4 : Int32) = zi 4 from rfl, zi_le (by omega) (by decide)]
          omega
        intro P90 h90
        rw [if_pos hc]
        refine h90 _ ?_
        intro P105 h105
        rw [if_pos hc]
        exact h105 _ fin
    | false =>
      rw [if_pos (by decide)]
      have e : tkP t n i = (sgn (t i), 1) := by unfold tkP; rw [if_neg (by rw [hL]; decide), if_neg (by rw [hD]; decide)]
      rw [e] at fin
      exact fin
theorem RepT.kept {I J : zI} {k : Nat} {t : Nat → Int32} {l : List (Nat × Nat × Nat)} (h : RepT I k t l) (e : ∀ b, k ≤ b → b < k + 11 → J.1 b = I.1 b) : RepT J k t l := by
  refine ⟨by rw [e k (by omega) (by omega)]; exact h.1, fun j x hx => ?_⟩
  rw [e (k + 2) (by omega) (by omega), e (k + 4) (by omega) (by omega), e (k + 6) (by omega) (by omega), e (k + 8) (by omega) (by omega), e (k + 10) (by omega) (by omega)]
  exact h.2 j x hx
theorem s_readAll {k a an n : Nat} {t : Nat → Int32} {I : zI} {K : Int32 → zI → Prop} (han : an < 2147483648) (hn : n ≤ an) (ht : ∀ j, j < n → I.1 (a + 1) j = t j) (hak : a + 1 < k)
    (h1 : (lexF t n n 0).length < 100 → ∀ J, eqX k (k + 11) I J → RepT J k t (lex t n) → K 1 J) (h0 : 100 ≤ (lexF t n n 0).length → ∀ J, eqX k (k + 11) I J → K 0 J) : w_Tokens_readAll k a an (zi n) I K := by
  unfold w_Tokens_readAll
  intro I1 e1
  intro P hP
  have key : ∀ d i : Nat, n - i = d → i ≤ n → ∀ (l : List (Nat × Nat × Nat)) (J : zI), l.length < 100 → eqX k (k + 11) I J → RepT J k t l → lexF t n n 0 = l ++ lexF t n (n - i) i → P (zi i) J := by
    intro d
    induction d using Nat.strongRecOn with
    | _ d ih =>
      intro i hd hin l J hl e rep hx
      refine hP _ _ ?_
      have htJ : ∀ j, j < n → J.1 (a + 1) j = t j := fun j hj => by rw [(e (a + 1) (Or.inl hak)).1]; exact ht j hj
      by_cases hi : n ≤ i
      · rw [if_pos (by rw [zi_le (by omega) (by omega)]; exact hi)]
        have hx2 : lexF t n n 0 = l := by rw [hx, lexF_end hi, List.append_nil]
        have := @s_append k a an 10 n 0 t l J (fun I_4 => K 1 I_4) hl rep (by decide) han (by omega) (fun j hj => by omega) hak (fun J2 e2 rep2 => h1 (by rw [hx2]; exact hl) J2 (e.tr e2) (by unfold lex; rw [hx2]; exact rep2))
        exact this
      · rw [if_neg (by rw [zi_le (by omega) (by omega)]; exact hi), w_get han, rg_in han (by omega), htJ i (by omega), w_xB]
        intro P34 h34
        rw [lexF_step (by omega)] at hx
        cases hB : isB (t i) with
        | true =>
          rw [hB, if_pos rfl] at hx
          rw [if_neg (by decide)]
          refine h34 _ _ ?_
          intro v ev
          subst ev
          rw [rep.1, if_pos (show zi l.length < 100 from (zi_lt (by omega) (by decide)).mpr hl), show zi i + (if (1 : Int32) < 1 then 1 else 1) = zi (i + 1) from by rw [if_neg (by decide)]; exact zi_succ i]
          exact ih (n - (i + 1)) (by omega) (i + 1) rfl (by omega) l J hl e rep hx
        | false =>
          rw [hB, if_neg (by decide)] at hx
          rw [if_pos (by decide)]
          have hp := tkP_pos (t := t) (n := n) (i := i) (by omega)
          refine s_readOne hl rep han hn (by omega) htJ hak (fun J2 e2 rep2 => ?_)
          refine h34 _ _ ?_
          intro v ev
          subst ev
          have ew : (if 1 < zi (tkP t n i).2 then zi (tkP t n i).2 else 1) = zi (tkP t n i).2 := by
            by_cases q : 1 < (tkP t n i).2
            · rw [if_pos (show 1 < zi _ from (zi_lt (by decide) (by omega)).mpr q)]
            · rw [if_neg (show ¬ 1 < zi _ from fun r => q ((zi_lt (by decide) (by omega)).mp r)), show (tkP t n i).2 = 1 by omega]
              rfl
          rw [ew, zi_add, rep2.1]
          have hx2 : lexF t n n 0 = (l ++ [((tkP t n i).1, i, (tkP t n i).2)]) ++ lexF t n (n - (i + (tkP t n i).2)) (i + (tkP t n i).2) := by rw [hx, List.append_assoc]; rfl
          by_cases hl2 : (l ++ [((tkP t n i).1, i, (tkP t n i).2)]).length < 100
          · rw [if_pos (show zi _ < 100 from (zi_lt (by omega) (by decide)).mpr hl2)]
            exact ih (n - (i + (tkP t n i).2)) (by omega) (i + (tkP t n i).2) rfl (by omega) _ J2 hl2 (e.tr e2) rep2 hx2
          · rw [if_neg (show ¬ zi _ < 100 from fun r => hl2 ((zi_lt (by simp; omega) (by decide)).mp r))]
            exact h0 (by rw [hx2, List.length_append]; omega) J2 (e.tr e2)
  subst e1
  refine key n 0 (by omega) (by omega) [] _ (by decide) (eqX.rf.zu (by omega) (by omega)) ⟨zu_self, fun j x hx => by cases hx⟩ ?_
  rw [List.nil_append]
  exact (lexF_more t n n (n - 0) 0 (by omega) (by omega)).symm
/-! ===== the model reads a text ===== -/
/-- what stays: but for the places of Q -/
def eqQ (Q : Nat → Nat → Prop) (I J : zI) : Prop := (∀ a j, ¬ Q a j → J.1 a j = I.1 a j) ∧ ∀ a j, ¬ Q a j → J.2 a j = I.2 a j
theorem eqQ.rf {Q : Nat → Nat → Prop} {I : zI} : eqQ Q I I := ⟨fun _ _ _ => rfl, fun _ _ _ => rfl⟩
theorem eqQ.tr {Q : Nat → Nat → Prop} {I J L : zI} (h1 : eqQ Q I J) (h2 : eqQ Q J L) : eqQ Q I L := ⟨fun a j q => (h2.1 a j q).trans (h1.1 a j q), fun a j q => (h2.2 a j q).trans (h1.2 a j q)⟩
theorem eqQ.mono {Q Q' : Nat → Nat → Prop} {I J : zI} (h : eqQ Q I J) (hq : ∀ a j, Q a j → Q' a j) : eqQ Q' I J := ⟨fun a j q => h.1 a j (fun r => q (hq a j r)), fun a j q => h.2 a j (fun r => q (hq a j r))⟩
theorem eqQ.zu {Q : Nat → Nat → Prop} {I J : zI} {a i : Nat} {v : Int32} (h : eqQ Q I J) (hq : Q a i) : eqQ Q I (zu J a i v) := ⟨fun b j q => by
  rw [zu_at, if_neg (show ¬ (b = a ∧ j = i) from fun r => q (by rw [r.1, r.2]; exact hq))]
  exact h.1 b j q, h.2⟩
theorem zul_at {I : zI} {a i b j : Nat} {v : Int64} : (zul I a i v).2 b j = if b = a ∧ j = i then v else I.2 b j := rfl
theorem zul_1 {I : zI} {a i : Nat} {v : Int64} : (zul I a i v).1 = I.1 := rfl
theorem eqQ.zul {Q : Nat → Nat → Prop} {I J : zI} {a i : Nat} {v : Int64} (h : eqQ Q I J) (hq : Q a i) : eqQ Q I (zul J a i v) := ⟨h.1, fun b j q => by
  rw [zul_at, if_neg (show ¬ (b = a ∧ j = i) from fun r => q (by rw [r.1, r.2]; exact hq))]
  exact h.2 b j q⟩
theorem isL_sgn {b : Int32} (h : isL b = true) : sgn b = 11 := by
  unfold sgn
  repeat' (first | rfl | split)
  all_goals (rename_i q; subst q; revert h; decide)
theorem isD_sgn {b : Int32} (h : isD b = true) : sgn b = 11 := by
  unfold sgn
  repeat' (first | rfl | split)
  all_goals (rename_i q; subst q; revert h; decide)
theorem isL_isD {b : Int32} (h : isL b = true) : isD b = false := by
  unfold isL at h
  unfold isD
  simp only [Bool.and_eq_true, Bool.not_eq_true', decide_eq_false_iff_not] at h
  have h1 : ¬ b < 97 := h.1
  have h2 : 57 < b := Int32.lt_of_lt_of_le (by decide) (Int32.not_lt.mp h1)
  simp [h2]
def valL (t : Nat → Int32) (s : Nat) : Nat → Int64
  | 0 => 0
  | m + 1 => 27 * valL t s m + Int32.toInt64 ((t (s + m) - 97) + 1)
def valD (t : Nat → Int32) (s : Nat) : Nat → Int64
  | 0 => 0
  | m + 1 => 10 * valD t s m + Int32.toInt64 (t (s + m) - 48)
/-- the number that tells a token's bytes -/
def isV (t : Nat → Int32) (x : Nat × Nat × Nat) : Int64 := if x.1 = 0 then valL t x.2.1 x.2.2 else if x.1 = 1 then valD t x.2.1 x.2.2 else if x.1 = 10 then 0 else Int32.toInt64 (t x.2.1)
def RepU (I : zI) (t : Nat → Int32) (l : List (Nat × Nat × Nat)) : Prop :=
  I.1 491 9 = zi l.length ∧ ∀ j x, l[j]? = some x → I.1 496 j = zi x.1 ∧ I.1 497 j = zi x.2.1 ∧ I.1 498 j = zi x.2.2 ∧ I.2 499 j = isV t x
theorem w_byteAt {i n : Nat} {I : zI} {K : Int32 → Prop} (hn : I.1 491 3 = zi n) (hn2 : n ≤ 700) (hi : i < 2147483648) : w_M_byteAt (zi i) I K ↔ K (if i < n then I.1 493 i else 0) := by
  unfold w_M_byteAt
  rw [hn]
  by_cases h : n ≤ i
  · rw [if_pos ((zi_le (by omega) hi).mpr h), if_neg (by omega)]
  · rw [if_neg (fun r => h ((zi_le (by omega) hi).mp r)), if_pos (by omega), zi_tn hi]
    exact ⟨fun q => q.2, fun q => ⟨(zin_iff hi).mpr (by omega), q⟩⟩
def Qtok (a j : Nat) : Prop := (a = 491 ∧ j = 9) ∨ (496 ≤ a ∧ a ≤ 499)
theorem s_tokenAt {n i : Nat} {t : Nat → Int32} {l : List (Nat × Nat × Nat)} {I : zI} {K : Int32 → zI → Prop} (hl : l.length < 700) (rep : RepU I t l) (hm : I.1 491 3 = zi n) (hn : n ≤ 700) (hi : i < n) (ht : ∀ j, j < n → I.1 493 j = t j)
    (hK : ∀ J, eqQ Qtok I J → RepU J t (l ++ [((tkP t n i).1, i, (tkP t n i).2)]) → K (zi (tkP t n i).2) J) : w_M_tokenAt (zi i) I K := by
  have hL0 : isL 0 = false := by decide
  have hD0 : isD 0 = false := by decide
  unfold w_M_tokenAt
  rw [w_byteAt hm hn (by omega), if_pos hi, ht i hi]
  intro v6 e6
  rw [rep.1] at e6
  subst e6
  refine ⟨(zin_iff (by omega)).mpr (by omega), ?_⟩
  intro I3 e3
  rw [zi_tn (by omega)] at e3
  have hm3 : I3.1 491 3 = zi n := by rw [e3, zu_oo (by omega)]; exact hm
  have hb3 : ∀ (r : Nat) (K : Int32 → Prop), r ≤ n → (w_M_byteAt (zi i + zi r) I3 K ↔ K (if i + r < n then t (i + r) else 0)) := fun r K hr => by
    rw [zi_add, w_byteAt hm3 hn (by omega)]
    by_cases q : i + r < n
    · rw [if_pos q, if_pos q, e3, zu_oo (by omega), ht _ q]
    · rw [if_neg q, if_neg q]
  -- what is stored at the end
  have fin : ∀ (kd w : Nat) (v : Int64), (kd, w) = tkP t n i → v = isV t (kd, i, w) → ∀ J1 J2 J3 J4 : zI, J1 = zu I3 496 l.length (zi kd) → J2 = zu J1 498 l.length (zi w) → J3 = zul J2 499 l.length v → J4 = zu J3 491 9 (J3.1 491 9 + 1) → K (J4.1 498 l.length) J4 := by
    intro kd w v e1 e2 J1 J2 J3 J4 f1 f2 f3 f4
    have e1a : (tkP t n i).1 = kd := by rw [← e1]
    have e1b : (tkP t n i).2 = w := by rw [← e1]
    rw [e1a, e1b] at hK
    have g : J4.1 498 l.length = zi w := by rw [f4, zu_oo (by omega), f3, zul_1, f2, zu_self]
    rw [g]
    have g9 : J3.1 491 9 = zi l.length := by rw [f3, zul_1, f2, zu_oo (by omega), f1, zu_oo (by omega), e3, zu_oo (by omega)]; exact rep.1
    refine hK J4 ?_ ⟨?_, fun j x hx => ?_⟩
    · rw [f4, f3, f2, f1, e3]
      exact ((((eqQ.rf.zu (Or.inr ⟨by omega, by omega⟩)).zu (Or.inr ⟨by omega, by omega⟩)).zu (Or.inr ⟨by omega, by omega⟩)).zul (Or.inr ⟨by omega, by omega⟩)).zu (Or.inl ⟨rfl, rfl⟩)
    · rw [f4, zu_self, g9, zi_succ, List.length_append]
      rfl
    · have c1 : ∀ j, J4.1 496 j = if j = l.length then zi kd else I.1 496 j := fun j => by
        rw [f4, zu_oo (by omega), f3, zul_1, f2, zu_oo (by omega), f1, zu_at, e3, zu_oo (by omega)]
        simp
      have c2 : ∀ j, J4.1 497 j = if j = l.length then zi i else I.1 497 j := fun j => by
        rw [f4, zu_oo (by omega), f3, zul_1, f2, zu_oo (by omega), f1, zu_oo (by omega), e3, zu_at]
        simp
      have c3 : ∀ j, J4.1 498 j = if j = l.length then zi w else I.1 498 j := fun j => by
        rw [f4, zu_oo (by omega), f3, zul_1, f2, zu_at, f1, zu_oo (by omega), e3, zu_oo (by omega)]
        simp
      have c4 : ∀ j, J4.2 499 j = if j = l.length then v else I.2 499 j := fun j => by
        rw [f4, zu_2, f3, zul_at, f2, zu_2, f1, zu_2, e3, zu_2]
        simp
      rw [c1, c2, c3, c4]
      by_cases hj : j < l.length
      · rw [List.getElem?_append_left hj] at hx
        have hne : ¬ j = l.length := by omega
        rw [if_neg hne, if_neg hne, if_neg hne, if_neg hne]
        exact rep.2 j x hx
      · have hj2 : j = l.length := by
          have := (List.getElem?_eq_some_iff.mp hx).1
          rw [List.length_append] at this
          simp at this
          omega
        subst hj2
        rw [List.getElem?_append_right (Nat.le_refl _), Nat.sub_self] at hx
        cases hx
        simp [e2]
  -- the store, from the three joins on
  have store : ∀ (v3 : Nat) (v4 : Int64) (t11 : Int32), v3 ≤ n → (t11 = 0 ∧ ((isL (t i) = true ∧ v3 = runN isL t (n - i) i ∧ v3 ≤ 8 ∧ v4 = valL t i v3) ∨ (isL (t i) = false ∧ isD (t i) = true ∧ v3 = runN isD t (n - i) i ∧ v3 ≤ 4 ∧ v4 = valD t i v3)) ∨ t11 = 1 ∧ tkP t n i = (sgn (t i), 1) ∧ ¬ sgn (t i) = 0 ∧ ¬ sgn (t i) = 1 ∧ ¬ sgn (t i) = 10) →
      ∀ (P193 : Int32 → Prop), (∀ (t_12 : Int32), (vp_in (zi l.length) 710 ∧ (∀ I_13, I_13 = (zu I3 496 (Int32.toNatClampNeg (zi l.length)) t_12) → ∀ (P210 : Int32 → Prop), (∀ (t_14 : Int32), (vp_in (zi l.length) 710 ∧ (∀ I_15, I_15 = (zu I_13 498 (Int32.toNatClampNeg (zi l.length)) t_14) → ∀ (P229 : Int64 → Prop), (∀ (t_16 : Int64), (vp_in (zi l.length) 710 ∧ (∀ I_17, I_17 = (zul I_15 499 (Int32.toNatClampNeg (zi l.length)) t_16) → ∀ I_18, I_18 = (zu I_17 491 9 ((I_17.1 491 9) + 1)) → vp_in (zi l.length) 710 ∧ (K (I_18.1 498 (Int32.toNatClampNeg (zi l.length))) I_18))) → P229 t_16) → (if t11 = 0 then P229 v4 else (P229 (Int32.toInt64 (t i)))))) → P210 t_14) → (if t11 = 0 then P210 (zi v3) else P210 1))) → P193 t_12) → (if t11 = 0 then (w_M_isLetter (t i) I3 (fun r_21 => (if r_21 = 0 then P193 1 else P193 0))) else (w_M_kindOf (t i) I3 (fun r_23 => P193 r_23))) := by
    intro v3 v4 t11 hv3 hc P193 h193
    have hin : vp_in (zi l.length) 710 := (zin_iff (by omega)).mpr (by omega)
    have go : ∀ (kd w : Nat) (v : Int64), (kd, w) = tkP t n i → v = isV t (kd, i, w) → (t11 = 0 → zi w = zi v3 ∧ v = v4) → (t11 ≠ 0 → zi w = 1 ∧ v = Int32.toInt64 (t i)) → P193 (zi kd) := by
      intro kd w v q1 q2 q3 q4
      refine h193 _ ⟨hin, fun J1 f1 P210 h210 => ?_⟩
      have h2 : P210 (zi w) := by
        refine h210 _ ⟨hin, fun J2 f2 P229 h229 => ?_⟩
        have h3 : P229 v := by
          refine h229 _ ⟨hin, fun J3 f3 J4 f4 => ⟨hin, ?_⟩⟩
          rw [zi_tn (by omega)] at f1 f2 f3 ⊢
          exact fin kd w v q1 q2 J1 J2 J3 J4 f1 f2 f3 f4
        by_cases q : t11 = 0
        · rw [if_pos q, ← (q3 q).2]
          exact h3
        · rw [if_neg q, ← (q4 q).2]
          exact h3
      by_cases q : t11 = 0
      · rw [if_pos q, ← (q3 q).1]
        exact h2
      · rw [if_neg q, ← (q4 q).1]
        exact h2
    rcases hc with ⟨rfl, hc⟩ | ⟨rfl, hc, hs0, hs1, hs10⟩
    · rw [if_pos rfl, w_mL]
      rcases hc with ⟨hL, ev, h8, ev4⟩ | ⟨hL, hD, ev, h4, ev4⟩
      · rw [hL, if_neg (by decide)]
        exact go 0 v3 v4 (by unfold tkP; rw [if_pos hL, if_neg (by omega), ← ev]) (by rw [ev4]; rfl) (fun _ => ⟨rfl, rfl⟩) (fun q => absurd rfl q)
      · rw [hL, if_pos (by decide)]
        exact go 1 v3 v4 (by unfold tkP; rw [if_neg (by rw [hL]; decide), if_pos hD, if_neg (by omega), ← ev]) (by rw [ev4]; rfl) (fun _ => ⟨rfl, rfl⟩) (fun q => absurd rfl q)
    · rw [if_neg (by decide), w_mS]
      exact go (sgn (t i)) 1 (Int32.toInt64 (t i)) hc.symm (by unfold isV; rw [if_neg hs0, if_neg hs1, if_neg hs10]) (fun q => absurd q (by decide)) (fun _ => ⟨rfl, rfl⟩)
  have hv0 : ∀ v : Nat, v ≤ n → (zi v ≤ 8 ↔ v ≤ 8) ∧ (zi v ≤ 4 ↔ v ≤ 4) := fun v hv => ⟨zi_le (by omega) (by decide), zi_le (by omega) (by decide)⟩
  intro P25 h25
  cases hL : isL (t i) with
  | true =>
    have hD := isL_isD hL
    have key : ∀ d r : Nat, n - i - r = d → i + r ≤ n → r + runN isL t (n - i - r) (i + r) = runN isL t (n - i) i → P25 (zi r) (valL t i r) := by
      intro d
      induction d with
      | zero =>
        intro r hd h1 hR
        refine h25 _ _ ?_
        rw [w_mL]
        intro P73 h73
        rw [hL, if_neg (by decide), hb3 r _ (by omega), if_neg (by omega), w_mL, hL0, if_pos (by decide)]
        refine h73 _ _ ?_
        rw [w_mD]
        intro P119 h119
        rw [hD, if_pos (by decide)]
        refine h119 ?_
        rw [w_mL]
        intro P161 h161
        have hR2 : r = runN isL t (n - i) i := by rw [← hR, hd]; rfl
        rw [hL, if_neg (by decide)]
        by_cases h8 : r ≤ 8
        · rw [if_pos ((hv0 r (by omega)).1.mpr h8)]
          exact h161 _ (store r _ 0 (by omega) (Or.inl ⟨rfl, Or.inl ⟨hL, hR2, h8, rfl⟩⟩))
        · rw [if_neg (fun q => h8 ((hv0 r (by omega)).1.mp q))]
          exact h161 _ (store r _ 1 (by omega) (Or.inr ⟨rfl, by unfold tkP; rw [if_pos hL, if_pos (by omega), isL_sgn hL], by rw [isL_sgn hL]; decide, by rw [isL_sgn hL]; decide, by rw [isL_sgn hL]; decide⟩))
      | succ d ih =>
        intro r hd h1 hR
        refine h25 _ _ ?_
        rw [w_mL]
        intro P73 h73
        rw [hL, if_neg (by decide), hb3 r _ (by omega), if_pos (by omega), w_mL]
        rw [hd, runN] at hR
        cases hc : isL (t (i + r)) with
        | true =>
          rw [hc, if_pos rfl] at hR
          rw [if_neg (by decide), hb3 r _ (by omega), if_pos (by omega)]
          intro v4 ev4 v3 ev3
          rw [zi_succ] at ev3
          subst ev4 ev3
          exact ih (r + 1) (by omega) (by omega) (by rw [show n - i - (r + 1) = d by omega, show i + (r + 1) = i + r + 1 by omega]; omega)
        | false =>
          rw [hc, if_neg (by decide)] at hR
          rw [if_pos (by decide)]
          refine h73 _ _ ?_
          rw [w_mD]
          intro P119 h119
          rw [hD, if_pos (by decide)]
          refine h119 ?_
          rw [w_mL]
          intro P161 h161
          rw [hL, if_neg (by decide)]
          have hR2 : r = runN isL t (n - i) i := by omega
          by_cases h8 : r ≤ 8
          · rw [if_pos ((hv0 r (by omega)).1.mpr h8)]
            exact h161 _ (store r _ 0 (by omega) (Or.inl ⟨rfl, Or.inl ⟨hL, hR2, h8, rfl⟩⟩))
          · rw [if_neg (fun q => h8 ((hv0 r (by omega)).1.mp q))]
            exact h161 _ (store r _ 1 (by omega) (Or.inr ⟨rfl, by unfold tkP; rw [if_pos hL, if_pos (by omega), isL_sgn hL], by rw [isL_sgn hL]; decide, by rw [isL_sgn hL]; decide, by rw [isL_sgn hL]; decide⟩))
    exact key (n - i) 0 (by omega) (by omega) (by rw [Nat.zero_add]; rfl)
  | false =>
    refine h25 _ _ ?_
    rw [w_mL]
    intro P73 h73
    rw [hL, if_pos (by decide)]
    cases hD : isD (t i) with
    | true =>
      have key : ∀ d r : Nat, n - i - r = d → i + r ≤ n → r + runN isD t (n - i - r) (i + r) = runN isD t (n - i) i → P73 (zi r) (valD t i r) := by
        intro d
        induction d with
        | zero =>
          intro r hd h1 hR
          refine h73 _ _ ?_
          rw [w_mD]
          intro P119 h119
          rw [hD, if_neg (by decide), hb3 r _ (by omega), if_neg (by omega), w_mD, hD0, if_pos (by decide)]
          refine h119 ?_
          rw [w_mL]
          intro P161 h161
          have hR2 : r = runN isD t (n - i) i := by rw [← hR, hd]; rfl
          rw [hL, if_pos (by decide), w_mD, hD, if_neg (by decide)]
          by_cases h4 : r ≤ 4
          · rw [if_pos ((hv0 r (by omega)).2.mpr h4)]
            exact h161 _ (store r _ 0 (by omega) (Or.inl ⟨rfl, Or.inr ⟨hL, hD, hR2, h4, rfl⟩⟩))
          · rw [if_neg (fun q => h4 ((hv0 r (by omega)).2.mp q))]
            exact h161 _ (store r _ 1 (by omega) (Or.inr ⟨rfl, by unfold tkP; rw [if_neg (by rw [hL]; decide), if_pos hD, if_pos (by omega), isD_sgn hD], by rw [isD_sgn hD]; decide, by rw [isD_sgn hD]; decide, by rw [isD_sgn hD]; decide⟩))
        | succ d ih =>
          intro r hd h1 hR
          refine h73 _ _ ?_
          rw [w_mD]
          intro P119 h119
          rw [hD, if_neg (by decide), hb3 r _ (by omega), if_pos (by omega), w_mD]
          rw [hd, runN] at hR
          cases hc : isD (t (i + r)) with
          | true =>
            rw [hc, if_pos rfl] at hR
            rw [if_neg (by decide), hb3 r _ (by omega), if_pos (by omega)]
            intro v4 ev4 v3 ev3
            rw [zi_succ] at ev3
            subst ev4 ev3
            exact ih (r + 1) (by omega) (by omega) (by rw [show n - i - (r + 1) = d by omega, show i + (r + 1) = i + r + 1 by omega]; omega)
          | false =>
            rw [hc, if_neg (by decide)] at hR
            rw [if_pos (by decide)]
            refine h119 ?_
            rw [w_mL]
            intro P161 h161
            have hR2 : r = runN isD t (n - i) i := by omega
            rw [hL, if_pos (by decide), w_mD, hD, if_neg (by decide)]
            by_cases h4 : r ≤ 4
            · rw [if_pos ((hv0 r (by omega)).2.mpr h4)]
              exact h161 _ (store r _ 0 (by omega) (Or.inl ⟨rfl, Or.inr ⟨hL, hD, hR2, h4, rfl⟩⟩))
            · rw [if_neg (fun q => h4 ((hv0 r (by omega)).2.mp q))]
              exact h161 _ (store r _ 1 (by omega) (Or.inr ⟨rfl, by unfold tkP; rw [if_neg (by rw [hL]; decide), if_pos hD, if_pos (by omega), isD_sgn hD], by rw [isD_sgn hD]; decide, by rw [isD_sgn hD]; decide, by rw [isD_sgn hD]; decide⟩))
      exact key (n - i) 0 (by omega) (by omega) (by rw [Nat.zero_add]; rfl)
    | false =>
      refine h73 _ _ ?_
      rw [w_mD]
      intro P119 h119
      rw [hD, if_pos (by decide)]
      refine h119 ?_
      rw [w_mL]
      intro P161 h161
      rw [hL, if_pos (by decide), w_mD, hD, if_pos (by decide)]
      have hs : ¬ sgn (t i) = 0 ∧ ¬ sgn (t i) = 1 ∧ ¬ sgn (t i) = 10 := by
        unfold sgn
        repeat' (first | decide | split)
      exact h161 _ (store 0 _ 1 (by omega) (Or.inr ⟨rfl, by unfold tkP; rw [if_neg (by rw [hL]; decide), if_neg (by rw [hD]; decide)], hs.1, hs.2.1, hs.2.2⟩))
/-! ===== the model reads a text: all of it ===== -/
def Qcut (a j : Nat) : Prop := (a = 491 ∧ (j = 9 ∨ j = 3)) ∨ (496 ≤ a ∧ a ≤ 499)
theorem s_cutsUp {n : Nat} {t : Nat → Int32} {I : zI} {K : zI → Prop} (hn : n < 700) (ht : ∀ j, j < n → I.1 493 j = t j)
    (hK : ∀ J, eqQ Qcut I J → J.1 491 3 = zi n → RepU J t (lex t n) → K J) : w_M_cutsUp (zi n) I K := by
  intro I1 e1 I2 e2 P hP
  have key : ∀ d i : Nat, n - i = d → i ≤ n → ∀ (l : List (Nat × Nat × Nat)) (J : zI), l.length ≤ i → eqQ Qcut I J → J.1 491 3 = zi n → RepU J t l → lexF t n n 0 = l ++ lexF t n (n - i) i → P (zi i) J := by
    intro d
    induction d using Nat.strongRecOn with
    | _ d ih =>
      intro i hd hin l J hl e hm rep hx
      refine hP _ _ ?_
      have htJ : ∀ j, j < n → J.1 493 j = t j := fun j hj => by rw [e.1 493 j (by unfold Qcut; omega)]; exact ht j hj
      by_cases hi : n ≤ i
      · rw [if_pos (by rw [zi_le (by omega) (by omega)]; exact hi)]
        have hx2 : lexF t n n 0 = l := by rw [hx, lexF_end hi, List.append_nil]
        have hin0 : ∀ {J : zI}, J.1 491 9 = zi l.length → vp_in (J.1 491 9) 710 := fun h => by rw [h]; exact (zin_iff (by omega)).mpr (by omega)
        refine ⟨hin0 rep.1, ?_⟩
        intro J1 f1
        have g1 : J1.1 491 9 = zi l.length := by rw [f1, zu_oo (by omega)]; exact rep.1
        refine ⟨hin0 g1, ?_⟩
        intro J2 f2
        have g2 : J2.1 491 9 = zi l.length := by rw [f2, zu_oo (by omega)]; exact g1
        refine ⟨hin0 g2, ?_⟩
        intro J3 f3
        have g3 : J3.1 491 9 = zi l.length := by rw [f3, zu_oo (by omega)]; exact g2
        refine ⟨hin0 g3, ?_⟩
        intro J4 f4 J5 f5
        have g4 : J4.1 491 9 = zi l.length := by rw [f4, zul_1]; exact g3
        rw [rep.1, zi_tn (by omega)] at f1
        rw [g1, zi_tn (by omega)] at f2
        rw [g2, zi_tn (by omega)] at f3
        rw [g3, zi_tn (by omega)] at f4
        rw [g4, zi_succ] at f5
        refine hK J5 ?_ ?_ ⟨?_, fun j x hx3 => ?_⟩
        · rw [f5, f4, f3, f2, f1]
          exact ((((e.zu (Or.inr ⟨by omega, by omega⟩)).zu (Or.inr ⟨by omega, by omega⟩)).zu (Or.inr ⟨by omega, by omega⟩)).zul (Or.inr ⟨by omega, by omega⟩)).zu (Or.inl ⟨rfl, Or.inl rfl⟩)
        · rw [f5, zu_at, if_neg (by omega), f4, zul_1, f3, zu_oo (by omega), f2, zu_oo (by omega), f1, zu_oo (by omega)]
          exact hm
        · rw [f5, zu_self]
          unfold lex
          rw [hx2, List.length_append]
          rfl
        · have c1 : ∀ j, J5.1 496 j = if j = l.length then 10 else J.1 496 j := fun j => by
            rw [f5, zu_oo (by omega), f4, zul_1, f3, zu_oo (by omega), f2, zu_oo (by omega), f1, zu_at]
            simp
          have c2 : ∀ j, J5.1 497 j = if j = l.length then zi n else J.1 497 j := fun j => by
            rw [f5, zu_oo (by omega), f4, zul_1, f3, zu_oo (by omega), f2, zu_at, f1, zu_oo (by omega)]
            simp
          have c3 : ∀ j, J5.1 498 j = if j = l.length then 0 else J.1 498 j := fun j => by
            rw [f5, zu_oo (by omega), f4, zul_1, f3, zu_at, f2, zu_oo (by omega), f1, zu_oo (by omega)]
            simp
          have c4 : ∀ j, J5.2 499 j = if j = l.length then 0 else J.2 499 j := fun j => by
            rw [f5, zu_2, f4, zul_at, f3, zu_2, f2, zu_2, f1, zu_2]
            simp
          unfold lex at hx3
          rw [hx2] at hx3
          rw [c1, c2, c3, c4]
          by_cases hj : j < l.length
          · rw [List.getElem?_append_left hj] at hx3
            have hne : ¬ j = l.length := by omega
            rw [if_neg hne, if_neg hne, if_neg hne, if_neg hne]
            exact rep.2 j x hx3
          · have hj2 : j = l.length := by
              have := (List.getElem?_eq_some_iff.mp hx3).1
              rw [List.length_append] at this
              simp at this
              omega
            subst hj2
            rw [List.getElem?_append_right (Nat.le_refl _), Nat.sub_self] at hx3
            cases hx3
            simp [isV]
            exact ⟨rfl, rfl⟩
      · rw [if_neg (by rw [zi_le (by omega) (by omega)]; exact hi)]
        refine ⟨(zin_iff (by omega)).mpr (by omega), ?_⟩
        intro v3 ev3
        rw [zi_tn (by omega), htJ i (by omega)] at ev3
        subst ev3
        intro P58 h58 P49 h49
        rw [lexF_step (by omega)] at hx
        have hblank : isB (t i) = true → P49 := by
          intro q
          refine h49 (h58 _ _ ?_)
          intro v ev
          rw [zi_succ] at ev
          subst ev
          rw [q, if_pos rfl] at hx
          exact ih (n - (i + 1)) (by omega) (i + 1) rfl (by omega) l J (by omega) e hm rep hx
        by_cases q1 : t i = 9
        · rw [if_pos q1]
          exact hblank (by unfold isB; simp [q1])
        rw [if_neg q1]
        by_cases q2 : t i = 10
        · rw [if_pos q2]
          exact hblank (by unfold isB; simp [q2])
        rw [if_neg q2]
        by_cases q3 : t i = 13
        · rw [if_pos q3]
          exact hblank (by unfold isB; simp [q3])
        rw [if_neg q3]
        by_cases q4 : t i = 32
        · rw [if_pos q4]
          exact hblank (by unfold isB; simp [q4])
        rw [if_neg q4]
        have hB : isB (t i) = false := by unfold isB; simp [q1, q2, q3, q4]
        rw [hB, if_neg (by decide)] at hx
        have hp := tkP_pos (t := t) (n := n) (i := i) (by omega)
        refine s_tokenAt (t := t) (l := l) (by omega) rep hm (by omega) (by omega) htJ (fun J2 e2 rep2 => ?_)
        refine h58 _ _ ?_
        intro v ev
        rw [zi_add] at ev
        subst ev
        have e3 : eqQ Qcut J J2 := e2.mono (fun a j q => by unfold Qtok at q; unfold Qcut; omega)
        refine ih (n - (i + (tkP t n i).2)) (by omega) (i + (tkP t n i).2) rfl (by omega) _ J2 (by rw [List.length_append]; simp; omega) (e.tr e3) ?_ rep2 (by rw [hx, List.append_assoc]; rfl)
        rw [e2.1 491 3 (by unfold Qtok; omega)]
        exact hm
  have f2 : eqQ Qcut I I2 := by rw [e2, e1]; exact (eqQ.rf.zu (Or.inl ⟨rfl, Or.inr rfl⟩)).zu (Or.inl ⟨rfl, Or.inl rfl⟩)
  refine key n 0 (by omega) (by omega) [] I2 (Nat.le_refl _) f2 ?_ ⟨?_, fun j x hx => by cases hx⟩ ?_
  · rw [e2, zu_at, if_neg (by omega), e1, zu_self]
  · rw [e2, zu_self]
    rfl
  · rw [List.nil_append]
    exact (lexF_more t n n (n - 0) 0 (by omega) (by omega)).symm
/-! ===== tokens alike: by bytes, by packed bytes (the class), by numbers (the model) ===== -/
theorem isL_zi {b : Int32} (h : isL b = true) : ∃ d : Nat, 1 ≤ d ∧ d ≤ 26 ∧ b = zi (96 + d) := by
  unfold isL at h
  simp only [Bool.and_eq_true, Bool.not_eq_true', decide_eq_false_iff_not] at h
  have h1 := Int32.not_lt.mp h.1
  obtain ⟨a, ha, rfl⟩ := zi_of (Int32.le_trans (show (0 : Int32) ≤ 97 by decide) h1)
  have h2 : 97 ≤ a := (zi_le (a := 97) (by decide) ha).mp h1
  have h3 : ¬ 122 < a := fun q => h.2 ((zi_lt (a := 122) (by decide) ha).mpr q)
  exact ⟨a - 96, by omega, by omega, by congr 1; omega⟩
theorem isD_zi {b : Int32} (h : isD b = true) : ∃ d : Nat, d ≤ 9 ∧ b = zi (48 + d) := by
  unfold isD at h
  simp only [Bool.and_eq_true, Bool.not_eq_true', decide_eq_false_iff_not] at h
  have h1 := Int32.not_lt.mp h.1
  obtain ⟨a, ha, rfl⟩ := zi_of (Int32.le_trans (show (0 : Int32) ≤ 48 by decide) h1)
  have h2 : 48 ≤ a := (zi_le (a := 48) (by decide) ha).mp h1
  have h3 : ¬ 57 < a := fun q => h.2 ((zi_lt (a := 57) (by decide) ha).mpr q)
  exact ⟨a - 48, by omega, by congr 1; omega⟩
theorem zi_64 {n : Nat} (h : n < 2147483648) : Int32.toInt64 (zi n) = Int64.ofNat n := by
  apply Int64.toInt_inj.mp
  rw [Int32.toInt_toInt64, zi_toInt h, Int64.toInt_ofNat_of_lt (by omega)]
/-- a number of digits of base B, each told by f -/
def natV (B : Nat) (f : Nat → Nat) : Nat → Nat
  | 0 => 0
  | m + 1 => B * natV B f m + f m
theorem natV_lt {B : Nat} {f : Nat → Nat} : ∀ m, (∀ j, j < m → f j < B) → natV B f m < B ^ m
  | 0, _ => by
    show 0 < 1
    decide
  | m + 1, h => by
    have h1 := natV_lt m (fun j hj => h j (by omega))
    have h2 := h m (by omega)
    show B * natV B f m + f m < B ^ (m + 1)
    have h3 : B * (natV B f m + 1) ≤ B * B ^ m := Nat.mul_le_mul_left B h1
    rw [Nat.pow_succ, Nat.mul_comm (B ^ m) B]
    rw [Nat.mul_add, Nat.mul_one] at h3
    omega
/-- the same length: the same digits -/
theorem natV_inj {B : Nat} {f g : Nat → Nat} : ∀ m, (∀ j, j < m → f j < B) → (∀ j, j < m → g j < B) → natV B f m = natV B g m → ∀ j, j < m → f j = g j
  | 0, _, _, _, j, hj => absurd hj (by omega)
  | m + 1, hf, hg, e, j, hj => by
    have e' : B * natV B f m + f m = B * natV B g m + g m := e
    have h1 := hf m (by omega)
    have h2 := hg m (by omega)
    have hB : 0 < B := by omega
    have e1 : natV B f m = natV B g m := by
      have a1 : (B * natV B f m + f m) / B = natV B f m := by rw [Nat.mul_add_div hB, Nat.div_eq_of_lt h1, Nat.add_zero]
      have a2 : (B * natV B g m + g m) / B = natV B g m := by rw [Nat.mul_add_div hB, Nat.div_eq_of_lt h2, Nat.add_zero]
      rw [← a1, ← a2, e']
    by_cases hj2 : j = m
    · subst hj2
      rw [e1] at e'
      omega
    · exact natV_inj m (fun j hj => hf j (by omega)) (fun j hj => hg j (by omega)) e1 j (by omega)
/-- digits that are not 0: the same number, the same length -/
theorem natV_len {B : Nat} {f g : Nat → Nat} : ∀ m k, (∀ j, j < m → f j < B ∧ 0 < f j) → (∀ j, j < k → g j < B ∧ 0 < g j) → natV B f m = natV B g k → m = k
  | 0, 0, _, _, _ => rfl
  | 0, k + 1, _, hg, e => by
    have h2 := (hg k (by omega)).2
    have e' : 0 = B * natV B g k + g k := e
    omega
  | m + 1, 0, hf, _, e => by
    have h2 := (hf m (by omega)).2
    have e' : B * natV B f m + f m = 0 := e
    omega
  | m + 1, k + 1, hf, hg, e => by
    have e' : B * natV B f m + f m = B * natV B g k + g k := e
    have h1 := (hf m (by omega)).1
    have h2 := (hg k (by omega)).1
    have hB : 0 < B := by omega
    have e1 : natV B f m = natV B g k := by
      have a1 : (B * natV B f m + f m) / B = natV B f m := by rw [Nat.mul_add_div hB, Nat.div_eq_of_lt h1, Nat.add_zero]
      have a2 : (B * natV B g k + g k) / B = natV B g k := by rw [Nat.mul_add_div hB, Nat.div_eq_of_lt h2, Nat.add_zero]
      rw [← a1, ← a2, e']
    exact congrArg (· + 1) (natV_len m k (fun j hj => hf j (by omega)) (fun j hj => hg j (by omega)) e1)
/-- what a byte's number is above so much -/
def dg (c : Nat) (b : Int32) : Nat := b.toNatClampNeg - c
theorem dg_L {b : Int32} (h : isL b = true) : dg 96 b < 27 ∧ 0 < dg 96 b ∧ b = zi (96 + dg 96 b) := by
  obtain ⟨d, h1, h2, rfl⟩ := isL_zi h
  unfold dg
  rw [zi_tn (by omega)]
  exact ⟨by omega, by omega, by congr 1; omega⟩
theorem dg_D {b : Int32} (h : isD b = true) : dg 48 b < 10 ∧ b = zi (48 + dg 48 b) := by
  obtain ⟨d, h2, rfl⟩ := isD_zi h
  unfold dg
  rw [zi_tn (by omega)]
  exact ⟨by omega, by congr 1; omega⟩
theorem valL_eq {t : Nat → Int32} {s : Nat} : ∀ m, (∀ j, j < m → isL (t (s + j)) = true) → valL t s m = Int64.ofNat (natV 27 (fun j => dg 96 (t (s + j))) m)
  | 0, _ => rfl
  | m + 1, h => by
    have hm := dg_L (h m (by omega))
    show 27 * valL t s m + Int32.toInt64 (t (s + m) - 97 + 1) = Int64.ofNat (27 * natV 27 (fun j => dg 96 (t (s + j))) m + dg 96 (t (s + m)))
    rw [valL_eq m (fun j hj => h j (by omega)), Int64.ofNat_add, Int64.ofNat_mul]
    congr 1
    rw [← zi_64 (n := dg 96 (t (s + m))) (by omega)]
    congr 1
    generalize dg 96 (t (s + m)) = d at hm
    rw [hm.2.2, show (97 : Int32) = zi 97 from rfl, zi_sub (by omega), zi_succ]
    congr 1
    omega
theorem valD_eq {t : Nat → Int32} {s : Nat} : ∀ m, (∀ j, j < m → isD (t (s + j)) = true) → valD t s m = Int64.ofNat (natV 10 (fun j => dg 48 (t (s + j))) m)
  | 0, _ => rfl
  | m + 1, h => by
    have hm := dg_D (h m (by omega))
    show 10 * valD t s m + Int32.toInt64 (t (s + m) - 48) = Int64.ofNat (10 * natV 10 (fun j => dg 48 (t (s + j))) m + dg 48 (t (s + m)))
    rw [valD_eq m (fun j hj => h j (by omega)), Int64.ofNat_add, Int64.ofNat_mul]
    congr 1
    rw [← zi_64 (n := dg 48 (t (s + m))) (by omega)]
    congr 1
    generalize dg 48 (t (s + m)) = d at hm
    rw [hm.2, show (48 : Int32) = zi 48 from rfl, zi_sub (by omega)]
    congr 1
    omega
theorem ofNat64_inj {a b : Nat} (ha : a < 9223372036854775808) (hb : b < 9223372036854775808) (h : Int64.ofNat a = Int64.ofNat b) : a = b := by
  have := congrArg Int64.toInt h
  rw [Int64.toInt_ofNat_of_lt ha, Int64.toInt_ofNat_of_lt hb] at this
  omega
theorem pow27 {m : Nat} (h : m ≤ 8) : 27 ^ m < 9223372036854775808 := Nat.lt_of_le_of_lt (Nat.pow_le_pow_right (by decide) h) (by decide)
theorem pow10 {m : Nat} (h : m ≤ 8) : 10 ^ m < 9223372036854775808 := Nat.lt_of_le_of_lt (Nat.pow_le_pow_right (by decide) h) (by decide)
theorem natV_cg {B : Nat} {f g : Nat → Nat} : ∀ m, (∀ j, j < m → f j = g j) → natV B f m = natV B g m
  | 0, _ => rfl
  | m + 1, h => by
    show B * natV B f m + f m = B * natV B g m + g m
    rw [natV_cg m (fun j hj => h j (by omega)), h m (by omega)]
/-- names: the same number just if the same bytes -/
theorem valL_iff {t t' : Nat → Int32} {s s' m m' : Nat} (h : ∀ j, j < m → isL (t (s + j)) = true) (h' : ∀ j, j < m' → isL (t' (s' + j)) = true) (hm : m ≤ 8) (hm' : m' ≤ 8) : valL t s m = valL t' s' m' ↔ m = m' ∧ ∀ j, j < m → t (s + j) = t' (s' + j) := by
  rw [valL_eq m h, valL_eq m' h']
  constructor
  · intro e
    have b1 := natV_lt (B := 27) (f := fun j => dg 96 (t (s + j))) m (fun j hj => (dg_L (h j hj)).1)
    have b2 := natV_lt (B := 27) (f := fun j => dg 96 (t' (s' + j))) m' (fun j hj => (dg_L (h' j hj)).1)
    have e2 := ofNat64_inj (Nat.lt_trans b1 (pow27 hm)) (Nat.lt_trans b2 (pow27 hm')) e
    have hl := natV_len m m' (fun j hj => ⟨(dg_L (h j hj)).1, (dg_L (h j hj)).2.1⟩) (fun j hj => ⟨(dg_L (h' j hj)).1, (dg_L (h' j hj)).2.1⟩) e2
    subst hl
    refine ⟨rfl, fun j hj => ?_⟩
    have := natV_inj m (fun j hj => (dg_L (h j hj)).1) (fun j hj => (dg_L (h' j hj)).1) e2 j hj
    rw [(dg_L (h j hj)).2.2, (dg_L (h' j hj)).2.2]
    exact congrArg (fun q => zi (96 + q)) this
  · rintro ⟨rfl, e⟩
    exact congrArg Int64.ofNat (natV_cg m (fun j hj => by rw [e j hj]))
theorem valD_iff {t t' : Nat → Int32} {s s' m : Nat} (h : ∀ j, j < m → isD (t (s + j)) = true) (h' : ∀ j, j < m → isD (t' (s' + j)) = true) (hm : m ≤ 8) : valD t s m = valD t' s' m ↔ ∀ j, j < m → t (s + j) = t' (s' + j) := by
  rw [valD_eq m h, valD_eq m h']
  constructor
  · intro e j hj
    have b1 := natV_lt (B := 10) (f := fun j => dg 48 (t (s + j))) m (fun j hj => (dg_D (h j hj)).1)
    have b2 := natV_lt (B := 10) (f := fun j => dg 48 (t' (s' + j))) m (fun j hj => (dg_D (h' j hj)).1)
    have e2 := ofNat64_inj (Nat.lt_trans b1 (pow10 hm)) (Nat.lt_trans b2 (pow10 hm)) e
    have := natV_inj m (fun j hj => (dg_D (h j hj)).1) (fun j hj => (dg_D (h' j hj)).1) e2 j hj
    rw [(dg_D (h j hj)).2, (dg_D (h' j hj)).2]
    exact congrArg (fun q => zi (48 + q)) this
  · intro e
    exact congrArg Int64.ofNat (natV_cg m (fun j hj => by rw [e j hj]))
/-! ===== bytes packed ===== -/
def byt (b : Int32) : Prop := ∃ d : Nat, d < 256 ∧ b = zi d
theorem byt_dg {b : Int32} (h : byt b) : dg 0 b < 256 ∧ b = zi (dg 0 b) := by
  obtain ⟨d, h1, rfl⟩ := h
  unfold dg
  rw [zi_tn (by omega)]
  exact ⟨by omega, rfl⟩
theorem zi_bv {d : Nat} (h : d < 4294967296) : (zi d).toBitVec.toNat = d := by
  show (BitVec.ofNat 32 d).toNat = d
  rw [BitVec.toNat_ofNat]
  exact Nat.mod_eq_of_lt h
theorem shl_24 {d : Nat} (h : d < 256) : (zi d <<< (24 : Int32)).toBitVec.toNat = d * 16777216 := by
  show ((zi d).toBitVec <<< (24 : Nat)).toNat = _
  rw [BitVec.toNat_shiftLeft, zi_bv (by omega), Nat.shiftLeft_eq]
  exact Nat.mod_eq_of_lt (by omega)
theorem shl_16 {d : Nat} (h : d < 256) : (zi d <<< (16 : Int32)).toBitVec.toNat = d * 65536 := by
  show ((zi d).toBitVec <<< (16 : Nat)).toNat = _
  rw [BitVec.toNat_shiftLeft, zi_bv (by omega), Nat.shiftLeft_eq]
  exact Nat.mod_eq_of_lt (by omega)
theorem shl_8 {d : Nat} (h : d < 256) : (zi d <<< (8 : Int32)).toBitVec.toNat = d * 256 := by
  show ((zi d).toBitVec <<< (8 : Nat)).toNat = _
  rw [BitVec.toNat_shiftLeft, zi_bv (by omega), Nat.shiftLeft_eq]
  exact Nat.mod_eq_of_lt (by omega)
theorem shl_0 {d : Nat} (h : d < 256) : (zi d <<< (0 : Int32)).toBitVec.toNat = d := by
  rw [Int32.shiftLeft_zero]
  exact zi_bv (by omega)
theorem or_nat {a b : Int32} : (a ||| b).toBitVec.toNat = a.toBitVec.toNat ||| b.toBitVec.toNat := by
  rw [Int32.toBitVec_or, BitVec.toNat_or]
theorem pk_nat {t : Nat → Int32} {s : Nat} : ∀ m, m ≤ 4 → (∀ j, j < m → byt (t (s + j))) → (pkR t s m).toBitVec.toNat = natV 256 (fun j => dg 0 (t (s + j))) m * 256 ^ (4 - m)
  | 0, _, _ => by
    show (0 : Int32).toBitVec.toNat = 0 * _
    rw [Nat.zero_mul]
    rfl
  | m + 1, hm, h => by
    have ih := pk_nat m (by omega) (fun j hj => h j (by omega))
    have hb := byt_dg (h m (by omega))
    have hN := natV_lt (B := 256) (f := fun j => dg 0 (t (s + j))) m (fun j hj => (byt_dg (h j (by omega))).1)
    show (pkR t s m ||| (t (s + m) <<< ((24 - 8 * zi m) &&& 31))).toBitVec.toNat = (256 * natV 256 (fun j => dg 0 (t (s + j))) m + dg 0 (t (s + m))) * 256 ^ (4 - (m + 1))
    rw [or_nat, ih]
    generalize natV 256 (fun j => dg 0 (t (s + j))) m = N at hN ⊢
    generalize dg 0 (t (s + m)) = d at hb ⊢
    rw [hb.2]
    have hd := hb.1
    rcases (by omega : m = 0 ∨ m = 1 ∨ m = 2 ∨ m = 3) with rfl | rfl | rfl | rfl
    · rw [show ((24 : Int32) - 8 * zi 0) &&& 31 = 24 by decide, shl_24 hd]
      have hN0 : N = 0 := by
        have : N < 1 := hN
        omega
      subst hN0
      rw [Nat.zero_mul, Nat.zero_or]
      show d * 16777216 = (256 * 0 + d) * 16777216
      omega
    · rw [show ((24 : Int32) - 8 * zi 1) &&& 31 = 16 by decide, shl_16 hd]
      have e := Nat.two_pow_add_eq_or_of_lt (i := 24) (b := d * 65536) (by omega) N
      rw [show N * 256 ^ (4 - 1) = 2 ^ 24 * N from Nat.mul_comm _ _, ← e]
      show 16777216 * N + d * 65536 = (256 * N + d) * 65536
      omega
    · rw [show ((24 : Int32) - 8 * zi 2) &&& 31 = 8 by decide, shl_8 hd]
      have e := Nat.two_pow_add_eq_or_of_lt (i := 16) (b := d * 256) (by omega) N
      rw [show N * 256 ^ (4 - 2) = 2 ^ 16 * N from Nat.mul_comm _ _, ← e]
      show 65536 * N + d * 256 = (256 * N + d) * 256
      omega
    · rw [show ((24 : Int32) - 8 * zi 3) &&& 31 = 0 by decide, shl_0 hd]
      have e := Nat.two_pow_add_eq_or_of_lt (i := 8) (b := d) (by omega) N
      rw [show N * 256 ^ (4 - 3) = 2 ^ 8 * N from Nat.mul_comm _ _, ← e]
      show 256 * N + d = (256 * N + d) * 1
      omega
theorem pk_inj {t t' : Nat → Int32} {s s' m : Nat} (hm : m ≤ 4) (h : ∀ j, j < m → byt (t (s + j))) (h' : ∀ j, j < m → byt (t' (s' + j))) : pkR t s m = pkR t' s' m ↔ ∀ j, j < m → t (s + j) = t' (s' + j) := by
  constructor
  · intro e j hj
    have e1 : (pkR t s m).toBitVec.toNat = (pkR t' s' m).toBitVec.toNat := by rw [e]
    rw [pk_nat m hm h, pk_nat m hm h'] at e1
    have hp : 0 < 256 ^ (4 - m) := Nat.pow_pos (by decide)
    have e2 := natV_inj m (fun j hj => (byt_dg (h j hj)).1) (fun j hj => (byt_dg (h' j hj)).1) (Nat.eq_of_mul_eq_mul_right hp e1) j hj
    rw [(byt_dg (h j hj)).2, (byt_dg (h' j hj)).2]
    exact congrArg zi e2
  · intro e
    have : ∀ k, k ≤ m → pkR t s k = pkR t' s' k := by
      intro k
      induction k with
      | zero => intro _; rfl
      | succ k ih =>
        intro hk
        show pkR t s k ||| _ = pkR t' s' k ||| _
        rw [ih (by omega), e k (by omega)]
    exact this m (Nat.le_refl _)
/-- tokens alike: KIND, bytes -/
def tkA (t : Nat → Int32) (x : Nat × Nat × Nat) (t' : Nat → Int32) (y : Nat × Nat × Nat) : Prop := x.1 = y.1 ∧ x.2.2 = y.2.2 ∧ ∀ j, j < x.2.2 → t (x.2.1 + j) = t' (y.2.1 + j)
/-- what a token of a text is -/
def tkOk (t : Nat → Int32) (x : Nat × Nat × Nat) : Prop := x.1 < 12 ∧ x.2.2 ≤ 8 ∧ (∀ j, j < x.2.2 → byt (t (x.2.1 + j))) ∧ (x.1 = 0 → 1 ≤ x.2.2 ∧ ∀ j, j < x.2.2 → isL (t (x.2.1 + j)) = true) ∧ (x.1 = 1 → 1 ≤ x.2.2 ∧ ∀ j, j < x.2.2 → isD (t (x.2.1 + j)) = true) ∧ (x.1 = 10 → x.2.2 = 0) ∧ (x.1 ≠ 0 → x.1 ≠ 1 → x.1 ≠ 10 → x.2.2 = 1)
theorem tkA_x {t t' : Nat → Int32} {x y : Nat × Nat × Nat} (hx : tkOk t x) (hy : tkOk t' y) : tkA t x t' y ↔ x.1 = y.1 ∧ x.2.2 = y.2.2 ∧ hdT t x.2.1 x.2.2 = hdT t' y.2.1 y.2.2 ∧ tlT t x.2.1 x.2.2 = tlT t' y.2.1 y.2.2 := by
  unfold tkA
  constructor
  · rintro ⟨h1, h2, h3⟩
    refine ⟨h1, h2, ?_, ?_⟩
    · unfold hdT
      rw [← h2]
      exact (pk_inj (by omega) (fun j hj => hx.2.2.1 j (by omega)) (fun j hj => hy.2.2.1 j (by omega))).mpr (fun j hj => h3 j (by omega))
    · unfold tlT
      rw [← h2]
      have hw := hx.2.1
      exact (pk_inj (by omega) (fun j hj => by rw [show x.2.1 + 4 + j = x.2.1 + (4 + j) by omega]; exact hx.2.2.1 _ (by omega)) (fun j hj => by rw [show y.2.1 + 4 + j = y.2.1 + (4 + j) by omega]; exact hy.2.2.1 _ (by omega))).mpr (fun j hj => by
        rw [show x.2.1 + 4 + j = x.2.1 + (4 + j) by omega, show y.2.1 + 4 + j = y.2.1 + (4 + j) by omega]
        exact h3 _ (by omega))
  · rintro ⟨h1, h2, h3, h4⟩
    refine ⟨h1, h2, fun j hj => ?_⟩
    unfold hdT at h3
    unfold tlT at h4
    rw [← h2] at h3 h4
    have hw := hx.2.1
    by_cases q : j < 4
    · exact (pk_inj (by omega) (fun j hj => hx.2.2.1 j (by omega)) (fun j hj => hy.2.2.1 j (by omega))).mp h3 j (by omega)
    · have := (pk_inj (by omega) (fun j hj => by rw [show x.2.1 + 4 + j = x.2.1 + (4 + j) by omega]; exact hx.2.2.1 _ (by omega)) (fun j hj => by rw [show y.2.1 + 4 + j = y.2.1 + (4 + j) by omega]; exact hy.2.2.1 _ (by omega))).mp h4 (j - 4) (by omega)
      rw [show x.2.1 + 4 + (j - 4) = x.2.1 + j by omega, show y.2.1 + 4 + (j - 4) = y.2.1 + j by omega] at this
      exact this
theorem tkA_m {t t' : Nat → Int32} {x y : Nat × Nat × Nat} (hx : tkOk t x) (hy : tkOk t' y) : tkA t x t' y ↔ x.1 = y.1 ∧ x.2.2 = y.2.2 ∧ isV t x = isV t' y := by
  unfold tkA
  refine and_congr_right fun h1 => and_congr_right fun h2 => ?_
  unfold isV
  rw [← h1, ← h2]
  by_cases k0 : x.1 = 0
  · rw [if_pos k0, if_pos k0, valL_iff (hx.2.2.2.1 k0).2 (by rw [h2]; exact (hy.2.2.2.1 (by rw [← h1]; exact k0)).2) hx.2.1 hx.2.1]
    exact ⟨fun q => ⟨rfl, q⟩, fun q => q.2⟩
  rw [if_neg k0, if_neg k0]
  by_cases k1 : x.1 = 1
  · rw [if_pos k1, if_pos k1, valD_iff (hx.2.2.2.2.1 k1).2 (by rw [h2]; exact (hy.2.2.2.2.1 (by rw [← h1]; exact k1)).2) hx.2.1]
  rw [if_neg k1, if_neg k1]
  by_cases k10 : x.1 = 10
  · rw [if_pos k10, if_pos k10, hx.2.2.2.2.2.1 k10]
    exact ⟨fun _ => rfl, fun _ j hj => absurd hj (by omega)⟩
  rw [if_neg k10, if_neg k10]
  have hw := hx.2.2.2.2.2.2 k0 k1 k10
  have hw' : y.2.2 = 1 := by rw [← h2]; exact hw
  rw [hw]
  obtain ⟨d, hd, e1⟩ := hx.2.2.1 0 (by omega)
  obtain ⟨d', hd', e2⟩ := hy.2.2.1 0 (by omega)
  rw [Nat.add_zero] at e1 e2
  rw [e1, e2, zi_64 (by omega), zi_64 (by omega)]
  constructor
  · intro q
    have := q 0 (by omega)
    rw [Nat.add_zero, Nat.add_zero, e1, e2, zi_eq (by omega) (by omega)] at this
    rw [this]
  · intro q j hj
    have hj0 : j = 0 := by omega
    have e3 := ofNat64_inj (by omega) (by omega) q
    rw [hj0, Nat.add_zero, Nat.add_zero, e1, e2, e3]
