/-! ===== tokens alike: by bytes, by packed bytes (the class), by numbers (the model) ===== -/
theorem isL_zi {b : Int32} (h : isL b = true) : ∃ d : Nat, 1 ≤ d ∧ d ≤ 26 ∧ b = zi (96 + d) := by
  unfold isL at h
  simp only [Bool.and_eq_true, Bool.not_eq_true', decide_eq_false_iff_not] at h
  have h1 := Int32.not_lt.mp h.1
  obtain ⟨a, ha, rfl⟩ := zi_of (Int32.le_trans (show (0 : Int32) ≤ 97 by decide) h1)
  have h2 : 97 ≤ a := (zi_le (a := 97) (by decide) ha).mp h1
  have h3 : ¬ 122 < a := fun q => h.2 ((zi_lt (a := 122) (by decide) ha).mpr q)
  exact ⟨a - 96, by omega, by omega, by congr 1; omega⟩
theorem isD_zi {b : Int32} (h : isD b = true) : ∃ d : Nat, d ≤ 9 ∧ b = zi (48 + d) := by
  unfold isD at h
  simp only [Bool.and_eq_true, Bool.not_eq_true', decide_eq_false_iff_not] at h
  have h1 := Int32.not_lt.mp h.1
  obtain ⟨a, ha, rfl⟩ := zi_of (Int32.le_trans (show (0 : Int32) ≤ 48 by decide) h1)
  have h2 : 48 ≤ a := (zi_le (a := 48) (by decide) ha).mp h1
  have h3 : ¬ 57 < a := fun q => h.2 ((zi_lt (a := 57) (by decide) ha).mpr q)
  exact ⟨a - 48, by omega, by congr 1; omega⟩
theorem zi_64 {n : Nat} (h : n < 2147483648) : Int32.toInt64 (zi n) = Int64.ofNat n := by
  apply Int64.toInt_inj.mp
  rw [Int32.toInt_toInt64, zi_toInt h, Int64.toInt_ofNat_of_lt (by omega)]
/-- a number of digits of base B, each told by f -/
def natV (B : Nat) (f : Nat → Nat) : Nat → Nat
  | 0 => 0
  | m + 1 => B * natV B f m + f m
theorem natV_lt {B : Nat} {f : Nat → Nat} : ∀ m, (∀ j, j < m → f j < B) → natV B f m < B ^ m
  | 0, _ => by
    show 0 < 1
    decide
  | m + 1, h => by
    have h1 := natV_lt m (fun j hj => h j (by omega))
    have h2 := h m (by omega)
    show B * natV B f m + f m < B ^ (m + 1)
    have h3 : B * (natV B f m + 1) ≤ B * B ^ m := Nat.mul_le_mul_left B h1
    rw [Nat.pow_succ, Nat.mul_comm (B ^ m) B]
    rw [Nat.mul_add, Nat.mul_one] at h3
    omega
/-- the same length: the same digits -/
theorem natV_inj {B : Nat} {f g : Nat → Nat} : ∀ m, (∀ j, j < m → f j < B) → (∀ j, j < m → g j < B) → natV B f m = natV B g m → ∀ j, j < m → f j = g j
  | 0, _, _, _, j, hj => absurd hj (by omega)
  | m + 1, hf, hg, e, j, hj => by
    have e' : B * natV B f m + f m = B * natV B g m + g m := e
    have h1 := hf m (by omega)
    have h2 := hg m (by omega)
    have hB : 0 < B := by omega
    have e1 : natV B f m = natV B g m := by
      have a1 : (B * natV B f m + f m) / B = natV B f m := by rw [Nat.mul_add_div hB, Nat.div_eq_of_lt h1, Nat.add_zero]
      have a2 : (B * natV B g m + g m) / B = natV B g m := by rw [Nat.mul_add_div hB, Nat.div_eq_of_lt h2, Nat.add_zero]
      rw [← a1, ← a2, e']
    by_cases hj2 : j = m
    · subst hj2
      rw [e1] at e'
      omega
    · exact natV_inj m (fun j hj => hf j (by omega)) (fun j hj => hg j (by omega)) e1 j (by omega)
/-- digits that are not 0: the same number, the same length -/
theorem natV_len {B : Nat} {f g : Nat → Nat} : ∀ m k, (∀ j, j < m → f j < B ∧ 0 < f j) → (∀ j, j < k → g j < B ∧ 0 < g j) → natV B f m = natV B g k → m = k
  | 0, 0, _, _, _ => rfl
  | 0, k + 1, _, hg, e => by
    have h2 := (hg k (by omega)).2
    have e' : 0 = B * natV B g k + g k := e
    omega
  | m + 1, 0, hf, _, e => by
    have h2 := (hf m (by omega)).2
    have e' : B * natV B f m + f m = 0 := e
    omega
  | m + 1, k + 1, hf, hg, e => by
    have e' : B * natV B f m + f m = B * natV B g k + g k := e
    have h1 := (hf m (by omega)).1
    have h2 := (hg k (by omega)).1
    have hB : 0 < B := by omega
    have e1 : natV B f m = natV B g k := by
      have a1 : (B * natV B f m + f m) / B = natV B f m := by rw [Nat.mul_add_div hB, Nat.div_eq_of_lt h1, Nat.add_zero]
      have a2 : (B * natV B g k + g k) / B = natV B g k := by rw [Nat.mul_add_div hB, Nat.div_eq_of_lt h2, Nat.add_zero]
      rw [← a1, ← a2, e']
    exact congrArg (· + 1) (natV_len m k (fun j hj => hf j (by omega)) (fun j hj => hg j (by omega)) e1)
/-- what a byte's number is above so much -/
def dg (c : Nat) (b : Int32) : Nat := b.toNatClampNeg - c
theorem dg_L {b : Int32} (h : isL b = true) : dg 96 b < 27 ∧ 0 < dg 96 b ∧ b = zi (96 + dg 96 b) := by
  obtain ⟨d, h1, h2, rfl⟩ := isL_zi h
  unfold dg
  rw [zi_tn (by omega)]
  exact ⟨by omega, by omega, by congr 1; omega⟩
theorem dg_D {b : Int32} (h : isD b = true) : dg 48 b < 10 ∧ b = zi (48 + dg 48 b) := by
  obtain ⟨d, h2, rfl⟩ := isD_zi h
  unfold dg
  rw [zi_tn (by omega)]
  exact ⟨by omega, by congr 1; omega⟩
theorem valL_eq {t : Nat → Int32} {s : Nat} : ∀ m, (∀ j, j < m → isL (t (s + j)) = true) → valL t s m = Int64.ofNat (natV 27 (fun j => dg 96 (t (s + j))) m)
  | 0, _ => rfl
  | m + 1, h => by
    have hm := dg_L (h m (by omega))
    show 27 * valL t s m + Int32.toInt64 (t (s + m) - 97 + 1) = Int64.ofNat (27 * natV 27 (fun j => dg 96 (t (s + j))) m + dg 96 (t (s + m)))
    rw [valL_eq m (fun j hj => h j (by omega)), Int64.ofNat_add, Int64.ofNat_mul]
    congr 1
    rw [← zi_64 (n := dg 96 (t (s + m))) (by omega)]
    congr 1
    generalize dg 96 (t (s + m)) = d at hm
    rw [hm.2.2, show (97 : Int32) = zi 97 from rfl, zi_sub (by omega), zi_succ]
    congr 1
    omega
theorem valD_eq {t : Nat → Int32} {s : Nat} : ∀ m, (∀ j, j < m → isD (t (s + j)) = true) → valD t s m = Int64.ofNat (natV 10 (fun j => dg 48 (t (s + j))) m)
  | 0, _ => rfl
  | m + 1, h => by
    have hm := dg_D (h m (by omega))
    show 10 * valD t s m + Int32.toInt64 (t (s + m) - 48) = Int64.ofNat (10 * natV 10 (fun j => dg 48 (t (s + j))) m + dg 48 (t (s + m)))
    rw [valD_eq m (fun j hj => h j (by omega)), Int64.ofNat_add, Int64.ofNat_mul]
    congr 1
    rw [← zi_64 (n := dg 48 (t (s + m))) (by omega)]
    congr 1
    generalize dg 48 (t (s + m)) = d at hm
    rw [hm.2, show (48 : Int32) = zi 48 from rfl, zi_sub (by omega)]
    congr 1
    omega
theorem ofNat64_inj {a b : Nat} (ha : a < 9223372036854775808) (hb : b < 9223372036854775808) (h : Int64.ofNat a = Int64.ofNat b) : a = b := by
  have := congrArg Int64.toInt h
  rw [Int64.toInt_ofNat_of_lt ha, Int64.toInt_ofNat_of_lt hb] at this
  omega
theorem pow27 {m : Nat} (h : m ≤ 8) : 27 ^ m < 9223372036854775808 := Nat.lt_of_le_of_lt (Nat.pow_le_pow_right (by decide) h) (by decide)
theorem pow10 {m : Nat} (h : m ≤ 8) : 10 ^ m < 9223372036854775808 := Nat.lt_of_le_of_lt (Nat.pow_le_pow_right (by decide) h) (by decide)
theorem natV_cg {B : Nat} {f g : Nat → Nat} : ∀ m, (∀ j, j < m → f j = g j) → natV B f m = natV B g m
  | 0, _ => rfl
  | m + 1, h => by
    show B * natV B f m + f m = B * natV B g m + g m
    rw [natV_cg m (fun j hj => h j (by omega)), h m (by omega)]
/-- names: the same number just if the same bytes -/
theorem valL_iff {t t' : Nat → Int32} {s s' m m' : Nat} (h : ∀ j, j < m → isL (t (s + j)) = true) (h' : ∀ j, j < m' → isL (t' (s' + j)) = true) (hm : m ≤ 8) (hm' : m' ≤ 8) : valL t s m = valL t' s' m' ↔ m = m' ∧ ∀ j, j < m → t (s + j) = t' (s' + j) := by
  rw [valL_eq m h, valL_eq m' h']
  constructor
  · intro e
    have b1 := natV_lt (B := 27) (f := fun j => dg 96 (t (s + j))) m (fun j hj => (dg_L (h j hj)).1)
    have b2 := natV_lt (B := 27) (f := fun j => dg 96 (t' (s' + j))) m' (fun j hj => (dg_L (h' j hj)).1)
    have e2 := ofNat64_inj (Nat.lt_trans b1 (pow27 hm)) (Nat.lt_trans b2 (pow27 hm')) e
    have hl := natV_len m m' (fun j hj => ⟨(dg_L (h j hj)).1, (dg_L (h j hj)).2.1⟩) (fun j hj => ⟨(dg_L (h' j hj)).1, (dg_L (h' j hj)).2.1⟩) e2
    subst hl
    refine ⟨rfl, fun j hj => ?_⟩
    have := natV_inj m (fun j hj => (dg_L (h j hj)).1) (fun j hj => (dg_L (h' j hj)).1) e2 j hj
    rw [(dg_L (h j hj)).2.2, (dg_L (h' j hj)).2.2]
    exact congrArg (fun q => zi (96 + q)) this
  · rintro ⟨rfl, e⟩
    exact congrArg Int64.ofNat (natV_cg m (fun j hj => by rw [e j hj]))
theorem valD_iff {t t' : Nat → Int32} {s s' m : Nat} (h : ∀ j, j < m → isD (t (s + j)) = true) (h' : ∀ j, j < m → isD (t' (s' + j)) = true) (hm : m ≤ 8) : valD t s m = valD t' s' m ↔ ∀ j, j < m → t (s + j) = t' (s' + j) := by
  rw [valD_eq m h, valD_eq m h']
  constructor
  · intro e j hj
    have b1 := natV_lt (B := 10) (f := fun j => dg 48 (t (s + j))) m (fun j hj => (dg_D (h j hj)).1)
    have b2 := natV_lt (B := 10) (f := fun j => dg 48 (t' (s' + j))) m (fun j hj => (dg_D (h' j hj)).1)
    have e2 := ofNat64_inj (Nat.lt_trans b1 (pow10 hm)) (Nat.lt_trans b2 (pow10 hm)) e
    have := natV_inj m (fun j hj => (dg_D (h j hj)).1) (fun j hj => (dg_D (h' j hj)).1) e2 j hj
    rw [(dg_D (h j hj)).2, (dg_D (h' j hj)).2]
    exact congrArg (fun q => zi (48 + q)) this
  · intro e
    exact congrArg Int64.ofNat (natV_cg m (fun j hj => by rw [e j hj]))
