/-! ===== numbers ===== -/
abbrev zi (n : Nat) : Int32 := Int32.ofNat n
theorem zi_lt {a b : Nat} (ha : a < 2147483648) (hb : b < 2147483648) : zi a < zi b ↔ a < b := Int32.ofNat_lt_iff_lt ha hb
theorem zi_le {a b : Nat} (ha : a < 2147483648) (hb : b < 2147483648) : zi a ≤ zi b ↔ a ≤ b := Int32.ofNat_le_iff_le ha hb
theorem zi_toInt {a : Nat} (ha : a < 2147483648) : (zi a).toInt = a := Int32.toInt_ofNat_of_lt ha
theorem zi_eq {a b : Nat} (ha : a < 2147483648) (hb : b < 2147483648) : zi a = zi b ↔ a = b := by
  rw [← Int32.toInt_inj, zi_toInt ha, zi_toInt hb]
  omega
theorem zi_tn {a : Nat} (ha : a < 2147483648) : (zi a).toNatClampNeg = a := Int32.toNatClampNeg_ofNat_of_lt ha
theorem zi_add (a b : Nat) : zi a + zi b = zi (a + b) := (Int32.ofNat_add a b).symm
theorem zi_succ (a : Nat) : zi a + 1 = zi (a + 1) := zi_add a 1
theorem zi_sub {a b : Nat} (h : b ≤ a) : zi a - zi b = zi (a - b) := (Int32.ofNat_sub a b h).symm
theorem zi_mul (a b : Nat) : zi a * zi b = zi (a * b) := (Int32.ofNat_mul a b).symm
theorem zi_pos {a : Nat} (ha : a < 2147483648) : ¬ zi a < 0 := by
  rw [show (0 : Int32) = zi 0 from rfl, zi_lt ha (by decide)]
  omega
theorem zi_ge {a : Nat} (ha : a < 2147483648) : 0 ≤ zi a := by
  rw [show (0 : Int32) = zi 0 from rfl, zi_le (by decide) ha]
  omega
theorem zi_pred {a : Nat} (h : 1 ≤ a) : zi a + (-1) = zi (a - 1) := by
  have e : zi a = zi (a - 1) + 1 := by rw [zi_succ]; congr 1; omega
  rw [e, Int32.add_assoc, show (1 : Int32) + (-1) = 0 from rfl, Int32.add_zero]
/-- a number that isn't below 0 is one of a Nat -/
theorem zi_of {v : Int32} (h : 0 ≤ v) : ∃ a : Nat, a < 2147483648 ∧ v = zi a := by
  have h1 : (0 : Int) ≤ v.toInt := by simpa using Int32.le_iff_toInt_le.mp h
  have h2 := v.toInt_lt
  have h3 : v.toInt.toNat < 2147483648 := by omega
  refine ⟨v.toInt.toNat, h3, Int32.toInt_inj.mp ?_⟩
  rw [zi_toInt h3]
  omega
theorem zin_iff {i n : Nat} (h : i < 2147483648) : vp_in (zi i) n ↔ i < n := by
  unfold vp_in
  rw [zi_tn h]
  have := zi_pos h
  constructor
  · intro q
    exact Nat.not_le.mp fun r => q (Or.inr r)
  · rintro q (r | r)
    · exact this r
    · omega
/-! ===== joins without a way back ===== -/
theorem zJ0 {R X Y : Prop} {c : Prop} [Decidable c] (h : if c then R else Y) : ∀ P : Prop, (R → P) → (if c then P else Y) := by
  intro P hP
  split
  · exact hP (by rwa [if_pos ‹_›] at h)
  · rwa [if_neg ‹_›] at h
theorem zJi {α : Type} {R : α → Prop} {c : Prop} [Decidable c] {x y : α} (h : R (if c then x else y)) : ∀ P : α → Prop, (∀ a, R a → P a) → (if c then P x else P y) := by
  intro P hP
  split
  · exact hP _ (by rwa [if_pos ‹_›] at h)
  · exact hP _ (by rwa [if_neg ‹_›] at h)
/-! ===== rows of numbers ===== -/
/-- what a Row of n cells answers -/
def rg (n : Nat) (f : Nat → Int32) (i : Int32) : Int32 := if i < 0 then 0 else if zi n ≤ i then 0 else f i.toNatClampNeg
theorem rg_in {n i : Nat} {f : Nat → Int32} (hn : n < 2147483648) (h : i < n) : rg n f (zi i) = f i := by
  unfold rg
  rw [if_neg (zi_pos (by omega)), if_neg (by rw [zi_le hn (by omega)]; omega), zi_tn (by omega)]
theorem rg_out {n i : Nat} {f : Nat → Int32} (hn : n < 2147483648) (hi : i < 2147483648) (h : n ≤ i) : rg n f (zi i) = 0 := by
  unfold rg
  rw [if_neg (zi_pos hi), if_pos (by rw [zi_le hn hi]; exact h)]
theorem rg_neg {n : Nat} {f : Nat → Int32} {i : Int32} (h : i < 0) : rg n f i = 0 := by
  unfold rg
  rw [if_pos h]
theorem w_get {k n : Nat} {i : Int32} {I : zI} {K : Int32 → Prop} (hn : n < 2147483648) : w_Row_get k n i I K ↔ K (rg n (I.1 (k + 1)) i) := by
  unfold w_Row_get rg
  by_cases h1 : i < 0
  · rw [if_pos h1, if_pos h1]
  · rw [if_neg h1, if_neg h1]
    by_cases h2 : zi n ≤ i
    · rw [if_pos h2, if_pos h2]
    · rw [if_neg h2, if_neg h2]
      obtain ⟨a, ha, rfl⟩ := zi_of (Int32.not_lt.mp h1)
      have h3 : a < n := by
        rw [zi_le hn ha] at h2
        omega
      exact ⟨fun q => q.2, fun q => ⟨(zin_iff ha).mpr h3, q⟩⟩
/-- a Row of n cells behind a set -/
def rs (I : zI) (a n : Nat) (i v : Int32) : zI := if i < 0 then I else if zi n ≤ i then I else zu I a i.toNatClampNeg v
theorem rs_in {I : zI} {a n i : Nat} {v : Int32} (hn : n < 2147483648) (h : i < n) : rs I a n (zi i) v = zu I a i v := by
  unfold rs
  rw [if_neg (zi_pos (by omega)), if_neg (by rw [zi_le hn (by omega)]; omega), zi_tn (by omega)]
theorem rs_out {I : zI} {a n i : Nat} {v : Int32} (hn : n < 2147483648) (hi : i < 2147483648) (h : n ≤ i) : rs I a n (zi i) v = I := by
  unfold rs
  rw [if_neg (zi_pos hi), if_pos (by rw [zi_le hn hi]; exact h)]
theorem rs_neg {I : zI} {a n : Nat} {i v : Int32} (h : i < 0) : rs I a n i v = I := by
  unfold rs
  rw [if_pos h]
theorem w_set {k n : Nat} {i v : Int32} {I : zI} {K : zI → Prop} (hn : n < 2147483648) : w_Row_set k n i v I K ↔ K (rs I (k + 1) n i v) := by
  unfold w_Row_set rs
  by_cases h1 : i < 0
  · rw [if_pos h1, if_pos h1]
  · rw [if_neg h1, if_neg h1]
    by_cases h2 : zi n ≤ i
    · rw [if_pos h2, if_pos h2]
    · rw [if_neg h2, if_neg h2]
      obtain ⟨a, ha, rfl⟩ := zi_of (Int32.not_lt.mp h1)
      have h3 : a < n := by
        rw [zi_le hn ha] at h2
        omega
      exact ⟨fun q => q.2 _ rfl, fun q => ⟨(zin_iff ha).mpr h3, fun J e => e ▸ q⟩⟩
theorem w_add {k n : Nat} {i v : Int32} {I : zI} {K : zI → Prop} (hn : n < 2147483648) : w_Row_add k n i v I K ↔ K (rs I (k + 1) n i (rg n (I.1 (k + 1)) i + v)) := by
  unfold w_Row_add
  rw [w_get hn, w_set hn]
/-! ===== what stays: cells outside lo .. hi ===== -/
def eqX (lo hi : Nat) (I J : zI) : Prop := ∀ a, (a < lo ∨ hi ≤ a) → J.1 a = I.1 a ∧ J.2 a = I.2 a
theorem eqX.rf {lo hi : Nat} {I : zI} : eqX lo hi I I := fun _ _ => ⟨rfl, rfl⟩
theorem eqX.tr {lo hi : Nat} {I J L : zI} (h1 : eqX lo hi I J) (h2 : eqX lo hi J L) : eqX lo hi I L := fun a ha => ⟨(h2 a ha).1.trans (h1 a ha).1, (h2 a ha).2.trans (h1 a ha).2⟩
theorem eqX.mono {lo hi lo' hi' : Nat} {I J : zI} (h : eqX lo hi I J) (h1 : lo' ≤ lo) (h2 : hi ≤ hi') : eqX lo' hi' I J := fun a ha => h a (by omega)
theorem zu_at {I : zI} {a i b j : Nat} {v : Int32} : (zu I a i v).1 b j = if b = a ∧ j = i then v else I.1 b j := rfl
theorem zu_self {I : zI} {a i : Nat} {v : Int32} : (zu I a i v).1 a i = v := if_pos ⟨rfl, rfl⟩
theorem zu_o {I : zI} {a i b : Nat} {v : Int32} (h : b ≠ a) : (zu I a i v).1 b = I.1 b := (zu_ne h).1
theorem zu_i {I : zI} {a i b j : Nat} {v : Int32} (h : j ≠ i) : (zu I a i v).1 b j = I.1 b j := by
  rw [zu_at, if_neg (fun q => h q.2)]
theorem zu_2 {I : zI} {a i : Nat} {v : Int32} : (zu I a i v).2 = I.2 := rfl
theorem eqX.zu {lo hi : Nat} {I J : zI} {a i : Nat} {v : Int32} (h : eqX lo hi I J) (h1 : lo ≤ a) (h2 : a < hi) : eqX lo hi I (zu J a i v) := fun b hb => by
  have hn : b ≠ a := by omega
  exact ⟨(zu_ne hn).1.trans (h b hb).1, (zu_ne hn).2.trans (h b hb).2⟩
theorem eqX.rs {lo hi : Nat} {I J : zI} {a n : Nat} {i v : Int32} (h : eqX lo hi I J) (h1 : lo ≤ a) (h2 : a < hi) : eqX lo hi I (rs J a n i v) := by
  unfold Jvm.Pilot.@@N@@.rs
  split
  · exact h
  · split
    · exact h
    · exact h.zu h1 h2
theorem rs_o {I : zI} {a n b : Nat} {i v : Int32} (h : b ≠ a) : (rs I a n i v).1 b = I.1 b := by
  unfold rs
  split
  · rfl
  · split
    · rfl
    · exact zu_o h
theorem rs_2 {I : zI} {a n : Nat} {i v : Int32} : (rs I a n i v).2 = I.2 := by
  unfold rs
  split
  · rfl
  · split <;> rfl
/-! ===== fill, copyFrom ===== -/
theorem s_fill {k n : Nat} {v : Int32} {I : zI} {K : zI → Prop} (hn : n < 2147483648) (h : ∀ J : zI, eqX (k + 1) (k + 2) I J → (∀ j, J.1 (k + 1) j = if j < n then v else I.1 (k + 1) j) → K J) : w_Row_fill k n v I K := by
  intro P hP
  have key : ∀ d i : Nat, i + d = n → ∀ J : zI, eqX (k + 1) (k + 2) I J → (∀ j, J.1 (k + 1) j = if j < i then v else I.1 (k + 1) j) → P (zi i) J := by
    intro d
    induction d with
    | zero =>
      intro i hi J e c
      refine hP _ _ ?_
      have hin : i = n := by omega
      subst hin
      rw [if_pos (by rw [zi_le hn hn]; exact Nat.le_refl _)]
      exact h J e c
    | succ d ih =>
      intro i hi J e c
      refine hP _ _ ?_
      rw [if_neg (by rw [zi_le hn (by omega)]; omega)]
      refine ⟨(zin_iff (by omega)).mpr (by omega), fun J2 e2 v2 ev2 => ?_⟩
      subst e2 ev2
      rw [zi_succ, zi_tn (by omega)]
      refine ih (i + 1) (by omega) _ (e.zu (Nat.le_refl _) (by omega)) (fun j => ?_)
      rw [zu_at, c]
      by_cases hj : j = i
      · rw [if_pos ⟨rfl, hj⟩, if_pos (by omega)]
      · rw [if_neg (fun q => hj q.2)]
        by_cases h2 : j < i
        · rw [if_pos h2, if_pos (by omega)]
        · rw [if_neg h2, if_neg (by omega)]
  exact key n 0 (by omega) I .rf (fun j => by rw [if_neg (by omega)])
theorem zcp_at {I : zI} {k k0 n b j : Nat} : (zcp I k k0 0 0 n).1 b j = if b = k ∧ j < n then I.1 k0 j else I.1 b j := by
  unfold zcp va_cpy
  by_cases hb : b = k
  · subst hb
    by_cases hj : j < n
    · simp [hj]
    · simp [hj]
  · simp [hb]
/-- copyFrom of as many as both Rows have room for -/
theorem s_copy {k n a an c : Nat} {I : zI} {K : zI → Prop} (hn : n < 2147483648) (han : an < 2147483648) (hcn : c ≤ n) (hca : c ≤ an) (h : ∀ J : zI, eqX (k + 1) (k + 2) I J → (∀ j, J.1 (k + 1) j = if j < c then I.1 (a + 1) j else I.1 (k + 1) j) → K J) : w_Row_copyFrom k n a an (zi c) I K := by
  unfold w_Row_copyFrom
  intro v ev
  have e1 : v = zi c := by
    rw [ev]
    by_cases q : zi an < zi n
    · rw [if_pos q]
      by_cases q2 : zi an < zi c
      · rw [zi_lt han (by omega)] at q2
        omega
      · rw [if_neg q2]
    · rw [if_neg q]
      by_cases q2 : zi n < zi c
      · rw [zi_lt hn (by omega)] at q2
        omega
      · rw [if_neg q2]
  subst e1
  have hc : c < 2147483648 := by omega
  by_cases h0 : zi c ≤ 0
  · rw [if_pos h0]
    have : c = 0 := by
      rw [show (0 : Int32) = zi 0 from rfl, zi_le hc (by decide)] at h0
      omega
    subst this
    exact h I .rf (fun j => by rw [if_neg (by omega)])
  · rw [if_neg h0]
    refine ⟨⟨zi_ge hc, by rw [zi_tn hc]; exact hca, by rw [zi_tn hc]; exact hcn⟩, fun J e => ?_⟩
    subst e
    rw [zi_tn hc]
    refine h _ (fun b hb => ?_) (fun j => by rw [zcp_at]; simp)
    have hbk : b ≠ k + 1 := by omega
    exact zcp_ne hbk
