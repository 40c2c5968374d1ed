/-! ===== bytes packed ===== -/
def byt (b : Int32) : Prop := ∃ d : Nat, d < 256 ∧ b = zi d
theorem byt_dg {b : Int32} (h : byt b) : dg 0 b < 256 ∧ b = zi (dg 0 b) := by
  obtain ⟨d, h1, rfl⟩ := h
  unfold dg
  rw [zi_tn (by omega)]
  exact ⟨by omega, rfl⟩
theorem zi_bv {d : Nat} (h : d < 4294967296) : (zi d).toBitVec.toNat = d := by
  show (BitVec.ofNat 32 d).toNat = d
  rw [BitVec.toNat_ofNat]
  exact Nat.mod_eq_of_lt h
theorem shl_24 {d : Nat} (h : d < 256) : (zi d <<< (24 : Int32)).toBitVec.toNat = d * 16777216 := by
  show ((zi d).toBitVec <<< (24 : Nat)).toNat = _
  rw [BitVec.toNat_shiftLeft, zi_bv (by omega), Nat.shiftLeft_eq]
  exact Nat.mod_eq_of_lt (by omega)
theorem shl_16 {d : Nat} (h : d < 256) : (zi d <<< (16 : Int32)).toBitVec.toNat = d * 65536 := by
  show ((zi d).toBitVec <<< (16 : Nat)).toNat = _
  rw [BitVec.toNat_shiftLeft, zi_bv (by omega), Nat.shiftLeft_eq]
  exact Nat.mod_eq_of_lt (by omega)
theorem shl_8 {d : Nat} (h : d < 256) : (zi d <<< (8 : Int32)).toBitVec.toNat = d * 256 := by
  show ((zi d).toBitVec <<< (8 : Nat)).toNat = _
  rw [BitVec.toNat_shiftLeft, zi_bv (by omega), Nat.shiftLeft_eq]
  exact Nat.mod_eq_of_lt (by omega)
theorem shl_0 {d : Nat} (h : d < 256) : (zi d <<< (0 : Int32)).toBitVec.toNat = d := by
  rw [Int32.shiftLeft_zero]
  exact zi_bv (by omega)
theorem or_nat {a b : Int32} : (a ||| b).toBitVec.toNat = a.toBitVec.toNat ||| b.toBitVec.toNat := by
  rw [Int32.toBitVec_or, BitVec.toNat_or]
theorem pk_nat {t : Nat → Int32} {s : Nat} : ∀ m, m ≤ 4 → (∀ j, j < m → byt (t (s + j))) → (pkR t s m).toBitVec.toNat = natV 256 (fun j => dg 0 (t (s + j))) m * 256 ^ (4 - m)
  | 0, _, _ => by
    show (0 : Int32).toBitVec.toNat = 0 * _
    rw [Nat.zero_mul]
    rfl
  | m + 1, hm, h => by
    have ih := pk_nat m (by omega) (fun j hj => h j (by omega))
    have hb := byt_dg (h m (by omega))
    have hN := natV_lt (B := 256) (f := fun j => dg 0 (t (s + j))) m (fun j hj => (byt_dg (h j (by omega))).1)
    show (pkR t s m ||| (t (s + m) <<< ((24 - 8 * zi m) &&& 31))).toBitVec.toNat = (256 * natV 256 (fun j => dg 0 (t (s + j))) m + dg 0 (t (s + m))) * 256 ^ (4 - (m + 1))
    rw [or_nat, ih]
    generalize natV 256 (fun j => dg 0 (t (s + j))) m = N at hN ⊢
    generalize dg 0 (t (s + m)) = d at hb ⊢
    rw [hb.2]
    have hd := hb.1
    rcases (by omega : m = 0 ∨ m = 1 ∨ m = 2 ∨ m = 3) with rfl | rfl | rfl | rfl
    · rw [show ((24 : Int32) - 8 * zi 0) &&& 31 = 24 by decide, shl_24 hd]
      have hN0 : N = 0 := by
        have : N < 1 := hN
        omega
      subst hN0
      rw [Nat.zero_mul, Nat.zero_or]
      show d * 16777216 = (256 * 0 + d) * 16777216
      omega
    · rw [show ((24 : Int32) - 8 * zi 1) &&& 31 = 16 by decide, shl_16 hd]
      have e := Nat.two_pow_add_eq_or_of_lt (i := 24) (b := d * 65536) (by omega) N
      rw [show N * 256 ^ (4 - 1) = 2 ^ 24 * N from Nat.mul_comm _ _, ← e]
      show 16777216 * N + d * 65536 = (256 * N + d) * 65536
      omega
    · rw [show ((24 : Int32) - 8 * zi 2) &&& 31 = 8 by decide, shl_8 hd]
      have e := Nat.two_pow_add_eq_or_of_lt (i := 16) (b := d * 256) (by omega) N
      rw [show N * 256 ^ (4 - 2) = 2 ^ 16 * N from Nat.mul_comm _ _, ← e]
      show 65536 * N + d * 256 = (256 * N + d) * 256
      omega
    · rw [show ((24 : Int32) - 8 * zi 3) &&& 31 = 0 by decide, shl_0 hd]
      have e := Nat.two_pow_add_eq_or_of_lt (i := 8) (b := d) (by omega) N
      rw [show N * 256 ^ (4 - 3) = 2 ^ 8 * N from Nat.mul_comm _ _, ← e]
      show 256 * N + d = (256 * N + d) * 1
      omega
theorem pk_inj {t t' : Nat → Int32} {s s' m : Nat} (hm : m ≤ 4) (h : ∀ j, j < m → byt (t (s + j))) (h' : ∀ j, j < m → byt (t' (s' + j))) : pkR t s m = pkR t' s' m ↔ ∀ j, j < m → t (s + j) = t' (s' + j) := by
  constructor
  · intro e j hj
    have e1 : (pkR t s m).toBitVec.toNat = (pkR t' s' m).toBitVec.toNat := by rw [e]
    rw [pk_nat m hm h, pk_nat m hm h'] at e1
    have hp : 0 < 256 ^ (4 - m) := Nat.pow_pos (by decide)
    have e2 := natV_inj m (fun j hj => (byt_dg (h j hj)).1) (fun j hj => (byt_dg (h' j hj)).1) (Nat.eq_of_mul_eq_mul_right hp e1) j hj
    rw [(byt_dg (h j hj)).2, (byt_dg (h' j hj)).2]
    exact congrArg zi e2
  · intro e
    have : ∀ k, k ≤ m → pkR t s k = pkR t' s' k := by
      intro k
      induction k with
      | zero => intro _; rfl
      | succ k ih =>
        intro hk
        show pkR t s k ||| _ = pkR t' s' k ||| _
        rw [ih (by omega), e k (by omega)]
    exact this m (Nat.le_refl _)
/-- tokens alike: KIND, bytes -/
def tkA (t : Nat → Int32) (x : Nat × Nat × Nat) (t' : Nat → Int32) (y : Nat × Nat × Nat) : Prop := x.1 = y.1 ∧ x.2.2 = y.2.2 ∧ ∀ j, j < x.2.2 → t (x.2.1 + j) = t' (y.2.1 + j)
/-- what a token of a text is -/
def tkOk (t : Nat → Int32) (x : Nat × Nat × Nat) : Prop := x.1 < 12 ∧ x.2.2 ≤ 8 ∧ (∀ j, j < x.2.2 → byt (t (x.2.1 + j))) ∧ (x.1 = 0 → 1 ≤ x.2.2 ∧ ∀ j, j < x.2.2 → isL (t (x.2.1 + j)) = true) ∧ (x.1 = 1 → 1 ≤ x.2.2 ∧ ∀ j, j < x.2.2 → isD (t (x.2.1 + j)) = true) ∧ (x.1 = 10 → x.2.2 = 0) ∧ (x.1 ≠ 0 → x.1 ≠ 1 → x.1 ≠ 10 → x.2.2 = 1)
theorem tkA_x {t t' : Nat → Int32} {x y : Nat × Nat × Nat} (hx : tkOk t x) (hy : tkOk t' y) : tkA t x t' y ↔ x.1 = y.1 ∧ x.2.2 = y.2.2 ∧ hdT t x.2.1 x.2.2 = hdT t' y.2.1 y.2.2 ∧ tlT t x.2.1 x.2.2 = tlT t' y.2.1 y.2.2 := by
  unfold tkA
  constructor
  · rintro ⟨h1, h2, h3⟩
    refine ⟨h1, h2, ?_, ?_⟩
    · unfold hdT
      rw [← h2]
      exact (pk_inj (by omega) (fun j hj => hx.2.2.1 j (by omega)) (fun j hj => hy.2.2.1 j (by omega))).mpr (fun j hj => h3 j (by omega))
    · unfold tlT
      rw [← h2]
      have hw := hx.2.1
      exact (pk_inj (by omega) (fun j hj => by rw [show x.2.1 + 4 + j = x.2.1 + (4 + j) by omega]; exact hx.2.2.1 _ (by omega)) (fun j hj => by rw [show y.2.1 + 4 + j = y.2.1 + (4 + j) by omega]; exact hy.2.2.1 _ (by omega))).mpr (fun j hj => by
        rw [show x.2.1 + 4 + j = x.2.1 + (4 + j) by omega, show y.2.1 + 4 + j = y.2.1 + (4 + j) by omega]
        exact h3 _ (by omega))
  · rintro ⟨h1, h2, h3, h4⟩
    refine ⟨h1, h2, fun j hj => ?_⟩
    unfold hdT at h3
    unfold tlT at h4
    rw [← h2] at h3 h4
    have hw := hx.2.1
    by_cases q : j < 4
    · exact (pk_inj (by omega) (fun j hj => hx.2.2.1 j (by omega)) (fun j hj => hy.2.2.1 j (by omega))).mp h3 j (by omega)
    · have := (pk_inj (by omega) (fun j hj => by rw [show x.2.1 + 4 + j = x.2.1 + (4 + j) by omega]; exact hx.2.2.1 _ (by omega)) (fun j hj => by rw [show y.2.1 + 4 + j = y.2.1 + (4 + j) by omega]; exact hy.2.2.1 _ (by omega))).mp h4 (j - 4) (by omega)
      rw [show x.2.1 + 4 + (j - 4) = x.2.1 + j by omega, show y.2.1 + 4 + (j - 4) = y.2.1 + j by omega] at this
      exact this
theorem tkA_m {t t' : Nat → Int32} {x y : Nat × Nat × Nat} (hx : tkOk t x) (hy : tkOk t' y) : tkA t x t' y ↔ x.1 = y.1 ∧ x.2.2 = y.2.2 ∧ isV t x = isV t' y := by
  unfold tkA
  refine and_congr_right fun h1 => and_congr_right fun h2 => ?_
  unfold isV
  rw [← h1, ← h2]
  by_cases k0 : x.1 = 0
  · rw [if_pos k0, if_pos k0, valL_iff (hx.2.2.2.1 k0).2 (by rw [h2]; exact (hy.2.2.2.1 (by rw [← h1]; exact k0)).2) hx.2.1 hx.2.1]
    exact ⟨fun q => ⟨rfl, q⟩, fun q => q.2⟩
  rw [if_neg k0, if_neg k0]
  by_cases k1 : x.1 = 1
  · rw [if_pos k1, if_pos k1, valD_iff (hx.2.2.2.2.1 k1).2 (by rw [h2]; exact (hy.2.2.2.2.1 (by rw [← h1]; exact k1)).2) hx.2.1]
  rw [if_neg k1, if_neg k1]
  by_cases k10 : x.1 = 10
  · rw [if_pos k10, if_pos k10, hx.2.2.2.2.2.1 k10]
    exact ⟨fun _ => rfl, fun _ j hj => absurd hj (by omega)⟩
  rw [if_neg k10, if_neg k10]
  have hw := hx.2.2.2.2.2.2 k0 k1 k10
  have hw' : y.2.2 = 1 := by rw [← h2]; exact hw
  rw [hw]
  obtain ⟨d, hd, e1⟩ := hx.2.2.1 0 (by omega)
  obtain ⟨d', hd', e2⟩ := hy.2.2.1 0 (by omega)
  rw [Nat.add_zero] at e1 e2
  rw [e1, e2, zi_64 (by omega), zi_64 (by omega)]
  constructor
  · intro q
    have := q 0 (by omega)
    rw [Nat.add_zero, Nat.add_zero, e1, e2, zi_eq (by omega) (by omega)] at this
    rw [this]
  · intro q j hj
    have hj0 : j = 0 := by omega
    have e3 := ofNat64_inj (by omega) (by omega) q
    rw [hj0, Nat.add_zero, Nat.add_zero, e1, e2, e3]
