/-! ===== an INT's number, the class ===== -/
theorem nat_d0 {N m k : Nat} (hk : m ≤ k) (hk3 : k < 4) (hm : 1 ≤ m) : N * 256 ^ (4 - m) / 256 ^ (3 - k) % 256 = 0 := by
  rcases (by omega : (m = 1 ∧ k = 1) ∨ (m = 1 ∧ k = 2) ∨ (m = 1 ∧ k = 3) ∨ (m = 2 ∧ k = 2) ∨ (m = 2 ∧ k = 3) ∨ (m = 3 ∧ k = 3)) with ⟨rfl, rfl⟩ | ⟨rfl, rfl⟩ | ⟨rfl, rfl⟩ | ⟨rfl, rfl⟩ | ⟨rfl, rfl⟩ | ⟨rfl, rfl⟩
  · show N * 16777216 / 65536 % 256 = 0
    omega
  · show N * 16777216 / 256 % 256 = 0
    omega
  · show N * 16777216 / 1 % 256 = 0
    omega
  · show N * 65536 / 256 % 256 = 0
    omega
  · show N * 65536 / 1 % 256 = 0
    omega
  · show N * 256 / 1 % 256 = 0
    omega
theorem un_no {t : Nat → Int32} {s m k : Nat} (hk : m ≤ k) (hk3 : k < 4) (hm : 1 ≤ m) (h : ∀ j, j < m → byt (t (s + j))) : (((pkR t s m).toUInt32 >>> ((zi (24 - 8 * k)).toUInt32 &&& Int32.toUInt32 31)).toInt32) &&& 255 = 0 := by
  have e := pk_nat m (by omega) h
  have w := nat_d0 (N := natV 256 (fun j => dg 0 (t (s + j))) m) hk hk3 hm
  refine Int32.toBitVec_inj.mp (BitVec.eq_of_toNat_eq ?_)
  rw [show (0 : Int32).toBitVec.toNat = 0 from rfl]
  rcases (by omega : k = 1 ∨ k = 2 ∨ k = 3) with rfl | rfl | rfl
  · rw [show (zi (24 - 8 * 1)).toUInt32 &&& Int32.toUInt32 31 = 16 by decide, ur_16, e]
    exact w
  · rw [show (zi (24 - 8 * 2)).toUInt32 &&& Int32.toUInt32 31 = 8 by decide, ur_8, e]
    exact w
  · rw [show (zi (24 - 8 * 3)).toUInt32 &&& Int32.toUInt32 31 = 0 by decide, ur_0, e]
    exact w
theorem un_yes {t : Nat → Int32} {s m k : Nat} (hk : k < m) (hm : m ≤ 4) (h : ∀ j, j < m → byt (t (s + j))) : (((pkR t s m).toUInt32 >>> ((zi (24 - 8 * k)).toUInt32 &&& Int32.toUInt32 31)).toInt32) &&& 255 = t (s + k) := by
  rw [← un_pk hk hm h (a := zi k) (Or.inl rfl)]
  rcases (by omega : k = 0 ∨ k = 1 ∨ k = 2 ∨ k = 3) with rfl | rfl | rfl | rfl
  · rw [show (24 - (8 * (zi 0 &&& 3)) : Int32) = zi (24 - 8 * 0) by decide]
  · rw [show (24 - (8 * (zi 1 &&& 3)) : Int32) = zi (24 - 8 * 1) by decide]
  · rw [show (24 - (8 * (zi 2 &&& 3)) : Int32) = zi (24 - 8 * 2) by decide]
  · rw [show (24 - (8 * (zi 3 &&& 3)) : Int32) = zi (24 - 8 * 3) by decide]
theorem s_numberOf {t : Nat → Int32} {s m : Nat} {I : zI} {K : Int32 → Prop} (hm1 : 1 ≤ m) (hm : m ≤ 4) (h : ∀ j, j < m → isD (t (s + j)) = true) (hK : K (zi (natV 10 (fun j => dg 48 (t (s + j))) m))) : w_Runner_numberOf (pkR t s m) I K := by
  have hb : ∀ j, j < m → byt (t (s + j)) := fun j hj => by
    obtain ⟨d, d1, d2⟩ := isD_zi (h j hj)
    exact ⟨48 + d, by omega, d2⟩
  intro P5 h5
  have st : ∀ (k : Nat) (v : Int32), k < 4 → P5 (zi (natV 10 (fun j => dg 48 (t (s + j))) (min (k + 1) m))) (zi (24 - 8 * k) + (-8)) → v = zi (natV 10 (fun j => dg 48 (t (s + j))) (min k m)) → P5 v (zi (24 - 8 * k)) := by
    intro k v hk hn hv
    refine h5 _ _ ?_
    rw [if_neg (zi_pos (by omega))]
    intro v3 ev3 P34 h34
    by_cases c : k < m
    · rw [un_yes c hm hb] at ev3
      obtain ⟨d1, d2⟩ := dg_D (h k c)
      rw [Nat.min_eq_left (by omega : k ≤ m)] at hv
      rw [Nat.min_eq_left (by omega : k + 1 ≤ m)] at hn
      rw [ev3, if_neg (show ¬ t (s + k) = 0 from fun u => by
        rw [d2] at u
        have := (zi_eq (b := 0) (by omega) (by decide)).mp u
        omega)]
      refine h34 _ (fun v2 ev2 => ?_)
      rw [ev2]
      have e : (v * 10 + t (s + k)) - 48 = zi (natV 10 (fun j => dg 48 (t (s + j))) (k + 1)) := by
        rw [hv, d2, show (10 : Int32) = zi 10 from rfl, show (48 : Int32) = zi 48 from rfl, zi_mul, zi_add, zi_sub (by omega)]
        show _ = zi (10 * natV 10 (fun j => dg 48 (t (s + j))) k + dg 48 (t (s + k)))
        congr 1
        omega
      rw [e]
      exact hn
    · rw [un_no (by omega) hk hm1 hb] at ev3
      rw [Nat.min_eq_right (by omega : m ≤ k)] at hv
      rw [Nat.min_eq_right (by omega : m ≤ k + 1)] at hn
      rw [ev3, if_pos rfl]
      refine h34 _ (fun v2 ev2 => ?_)
      rw [ev2, hv]
      exact hn
  refine st 0 0 (by decide) ?_ (by rw [Nat.zero_min]; rfl)
  refine st 1 _ (by decide) ?_ rfl
  refine st 2 _ (by decide) ?_ rfl
  refine st 3 _ (by decide) ?_ rfl
  refine h5 _ _ ?_
  rw [if_pos (show zi (24 - 8 * 3) + (-8) < 0 by decide), Nat.min_eq_right (by omega : m ≤ 3 + 1)]
  exact hK
