/-! ===== something to be written, as drawn ===== -/
theorem and_zi {x : Int32} {c : Nat} (hc : c < 2147483648) : ∃ d, d ≤ c ∧ x &&& zi c = zi d := by
  have h1 : (x &&& zi c).toBitVec.toNat ≤ c := by
    show (x.toBitVec &&& (zi c).toBitVec).toNat ≤ c
    rw [BitVec.toNat_and]
    refine Nat.le_trans Nat.and_le_right ?_
    have e : (zi c).toBitVec.toNat = c := zi_bv (by omega)
    omega
  refine ⟨(x &&& zi c).toBitVec.toNat, h1, Int32.toBitVec_inj.mp (BitVec.eq_of_toNat_eq ?_)⟩
  rw [zi_bv (by omega)]
theorem byt_and {x : Int32} {k c : Nat} (h : k + c < 256) : byt (zi k + (x &&& zi c)) := by
  obtain ⟨d, hd, e⟩ := and_zi (x := x) (c := c) (by omega)
  exact ⟨k + d, by omega, by rw [e, zi_add]⟩
set_option maxHeartbeats 4000000 in
theorem s_drawn {v : Int32} {m : Nat} {S : List zC} {I : zI} {K : Nat → Nat → List zC → zI → Prop} (hm : m ≤ 4) (hz : zZ I S.length) (hK : ∀ k l S2 J, S.length ≤ k → Nw S I S2 J 9 → AtL S2 J k l → l.length ≤ 44 → BtL l → K k l.length S2 J) : w_Law_drawn v (zi m) S I K := by
  refine ⟨⟨hz, by decide, by decide, by decide, by decide⟩, fun S1 k1 n1 eS eK eN => ?_⟩
  have eN2 : n1 = ([] : List Int32).length := eN.trans (by decide)
  subst eN2
  subst eS
  subst eK
  intro P6 h6
  obtain ⟨n0, a0⟩ := Bd.nw (l := []) (Bd.start : Bd I S.length [] 0 I) hz
  have key : ∀ (d i c7 u7 k : Nat) (l : List Int32) (S7 : List zC) (J : zI), d + i = m → c7 = 1 + 2 * i → u7 ≤ 1011 * i → Nw S I S7 J c7 → AtL S7 J k l → l.length ≤ 11 * i → BtL l → S.length ≤ k → P6 k l.length (zi i) S7 c7 u7 J := by
    intro d
    induction d with
    | zero =>
      intro i c7 u7 k l S7 J hd hc hu hn hA hl hb hk
      refine h6 _ _ _ _ _ _ _ ?_
      rw [if_pos (show zi m ≤ zi i from (zi_le (by omega) (by omega)).mpr (by omega))]
      exact hK k l S7 J hk (hn.mono (by omega)) hA (by omega) hb
    | succ d ih =>
      intro i c7 u7 k l S7 J hd hc hu hn hA hl hb hk
      refine h6 _ _ _ _ _ _ _ ?_
      rw [if_neg (show ¬ zi m ≤ zi i from nle_zi (by omega) (by omega))]
      intro v4 e4 v5 e5 v6 e6 v7 e7 x ex P1045 h1045
      have b5 : byt v5 := e5 ▸ byt_and (k := 97) (c := 3) (by decide)
      have b6 : byt v6 := e6 ▸ byt_and (k := 97) (c := 3) (by decide)
      have b7 : byt v7 := e7 ▸ byt_and (k := 48) (c := 7) (by decide)
      have nx : ∀ (es : List Int32), es.length ≤ 11 → BtL es → ∀ J2 : zI, Bd J S7.length es es.length J2 → (c7 + 1 + 1 ≤ 9 ∧ u7 + es.length + 1000 ≤ 4200) ∧ w_Law_with k l.length S7.length es.length (S7 ++ [.inr (.inl (0, es.length))]) J2 (fun k3 n3 S3 J3 => P1045 k3 n3 S3 (c7 + 1 + 1) (u7 + es.length + 1000) J3) := fun es he hbe J2 hB => by
        obtain ⟨m1, a1⟩ := hB.nw hn.2.2.2
        refine ⟨⟨by omega, by omega⟩, ?_⟩
        refine s_with (m1.at hA) a1 (by omega) m1.2.2.2 (fun S3 J3 m2 a2 => ?_)
        refine h1045 _ _ _ _ _ _ (fun v3 e3 => ?_)
        subst e3
        rw [zi_succ]
        have hll : (l ++ es).length = l.length + es.length := List.length_append
        exact ih (i + 1) _ _ _ _ _ _ (by omega) (by omega) (by omega) ((hn.tr m1).tr m2) a2 (by omega) (hb.app hbe) (by have h7 := hn.len; rw [List.length_append]; omega)
      intro P208 q208 P239 q239 P281 q281 P419 q419
      have r208 : P208 := q208 (by
        refine ⟨⟨hn.2.2.2, by decide, by decide, by omega, ?_⟩, fun S2 k2 n2 eS eK eN => ?_⟩
        · rw [show Int32.toNatClampNeg 4 = 4 from zi_tn (a := 4) (by decide)]
          omega
        have eN2 : n2 = ([v5, 61, v7, 59] : List Int32).length := eN.trans (show Int32.toNatClampNeg 4 = 4 from zi_tn (a := 4) (by decide))
        subst eN2
        subst eS
        subst eK
        refine ⟨⟨zAt_new, (zin_iff (i := 0) (by decide)).mpr (Nat.le_of_ble_eq_true rfl)⟩, fun I0 f0 => ?_⟩
        subst f0
        refine ⟨⟨zAt_new, (zin_iff (i := 1) (by decide)).mpr (Nat.le_of_ble_eq_true rfl)⟩, fun I1 f1 => ?_⟩
        subst f1
        refine ⟨⟨zAt_new, (zin_iff (i := 2) (by decide)).mpr (Nat.le_of_ble_eq_true rfl)⟩, fun I2 f2 => ?_⟩
        subst f2
        refine ⟨⟨zAt_new, (zin_iff (i := 3) (by decide)).mpr (Nat.le_of_ble_eq_true rfl)⟩, fun I3 f3 => ?_⟩
        subst f3
        exact nx [v5, 61, v7, 59] (Nat.le_of_ble_eq_true rfl) (fun b hb => by
          simp only [List.mem_cons, List.not_mem_nil, or_false] at hb
          rcases hb with rfl | rfl | rfl | rfl
          · exact b5
          · exact ⟨61, by decide, rfl⟩
          · exact b7
          · exact ⟨59, by decide, rfl⟩) _ (((((Bd.start : Bd J S7.length [v5, 61, v7, 59] 0 J).next rfl).next rfl).next rfl).next rfl))
      have r239 : P239 := q239 (by
        refine ⟨⟨hn.2.2.2, by decide, by decide, by omega, ?_⟩, fun S2 k2 n2 eS eK eN => ?_⟩
        · rw [show Int32.toNatClampNeg 6 = 6 from zi_tn (a := 6) (by decide)]
          omega
        have eN2 : n2 = ([v5, 61, v6, 43, v7, 59] : List Int32).length := eN.trans (show Int32.toNatClampNeg 6 = 6 from zi_tn (a := 6) (by decide))
        subst eN2
        subst eS
        subst eK
        refine ⟨⟨zAt_new, (zin_iff (i := 0) (by decide)).mpr (Nat.le_of_ble_eq_true rfl)⟩, fun I0 f0 => ?_⟩
        subst f0
        refine ⟨⟨zAt_new, (zin_iff (i := 1) (by decide)).mpr (Nat.le_of_ble_eq_true rfl)⟩, fun I1 f1 => ?_⟩
        subst f1
        refine ⟨⟨zAt_new, (zin_iff (i := 2) (by decide)).mpr (Nat.le_of_ble_eq_true rfl)⟩, fun I2 f2 => ?_⟩
        subst f2
        refine ⟨⟨zAt_new, (zin_iff (i := 3) (by decide)).mpr (Nat.le_of_ble_eq_true rfl)⟩, fun I3 f3 => ?_⟩
        subst f3
        refine ⟨⟨zAt_new, (zin_iff (i := 4) (by decide)).mpr (Nat.le_of_ble_eq_true rfl)⟩, fun I4 f4 => ?_⟩
        subst f4
        refine ⟨⟨zAt_new, (zin_iff (i := 5) (by decide)).mpr (Nat.le_of_ble_eq_true rfl)⟩, fun I5 f5 => ?_⟩
        subst f5
        exact nx [v5, 61, v6, 43, v7, 59] (Nat.le_of_ble_eq_true rfl) (fun b hb => by
          simp only [List.mem_cons, List.not_mem_nil, or_false] at hb
          rcases hb with rfl | rfl | rfl | rfl | rfl | rfl
          · exact b5
          · exact ⟨61, by decide, rfl⟩
          · exact b6
          · exact ⟨43, by decide, rfl⟩
          · exact b7
          · exact ⟨59, by decide, rfl⟩) _ (((((((Bd.start : Bd J S7.length [v5, 61, v6, 43, v7, 59] 0 J).next rfl).next rfl).next rfl).next rfl).next rfl).next rfl))
      have r281 : P281 := q281 (by
        refine ⟨⟨hn.2.2.2, by decide, by decide, by omega, ?_⟩, fun S2 k2 n2 eS eK eN => ?_⟩
        · rw [show Int32.toNatClampNeg 10 = 10 from zi_tn (a := 10) (by decide)]
          omega
        have eN2 : n2 = ([v5, 61, 40, v6, 43, v7, 41, 42, v5, 59] : List Int32).length := eN.trans (show Int32.toNatClampNeg 10 = 10 from zi_tn (a := 10) (by decide))
        subst eN2
        subst eS
        subst eK
        refine ⟨⟨zAt_new, (zin_iff (i := 0) (by decide)).mpr (Nat.le_of_ble_eq_true rfl)⟩, fun I0 f0 => ?_⟩
        subst f0
        refine ⟨⟨zAt_new, (zin_iff (i := 1) (by decide)).mpr (Nat.le_of_ble_eq_true rfl)⟩, fun I1 f1 => ?_⟩
        subst f1
        refine ⟨⟨zAt_new, (zin_iff (i := 2) (by decide)).mpr (Nat.le_of_ble_eq_true rfl)⟩, fun I2 f2 => ?_⟩
        subst f2
        refine ⟨⟨zAt_new, (zin_iff (i := 3) (by decide)).mpr (Nat.le_of_ble_eq_true rfl)⟩, fun I3 f3 => ?_⟩
        subst f3
        refine ⟨⟨zAt_new, (zin_iff (i := 4) (by decide)).mpr (Nat.le_of_ble_eq_true rfl)⟩, fun I4 f4 => ?_⟩
        subst f4
        refine ⟨⟨zAt_new, (zin_iff (i := 5) (by decide)).mpr (Nat.le_of_ble_eq_true rfl)⟩, fun I5 f5 => ?_⟩
        subst f5
        refine ⟨⟨zAt_new, (zin_iff (i := 6) (by decide)).mpr (Nat.le_of_ble_eq_true rfl)⟩, fun I6 f6 => ?_⟩
        subst f6
        refine ⟨⟨zAt_new, (zin_iff (i := 7) (by decide)).mpr (Nat.le_of_ble_eq_true rfl)⟩, fun I7 f7 => ?_⟩
        subst f7
        refine ⟨⟨zAt_new, (zin_iff (i := 8) (by decide)).mpr (Nat.le_of_ble_eq_true rfl)⟩, fun I8 f8 => ?_⟩
        subst f8
        refine ⟨⟨zAt_new, (zin_iff (i := 9) (by decide)).mpr (Nat.le_of_ble_eq_true rfl)⟩, fun I9 f9 => ?_⟩
        subst f9
        exact nx [v5, 61, 40, v6, 43, v7, 41, 42, v5, 59] (Nat.le_of_ble_eq_true rfl) (fun b hb => by
          simp only [List.mem_cons, List.not_mem_nil, or_false] at hb
          rcases hb with rfl | rfl | rfl | rfl | rfl | rfl | rfl | rfl | rfl | rfl
          · exact b5
          · exact ⟨61, by decide, rfl⟩
          · exact ⟨40, by decide, rfl⟩
          · exact b6
          · exact ⟨43, by decide, rfl⟩
          · exact b7
          · exact ⟨41, by decide, rfl⟩
          · exact ⟨42, by decide, rfl⟩
          · exact b5
          · exact ⟨59, by decide, rfl⟩) _ (((((((((((Bd.start : Bd J S7.length [v5, 61, 40, v6, 43, v7, 41, 42, v5, 59] 0 J).next rfl).next rfl).next rfl).next rfl).next rfl).next rfl).next rfl).next rfl).next rfl).next rfl))
      have r419 : P419 := q419 (by
        refine ⟨⟨hn.2.2.2, by decide, by decide, by omega, ?_⟩, fun S2 k2 n2 eS eK eN => ?_⟩
        · rw [show Int32.toNatClampNeg 10 = 10 from zi_tn (a := 10) (by decide)]
          omega
        have eN2 : n2 = ([123, v5, 61, v7, 59, v6, 61, v5, 59, 125] : List Int32).length := eN.trans (show Int32.toNatClampNeg 10 = 10 from zi_tn (a := 10) (by decide))
        subst eN2
        subst eS
        subst eK
        refine ⟨⟨zAt_new, (zin_iff (i := 0) (by decide)).mpr (Nat.le_of_ble_eq_true rfl)⟩, fun I0 f0 => ?_⟩
        subst f0
        refine ⟨⟨zAt_new, (zin_iff (i := 1) (by decide)).mpr (Nat.le_of_ble_eq_true rfl)⟩, fun I1 f1 => ?_⟩
        subst f1
        refine ⟨⟨zAt_new, (zin_iff (i := 2) (by decide)).mpr (Nat.le_of_ble_eq_true rfl)⟩, fun I2 f2 => ?_⟩
        subst f2
        refine ⟨⟨zAt_new, (zin_iff (i := 3) (by decide)).mpr (Nat.le_of_ble_eq_true rfl)⟩, fun I3 f3 => ?_⟩
        subst f3
        refine ⟨⟨zAt_new, (zin_iff (i := 4) (by decide)).mpr (Nat.le_of_ble_eq_true rfl)⟩, fun I4 f4 => ?_⟩
        subst f4
        refine ⟨⟨zAt_new, (zin_iff (i := 5) (by decide)).mpr (Nat.le_of_ble_eq_true rfl)⟩, fun I5 f5 => ?_⟩
        subst f5
        refine ⟨⟨zAt_new, (zin_iff (i := 6) (by decide)).mpr (Nat.le_of_ble_eq_true rfl)⟩, fun I6 f6 => ?_⟩
        subst f6
        refine ⟨⟨zAt_new, (zin_iff (i := 7) (by decide)).mpr (Nat.le_of_ble_eq_true rfl)⟩, fun I7 f7 => ?_⟩
        subst f7
        refine ⟨⟨zAt_new, (zin_iff (i := 8) (by decide)).mpr (Nat.le_of_ble_eq_true rfl)⟩, fun I8 f8 => ?_⟩
        subst f8
        refine ⟨⟨zAt_new, (zin_iff (i := 9) (by decide)).mpr (Nat.le_of_ble_eq_true rfl)⟩, fun I9 f9 => ?_⟩
        subst f9
        exact nx [123, v5, 61, v7, 59, v6, 61, v5, 59, 125] (Nat.le_of_ble_eq_true rfl) (fun b hb => by
          simp only [List.mem_cons, List.not_mem_nil, or_false] at hb
          rcases hb with rfl | rfl | rfl | rfl | rfl | rfl | rfl | rfl | rfl | rfl
          · exact ⟨123, by decide, rfl⟩
          · exact b5
          · exact ⟨61, by decide, rfl⟩
          · exact b7
          · exact ⟨59, by decide, rfl⟩
          · exact b6
          · exact ⟨61, by decide, rfl⟩
          · exact b5
          · exact ⟨59, by decide, rfl⟩
          · exact ⟨125, by decide, rfl⟩) _ (((((((((((Bd.start : Bd J S7.length [123, v5, 61, v7, 59, v6, 61, v5, 59, 125] 0 J).next rfl).next rfl).next rfl).next rfl).next rfl).next rfl).next rfl).next rfl).next rfl).next rfl))
      by_cases c0 : x = 0
      · rw [if_pos c0]
        exact r208
      rw [if_neg c0]
      by_cases c1 : x = 1
      · rw [if_pos c1]
        exact r208
      rw [if_neg c1]
      by_cases c2 : x = 2
      · rw [if_pos c2]
        exact r208
      rw [if_neg c2]
      by_cases c3 : x = 3
      · rw [if_pos c3]
        exact r208
      rw [if_neg c3]
      by_cases c4 : x = 4
      · rw [if_pos c4]
        exact r239
      rw [if_neg c4]
      by_cases c5 : x = 5
      · rw [if_pos c5]
        exact r239
      rw [if_neg c5]
      by_cases c6 : x = 6
      · rw [if_pos c6]
        exact r239
      rw [if_neg c6]
      by_cases c7 : x = 7
      · rw [if_pos c7]
        exact r281
      rw [if_neg c7]
      by_cases c8 : x = 8
      · rw [if_pos c8]
        exact r281
      rw [if_neg c8]
      by_cases c9 : x = 9
      · rw [if_pos c9]
        refine ⟨⟨hn.2.2.2, by decide, by decide, by omega, ?_⟩, fun S2 k2 n2 eS eK eN => ?_⟩
        · rw [show Int32.toNatClampNeg 11 = 11 from zi_tn (a := 11) (by decide)]
          omega
        have eN2 : n2 = ([v5, 32, 61, v6, 42, v7, 43, v6, 42, v6, 59] : List Int32).length := eN.trans (show Int32.toNatClampNeg 11 = 11 from zi_tn (a := 11) (by decide))
        subst eN2
        subst eS
        subst eK
        refine ⟨⟨zAt_new, (zin_iff (i := 0) (by decide)).mpr (Nat.le_of_ble_eq_true rfl)⟩, fun I0 f0 => ?_⟩
        subst f0
        refine ⟨⟨zAt_new, (zin_iff (i := 1) (by decide)).mpr (Nat.le_of_ble_eq_true rfl)⟩, fun I1 f1 => ?_⟩
        subst f1
        refine ⟨⟨zAt_new, (zin_iff (i := 2) (by decide)).mpr (Nat.le_of_ble_eq_true rfl)⟩, fun I2 f2 => ?_⟩
        subst f2
        refine ⟨⟨zAt_new, (zin_iff (i := 3) (by decide)).mpr (Nat.le_of_ble_eq_true rfl)⟩, fun I3 f3 => ?_⟩
        subst f3
        refine ⟨⟨zAt_new, (zin_iff (i := 4) (by decide)).mpr (Nat.le_of_ble_eq_true rfl)⟩, fun I4 f4 => ?_⟩
        subst f4
        refine ⟨⟨zAt_new, (zin_iff (i := 5) (by decide)).mpr (Nat.le_of_ble_eq_true rfl)⟩, fun I5 f5 => ?_⟩
        subst f5
        refine ⟨⟨zAt_new, (zin_iff (i := 6) (by decide)).mpr (Nat.le_of_ble_eq_true rfl)⟩, fun I6 f6 => ?_⟩
        subst f6
        refine ⟨⟨zAt_new, (zin_iff (i := 7) (by decide)).mpr (Nat.le_of_ble_eq_true rfl)⟩, fun I7 f7 => ?_⟩
        subst f7
        refine ⟨⟨zAt_new, (zin_iff (i := 8) (by decide)).mpr (Nat.le_of_ble_eq_true rfl)⟩, fun I8 f8 => ?_⟩
        subst f8
        refine ⟨⟨zAt_new, (zin_iff (i := 9) (by decide)).mpr (Nat.le_of_ble_eq_true rfl)⟩, fun I9 f9 => ?_⟩
        subst f9
        refine ⟨⟨zAt_new, (zin_iff (i := 10) (by decide)).mpr (Nat.le_of_ble_eq_true rfl)⟩, fun I10 f10 => ?_⟩
        subst f10
        exact nx [v5, 32, 61, v6, 42, v7, 43, v6, 42, v6, 59] (Nat.le_of_ble_eq_true rfl) (fun b hb => by
          simp only [List.mem_cons, List.not_mem_nil, or_false] at hb
          rcases hb with rfl | rfl | rfl | rfl | rfl | rfl | rfl | rfl | rfl | rfl | rfl
          · exact b5
          · exact ⟨32, by decide, rfl⟩
          · exact ⟨61, by decide, rfl⟩
          · exact b6
          · exact ⟨42, by decide, rfl⟩
          · exact b7
          · exact ⟨43, by decide, rfl⟩
          · exact b6
          · exact ⟨42, by decide, rfl⟩
          · exact b6
          · exact ⟨59, by decide, rfl⟩) _ ((((((((((((Bd.start : Bd J S7.length [v5, 32, 61, v6, 42, v7, 43, v6, 42, v6, 59] 0 J).next rfl).next rfl).next rfl).next rfl).next rfl).next rfl).next rfl).next rfl).next rfl).next rfl).next rfl)
      rw [if_neg c9]
      by_cases c10 : x = 10
      · rw [if_pos c10]
        exact r419
      rw [if_neg c10]
      by_cases c11 : x = 11
      · rw [if_pos c11]
        exact r419
      rw [if_neg c11]
      by_cases c12 : x = 12
      · rw [if_pos c12]
        refine ⟨⟨hn.2.2.2, by decide, by decide, by omega, ?_⟩, fun S2 k2 n2 eS eK eN => ?_⟩
        · rw [show Int32.toNatClampNeg 2 = 2 from zi_tn (a := 2) (by decide)]
          omega
        have eN2 : n2 = ([123, 125] : List Int32).length := eN.trans (show Int32.toNatClampNeg 2 = 2 from zi_tn (a := 2) (by decide))
        subst eN2
        subst eS
        subst eK
        refine ⟨⟨zAt_new, (zin_iff (i := 0) (by decide)).mpr (Nat.le_of_ble_eq_true rfl)⟩, fun I0 f0 => ?_⟩
        subst f0
        refine ⟨⟨zAt_new, (zin_iff (i := 1) (by decide)).mpr (Nat.le_of_ble_eq_true rfl)⟩, fun I1 f1 => ?_⟩
        subst f1
        exact nx [123, 125] (Nat.le_of_ble_eq_true rfl) (fun b hb => by
          simp only [List.mem_cons, List.not_mem_nil, or_false] at hb
          rcases hb with rfl | rfl
          · exact ⟨123, by decide, rfl⟩
          · exact ⟨125, by decide, rfl⟩) _ (((Bd.start : Bd J S7.length [123, 125] 0 J).next rfl).next rfl)
      rw [if_neg c12]
      by_cases c13 : x = 13
      · rw [if_pos c13]
        refine ⟨⟨hn.2.2.2, by decide, by decide, by omega, ?_⟩, fun S2 k2 n2 eS eK eN => ?_⟩
        · rw [show Int32.toNatClampNeg 10 = 10 from zi_tn (a := 10) (by decide)]
          omega
        have eN2 : n2 = ([v5, v6, 61, 40, 40, v7, v7, 41, 41, 59] : List Int32).length := eN.trans (show Int32.toNatClampNeg 10 = 10 from zi_tn (a := 10) (by decide))
        subst eN2
        subst eS
        subst eK
        refine ⟨⟨zAt_new, (zin_iff (i := 0) (by decide)).mpr (Nat.le_of_ble_eq_true rfl)⟩, fun I0 f0 => ?_⟩
        subst f0
        refine ⟨⟨zAt_new, (zin_iff (i := 1) (by decide)).mpr (Nat.le_of_ble_eq_true rfl)⟩, fun I1 f1 => ?_⟩
        subst f1
        refine ⟨⟨zAt_new, (zin_iff (i := 2) (by decide)).mpr (Nat.le_of_ble_eq_true rfl)⟩, fun I2 f2 => ?_⟩
        subst f2
        refine ⟨⟨zAt_new, (zin_iff (i := 3) (by decide)).mpr (Nat.le_of_ble_eq_true rfl)⟩, fun I3 f3 => ?_⟩
        subst f3
        refine ⟨⟨zAt_new, (zin_iff (i := 4) (by decide)).mpr (Nat.le_of_ble_eq_true rfl)⟩, fun I4 f4 => ?_⟩
        subst f4
        refine ⟨⟨zAt_new, (zin_iff (i := 5) (by decide)).mpr (Nat.le_of_ble_eq_true rfl)⟩, fun I5 f5 => ?_⟩
        subst f5
        refine ⟨⟨zAt_new, (zin_iff (i := 6) (by decide)).mpr (Nat.le_of_ble_eq_true rfl)⟩, fun I6 f6 => ?_⟩
        subst f6
        refine ⟨⟨zAt_new, (zin_iff (i := 7) (by decide)).mpr (Nat.le_of_ble_eq_true rfl)⟩, fun I7 f7 => ?_⟩
        subst f7
        refine ⟨⟨zAt_new, (zin_iff (i := 8) (by decide)).mpr (Nat.le_of_ble_eq_true rfl)⟩, fun I8 f8 => ?_⟩
        subst f8
        refine ⟨⟨zAt_new, (zin_iff (i := 9) (by decide)).mpr (Nat.le_of_ble_eq_true rfl)⟩, fun I9 f9 => ?_⟩
        subst f9
        exact nx [v5, v6, 61, 40, 40, v7, v7, 41, 41, 59] (Nat.le_of_ble_eq_true rfl) (fun b hb => by
          simp only [List.mem_cons, List.not_mem_nil, or_false] at hb
          rcases hb with rfl | rfl | rfl | rfl | rfl | rfl | rfl | rfl | rfl | rfl
          · exact b5
          · exact b6
          · exact ⟨61, by decide, rfl⟩
          · exact ⟨40, by decide, rfl⟩
          · exact ⟨40, by decide, rfl⟩
          · exact b7
          · exact b7
          · exact ⟨41, by decide, rfl⟩
          · exact ⟨41, by decide, rfl⟩
          · exact ⟨59, by decide, rfl⟩) _ (((((((((((Bd.start : Bd J S7.length [v5, v6, 61, 40, 40, v7, v7, 41, 41, 59] 0 J).next rfl).next rfl).next rfl).next rfl).next rfl).next rfl).next rfl).next rfl).next rfl).next rfl)
      rw [if_neg c13]
      by_cases c14 : x = 14
      · rw [if_pos c14]
        refine ⟨⟨hn.2.2.2, by decide, by decide, by omega, ?_⟩, fun S2 k2 n2 eS eK eN => ?_⟩
        · rw [show Int32.toNatClampNeg 11 = 11 from zi_tn (a := 11) (by decide)]
          omega
        have eN2 : n2 = ([123, 123, v5, 61, v5, 43, v7, 59, 125, 125, 32] : List Int32).length := eN.trans (show Int32.toNatClampNeg 11 = 11 from zi_tn (a := 11) (by decide))
        subst eN2
        subst eS
        subst eK
        refine ⟨⟨zAt_new, (zin_iff (i := 0) (by decide)).mpr (Nat.le_of_ble_eq_true rfl)⟩, fun I0 f0 => ?_⟩
        subst f0
        refine ⟨⟨zAt_new, (zin_iff (i := 1) (by decide)).mpr (Nat.le_of_ble_eq_true rfl)⟩, fun I1 f1 => ?_⟩
        subst f1
        refine ⟨⟨zAt_new, (zin_iff (i := 2) (by decide)).mpr (Nat.le_of_ble_eq_true rfl)⟩, fun I2 f2 => ?_⟩
        subst f2
        refine ⟨⟨zAt_new, (zin_iff (i := 3) (by decide)).mpr (Nat.le_of_ble_eq_true rfl)⟩, fun I3 f3 => ?_⟩
        subst f3
        refine ⟨⟨zAt_new, (zin_iff (i := 4) (by decide)).mpr (Nat.le_of_ble_eq_true rfl)⟩, fun I4 f4 => ?_⟩
        subst f4
        refine ⟨⟨zAt_new, (zin_iff (i := 5) (by decide)).mpr (Nat.le_of_ble_eq_true rfl)⟩, fun I5 f5 => ?_⟩
        subst f5
        refine ⟨⟨zAt_new, (zin_iff (i := 6) (by decide)).mpr (Nat.le_of_ble_eq_true rfl)⟩, fun I6 f6 => ?_⟩
        subst f6
        refine ⟨⟨zAt_new, (zin_iff (i := 7) (by decide)).mpr (Nat.le_of_ble_eq_true rfl)⟩, fun I7 f7 => ?_⟩
        subst f7
        refine ⟨⟨zAt_new, (zin_iff (i := 8) (by decide)).mpr (Nat.le_of_ble_eq_true rfl)⟩, fun I8 f8 => ?_⟩
        subst f8
        refine ⟨⟨zAt_new, (zin_iff (i := 9) (by decide)).mpr (Nat.le_of_ble_eq_true rfl)⟩, fun I9 f9 => ?_⟩
        subst f9
        refine ⟨⟨zAt_new, (zin_iff (i := 10) (by decide)).mpr (Nat.le_of_ble_eq_true rfl)⟩, fun I10 f10 => ?_⟩
        subst f10
        exact nx [123, 123, v5, 61, v5, 43, v7, 59, 125, 125, 32] (Nat.le_of_ble_eq_true rfl) (fun b hb => by
          simp only [List.mem_cons, List.not_mem_nil, or_false] at hb
          rcases hb with rfl | rfl | rfl | rfl | rfl | rfl | rfl | rfl | rfl | rfl | rfl
          · exact ⟨123, by decide, rfl⟩
          · exact ⟨123, by decide, rfl⟩
          · exact b5
          · exact ⟨61, by decide, rfl⟩
          · exact b5
          · exact ⟨43, by decide, rfl⟩
          · exact b7
          · exact ⟨59, by decide, rfl⟩
          · exact ⟨125, by decide, rfl⟩
          · exact ⟨125, by decide, rfl⟩
          · exact ⟨32, by decide, rfl⟩) _ ((((((((((((Bd.start : Bd J S7.length [123, 123, v5, 61, v5, 43, v7, 59, 125, 125, 32] 0 J).next rfl).next rfl).next rfl).next rfl).next rfl).next rfl).next rfl).next rfl).next rfl).next rfl).next rfl)
      rw [if_neg c14]
      by_cases c15 : x = 15
      · rw [if_pos c15]
        refine ⟨⟨hn.2.2.2, by decide, by decide, by omega, ?_⟩, fun S2 k2 n2 eS eK eN => ?_⟩
        · rw [show Int32.toNatClampNeg 1 = 1 from zi_tn (a := 1) (by decide)]
          omega
        have eN2 : n2 = ([v5] : List Int32).length := eN.trans (show Int32.toNatClampNeg 1 = 1 from zi_tn (a := 1) (by decide))
        subst eN2
        subst eS
        subst eK
        refine ⟨⟨zAt_new, (zin_iff (i := 0) (by decide)).mpr (Nat.le_of_ble_eq_true rfl)⟩, fun I0 f0 => ?_⟩
        subst f0
        exact nx [v5] (Nat.le_of_ble_eq_true rfl) (fun b hb => by
          simp only [List.mem_cons, List.not_mem_nil, or_false] at hb
          rw [hb]
          exact b5) _ ((Bd.start : Bd J S7.length [v5] 0 J).next rfl)
      rw [if_neg c15]
      by_cases c16 : x = 16
      · rw [if_pos c16]
        refine ⟨⟨hn.2.2.2, by decide, by decide, by omega, ?_⟩, fun S2 k2 n2 eS eK eN => ?_⟩
        · rw [show Int32.toNatClampNeg 1 = 1 from zi_tn (a := 1) (by decide)]
          omega
        have eN2 : n2 = ([v7] : List Int32).length := eN.trans (show Int32.toNatClampNeg 1 = 1 from zi_tn (a := 1) (by decide))
        subst eN2
        subst eS
        subst eK
        refine ⟨⟨zAt_new, (zin_iff (i := 0) (by decide)).mpr (Nat.le_of_ble_eq_true rfl)⟩, fun I0 f0 => ?_⟩
        subst f0
        exact nx [v7] (Nat.le_of_ble_eq_true rfl) (fun b hb => by
          simp only [List.mem_cons, List.not_mem_nil, or_false] at hb
          rw [hb]
          exact b7) _ ((Bd.start : Bd J S7.length [v7] 0 J).next rfl)
      rw [if_neg c16]
      by_cases c17 : x = 17
      · rw [if_pos c17]
        refine ⟨⟨hn.2.2.2, by decide, by decide, by omega, ?_⟩, fun S2 k2 n2 eS eK eN => ?_⟩
        · rw [show Int32.toNatClampNeg 2 = 2 from zi_tn (a := 2) (by decide)]
          omega
        have eN2 : n2 = ([43, v5] : List Int32).length := eN.trans (show Int32.toNatClampNeg 2 = 2 from zi_tn (a := 2) (by decide))
        subst eN2
        subst eS
        subst eK
        refine ⟨⟨zAt_new, (zin_iff (i := 0) (by decide)).mpr (Nat.le_of_ble_eq_true rfl)⟩, fun I0 f0 => ?_⟩
        subst f0
        refine ⟨⟨zAt_new, (zin_iff (i := 1) (by decide)).mpr (Nat.le_of_ble_eq_true rfl)⟩, fun I1 f1 => ?_⟩
        subst f1
        exact nx [43, v5] (Nat.le_of_ble_eq_true rfl) (fun b hb => by
          simp only [List.mem_cons, List.not_mem_nil, or_false] at hb
          rcases hb with rfl | rfl
          · exact ⟨43, by decide, rfl⟩
          · exact b5) _ (((Bd.start : Bd J S7.length [43, v5] 0 J).next rfl).next rfl)
      rw [if_neg c17]
      by_cases c18 : x = 18
      · rw [if_pos c18]
        refine ⟨⟨hn.2.2.2, by decide, by decide, by omega, ?_⟩, fun S2 k2 n2 eS eK eN => ?_⟩
        · rw [show Int32.toNatClampNeg 2 = 2 from zi_tn (a := 2) (by decide)]
          omega
        have eN2 : n2 = ([42, v6] : List Int32).length := eN.trans (show Int32.toNatClampNeg 2 = 2 from zi_tn (a := 2) (by decide))
        subst eN2
        subst eS
        subst eK
        refine ⟨⟨zAt_new, (zin_iff (i := 0) (by decide)).mpr (Nat.le_of_ble_eq_true rfl)⟩, fun I0 f0 => ?_⟩
        subst f0
        refine ⟨⟨zAt_new, (zin_iff (i := 1) (by decide)).mpr (Nat.le_of_ble_eq_true rfl)⟩, fun I1 f1 => ?_⟩
        subst f1
        exact nx [42, v6] (Nat.le_of_ble_eq_true rfl) (fun b hb => by
          simp only [List.mem_cons, List.not_mem_nil, or_false] at hb
          rcases hb with rfl | rfl
          · exact ⟨42, by decide, rfl⟩
          · exact b6) _ (((Bd.start : Bd J S7.length [42, v6] 0 J).next rfl).next rfl)
      rw [if_neg c18]
      by_cases c19 : x = 19
      · rw [if_pos c19]
        refine ⟨⟨hn.2.2.2, by decide, by decide, by omega, ?_⟩, fun S2 k2 n2 eS eK eN => ?_⟩
        · rw [show Int32.toNatClampNeg 1 = 1 from zi_tn (a := 1) (by decide)]
          omega
        have eN2 : n2 = ([40] : List Int32).length := eN.trans (show Int32.toNatClampNeg 1 = 1 from zi_tn (a := 1) (by decide))
        subst eN2
        subst eS
        subst eK
        refine ⟨⟨zAt_new, (zin_iff (i := 0) (by decide)).mpr (Nat.le_of_ble_eq_true rfl)⟩, fun I0 f0 => ?_⟩
        subst f0
        exact nx [40] (Nat.le_of_ble_eq_true rfl) (fun b hb => by
          simp only [List.mem_cons, List.not_mem_nil, or_false] at hb
          rw [hb]
          exact ⟨40, by decide, rfl⟩) _ ((Bd.start : Bd J S7.length [40] 0 J).next rfl)
      rw [if_neg c19]
      by_cases c20 : x = 20
      · rw [if_pos c20]
        refine ⟨⟨hn.2.2.2, by decide, by decide, by omega, ?_⟩, fun S2 k2 n2 eS eK eN => ?_⟩
        · rw [show Int32.toNatClampNeg 1 = 1 from zi_tn (a := 1) (by decide)]
          omega
        have eN2 : n2 = ([41] : List Int32).length := eN.trans (show Int32.toNatClampNeg 1 = 1 from zi_tn (a := 1) (by decide))
        subst eN2
        subst eS
        subst eK
        refine ⟨⟨zAt_new, (zin_iff (i := 0) (by decide)).mpr (Nat.le_of_ble_eq_true rfl)⟩, fun I0 f0 => ?_⟩
        subst f0
        exact nx [41] (Nat.le_of_ble_eq_true rfl) (fun b hb => by
          simp only [List.mem_cons, List.not_mem_nil, or_false] at hb
          rw [hb]
          exact ⟨41, by decide, rfl⟩) _ ((Bd.start : Bd J S7.length [41] 0 J).next rfl)
      rw [if_neg c20]
      by_cases c21 : x = 21
      · rw [if_pos c21]
        refine ⟨⟨hn.2.2.2, by decide, by decide, by omega, ?_⟩, fun S2 k2 n2 eS eK eN => ?_⟩
        · rw [show Int32.toNatClampNeg 1 = 1 from zi_tn (a := 1) (by decide)]
          omega
        have eN2 : n2 = ([59] : List Int32).length := eN.trans (show Int32.toNatClampNeg 1 = 1 from zi_tn (a := 1) (by decide))
        subst eN2
        subst eS
        subst eK
        refine ⟨⟨zAt_new, (zin_iff (i := 0) (by decide)).mpr (Nat.le_of_ble_eq_true rfl)⟩, fun I0 f0 => ?_⟩
        subst f0
        exact nx [59] (Nat.le_of_ble_eq_true rfl) (fun b hb => by
          simp only [List.mem_cons, List.not_mem_nil, or_false] at hb
          rw [hb]
          exact ⟨59, by decide, rfl⟩) _ ((Bd.start : Bd J S7.length [59] 0 J).next rfl)
      rw [if_neg c21]
      by_cases c22 : x = 22
      · rw [if_pos c22]
        refine ⟨⟨hn.2.2.2, by decide, by decide, by omega, ?_⟩, fun S2 k2 n2 eS eK eN => ?_⟩
        · rw [show Int32.toNatClampNeg 1 = 1 from zi_tn (a := 1) (by decide)]
          omega
        have eN2 : n2 = ([61] : List Int32).length := eN.trans (show Int32.toNatClampNeg 1 = 1 from zi_tn (a := 1) (by decide))
        subst eN2
        subst eS
        subst eK
        refine ⟨⟨zAt_new, (zin_iff (i := 0) (by decide)).mpr (Nat.le_of_ble_eq_true rfl)⟩, fun I0 f0 => ?_⟩
        subst f0
        exact nx [61] (Nat.le_of_ble_eq_true rfl) (fun b hb => by
          simp only [List.mem_cons, List.not_mem_nil, or_false] at hb
          rw [hb]
          exact ⟨61, by decide, rfl⟩) _ ((Bd.start : Bd J S7.length [61] 0 J).next rfl)
      rw [if_neg c22]
      by_cases c23 : x = 23
      · rw [if_pos c23]
        refine ⟨⟨hn.2.2.2, by decide, by decide, by omega, ?_⟩, fun S2 k2 n2 eS eK eN => ?_⟩
        · rw [show Int32.toNatClampNeg 1 = 1 from zi_tn (a := 1) (by decide)]
          omega
        have eN2 : n2 = ([123] : List Int32).length := eN.trans (show Int32.toNatClampNeg 1 = 1 from zi_tn (a := 1) (by decide))
        subst eN2
        subst eS
        subst eK
        refine ⟨⟨zAt_new, (zin_iff (i := 0) (by decide)).mpr (Nat.le_of_ble_eq_true rfl)⟩, fun I0 f0 => ?_⟩
        subst f0
        exact nx [123] (Nat.le_of_ble_eq_true rfl) (fun b hb => by
          simp only [List.mem_cons, List.not_mem_nil, or_false] at hb
          rw [hb]
          exact ⟨123, by decide, rfl⟩) _ ((Bd.start : Bd J S7.length [123] 0 J).next rfl)
      rw [if_neg c23]
      by_cases c24 : x = 24
      · rw [if_pos c24]
        refine ⟨⟨hn.2.2.2, by decide, by decide, by omega, ?_⟩, fun S2 k2 n2 eS eK eN => ?_⟩
        · rw [show Int32.toNatClampNeg 1 = 1 from zi_tn (a := 1) (by decide)]
          omega
        have eN2 : n2 = ([125] : List Int32).length := eN.trans (show Int32.toNatClampNeg 1 = 1 from zi_tn (a := 1) (by decide))
        subst eN2
        subst eS
        subst eK
        refine ⟨⟨zAt_new, (zin_iff (i := 0) (by decide)).mpr (Nat.le_of_ble_eq_true rfl)⟩, fun I0 f0 => ?_⟩
        subst f0
        exact nx [125] (Nat.le_of_ble_eq_true rfl) (fun b hb => by
          simp only [List.mem_cons, List.not_mem_nil, or_false] at hb
          rw [hb]
          exact ⟨125, by decide, rfl⟩) _ ((Bd.start : Bd J S7.length [125] 0 J).next rfl)
      rw [if_neg c24]
      by_cases c25 : x = 25
      · rw [if_pos c25]
        refine ⟨⟨hn.2.2.2, by decide, by decide, by omega, ?_⟩, fun S2 k2 n2 eS eK eN => ?_⟩
        · rw [show Int32.toNatClampNeg 1 = 1 from zi_tn (a := 1) (by decide)]
          omega
        have eN2 : n2 = ([32] : List Int32).length := eN.trans (show Int32.toNatClampNeg 1 = 1 from zi_tn (a := 1) (by decide))
        subst eN2
        subst eS
        subst eK
        refine ⟨⟨zAt_new, (zin_iff (i := 0) (by decide)).mpr (Nat.le_of_ble_eq_true rfl)⟩, fun I0 f0 => ?_⟩
        subst f0
        exact nx [32] (Nat.le_of_ble_eq_true rfl) (fun b hb => by
          simp only [List.mem_cons, List.not_mem_nil, or_false] at hb
          rw [hb]
          exact ⟨32, by decide, rfl⟩) _ ((Bd.start : Bd J S7.length [32] 0 J).next rfl)
      rw [if_neg c25]
      by_cases c26 : x = 26
      · rw [if_pos c26]
        refine ⟨⟨hn.2.2.2, by decide, by decide, by omega, ?_⟩, fun S2 k2 n2 eS eK eN => ?_⟩
        · rw [show Int32.toNatClampNeg 3 = 3 from zi_tn (a := 3) (by decide)]
          omega
        have eN2 : n2 = ([10, 13, 9] : List Int32).length := eN.trans (show Int32.toNatClampNeg 3 = 3 from zi_tn (a := 3) (by decide))
        subst eN2
        subst eS
        subst eK
        refine ⟨⟨zAt_new, (zin_iff (i := 0) (by decide)).mpr (Nat.le_of_ble_eq_true rfl)⟩, fun I0 f0 => ?_⟩
        subst f0
        refine ⟨⟨zAt_new, (zin_iff (i := 1) (by decide)).mpr (Nat.le_of_ble_eq_true rfl)⟩, fun I1 f1 => ?_⟩
        subst f1
        refine ⟨⟨zAt_new, (zin_iff (i := 2) (by decide)).mpr (Nat.le_of_ble_eq_true rfl)⟩, fun I2 f2 => ?_⟩
        subst f2
        exact nx [10, 13, 9] (Nat.le_of_ble_eq_true rfl) (fun b hb => by
          simp only [List.mem_cons, List.not_mem_nil, or_false] at hb
          rcases hb with rfl | rfl | rfl
          · exact ⟨10, by decide, rfl⟩
          · exact ⟨13, by decide, rfl⟩
          · exact ⟨9, by decide, rfl⟩) _ ((((Bd.start : Bd J S7.length [10, 13, 9] 0 J).next rfl).next rfl).next rfl)
      rw [if_neg c26]
      by_cases c27 : x = 27
      · rw [if_pos c27]
        refine ⟨⟨hn.2.2.2, by decide, by decide, by omega, ?_⟩, fun S2 k2 n2 eS eK eN => ?_⟩
        · rw [show Int32.toNatClampNeg 9 = 9 from zi_tn (a := 9) (by decide)]
          omega
        have eN2 : n2 = ([v5, v5, v6, v5, v6, v5, v5, v6, v6] : List Int32).length := eN.trans (show Int32.toNatClampNeg 9 = 9 from zi_tn (a := 9) (by decide))
        subst eN2
        subst eS
        subst eK
        refine ⟨⟨zAt_new, (zin_iff (i := 0) (by decide)).mpr (Nat.le_of_ble_eq_true rfl)⟩, fun I0 f0 => ?_⟩
        subst f0
        refine ⟨⟨zAt_new, (zin_iff (i := 1) (by decide)).mpr (Nat.le_of_ble_eq_true rfl)⟩, fun I1 f1 => ?_⟩
        subst f1
        refine ⟨⟨zAt_new, (zin_iff (i := 2) (by decide)).mpr (Nat.le_of_ble_eq_true rfl)⟩, fun I2 f2 => ?_⟩
        subst f2
        refine ⟨⟨zAt_new, (zin_iff (i := 3) (by decide)).mpr (Nat.le_of_ble_eq_true rfl)⟩, fun I3 f3 => ?_⟩
        subst f3
        refine ⟨⟨zAt_new, (zin_iff (i := 4) (by decide)).mpr (Nat.le_of_ble_eq_true rfl)⟩, fun I4 f4 => ?_⟩
        subst f4
        refine ⟨⟨zAt_new, (zin_iff (i := 5) (by decide)).mpr (Nat.le_of_ble_eq_true rfl)⟩, fun I5 f5 => ?_⟩
        subst f5
        refine ⟨⟨zAt_new, (zin_iff (i := 6) (by decide)).mpr (Nat.le_of_ble_eq_true rfl)⟩, fun I6 f6 => ?_⟩
        subst f6
        refine ⟨⟨zAt_new, (zin_iff (i := 7) (by decide)).mpr (Nat.le_of_ble_eq_true rfl)⟩, fun I7 f7 => ?_⟩
        subst f7
        refine ⟨⟨zAt_new, (zin_iff (i := 8) (by decide)).mpr (Nat.le_of_ble_eq_true rfl)⟩, fun I8 f8 => ?_⟩
        subst f8
        exact nx [v5, v5, v6, v5, v6, v5, v5, v6, v6] (Nat.le_of_ble_eq_true rfl) (fun b hb => by
          simp only [List.mem_cons, List.not_mem_nil, or_false] at hb
          rcases hb with rfl | rfl | rfl | rfl | rfl | rfl | rfl | rfl | rfl
          · exact b5
          · exact b5
          · exact b6
          · exact b5
          · exact b6
          · exact b5
          · exact b5
          · exact b6
          · exact b6) _ ((((((((((Bd.start : Bd J S7.length [v5, v5, v6, v5, v6, v5, v5, v6, v6] 0 J).next rfl).next rfl).next rfl).next rfl).next rfl).next rfl).next rfl).next rfl).next rfl)
      rw [if_neg c27]
      by_cases c28 : x = 28
      · rw [if_pos c28]
        refine ⟨⟨hn.2.2.2, by decide, by decide, by omega, ?_⟩, fun S2 k2 n2 eS eK eN => ?_⟩
        · rw [show Int32.toNatClampNeg 5 = 5 from zi_tn (a := 5) (by decide)]
          omega
        have eN2 : n2 = ([v7, v7, 57, 48, v7] : List Int32).length := eN.trans (show Int32.toNatClampNeg 5 = 5 from zi_tn (a := 5) (by decide))
        subst eN2
        subst eS
        subst eK
        refine ⟨⟨zAt_new, (zin_iff (i := 0) (by decide)).mpr (Nat.le_of_ble_eq_true rfl)⟩, fun I0 f0 => ?_⟩
        subst f0
        refine ⟨⟨zAt_new, (zin_iff (i := 1) (by decide)).mpr (Nat.le_of_ble_eq_true rfl)⟩, fun I1 f1 => ?_⟩
        subst f1
        refine ⟨⟨zAt_new, (zin_iff (i := 2) (by decide)).mpr (Nat.le_of_ble_eq_true rfl)⟩, fun I2 f2 => ?_⟩
        subst f2
        refine ⟨⟨zAt_new, (zin_iff (i := 3) (by decide)).mpr (Nat.le_of_ble_eq_true rfl)⟩, fun I3 f3 => ?_⟩
        subst f3
        refine ⟨⟨zAt_new, (zin_iff (i := 4) (by decide)).mpr (Nat.le_of_ble_eq_true rfl)⟩, fun I4 f4 => ?_⟩
        subst f4
        exact nx [v7, v7, 57, 48, v7] (Nat.le_of_ble_eq_true rfl) (fun b hb => by
          simp only [List.mem_cons, List.not_mem_nil, or_false] at hb
          rcases hb with rfl | rfl | rfl | rfl | rfl
          · exact b7
          · exact b7
          · exact ⟨57, by decide, rfl⟩
          · exact ⟨48, by decide, rfl⟩
          · exact b7) _ ((((((Bd.start : Bd J S7.length [v7, v7, 57, 48, v7] 0 J).next rfl).next rfl).next rfl).next rfl).next rfl)
      rw [if_neg c28]
      by_cases c29 : x = 29
      · rw [if_pos c29]
        refine ⟨⟨hn.2.2.2, by decide, by decide, by omega, ?_⟩, fun S2 k2 n2 eS eK eN => ?_⟩
        · rw [show Int32.toNatClampNeg 1 = 1 from zi_tn (a := 1) (by decide)]
          omega
        have eN2 : n2 = ([63] : List Int32).length := eN.trans (show Int32.toNatClampNeg 1 = 1 from zi_tn (a := 1) (by decide))
        subst eN2
        subst eS
        subst eK
        refine ⟨⟨zAt_new, (zin_iff (i := 0) (by decide)).mpr (Nat.le_of_ble_eq_true rfl)⟩, fun I0 f0 => ?_⟩
        subst f0
        exact nx [63] (Nat.le_of_ble_eq_true rfl) (fun b hb => by
          simp only [List.mem_cons, List.not_mem_nil, or_false] at hb
          rw [hb]
          exact ⟨63, by decide, rfl⟩) _ ((Bd.start : Bd J S7.length [63] 0 J).next rfl)
      rw [if_neg c29]
      by_cases c30 : x = 30
      · rw [if_pos c30]
        refine ⟨⟨hn.2.2.2, by decide, by decide, by omega, ?_⟩, fun S2 k2 n2 eS eK eN => ?_⟩
        · rw [show Int32.toNatClampNeg 3 = 3 from zi_tn (a := 3) (by decide)]
          omega
        have eN2 : n2 = ([v7, v7, 57] : List Int32).length := eN.trans (show Int32.toNatClampNeg 3 = 3 from zi_tn (a := 3) (by decide))
        subst eN2
        subst eS
        subst eK
        refine ⟨⟨zAt_new, (zin_iff (i := 0) (by decide)).mpr (Nat.le_of_ble_eq_true rfl)⟩, fun I0 f0 => ?_⟩
        subst f0
        refine ⟨⟨zAt_new, (zin_iff (i := 1) (by decide)).mpr (Nat.le_of_ble_eq_true rfl)⟩, fun I1 f1 => ?_⟩
        subst f1
        refine ⟨⟨zAt_new, (zin_iff (i := 2) (by decide)).mpr (Nat.le_of_ble_eq_true rfl)⟩, fun I2 f2 => ?_⟩
        subst f2
        exact nx [v7, v7, 57] (Nat.le_of_ble_eq_true rfl) (fun b hb => by
          simp only [List.mem_cons, List.not_mem_nil, or_false] at hb
          rcases hb with rfl | rfl | rfl
          · exact b7
          · exact b7
          · exact ⟨57, by decide, rfl⟩) _ ((((Bd.start : Bd J S7.length [v7, v7, 57] 0 J).next rfl).next rfl).next rfl)
      rw [if_neg c30]
      refine ⟨⟨hn.2.2.2, by decide, by decide, by omega, ?_⟩, fun S2 k2 n2 eS eK eN => ?_⟩
      · rw [show Int32.toNatClampNeg 8 = 8 from zi_tn (a := 8) (by decide)]
        omega
      have eN2 : n2 = ([v5, 61, v5, 43, 40, v6, 41, 59] : List Int32).length := eN.trans (show Int32.toNatClampNeg 8 = 8 from zi_tn (a := 8) (by decide))
      subst eN2
      subst eS
      subst eK
      refine ⟨⟨zAt_new, (zin_iff (i := 0) (by decide)).mpr (Nat.le_of_ble_eq_true rfl)⟩, fun I0 f0 => ?_⟩
      subst f0
      refine ⟨⟨zAt_new, (zin_iff (i := 1) (by decide)).mpr (Nat.le_of_ble_eq_true rfl)⟩, fun I1 f1 => ?_⟩
      subst f1
      refine ⟨⟨zAt_new, (zin_iff (i := 2) (by decide)).mpr (Nat.le_of_ble_eq_true rfl)⟩, fun I2 f2 => ?_⟩
      subst f2
      refine ⟨⟨zAt_new, (zin_iff (i := 3) (by decide)).mpr (Nat.le_of_ble_eq_true rfl)⟩, fun I3 f3 => ?_⟩
      subst f3
      refine ⟨⟨zAt_new, (zin_iff (i := 4) (by decide)).mpr (Nat.le_of_ble_eq_true rfl)⟩, fun I4 f4 => ?_⟩
      subst f4
      refine ⟨⟨zAt_new, (zin_iff (i := 5) (by decide)).mpr (Nat.le_of_ble_eq_true rfl)⟩, fun I5 f5 => ?_⟩
      subst f5
      refine ⟨⟨zAt_new, (zin_iff (i := 6) (by decide)).mpr (Nat.le_of_ble_eq_true rfl)⟩, fun I6 f6 => ?_⟩
      subst f6
      refine ⟨⟨zAt_new, (zin_iff (i := 7) (by decide)).mpr (Nat.le_of_ble_eq_true rfl)⟩, fun I7 f7 => ?_⟩
      subst f7
      exact nx [v5, 61, v5, 43, 40, v6, 41, 59] (Nat.le_of_ble_eq_true rfl) (fun b hb => by
        simp only [List.mem_cons, List.not_mem_nil, or_false] at hb
        rcases hb with rfl | rfl | rfl | rfl | rfl | rfl | rfl | rfl
        · exact b5
        · exact ⟨61, by decide, rfl⟩
        · exact b5
        · exact ⟨43, by decide, rfl⟩
        · exact ⟨40, by decide, rfl⟩
        · exact b6
        · exact ⟨41, by decide, rfl⟩
        · exact ⟨59, by decide, rfl⟩) _ (((((((((Bd.start : Bd J S7.length [v5, 61, v5, 43, 40, v6, 41, 59] 0 J).next rfl).next rfl).next rfl).next rfl).next rfl).next rfl).next rfl).next rfl)
  exact key m 0 _ _ _ [] _ I (by omega) rfl (Nat.le_refl _) n0 a0 (Nat.zero_le _) (fun b hb => by cases hb) (Nat.le_refl _)
