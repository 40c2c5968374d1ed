def w_law_sw (L : Nat) (xs : Nat → Int32) (x v3 : Int32) (I : zI) (J : zI → Prop) : Prop :=
  if x = 0 then w_lawc_0 L xs v3 I J else (if x = 1 then w_lawc_1 L xs v3 I J else (if x = 2 then w_lawc_2 L xs v3 I J else (if x = 3 then w_lawc_3 L xs v3 I J else (if x = 4 then w_lawc_4 L xs v3 I J else (if x = 5 then w_lawc_5 L xs v3 I J else (if x = 6 then w_lawc_6 L xs v3 I J else (if x = 7 then w_lawc_7 L xs v3 I J else (if x = 8 then w_lawc_8 L xs v3 I J else (if x = 9 then w_lawc_9 L xs v3 I J else (if x = 10 then w_lawc_10 L xs v3 I J else (if x = 11 then w_lawc_11 L xs v3 I J else (if x = 12 then w_lawc_12 L xs v3 I J else (if x = 13 then w_lawc_13 L xs v3 I J else (if x = 14 then w_lawc_14 L xs v3 I J else (if x = 15 then w_lawc_15 L xs v3 I J else (if x = 16 then w_lawc_16 L xs v3 I J else (if x = 17 then w_lawc_17 L xs v3 I J else (if x = 18 then w_lawc_18 L xs v3 I J else (if x = 19 then w_lawc_19 L xs v3 I J else (if x = 20 then w_lawc_20 L xs v3 I J else (if x = 21 then w_lawc_21 L xs v3 I J else (if x = 22 then w_lawc_22 L xs v3 I J else (if x = 23 then w_lawc_23 L xs v3 I J else (if x = 24 then w_lawc_24 L xs v3 I J else (if x = 25 then w_lawc_25 L xs v3 I J else (if x = 26 then w_lawc_26 L xs v3 I J else (if x = 27 then w_lawc_27 L xs v3 I J else (if x = 28 then w_lawc_28 L xs v3 I J else (if x = 29 then w_lawc_29 L xs v3 I J else (if x = 30 then w_lawc_30 L xs v3 I J else (if x = 31 then w_lawc_31 L xs v3 I J else (if x = 32 then w_lawc_32 L xs v3 I J else (if x = 33 then w_lawc_33 L xs v3 I J else (if x = 34 then w_lawc_34 L xs v3 I J else (if x = 35 then w_lawc_35 L xs v3 I J else (if x = 36 then w_lawc_36 L xs v3 I J else (if x = 37 then w_lawc_37 L xs v3 I J else (if x = 38 then w_lawc_38 L xs v3 I J else (if x = 39 then w_lawc_39 L xs v3 I J else (if x = 40 then w_lawc_40 L xs v3 I J else J I))))))))))))))))))))))))))))))))))))))))
set_option maxHeartbeats 8000000 in
set_option maxRecDepth 20000 in
theorem zl_sw {p : Program} {l : Launch} {e : Env} {s : State} {m : MethodId} {below : List Frame} {meth : Method} {c : Code} {D : va_G} {B : Nat} {cA : Nat → ClassId} {ad : Nat → Nat} {b L : Nat} {xs : Nat → Int32} {S : List zC} (C : zCx p s m #[Value.ref b] meth c cL_law 4 RL ret D B cA ad) (hX : va_X b L xs s s.heap) (hbl : b < s.heap.size) (hbA : ¬ B ≤ b) (hS : zOkM S) (hB : B = s.heap.size) {x v3 : Int32} {I : zI} {J : zI → Prop} (h : w_law_sw L xs x v3 I J) (kk : ∀ I2, J I2 → zX p l e room_1 s m #[Value.ref b] below meth c (lw_Z below #[Value.ref b] s) D B cA 4 546 406967 S I2 [(3, .int v3), (0, .ref b), (1, .ref (B + 0)), (2, .ref (B + 491))] [] 1245) : zX p l e room_1 s m #[Value.ref b] below meth c (lw_Z below #[Value.ref b] s) D B cA 4 546 406967 S I [(3, .int v3), (0, .ref b), (1, .ref (B + 0)), (2, .ref (B + 491))] [.int x] 33 := by
  unfold w_law_sw at h
  by_cases hc0 : x = 0
  · exact zr_tableIn C dyL_law_33 (by rw [hc0]; decide) (by rw [hc0]; decide) (off := 179) (by rw [hc0]; decide) (tgt := 212) (by decide) (zl_c0 C hX hbl hbA hS hB (zif_pos hc0 h) kk)
  replace h := zif_neg hc0 h
  by_cases hc1 : x = 1
  · exact zr_tableIn C dyL_law_33 (by rw [hc1]; decide) (by rw [hc1]; decide) (off := 242) (by rw [hc1]; decide) (tgt := 275) (by decide) (zl_c1 C hX hbl hbA hS hB (zif_pos hc1 h) kk)
  replace h := zif_neg hc1 h
  by_cases hc2 : x = 2
  · exact zr_tableIn C dyL_law_33 (by rw [hc2]; decide) (by rw [hc2]; decide) (off := 265) (by rw [hc2]; decide) (tgt := 298) (by decide) (zl_c2 C hX hbl hbA hS hB (zif_pos hc2 h) kk)
  replace h := zif_neg hc2 h
  by_cases hc3 : x = 3
  · exact zr_tableIn C dyL_law_33 (by rw [hc3]; decide) (by rw [hc3]; decide) (off := 298) (by rw [hc3]; decide) (tgt := 331) (by decide) (zl_c3 C hX hbl hbA hS hB (zif_pos hc3 h) kk)
  replace h := zif_neg hc3 h
  by_cases hc4 : x = 4
  · exact zr_tableIn C dyL_law_33 (by rw [hc4]; decide) (by rw [hc4]; decide) (off := 321) (by rw [hc4]; decide) (tgt := 354) (by decide) (zl_c4 C hX hbl hbA hS hB (zif_pos hc4 h) kk)
  replace h := zif_neg hc4 h
  by_cases hc5 : x = 5
  · exact zr_tableIn C dyL_law_33 (by rw [hc5]; decide) (by rw [hc5]; decide) (off := 344) (by rw [hc5]; decide) (tgt := 377) (by decide) (zl_c5 C hX hbl hbA hS hB (zif_pos hc5 h) kk)
  replace h := zif_neg hc5 h
  by_cases hc6 : x = 6
  · exact zr_tableIn C dyL_law_33 (by rw [hc6]; decide) (by rw [hc6]; decide) (off := 367) (by rw [hc6]; decide) (tgt := 400) (by decide) (zl_c6 C hX hbl hbA hS hB (zif_pos hc6 h) kk)
  replace h := zif_neg hc6 h
  by_cases hc7 : x = 7
  · exact zr_tableIn C dyL_law_33 (by rw [hc7]; decide) (by rw [hc7]; decide) (off := 390) (by rw [hc7]; decide) (tgt := 423) (by decide) (zl_c7 C hX hbl hbA hS hB (zif_pos hc7 h) kk)
  replace h := zif_neg hc7 h
  by_cases hc8 : x = 8
  · exact zr_tableIn C dyL_law_33 (by rw [hc8]; decide) (by rw [hc8]; decide) (off := 403) (by rw [hc8]; decide) (tgt := 436) (by decide) (zl_c8 C hX hbl hbA hS hB (zif_pos hc8 h) kk)
  replace h := zif_neg hc8 h
  by_cases hc9 : x = 9
  · exact zr_tableIn C dyL_law_33 (by rw [hc9]; decide) (by rw [hc9]; decide) (off := 416) (by rw [hc9]; decide) (tgt := 449) (by decide) (zl_c9 C hX hbl hbA hS hB (zif_pos hc9 h) kk)
  replace h := zif_neg hc9 h
  by_cases hc10 : x = 10
  · exact zr_tableIn C dyL_law_33 (by rw [hc10]; decide) (by rw [hc10]; decide) (off := 439) (by rw [hc10]; decide) (tgt := 472) (by decide) (zl_c10 C hX hbl hbA hS hB (zif_pos hc10 h) kk)
  replace h := zif_neg hc10 h
  by_cases hc11 : x = 11
  · exact zr_tableIn C dyL_law_33 (by rw [hc11]; decide) (by rw [hc11]; decide) (off := 472) (by rw [hc11]; decide) (tgt := 505) (by decide) (zl_c11 C hX hbl hbA hS hB (zif_pos hc11 h) kk)
  replace h := zif_neg hc11 h
  by_cases hc12 : x = 12
  · exact zr_tableIn C dyL_law_33 (by rw [hc12]; decide) (by rw [hc12]; decide) (off := 495) (by rw [hc12]; decide) (tgt := 528) (by decide) (zl_c12 C hX hbl hbA hS hB (zif_pos hc12 h) kk)
  replace h := zif_neg hc12 h
  by_cases hc13 : x = 13
  · exact zr_tableIn C dyL_law_33 (by rw [hc13]; decide) (by rw [hc13]; decide) (off := 528) (by rw [hc13]; decide) (tgt := 561) (by decide) (zl_c13 C hX hbl hbA hS hB (zif_pos hc13 h) kk)
  replace h := zif_neg hc13 h
  by_cases hc14 : x = 14
  · exact zr_tableIn C dyL_law_33 (by rw [hc14]; decide) (by rw [hc14]; decide) (off := 561) (by rw [hc14]; decide) (tgt := 594) (by decide) (zl_c14 C hX hbl hbA hS hB (zif_pos hc14 h) kk)
  replace h := zif_neg hc14 h
  by_cases hc15 : x = 15
  · exact zr_tableIn C dyL_law_33 (by rw [hc15]; decide) (by rw [hc15]; decide) (off := 584) (by rw [hc15]; decide) (tgt := 617) (by decide) (zl_c15 C hX hbl hbA hS hB (zif_pos hc15 h) kk)
  replace h := zif_neg hc15 h
  by_cases hc16 : x = 16
  · exact zr_tableIn C dyL_law_33 (by rw [hc16]; decide) (by rw [hc16]; decide) (off := 597) (by rw [hc16]; decide) (tgt := 630) (by decide) (zl_c16 C hX hbl hbA hS hB (zif_pos hc16 h) kk)
  replace h := zif_neg hc16 h
  by_cases hc17 : x = 17
  · exact zr_tableIn C dyL_law_33 (by rw [hc17]; decide) (by rw [hc17]; decide) (off := 620) (by rw [hc17]; decide) (tgt := 653) (by decide) (zl_c17 C hX hbl hbA hS hB (zif_pos hc17 h) kk)
  replace h := zif_neg hc17 h
  by_cases hc18 : x = 18
  · exact zr_tableIn C dyL_law_33 (by rw [hc18]; decide) (by rw [hc18]; decide) (off := 633) (by rw [hc18]; decide) (tgt := 666) (by decide) (zl_c18 C hX hbl hbA hS hB (zif_pos hc18 h) kk)
  replace h := zif_neg hc18 h
  by_cases hc19 : x = 19
  · exact zr_tableIn C dyL_law_33 (by rw [hc19]; decide) (by rw [hc19]; decide) (off := 656) (by rw [hc19]; decide) (tgt := 689) (by decide) (zl_c19 C hX hbl hbA hS hB (zif_pos hc19 h) kk)
  replace h := zif_neg hc19 h
  by_cases hc20 : x = 20
  · exact zr_tableIn C dyL_law_33 (by rw [hc20]; decide) (by rw [hc20]; decide) (off := 679) (by rw [hc20]; decide) (tgt := 712) (by decide) (zl_c20 C hX hbl hbA hS hB (zif_pos hc20 h) kk)
  replace h := zif_neg hc20 h
  by_cases hc21 : x = 21
  · exact zr_tableIn C dyL_law_33 (by rw [hc21]; decide) (by rw [hc21]; decide) (off := 702) (by rw [hc21]; decide) (tgt := 735) (by decide) (zl_c21 C hX hbl hbA hS hB (zif_pos hc21 h) kk)
  replace h := zif_neg hc21 h
  by_cases hc22 : x = 22
  · exact zr_tableIn C dyL_law_33 (by rw [hc22]; decide) (by rw [hc22]; decide) (off := 725) (by rw [hc22]; decide) (tgt := 758) (by decide) (zl_c22 C hX hbl hbA hS hB (zif_pos hc22 h) kk)
  replace h := zif_neg hc22 h
  by_cases hc23 : x = 23
  · exact zr_tableIn C dyL_law_33 (by rw [hc23]; decide) (by rw [hc23]; decide) (off := 758) (by rw [hc23]; decide) (tgt := 791) (by decide) (zl_c23 C hX hbl hbA hS hB (zif_pos hc23 h) kk)
  replace h := zif_neg hc23 h
  by_cases hc24 : x = 24
  · exact zr_tableIn C dyL_law_33 (by rw [hc24]; decide) (by rw [hc24]; decide) (off := 781) (by rw [hc24]; decide) (tgt := 814) (by decide) (zl_c24 C hX hbl hbA hS hB (zif_pos hc24 h) kk)
  replace h := zif_neg hc24 h
  by_cases hc25 : x = 25
  · exact zr_tableIn C dyL_law_33 (by rw [hc25]; decide) (by rw [hc25]; decide) (off := 804) (by rw [hc25]; decide) (tgt := 837) (by decide) (zl_c25 C hX hbl hbA hS hB (zif_pos hc25 h) kk)
  replace h := zif_neg hc25 h
  by_cases hc26 : x = 26
  · exact zr_tableIn C dyL_law_33 (by rw [hc26]; decide) (by rw [hc26]; decide) (off := 837) (by rw [hc26]; decide) (tgt := 870) (by decide) (zl_c26 C hX hbl hbA hS hB (zif_pos hc26 h) kk)
  replace h := zif_neg hc26 h
  by_cases hc27 : x = 27
  · exact zr_tableIn C dyL_law_33 (by rw [hc27]; decide) (by rw [hc27]; decide) (off := 860) (by rw [hc27]; decide) (tgt := 893) (by decide) (zl_c27 C hX hbl hbA hS hB (zif_pos hc27 h) kk)
  replace h := zif_neg hc27 h
  by_cases hc28 : x = 28
  · exact zr_tableIn C dyL_law_33 (by rw [hc28]; decide) (by rw [hc28]; decide) (off := 883) (by rw [hc28]; decide) (tgt := 916) (by decide) (zl_c28 C hX hbl hbA hS hB (zif_pos hc28 h) kk)
  replace h := zif_neg hc28 h
  by_cases hc29 : x = 29
  · exact zr_tableIn C dyL_law_33 (by rw [hc29]; decide) (by rw [hc29]; decide) (off := 896) (by rw [hc29]; decide) (tgt := 929) (by decide) (zl_c29 C hX hbl hbA hS hB (zif_pos hc29 h) kk)
  replace h := zif_neg hc29 h
  by_cases hc30 : x = 30
  · exact zr_tableIn C dyL_law_33 (by rw [hc30]; decide) (by rw [hc30]; decide) (off := 919) (by rw [hc30]; decide) (tgt := 952) (by decide) (zl_c30 C hX hbl hbA hS hB (zif_pos hc30 h) kk)
  replace h := zif_neg hc30 h
  by_cases hc31 : x = 31
  · exact zr_tableIn C dyL_law_33 (by rw [hc31]; decide) (by rw [hc31]; decide) (off := 942) (by rw [hc31]; decide) (tgt := 975) (by decide) (zl_c31 C hX hbl hbA hS hB (zif_pos hc31 h) kk)
  replace h := zif_neg hc31 h
  by_cases hc32 : x = 32
  · exact zr_tableIn C dyL_law_33 (by rw [hc32]; decide) (by rw [hc32]; decide) (off := 965) (by rw [hc32]; decide) (tgt := 998) (by decide) (zl_c32 C hX hbl hbA hS hB (zif_pos hc32 h) kk)
  replace h := zif_neg hc32 h
  by_cases hc33 : x = 33
  · exact zr_tableIn C dyL_law_33 (by rw [hc33]; decide) (by rw [hc33]; decide) (off := 998) (by rw [hc33]; decide) (tgt := 1031) (by decide) (zl_c33 C hX hbl hbA hS hB (zif_pos hc33 h) kk)
  replace h := zif_neg hc33 h
  by_cases hc34 : x = 34
  · exact zr_tableIn C dyL_law_33 (by rw [hc34]; decide) (by rw [hc34]; decide) (off := 1031) (by rw [hc34]; decide) (tgt := 1064) (by decide) (zl_c34 C hX hbl hbA hS hB (zif_pos hc34 h) kk)
  replace h := zif_neg hc34 h
  by_cases hc35 : x = 35
  · exact zr_tableIn C dyL_law_33 (by rw [hc35]; decide) (by rw [hc35]; decide) (off := 1054) (by rw [hc35]; decide) (tgt := 1087) (by decide) (zl_c35 C hX hbl hbA hS hB (zif_pos hc35 h) kk)
  replace h := zif_neg hc35 h
  by_cases hc36 : x = 36
  · exact zr_tableIn C dyL_law_33 (by rw [hc36]; decide) (by rw [hc36]; decide) (off := 1077) (by rw [hc36]; decide) (tgt := 1110) (by decide) (zl_c36 C hX hbl hbA hS hB (zif_pos hc36 h) kk)
  replace h := zif_neg hc36 h
  by_cases hc37 : x = 37
  · exact zr_tableIn C dyL_law_33 (by rw [hc37]; decide) (by rw [hc37]; decide) (off := 1100) (by rw [hc37]; decide) (tgt := 1133) (by decide) (zl_c37 C hX hbl hbA hS hB (zif_pos hc37 h) kk)
  replace h := zif_neg hc37 h
  by_cases hc38 : x = 38
  · exact zr_tableIn C dyL_law_33 (by rw [hc38]; decide) (by rw [hc38]; decide) (off := 1133) (by rw [hc38]; decide) (tgt := 1166) (by decide) (zl_c38 C hX hbl hbA hS hB (zif_pos hc38 h) kk)
  replace h := zif_neg hc38 h
  by_cases hc39 : x = 39
  · exact zr_tableIn C dyL_law_33 (by rw [hc39]; decide) (by rw [hc39]; decide) (off := 1166) (by rw [hc39]; decide) (tgt := 1199) (by decide) (zl_c39 C hX hbl hbA hS hB (zif_pos hc39 h) kk)
  replace h := zif_neg hc39 h
  by_cases hc40 : x = 40
  · exact zr_tableIn C dyL_law_33 (by rw [hc40]; decide) (by rw [hc40]; decide) (off := 1189) (by rw [hc40]; decide) (tgt := 1222) (by decide) (zl_c40 C hX hbl hbA hS hB (zif_pos hc40 h) kk)
  replace h := zif_neg hc40 h
  refine zr_tableOut C dyL_law_33 (ztab_out (fun i h1 h2 => ?_)) (tgt := 1245) (by decide) (kk _ h)
  rcases (by omega : i = 0 ∨ i = 1 ∨ i = 2 ∨ i = 3 ∨ i = 4 ∨ i = 5 ∨ i = 6 ∨ i = 7 ∨ i = 8 ∨ i = 9 ∨ i = 10 ∨ i = 11 ∨ i = 12 ∨ i = 13 ∨ i = 14 ∨ i = 15 ∨ i = 16 ∨ i = 17 ∨ i = 18 ∨ i = 19 ∨ i = 20 ∨ i = 21 ∨ i = 22 ∨ i = 23 ∨ i = 24 ∨ i = 25 ∨ i = 26 ∨ i = 27 ∨ i = 28 ∨ i = 29 ∨ i = 30 ∨ i = 31 ∨ i = 32 ∨ i = 33 ∨ i = 34 ∨ i = 35 ∨ i = 36 ∨ i = 37 ∨ i = 38 ∨ i = 39 ∨ i = 40) with rfl | rfl | rfl | rfl | rfl | rfl | rfl | rfl | rfl | rfl | rfl | rfl | rfl | rfl | rfl | rfl | rfl | rfl | rfl | rfl | rfl | rfl | rfl | rfl | rfl | rfl | rfl | rfl | rfl | rfl | rfl | rfl | rfl | rfl | rfl | rfl | rfl | rfl | rfl | rfl | rfl
  · exact hc0
  · exact hc1
  · exact hc2
  · exact hc3
  · exact hc4
  · exact hc5
  · exact hc6
  · exact hc7
  · exact hc8
  · exact hc9
  · exact hc10
  · exact hc11
  · exact hc12
  · exact hc13
  · exact hc14
  · exact hc15
  · exact hc16
  · exact hc17
  · exact hc18
  · exact hc19
  · exact hc20
  · exact hc21
  · exact hc22
  · exact hc23
  · exact hc24
  · exact hc25
  · exact hc26
  · exact hc27
  · exact hc28
  · exact hc29
  · exact hc30
  · exact hc31
  · exact hc32
  · exact hc33
  · exact hc34
  · exact hc35
  · exact hc36
  · exact hc37
  · exact hc38
  · exact hc39
  · exact hc40
def w_law_body (L : Nat) (xs : Nat → Int32) (I : zI) : Prop :=
  ∀ (P : Int32 → zI → Prop), (∀ (v3 : Int32) (I2 : zI), (if (Int32.ofNat L) - 6 < v3 then True else (vp_in v3 L ∧ (∀ x, x = (xs (Int32.toNatClampNeg v3)) &&& 63 → w_law_sw L xs x v3 I2 (fun I4 => P (v3 + 6) I4)))) → P v3 I2) → P 0 I
set_option maxHeartbeats 8000000 in
set_option maxRecDepth 20000 in
theorem zl_body {p : Program} {l : Launch} {e : Env} {s : State} {m : MethodId} {below : List Frame} {meth : Method} {c : Code} {D : va_G} {B : Nat} {cA : Nat → ClassId} {ad : Nat → Nat} {b L : Nat} {xs : Nat → Int32} {S : List zC} (C : zCx p s m #[Value.ref b] meth c cL_law 4 RL ret D B cA ad) (hX : va_X b L xs s s.heap) (hbl : b < s.heap.size) (hbA : ¬ B ≤ b) (hS : zOkM S) (hB : B = s.heap.size) {I : zI} (h : w_law_body L xs I) : zX p l e room_1 s m #[Value.ref b] below meth c (lw_Z below #[Value.ref b] s) D B cA 4 546 406967 S I [(0, .ref b), (1, .ref (B + 0)), (2, .ref (B + 491))] [] 16 := by
  refine zr_iconst C dyL_law_16 zc_i_0 ?_
  refine zr_istore_n C dyL_law_17 rfl (Nat.le_of_ble_eq_true rfl) (lv2 := [(3, .int 0), (0, .ref b), (1, .ref (B + 0)), (2, .ref (B + 491))]) rfl ?_
  refine h (fun (v3 : Int32) (I2 : zI) => zX p l e room_1 s m #[Value.ref b] below meth c (lw_Z below #[Value.ref b] s) D B cA 4 546 406967 S I2 [(3, .int v3), (0, .ref b), (1, .ref (B + 0)), (2, .ref (B + 491))] [] 18) (fun v3 I2 h => ?_)
  refine zr_iload_n C dyL_law_18 rfl 0 rfl ?_
  refine zr_aload_n C dyL_law_19 rfl 1 rfl ?_
  refine zr_slen C hX hbl hbA dyL_law_20 ?_
  refine zr_bipush C dyL_law_21 zc_b_6 ?_
  refine zr_isub C dyL_law_23 ?_
  refine zr_icmp_gt C dyL_law_24 (tgt := 1251) (by decide) (fun hc => ?_) (fun hc => ?_)
  · refine zr_iconst C dyL_law_1251 zc_i_1 ?_
    exact zr_lend C hB dyL_law_1252
  · replace h := zif_neg hc h
    refine zr_aload_n C dyL_law_27 rfl 1 rfl ?_
    refine zr_iload_n C dyL_law_28 rfl 0 rfl ?_
    refine zr_sld C hX hbl hbA h.1 dyL_law_29 ?_
    replace h := h.2
    refine zr_bipush C dyL_law_30 (by decide : (Int8.ofInt 63).toInt32 = (63 : Int32)) ?_
    refine zr_iand C dyL_law_32 ?_
    refine zn_top C (fun x ex => ?_)
    refine zl_sw C hX hbl hbA hS hB (h x ex) (fun I4 h => ?_)
    refine zr_iinc C (lv2 := [(3, .int (v3 + 6)), (0, .ref b), (1, .ref (B + 0)), (2, .ref (B + 491))]) dyL_law_1245 0 rfl (congrArg (fun z => v3 + z) (by decide : Int32.ofInt 6 = 6)) (Nat.le_of_ble_eq_true rfl) rfl ?_
    refine zr_goto C dyL_law_1248 (tgt := 18) (by decide) ?_
    exact h
