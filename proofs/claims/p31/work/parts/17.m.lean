def w_M_span (a1 : Int32) (a2 : Int32) (I : zI) (K : Int32 → Prop) : Prop :=
  w_M_isIn a1 I (fun r_1 => (if r_1 = 0 then (K (-1)) else (vp_in a1 3700 ∧ (if (I.1 515 (Int32.toNatClampNeg a1)) = 0 then (K (-1)) else (w_M_in a2 0 1 I (fun r_2 => (if r_2 = 0 then (K (-1)) else (if a2 = 0 then (w_M_beginOf a1 I (fun r_5 => K r_5)) else (w_M_endOf a1 I (fun r_3 => w_M_beginOf a1 I (fun r_4 => K (r_3 - r_4))))))))))))
theorem dyX12_span_0 : decode cX12_span 0 = .ok (.aload_n 0, 1) := by decide +kernel
theorem dyX12_span_1 : decode cX12_span 1 = .ok (.iload_n 1, 1) := by decide +kernel
theorem dyX12_span_2 : decode cX12_span 2 = .ok (.invokevirtual 417, 3) := by decide +kernel
theorem dyX12_span_5 : decode cX12_span 5 = .ok (.ifCond .eq 21, 3) := by decide +kernel
theorem dyX12_span_8 : decode cX12_span 8 = .ok (.aload_n 0, 1) := by decide +kernel
theorem dyX12_span_9 : decode cX12_span 9 = .ok (.getfield 80, 3) := by decide +kernel
theorem dyX12_span_12 : decode cX12_span 12 = .ok (.iload_n 1, 1) := by decide +kernel
theorem dyX12_span_13 : decode cX12_span 13 = .ok (.iaload, 1) := by decide +kernel
theorem dyX12_span_14 : decode cX12_span 14 = .ok (.ifCond .eq 12, 3) := by decide +kernel
theorem dyX12_span_17 : decode cX12_span 17 = .ok (.iload_n 2, 1) := by decide +kernel
theorem dyX12_span_18 : decode cX12_span 18 = .ok (.iconst 0, 1) := by decide +kernel
theorem dyX12_span_19 : decode cX12_span 19 = .ok (.iconst 1, 1) := by decide +kernel
theorem dyX12_span_20 : decode cX12_span 20 = .ok (.invokestatic 286, 3) := by decide +kernel
theorem dyX12_span_23 : decode cX12_span 23 = .ok (.ifCond .ne 5, 3) := by decide +kernel
theorem dyX12_span_26 : decode cX12_span 26 = .ok (.iconst (-1), 1) := by decide +kernel
theorem dyX12_span_27 : decode cX12_span 27 = .ok (.ireturn, 1) := by decide +kernel
theorem dyX12_span_28 : decode cX12_span 28 = .ok (.iload_n 2, 1) := by decide +kernel
theorem dyX12_span_29 : decode cX12_span 29 = .ok (.ifCond .ne 11, 3) := by decide +kernel
theorem dyX12_span_32 : decode cX12_span 32 = .ok (.aload_n 0, 1) := by decide +kernel
theorem dyX12_span_33 : decode cX12_span 33 = .ok (.iload_n 1, 1) := by decide +kernel
theorem dyX12_span_34 : decode cX12_span 34 = .ok (.invokevirtual 404, 3) := by decide +kernel
theorem dyX12_span_37 : decode cX12_span 37 = .ok (.goto 14, 3) := by decide +kernel
theorem dyX12_span_40 : decode cX12_span 40 = .ok (.aload_n 0, 1) := by decide +kernel
theorem dyX12_span_41 : decode cX12_span 41 = .ok (.iload_n 1, 1) := by decide +kernel
theorem dyX12_span_42 : decode cX12_span 42 = .ok (.invokevirtual 411, 3) := by decide +kernel
theorem dyX12_span_45 : decode cX12_span 45 = .ok (.aload_n 0, 1) := by decide +kernel
theorem dyX12_span_46 : decode cX12_span 46 = .ok (.iload_n 1, 1) := by decide +kernel
theorem dyX12_span_47 : decode cX12_span 47 = .ok (.invokevirtual 404, 3) := by decide +kernel
theorem dyX12_span_50 : decode cX12_span 50 = .ok (.isub, 1) := by decide +kernel
theorem dyX12_span_51 : decode cX12_span 51 = .ok (.ireturn, 1) := by decide +kernel
theorem zsg_yX12_span : yX12_span.cls = RX12 ∧ yX12_span.cls ≠ "java/lang/invoke/MethodHandle" ∧ yX12_span.cls ≠ "java/lang/invoke/VarHandle" ∧ (parseMethodDescriptor yX12_span.desc).map (fun d => d.parameters.length) = some 2 := by decide +kernel
set_option maxRecDepth 20000 in
theorem c_M_span {l : Launch} {D : va_G} {B : Nat} {cA : Nat → ClassId} {ad : Nat → Nat} {S : List zC} (hS : zOkM S) {a1 : Int32} {a2 : Int32} {I : zI} {K : Int32 → Prop}  (h : w_M_span a1 a2 I K) : Met l yX12_span (zws yX12_span cX12_span 3 (some .int)) (zrm 2 43) (zPc D B cA ad [.ref (B + 491), .int a1, .int a2] S I) (zQc D B cA (zpI S I K)) 0 0 (fun q => B ≤ q) := by
  refine zm_of (cc := cX12_span) (maxL := 3) (ret := (some .int)) (by decide +kernel) rfl (Nat.le_of_ble_eq_true rfl) trivial ?_
  intro p e s m args below meth c C _
  unfold w_M_span at h
  show zX p l e (zrm 2 43) s m args below meth c (MQ below (zQc D B cA (zpI S I K)) args s 0 0 (fun q => B ≤ q)) D B cA 3 0 0 S I [(0, .ref (B + 491)), (1, .int a1), (2, .int a2)] [] 0
  refine zr_aload_n C dyX12_span_0 rfl 0 rfl ?_
  refine zr_iload_n C dyX12_span_1 rfl 1 rfl ?_
  refine zv_12_417 C hS (st := []) h ⟨Nat.le_of_ble_eq_true rfl, Nat.le_of_ble_eq_true rfl⟩ (Nat.le_of_ble_eq_true rfl) dyX12_span_2 (fun r_1 h => ?_)
  refine zr_if_eq C dyX12_span_5 (tgt := 26) (by decide) (fun hc_9 => ?_) (fun hc_9 => ?_)
  · replace h := zif_pos hc_9 h
    refine zr_iconst C dyX12_span_26 zc_i_m1 ?_
    exact zr_iret C rfl dyX12_span_27 ⟨rfl, rfl, _, rfl, h⟩
  · replace h := zif_neg hc_9 h
    refine zr_aload_n C dyX12_span_8 rfl 0 rfl ?_
    refine zg_12_80 C hS dyX12_span_9 ?_
    refine zr_iload_n C dyX12_span_12 rfl 1 rfl ?_
    refine zr_iald C (hS _ _ zs_515) h.1 dyX12_span_13 ?_
    replace h := h.2
    refine zr_if_eq C dyX12_span_14 (tgt := 26) (by decide) (fun hc_8 => ?_) (fun hc_8 => ?_)
    · replace h := zif_pos hc_8 h
      refine zr_iconst C dyX12_span_26 zc_i_m1 ?_
      exact zr_iret C rfl dyX12_span_27 ⟨rfl, rfl, _, rfl, h⟩
    · replace h := zif_neg hc_8 h
      refine zr_iload_n C dyX12_span_17 rfl 2 rfl ?_
      refine zr_iconst C dyX12_span_18 zc_i_0 ?_
      refine zr_iconst C dyX12_span_19 zc_i_1 ?_
      refine zv_12_286 C hS (st := []) h ⟨Nat.le_of_ble_eq_true rfl, Nat.le_of_ble_eq_true rfl⟩ (Nat.le_of_ble_eq_true rfl) dyX12_span_20 (fun r_2 h => ?_)
      refine zr_if_ne C dyX12_span_23 (tgt := 28) (by decide) (fun hc_7 => ?_) (fun hc_7 => ?_)
      · replace h := zif_neg hc_7 h
        refine zr_iload_n C dyX12_span_28 rfl 2 rfl ?_
        refine zr_if_ne C dyX12_span_29 (tgt := 40) (by decide) (fun hc_6 => ?_) (fun hc_6 => ?_)
        · replace h := zif_neg hc_6 h
          refine zr_aload_n C dyX12_span_40 rfl 0 rfl ?_
          refine zr_iload_n C dyX12_span_41 rfl 1 rfl ?_
          refine zv_12_411 C hS (st := []) h ⟨Nat.le_of_ble_eq_true rfl, Nat.le_of_ble_eq_true rfl⟩ (Nat.le_of_ble_eq_true rfl) dyX12_span_42 (fun r_3 h => ?_)
          refine zr_aload_n C dyX12_span_45 rfl 0 rfl ?_
          refine zr_iload_n C dyX12_span_46 rfl 1 rfl ?_
          refine zv_12_404 C hS (st := [.int r_3]) h ⟨Nat.le_of_ble_eq_true rfl, Nat.le_of_ble_eq_true rfl⟩ (Nat.le_of_ble_eq_true rfl) dyX12_span_47 (fun r_4 h => ?_)
          refine zr_isub C dyX12_span_50 ?_
          exact zr_iret C rfl dyX12_span_51 ⟨rfl, rfl, _, rfl, h⟩
        · replace h := zif_pos hc_6 h
          refine zr_aload_n C dyX12_span_32 rfl 0 rfl ?_
          refine zr_iload_n C dyX12_span_33 rfl 1 rfl ?_
          refine zv_12_404 C hS (st := []) h ⟨Nat.le_of_ble_eq_true rfl, Nat.le_of_ble_eq_true rfl⟩ (Nat.le_of_ble_eq_true rfl) dyX12_span_34 (fun r_5 h => ?_)
          refine zr_goto C dyX12_span_37 (tgt := 51) (by decide) ?_
          exact zr_iret C rfl dyX12_span_51 ⟨rfl, rfl, _, rfl, h⟩
      · replace h := zif_pos hc_7 h
        refine zr_iconst C dyX12_span_26 zc_i_m1 ?_
        exact zr_iret C rfl dyX12_span_27 ⟨rfl, rfl, _, rfl, h⟩
def w_M_last (a1 : Int32) (I : zI) (K : Int32 → Prop) : Prop :=
  w_M_in a1 0 9 I (fun r_1 => (if r_1 = 0 then (K (-1)) else (vp_in a1 10 ∧ (K (I.1 538 (Int32.toNatClampNeg a1))))))
theorem dyX12_last_0 : decode cX12_last 0 = .ok (.iload_n 1, 1) := by decide +kernel
theorem dyX12_last_1 : decode cX12_last 1 = .ok (.iconst 0, 1) := by decide +kernel
theorem dyX12_last_2 : decode cX12_last 2 = .ok (.bipush 9, 2) := by decide +kernel
theorem dyX12_last_4 : decode cX12_last 4 = .ok (.invokestatic 286, 3) := by decide +kernel
theorem dyX12_last_7 : decode cX12_last 7 = .ok (.ifCond .eq 12, 3) := by decide +kernel
theorem dyX12_last_10 : decode cX12_last 10 = .ok (.aload_n 0, 1) := by decide +kernel
theorem dyX12_last_11 : decode cX12_last 11 = .ok (.getfield 150, 3) := by decide +kernel
theorem dyX12_last_14 : decode cX12_last 14 = .ok (.iload_n 1, 1) := by decide +kernel
theorem dyX12_last_15 : decode cX12_last 15 = .ok (.iaload, 1) := by decide +kernel
theorem dyX12_last_16 : decode cX12_last 16 = .ok (.goto 4, 3) := by decide +kernel
theorem dyX12_last_19 : decode cX12_last 19 = .ok (.iconst (-1), 1) := by decide +kernel
theorem dyX12_last_20 : decode cX12_last 20 = .ok (.ireturn, 1) := by decide +kernel
theorem zsg_yX12_last : yX12_last.cls = RX12 ∧ yX12_last.cls ≠ "java/lang/invoke/MethodHandle" ∧ yX12_last.cls ≠ "java/lang/invoke/VarHandle" ∧ (parseMethodDescriptor yX12_last.desc).map (fun d => d.parameters.length) = some 1 := by decide +kernel
set_option maxRecDepth 20000 in
theorem c_M_last {l : Launch} {D : va_G} {B : Nat} {cA : Nat → ClassId} {ad : Nat → Nat} {S : List zC} (hS : zOkM S) {a1 : Int32} {I : zI} {K : Int32 → Prop}  (h : w_M_last a1 I K) : Met l yX12_last (zws yX12_last cX12_last 2 (some .int)) (zrm 1 22) (zPc D B cA ad [.ref (B + 491), .int a1] S I) (zQc D B cA (zpI S I K)) 0 0 (fun q => B ≤ q) := by
  refine zm_of (cc := cX12_last) (maxL := 2) (ret := (some .int)) (by decide +kernel) rfl (Nat.le_of_ble_eq_true rfl) trivial ?_
  intro p e s m args below meth c C _
  unfold w_M_last at h
  show zX p l e (zrm 1 22) s m args below meth c (MQ below (zQc D B cA (zpI S I K)) args s 0 0 (fun q => B ≤ q)) D B cA 2 0 0 S I [(0, .ref (B + 491)), (1, .int a1)] [] 0
  refine zr_iload_n C dyX12_last_0 rfl 1 rfl ?_
  refine zr_iconst C dyX12_last_1 zc_i_0 ?_
  refine zr_bipush C dyX12_last_2 zc_b_9 ?_
  refine zv_12_286 C hS (st := []) h ⟨Nat.le_of_ble_eq_true rfl, Nat.le_of_ble_eq_true rfl⟩ (Nat.le_of_ble_eq_true rfl) dyX12_last_4 (fun r_1 h => ?_)
  refine zr_if_eq C dyX12_last_7 (tgt := 19) (by decide) (fun hc_2 => ?_) (fun hc_2 => ?_)
  · replace h := zif_pos hc_2 h
    refine zr_iconst C dyX12_last_19 zc_i_m1 ?_
    exact zr_iret C rfl dyX12_last_20 ⟨rfl, rfl, _, rfl, h⟩
  · replace h := zif_neg hc_2 h
    refine zr_aload_n C dyX12_last_10 rfl 0 rfl ?_
    refine zg_12_150 C hS dyX12_last_11 ?_
    refine zr_iload_n C dyX12_last_14 rfl 1 rfl ?_
    refine zr_iald C (hS _ _ zs_538) h.1 dyX12_last_15 ?_
    replace h := h.2
    refine zr_goto C dyX12_last_16 (tgt := 20) (by decide) ?_
    exact zr_iret C rfl dyX12_last_20 ⟨rfl, rfl, _, rfl, h⟩
def w_M_ruled (a1 : Int32) (I : zI) (K : Int32 → Prop) : Prop :=
  w_M_in a1 0 10 I (fun r_1 => (if r_1 = 0 then (K (-1)) else (∀ (P16 : Int32 → Int32 → Prop), (∀ (v2_2 : Int32) (v3_3 : Int32), ((if (I.1 491 43) ≤ v3_3 then K v2_2 else (vp_in v3_3 700 ∧ (vp_in (I.1 521 (Int32.toNatClampNeg v3_3)) 3700 ∧ (∀ (P42 : Int32 → Prop), (∀ (v2_4 : Int32), (∀ v3_5, v3_5 = (v3_3 + 1) → P16 v2_4 v3_5) → P42 v2_4) → (if (I.1 509 (Int32.toNatClampNeg (I.1 521 (Int32.toNatClampNeg v3_3)))) = a1 then (∀ v2_6, v2_6 = (v2_2 + 1) → P42 v2_6) else P42 v2_2)))))) → P16 v2_2 v3_3) → P16 0 0)))
theorem dyX12_ruled_0 : decode cX12_ruled 0 = .ok (.iload_n 1, 1) := by decide +kernel
theorem dyX12_ruled_1 : decode cX12_ruled 1 = .ok (.iconst 0, 1) := by decide +kernel
theorem dyX12_ruled_2 : decode cX12_ruled 2 = .ok (.bipush 10, 2) := by decide +kernel
theorem dyX12_ruled_4 : decode cX12_ruled 4 = .ok (.invokestatic 286, 3) := by decide +kernel
theorem dyX12_ruled_7 : decode cX12_ruled 7 = .ok (.ifCond .ne 5, 3) := by decide +kernel
theorem dyX12_ruled_10 : decode cX12_ruled 10 = .ok (.iconst (-1), 1) := by decide +kernel
theorem dyX12_ruled_11 : decode cX12_ruled 11 = .ok (.ireturn, 1) := by decide +kernel
theorem dyX12_ruled_12 : decode cX12_ruled 12 = .ok (.iconst 0, 1) := by decide +kernel
theorem dyX12_ruled_13 : decode cX12_ruled 13 = .ok (.istore_n 2, 1) := by decide +kernel
theorem dyX12_ruled_14 : decode cX12_ruled 14 = .ok (.iconst 0, 1) := by decide +kernel
theorem dyX12_ruled_15 : decode cX12_ruled 15 = .ok (.istore_n 3, 1) := by decide +kernel
theorem dyX12_ruled_16 : decode cX12_ruled 16 = .ok (.iload_n 3, 1) := by decide +kernel
theorem dyX12_ruled_17 : decode cX12_ruled 17 = .ok (.aload_n 0, 1) := by decide +kernel
theorem dyX12_ruled_18 : decode cX12_ruled 18 = .ok (.getfield 280, 3) := by decide +kernel
theorem dyX12_ruled_21 : decode cX12_ruled 21 = .ok (.if_icmp .ge 27, 3) := by decide +kernel
theorem dyX12_ruled_24 : decode cX12_ruled 24 = .ok (.aload_n 0, 1) := by decide +kernel
theorem dyX12_ruled_25 : decode cX12_ruled 25 = .ok (.getfield 62, 3) := by decide +kernel
theorem dyX12_ruled_28 : decode cX12_ruled 28 = .ok (.aload_n 0, 1) := by decide +kernel
theorem dyX12_ruled_29 : decode cX12_ruled 29 = .ok (.getfield 99, 3) := by decide +kernel
theorem dyX12_ruled_32 : decode cX12_ruled 32 = .ok (.iload_n 3, 1) := by decide +kernel
theorem dyX12_ruled_33 : decode cX12_ruled 33 = .ok (.iaload, 1) := by decide +kernel
theorem dyX12_ruled_34 : decode cX12_ruled 34 = .ok (.iaload, 1) := by decide +kernel
theorem dyX12_ruled_35 : decode cX12_ruled 35 = .ok (.iload_n 1, 1) := by decide +kernel
theorem dyX12_ruled_36 : decode cX12_ruled 36 = .ok (.if_icmp .ne 6, 3) := by decide +kernel
theorem dyX12_ruled_39 : decode cX12_ruled 39 = .ok (.iinc 2 1, 3) := by decide +kernel
theorem dyX12_ruled_42 : decode cX12_ruled 42 = .ok (.iinc 3 1, 3) := by decide +kernel
theorem dyX12_ruled_45 : decode cX12_ruled 45 = .ok (.goto (-29), 3) := by decide +kernel
theorem dyX12_ruled_48 : decode cX12_ruled 48 = .ok (.iload_n 2, 1) := by decide +kernel
theorem dyX12_ruled_49 : decode cX12_ruled 49 = .ok (.ireturn, 1) := by decide +kernel
theorem zsg_yX12_ruled : yX12_ruled.cls = RX12 ∧ yX12_ruled.cls ≠ "java/lang/invoke/MethodHandle" ∧ yX12_ruled.cls ≠ "java/lang/invoke/VarHandle" ∧ (parseMethodDescriptor yX12_ruled.desc).map (fun d => d.parameters.length) = some 1 := by decide +kernel
set_option maxRecDepth 20000 in
theorem c_M_ruled {l : Launch} {D : va_G} {B : Nat} {cA : Nat → ClassId} {ad : Nat → Nat} {S : List zC} (hS : zOkM S) {a1 : Int32} {I : zI} {K : Int32 → Prop}  (h : w_M_ruled a1 I K) : Met l yX12_ruled (zws yX12_ruled cX12_ruled 4 (some .int)) (zrm 1 22) (zPc D B cA ad [.ref (B + 491), .int a1] S I) (zQc D B cA (zpI S I K)) 0 0 (fun q => B ≤ q) := by
  refine zm_of (cc := cX12_ruled) (maxL := 4) (ret := (some .int)) (by decide +kernel) rfl (Nat.le_of_ble_eq_true rfl) trivial ?_
  intro p e s m args below meth c C _
  unfold w_M_ruled at h
  show zX p l e (zrm 1 22) s m args below meth c (MQ below (zQc D B cA (zpI S I K)) args s 0 0 (fun q => B ≤ q)) D B cA 4 0 0 S I [(0, .ref (B + 491)), (1, .int a1)] [] 0
  refine zr_iload_n C dyX12_ruled_0 rfl 1 rfl ?_
  refine zr_iconst C dyX12_ruled_1 zc_i_0 ?_
  refine zr_bipush C dyX12_ruled_2 zc_b_10 ?_
  refine zv_12_286 C hS (st := []) h ⟨Nat.le_of_ble_eq_true rfl, Nat.le_of_ble_eq_true rfl⟩ (Nat.le_of_ble_eq_true rfl) dyX12_ruled_4 (fun r_1 h => ?_)
  refine zr_if_ne C dyX12_ruled_7 (tgt := 12) (by decide) (fun hc_9 => ?_) (fun hc_9 => ?_)
  · replace h := zif_neg hc_9 h
    refine zr_iconst C dyX12_ruled_12 zc_i_0 ?_
    refine zr_istore_n C dyX12_ruled_13 rfl (Nat.le_of_ble_eq_true rfl) (lv2 := [(2, .int 0), (0, .ref (B + 491)), (1, .int a1)]) rfl ?_
    refine zr_iconst C dyX12_ruled_14 zc_i_0 ?_
    refine zr_istore_n C dyX12_ruled_15 rfl (Nat.le_of_ble_eq_true rfl) (lv2 := [(3, .int 0), (2, .int 0), (0, .ref (B + 491)), (1, .int a1)]) rfl ?_
    refine zjn (h (fun (v2_2 : Int32) (v3_3 : Int32) => zX p l e (zrm 1 22) s m args below meth c (MQ below (zQc D B cA (zpI S I K)) args s 0 0 (fun q => B ≤ q)) D B cA 4 0 0 S I [(3, .int v3_3), (2, .int v2_2), (0, .ref (B + 491)), (1, .int a1)] [] 16) (fun v2_2 v3_3 h => ?_)) (fun h => ?_)
    · refine zr_iload_n C dyX12_ruled_16 rfl 0 rfl ?_
      refine zr_aload_n C dyX12_ruled_17 rfl 2 rfl ?_
      refine zg_12_280 C hS dyX12_ruled_18 ?_
      refine zr_icmp_ge C dyX12_ruled_21 (tgt := 48) (by decide) (fun hc_8 => ?_) (fun hc_8 => ?_)
      · replace h := zif_pos hc_8 h
        refine zr_iload_n C dyX12_ruled_48 rfl 1 rfl ?_
        exact zr_iret C rfl dyX12_ruled_49 ⟨rfl, rfl, _, rfl, h⟩
      · replace h := zif_neg hc_8 h
        refine zr_aload_n C dyX12_ruled_24 rfl 2 rfl ?_
        refine zg_12_62 C hS dyX12_ruled_25 ?_
        refine zr_aload_n C dyX12_ruled_28 rfl 2 rfl ?_
        refine zg_12_99 C hS dyX12_ruled_29 ?_
        refine zr_iload_n C dyX12_ruled_32 rfl 0 rfl ?_
        refine zr_iald C (hS _ _ zs_521) h.1 dyX12_ruled_33 ?_
        replace h := h.2
        refine zr_iald C (hS _ _ zs_509) h.1 dyX12_ruled_34 ?_
        replace h := h.2
        refine zr_iload_n C dyX12_ruled_35 rfl 3 rfl ?_
        refine zjn (h (fun (v2_4 : Int32) => zX p l e (zrm 1 22) s m args below meth c (MQ below (zQc D B cA (zpI S I K)) args s 0 0 (fun q => B ≤ q)) D B cA 4 0 0 S I [(3, .int v3_3), (2, .int v2_4), (0, .ref (B + 491)), (1, .int a1)] [] 42) (fun v2_4 h => ?_)) (fun h => ?_)
        · refine zn_iinc C (fun v3_5 => [(3, .int v3_5), (2, .int v2_4), (0, .ref (B + 491)), (1, .int a1)]) dyX12_ruled_42 0 rfl zc_i_1 (Nat.le_of_ble_eq_true rfl) (fun _ => rfl) (fun v3_5 ev3_5 => ?_)
          replace h := h v3_5 ev3_5
          refine zr_goto C dyX12_ruled_45 (tgt := 16) (by decide) ?_
          exact h
        refine zr_icmp_ne C dyX12_ruled_36 (tgt := 42) (by decide) (fun hc_7 => ?_) (fun hc_7 => ?_)
        · replace h := zif_neg hc_7 h
          exact h
        · replace h := zif_pos hc_7 h
          refine zn_iinc C (fun v2_6 => [(2, .int v2_6), (3, .int v3_3), (0, .ref (B + 491)), (1, .int a1)]) dyX12_ruled_39 1 rfl zc_i_1 (Nat.le_of_ble_eq_true rfl) (fun _ => rfl) (fun v2_6 ev2_6 => ?_)
          replace h := h v2_6 ev2_6
          refine zr_sub (lv2 := [(3, .int v3_3), (2, .int v2_6), (0, .ref (B + 491)), (1, .int a1)]) [1, 0, 2, 3] rfl ?_
          exact h
    exact h
  · replace h := zif_pos hc_9 h
    refine zr_iconst C dyX12_ruled_10 zc_i_m1 ?_
    exact zr_iret C rfl dyX12_ruled_11 ⟨rfl, rfl, _, rfl, h⟩
theorem zv_12_423 {p : Program} {l : Launch} {e : Env} {R : Room} {s : State} {m : MethodId} {args : Array Value} {below : List Frame} {meth : Method} {c : Code} {Q : State → Prop} {D : va_G} {B : Nat} {cA : Nat → ClassId} {ad : Nat → Nat} {cc : ByteArray} {nL : Nat} {ret : Option FieldType} {S : List zC} {I : zI} {lv : List (Nat × Value)} {st : List Value} {pc : Nat} (C : zCx p s m args meth c cc nL RX12 ret D B cA ad) {K : Int32 → zI → Prop}  (hS : zOkM S)  (h : w_M_wrongOf I K) (hR : 2 + 1 ≤ R.frames ∧ 8 + (5 + 11) + (42) ≤ R.locals) (hw : (st.map fun v => v.category).sum ≤ 8) (hd : decode cc pc = .ok (.invokevirtual 423, 3)) (kk : ∀ v I2, K v I2 → zX p l e R s m args below meth c Q D B cA nL 0 0 S I2 lv (.int v :: st) (pc + 3)) : zX p l e R s m args below meth c Q D B cA nL 0 0 S I lv (.ref (B + 491) :: st) pc :=
  have hf : 0 ≤ R.cells ∧ 0 ≤ R.slots := ⟨Nat.zero_le _, Nat.zero_le _⟩
  zc_VqI C (ci := 12) (q := (RX12, TX12, 82)) (k := 491) (fs := [none, some (some 492), some (some 493), none, some (some 494), none, some (some 495), none, none, none, some (some 496), some (some 497), some (some 498), some (some 499), some (some 500), none, some (some 501), some (some 502), some (some 503), none, some (some 504), some (some 505), some (some 506), some (some 507), some (some 508), none, some (some 509), some (some 510), some (some 511), some (some 512), some (some 513), some (some 514), some (some 515), some (some 516), some (some 517), some (some 518), none, none, some (some 519), none, some (some 520), none, none, none, some (some 521), some (some 522), some (some 523), some (some 524), some (some 525), some (some 526), some (some 527), none, some (some 528), none, some (some 529), none, some (some 530), some (some 531), some (some 532), none, some (some 533), some (some 534), some (some 535), some (some 536), some (some 537), none, none, none, some (some 538), some (some 539), some (some 540), none, none, none, some (some 541), none, none, some (some 542), some (some 543), some (some 544), none, some (some 545)]) (As := []) (st := st) rfl (hS _ _ zs_491) (c_M_wrongOf hS h) (zgV zk_ml_12_423 zk_im_yX12_wrongOf zk_se_yX12_wrongOf zk_in_12 zk_cd_yX12_wrongOf) zsg_yX12_wrongOf hR rfl rfl hw hd hf kk
def w_M_fresh  (I : zI) (K : Int32 → zI → Prop) : Prop :=
  ∀ (P2 : Int32 → zI → Prop), (∀ (v1_1 : Int32) (I_2 : zI), ((if (I_2.1 491 19) ≤ v1_1 then (w_M_wrongOf I_2 (fun r_3 I_4 => K (I_4.1 491 42) I_4)) else (vp_in v1_1 110 ∧ (vp_in v1_1 120 ∧ (∀ I_5, I_5 = (zu I_2 520 (Int32.toNatClampNeg v1_1) (I_2.1 504 (Int32.toNatClampNeg v1_1))) → ∀ v1_6, v1_6 = (v1_1 + 1) → P2 v1_6 I_5))))) → P2 v1_1 I_2) → P2 0 I
theorem dyX12_fresh_0 : decode cX12_fresh 0 = .ok (.iconst 0, 1) := by decide +kernel
theorem dyX12_fresh_1 : decode cX12_fresh 1 = .ok (.istore_n 1, 1) := by decide +kernel
theorem dyX12_fresh_2 : decode cX12_fresh 2 = .ok (.iload_n 1, 1) := by decide +kernel
theorem dyX12_fresh_3 : decode cX12_fresh 3 = .ok (.aload_n 0, 1) := by decide +kernel
theorem dyX12_fresh_4 : decode cX12_fresh 4 = .ok (.getfield 244, 3) := by decide +kernel
theorem dyX12_fresh_7 : decode cX12_fresh 7 = .ok (.if_icmp .ge 21, 3) := by decide +kernel
theorem dyX12_fresh_10 : decode cX12_fresh 10 = .ok (.aload_n 0, 1) := by decide +kernel
theorem dyX12_fresh_11 : decode cX12_fresh 11 = .ok (.getfield 96, 3) := by decide +kernel
theorem dyX12_fresh_14 : decode cX12_fresh 14 = .ok (.iload_n 1, 1) := by decide +kernel
theorem dyX12_fresh_15 : decode cX12_fresh 15 = .ok (.aload_n 0, 1) := by decide +kernel
theorem dyX12_fresh_16 : decode cX12_fresh 16 = .ok (.getfield 47, 3) := by decide +kernel
theorem dyX12_fresh_19 : decode cX12_fresh 19 = .ok (.iload_n 1, 1) := by decide +kernel
theorem dyX12_fresh_20 : decode cX12_fresh 20 = .ok (.iaload, 1) := by decide +kernel
theorem dyX12_fresh_21 : decode cX12_fresh 21 = .ok (.iastore, 1) := by decide +kernel
theorem dyX12_fresh_22 : decode cX12_fresh 22 = .ok (.iinc 1 1, 3) := by decide +kernel
theorem dyX12_fresh_25 : decode cX12_fresh 25 = .ok (.goto (-23), 3) := by decide +kernel
theorem dyX12_fresh_28 : decode cX12_fresh 28 = .ok (.aload_n 0, 1) := by decide +kernel
theorem dyX12_fresh_29 : decode cX12_fresh 29 = .ok (.invokevirtual 423, 3) := by decide +kernel
theorem dyX12_fresh_32 : decode cX12_fresh 32 = .ok (.pop, 1) := by decide +kernel
theorem dyX12_fresh_33 : decode cX12_fresh 33 = .ok (.aload_n 0, 1) := by decide +kernel
theorem dyX12_fresh_34 : decode cX12_fresh 34 = .ok (.getfield 265, 3) := by decide +kernel
theorem dyX12_fresh_37 : decode cX12_fresh 37 = .ok (.ireturn, 1) := by decide +kernel
theorem zsg_yX12_fresh : yX12_fresh.cls = RX12 ∧ yX12_fresh.cls ≠ "java/lang/invoke/MethodHandle" ∧ yX12_fresh.cls ≠ "java/lang/invoke/VarHandle" ∧ (parseMethodDescriptor yX12_fresh.desc).map (fun d => d.parameters.length) = some 0 := by decide +kernel
set_option maxRecDepth 20000 in
theorem c_M_fresh {l : Launch} {D : va_G} {B : Nat} {cA : Nat → ClassId} {ad : Nat → Nat} {S : List zC} (hS : zOkM S)  {I : zI} {K : Int32 → zI → Prop}  (h : w_M_fresh  I K) : Met l yX12_fresh (zws yX12_fresh cX12_fresh 2 (some .int)) (zrm 3 66) (zPc D B cA ad [.ref (B + 491)] S I) (zQc D B cA (zqI S K)) 0 0 (fun q => B ≤ q) := by
  refine zm_of (cc := cX12_fresh) (maxL := 2) (ret := (some .int)) (by decide +kernel) rfl (Nat.le_of_ble_eq_true rfl) trivial ?_
  intro p e s m args below meth c C _
  unfold w_M_fresh at h
  show zX p l e (zrm 3 66) s m args below meth c (MQ below (zQc D B cA (zqI S K)) args s 0 0 (fun q => B ≤ q)) D B cA 2 0 0 S I [(0, .ref (B + 491))] [] 0
  refine zr_iconst C dyX12_fresh_0 zc_i_0 ?_
  refine zr_istore_n C dyX12_fresh_1 rfl (Nat.le_of_ble_eq_true rfl) (lv2 := [(1, .int 0), (0, .ref (B + 491))]) rfl ?_
  refine zjn (h (fun (v1_1 : Int32) (I_2 : zI) => zX p l e (zrm 3 66) s m args below meth c (MQ below (zQc D B cA (zqI S K)) args s 0 0 (fun q => B ≤ q)) D B cA 2 0 0 S I_2 [(1, .int v1_1), (0, .ref (B + 491))] [] 2) (fun v1_1 I_2 h => ?_)) (fun h => ?_)
  · refine zr_iload_n C dyX12_fresh_2 rfl 0 rfl ?_
    refine zr_aload_n C dyX12_fresh_3 rfl 1 rfl ?_
    refine zg_12_244 C hS dyX12_fresh_4 ?_
    refine zr_icmp_ge C dyX12_fresh_7 (tgt := 28) (by decide) (fun hc_7 => ?_) (fun hc_7 => ?_)
    · replace h := zif_pos hc_7 h
      refine zr_aload_n C dyX12_fresh_28 rfl 1 rfl ?_
      refine zv_12_423 C hS (st := []) h ⟨Nat.le_of_ble_eq_true rfl, Nat.le_of_ble_eq_true rfl⟩ (Nat.le_of_ble_eq_true rfl) dyX12_fresh_29 (fun r_3 I_4 h => ?_)
      refine zr_pop C dyX12_fresh_32 rfl ?_
      refine zr_aload_n C dyX12_fresh_33 rfl 1 rfl ?_
      refine zg_12_265 C hS dyX12_fresh_34 ?_
      exact zr_iret C rfl dyX12_fresh_37 ⟨rfl, _, rfl, h⟩
    · replace h := zif_neg hc_7 h
      refine zr_aload_n C dyX12_fresh_10 rfl 1 rfl ?_
      refine zg_12_96 C hS dyX12_fresh_11 ?_
      refine zr_iload_n C dyX12_fresh_14 rfl 0 rfl ?_
      refine zr_aload_n C dyX12_fresh_15 rfl 1 rfl ?_
      refine zg_12_47 C hS dyX12_fresh_16 ?_
      refine zr_iload_n C dyX12_fresh_19 rfl 0 rfl ?_
      refine zr_iald C (hS _ _ zs_504) h.1 dyX12_fresh_20 ?_
      replace h := h.2
      refine zr_iast C (hS _ _ zs_520) h.1 dyX12_fresh_21 ?_
      replace h := h.2
      refine zn_mem C (fun I_5 eI_5 => ?_)
      replace h := h I_5 eI_5
      refine zn_iinc C (fun v1_6 => [(1, .int v1_6), (0, .ref (B + 491))]) dyX12_fresh_22 0 rfl zc_i_1 (Nat.le_of_ble_eq_true rfl) (fun _ => rfl) (fun v1_6 ev1_6 => ?_)
      replace h := h v1_6 ev1_6
      refine zr_goto C dyX12_fresh_25 (tgt := 2) (by decide) ?_
      exact h
  exact h
theorem zv_12_426 {p : Program} {l : Launch} {e : Env} {R : Room} {s : State} {m : MethodId} {args : Array Value} {below : List Frame} {meth : Method} {c : Code} {Q : State → Prop} {D : va_G} {B : Nat} {cA : Nat → ClassId} {ad : Nat → Nat} {cc : ByteArray} {nL : Nat} {ret : Option FieldType} {S : List zC} {I : zI} {lv : List (Nat × Value)} {st : List Value} {pc : Nat} (C : zCx p s m args meth c cc nL RX12 ret D B cA ad) {K : zI → Prop} {xa1 : Int32} {xa2 : Int32} {xa3 : Int32} {xa4 : Int32} (hS : zOkM S)  (h : w_M_laysTry xa1 xa2 xa3 xa4 I K) (hR : 0 + 1 ≤ R.frames ∧ 8 + (6 + 11) + (0) ≤ R.locals) (hw : (st.map fun v => v.category).sum ≤ 8) (hd : decode cc pc = .ok (.invokevirtual 426, 3)) (kk : ∀ I2, K I2 → zX p l e R s m args below meth c Q D B cA nL 0 0 S I2 lv st (pc + 3)) : zX p l e R s m args below meth c Q D B cA nL 0 0 S I lv (.int xa4 :: .int xa3 :: .int xa2 :: .int xa1 :: .ref (B + 491) :: st) pc :=
  have hf : 0 ≤ R.cells ∧ 0 ≤ R.slots := ⟨Nat.zero_le _, Nat.zero_le _⟩
  zc_VqV C (ci := 12) (q := (RX12, TX12, 82)) (k := 491) (fs := [none, some (some 492), some (some 493), none, some (some 494), none, some (some 495), none, none, none, some (some 496), some (some 497), some (some 498), some (some 499), some (some 500), none, some (some 501), some (some 502), some (some 503), none, some (some 504), some (some 505), some (some 506), some (some 507), some (some 508), none, some (some 509), some (some 510), some (some 511), some (some 512), some (some 513), some (some 514), some (some 515), some (some 516), some (some 517), some (some 518), none, none, some (some 519), none, some (some 520), none, none, none, some (some 521), some (some 522), some (some 523), some (some 524), some (some 525), some (some 526), some (some 527), none, some (some 528), none, some (some 529), none, some (some 530), some (some 531), some (some 532), none, some (some 533), some (some 534), some (some 535), some (some 536), some (some 537), none, none, none, some (some 538), some (some 539), some (some 540), none, none, none, some (some 541), none, none, some (some 542), some (some 543), some (some 544), none, some (some 545)]) (As := [.int xa1, .int xa2, .int xa3, .int xa4]) (st := st) rfl (hS _ _ zs_491) (c_M_laysTry hS h) (zgV zk_ml_12_426 zk_im_yX12_laysTry zk_se_yX12_laysTry zk_in_12 zk_cd_yX12_laysTry) zsg_yX12_laysTry hR rfl rfl hw hd hf kk
def w_M_inTheWay (a1 : Int32) (I : zI) (K : Int32 → zI → Prop) : Prop :=
  w_M_in a1 0 1 I (fun r_1 => (if r_1 = 0 then (K (-1) I) else (if (I.1 491 8) = 0 then (∀ (P23 : Int32 → zI → Prop), (∀ (v2_2 : Int32) (I_3 : zI), ((if (I_3.1 491 15) ≤ v2_2 then (K (-2) I_3) else (∀ (P33 : Int32 → zI → Prop), (∀ (v3_4 : Int32) (I_5 : zI), ((if (I_5.1 491 15) ≤ (v3_4 + v2_2) then (∀ v2_6, v2_6 = (v2_2 + 1) → P23 v2_6 I_5) else (w_M_laysTry v3_4 v2_2 (-1) (-1) I_5 (fun I_7 => w_M_wrongOf I_7 (fun r_8 I_9 => (if 0 ≤ r_8 then (∀ v3_10, v3_10 = (v3_4 + 1) → P33 v3_10 I_9) else (if a1 = 0 then K v3_4 I_9 else K v2_2 I_9))))))) → P33 v3_4 I_5) → P33 0 I_3))) → P23 v2_2 I_3) → P23 1 I) else (K (-2) I))))
theorem dyX12_inTheWay_0 : decode cX12_inTheWay 0 = .ok (.iload_n 1, 1) := by decide +kernel
theorem dyX12_inTheWay_1 : decode cX12_inTheWay 1 = .ok (.iconst 0, 1) := by decide +kernel
theorem dyX12_inTheWay_2 : decode cX12_inTheWay 2 = .ok (.iconst 1, 1) := by decide +kernel
theorem dyX12_inTheWay_3 : decode cX12_inTheWay 3 = .ok (.invokestatic 286, 3) := by decide +kernel
theorem dyX12_inTheWay_6 : decode cX12_inTheWay 6 = .ok (.ifCond .ne 5, 3) := by decide +kernel
theorem dyX12_inTheWay_9 : decode cX12_inTheWay 9 = .ok (.iconst (-1), 1) := by decide +kernel
theorem dyX12_inTheWay_10 : decode cX12_inTheWay 10 = .ok (.ireturn, 1) := by decide +kernel
theorem dyX12_inTheWay_11 : decode cX12_inTheWay 11 = .ok (.aload_n 0, 1) := by decide +kernel
theorem dyX12_inTheWay_12 : decode cX12_inTheWay 12 = .ok (.getfield 182, 3) := by decide +kernel
theorem dyX12_inTheWay_15 : decode cX12_inTheWay 15 = .ok (.ifCond .eq 6, 3) := by decide +kernel
theorem dyX12_inTheWay_18 : decode cX12_inTheWay 18 = .ok (.bipush (-2), 2) := by decide +kernel
theorem dyX12_inTheWay_20 : decode cX12_inTheWay 20 = .ok (.ireturn, 1) := by decide +kernel
theorem dyX12_inTheWay_21 : decode cX12_inTheWay 21 = .ok (.iconst 1, 1) := by decide +kernel
theorem dyX12_inTheWay_22 : decode cX12_inTheWay 22 = .ok (.istore_n 2, 1) := by decide +kernel
theorem dyX12_inTheWay_23 : decode cX12_inTheWay 23 = .ok (.iload_n 2, 1) := by decide +kernel
theorem dyX12_inTheWay_24 : decode cX12_inTheWay 24 = .ok (.aload_n 0, 1) := by decide +kernel
theorem dyX12_inTheWay_25 : decode cX12_inTheWay 25 = .ok (.getfield 235, 3) := by decide +kernel
theorem dyX12_inTheWay_28 : decode cX12_inTheWay 28 = .ok (.if_icmp .ge 52, 3) := by decide +kernel
theorem dyX12_inTheWay_31 : decode cX12_inTheWay 31 = .ok (.iconst 0, 1) := by decide +kernel
theorem dyX12_inTheWay_32 : decode cX12_inTheWay 32 = .ok (.istore_n 3, 1) := by decide +kernel
theorem dyX12_inTheWay_33 : decode cX12_inTheWay 33 = .ok (.iload_n 3, 1) := by decide +kernel
theorem dyX12_inTheWay_34 : decode cX12_inTheWay 34 = .ok (.iload_n 2, 1) := by decide +kernel
theorem dyX12_inTheWay_35 : decode cX12_inTheWay 35 = .ok (.iadd, 1) := by decide +kernel
theorem dyX12_inTheWay_36 : decode cX12_inTheWay 36 = .ok (.aload_n 0, 1) := by decide +kernel
theorem dyX12_inTheWay_37 : decode cX12_inTheWay 37 = .ok (.getfield 235, 3) := by decide +kernel
theorem dyX12_inTheWay_40 : decode cX12_inTheWay 40 = .ok (.if_icmp .ge 34, 3) := by decide +kernel
theorem dyX12_inTheWay_43 : decode cX12_inTheWay 43 = .ok (.aload_n 0, 1) := by decide +kernel
theorem dyX12_inTheWay_44 : decode cX12_inTheWay 44 = .ok (.iload_n 3, 1) := by decide +kernel
theorem dyX12_inTheWay_45 : decode cX12_inTheWay 45 = .ok (.iload_n 2, 1) := by decide +kernel
theorem dyX12_inTheWay_46 : decode cX12_inTheWay 46 = .ok (.iconst (-1), 1) := by decide +kernel
theorem dyX12_inTheWay_47 : decode cX12_inTheWay 47 = .ok (.iconst (-1), 1) := by decide +kernel
theorem dyX12_inTheWay_48 : decode cX12_inTheWay 48 = .ok (.invokevirtual 426, 3) := by decide +kernel
theorem dyX12_inTheWay_51 : decode cX12_inTheWay 51 = .ok (.aload_n 0, 1) := by decide +kernel
theorem dyX12_inTheWay_52 : decode cX12_inTheWay 52 = .ok (.invokevirtual 423, 3) := by decide +kernel
theorem dyX12_inTheWay_55 : decode cX12_inTheWay 55 = .ok (.ifCond .ge 13, 3) := by decide +kernel
theorem dyX12_inTheWay_58 : decode cX12_inTheWay 58 = .ok (.iload_n 1, 1) := by decide +kernel
theorem dyX12_inTheWay_59 : decode cX12_inTheWay 59 = .ok (.ifCond .ne 7, 3) := by decide +kernel
theorem dyX12_inTheWay_62 : decode cX12_inTheWay 62 = .ok (.iload_n 3, 1) := by decide +kernel
theorem dyX12_inTheWay_63 : decode cX12_inTheWay 63 = .ok (.goto 4, 3) := by decide +kernel
theorem dyX12_inTheWay_66 : decode cX12_inTheWay 66 = .ok (.iload_n 2, 1) := by decide +kernel
theorem dyX12_inTheWay_67 : decode cX12_inTheWay 67 = .ok (.ireturn, 1) := by decide +kernel
theorem dyX12_inTheWay_68 : decode cX12_inTheWay 68 = .ok (.iinc 3 1, 3) := by decide +kernel
theorem dyX12_inTheWay_71 : decode cX12_inTheWay 71 = .ok (.goto (-38), 3) := by decide +kernel
theorem dyX12_inTheWay_74 : decode cX12_inTheWay 74 = .ok (.iinc 2 1, 3) := by decide +kernel
theorem dyX12_inTheWay_77 : decode cX12_inTheWay 77 = .ok (.goto (-54), 3) := by decide +kernel
theorem dyX12_inTheWay_80 : decode cX12_inTheWay 80 = .ok (.bipush (-2), 2) := by decide +kernel
theorem dyX12_inTheWay_82 : decode cX12_inTheWay 82 = .ok (.ireturn, 1) := by decide +kernel
theorem zsg_yX12_inTheWay : yX12_inTheWay.cls = RX12 ∧ yX12_inTheWay.cls ≠ "java/lang/invoke/MethodHandle" ∧ yX12_inTheWay.cls ≠ "java/lang/invoke/VarHandle" ∧ (parseMethodDescriptor yX12_inTheWay.desc).map (fun d => d.parameters.length) = some 1 := by decide +kernel
set_option maxRecDepth 20000 in
theorem c_M_inTheWay {l : Launch} {D : va_G} {B : Nat} {cA : Nat → ClassId} {ad : Nat → Nat} {S : List zC} (hS : zOkM S) {a1 : Int32} {I : zI} {K : Int32 → zI → Prop}  (h : w_M_inTheWay a1 I K) : Met l yX12_inTheWay (zws yX12_inTheWay cX12_inTheWay 4 (some .int)) (zrm 3 66) (zPc D B cA ad [.ref (B + 491), .int a1] S I) (zQc D B cA (zqI S K)) 0 0 (fun q => B ≤ q) := by
  refine zm_of (cc := cX12_inTheWay) (maxL := 4) (ret := (some .int)) (by decide +kernel) rfl (Nat.le_of_ble_eq_true rfl) trivial ?_
  intro p e s m args below meth c C _
  unfold w_M_inTheWay at h
  show zX p l e (zrm 3 66) s m args below meth c (MQ below (zQc D B cA (zqI S K)) args s 0 0 (fun q => B ≤ q)) D B cA 4 0 0 S I [(0, .ref (B + 491)), (1, .int a1)] [] 0
  refine zr_iload_n C dyX12_inTheWay_0 rfl 1 rfl ?_
  refine zr_iconst C dyX12_inTheWay_1 zc_i_0 ?_
  refine zr_iconst C dyX12_inTheWay_2 zc_i_1 ?_
  refine zv_12_286 C hS (st := []) h ⟨Nat.le_of_ble_eq_true rfl, Nat.le_of_ble_eq_true rfl⟩ (Nat.le_of_ble_eq_true rfl) dyX12_inTheWay_3 (fun r_1 h => ?_)
  refine zr_if_ne C dyX12_inTheWay_6 (tgt := 11) (by decide) (fun hc_16 => ?_) (fun hc_16 => ?_)
  · replace h := zif_neg hc_16 h
    refine zr_aload_n C dyX12_inTheWay_11 rfl 0 rfl ?_
    refine zg_12_182 C hS dyX12_inTheWay_12 ?_
    refine zr_if_eq C dyX12_inTheWay_15 (tgt := 21) (by decide) (fun hc_15 => ?_) (fun hc_15 => ?_)
    · replace h := zif_pos hc_15 h
      refine zr_iconst C dyX12_inTheWay_21 zc_i_1 ?_
      refine zr_istore_n C dyX12_inTheWay_22 rfl (Nat.le_of_ble_eq_true rfl) (lv2 := [(2, .int 1), (0, .ref (B + 491)), (1, .int a1)]) rfl ?_
      refine zjn (h (fun (v2_2 : Int32) (I_3 : zI) => zX p l e (zrm 3 66) s m args below meth c (MQ below (zQc D B cA (zqI S K)) args s 0 0 (fun q => B ≤ q)) D B cA 4 0 0 S I_3 [(2, .int v2_2), (0, .ref (B + 491)), (1, .int a1)] [] 23) (fun v2_2 I_3 h => ?_)) (fun h => ?_)
      · refine zr_iload_n C dyX12_inTheWay_23 rfl 0 rfl ?_
        refine zr_aload_n C dyX12_inTheWay_24 rfl 1 rfl ?_
        refine zg_12_235 C hS dyX12_inTheWay_25 ?_
        refine zr_icmp_ge C dyX12_inTheWay_28 (tgt := 80) (by decide) (fun hc_14 => ?_) (fun hc_14 => ?_)
        · replace h := zif_pos hc_14 h
          refine zr_bipush C dyX12_inTheWay_80 zc_b_m2 ?_
          exact zr_iret C rfl dyX12_inTheWay_82 ⟨rfl, _, rfl, h⟩
        · replace h := zif_neg hc_14 h
          refine zr_iconst C dyX12_inTheWay_31 zc_i_0 ?_
          refine zr_istore_n C dyX12_inTheWay_32 rfl (Nat.le_of_ble_eq_true rfl) (lv2 := [(3, .int 0), (2, .int v2_2), (0, .ref (B + 491)), (1, .int a1)]) rfl ?_
          refine zjn (h (fun (v3_4 : Int32) (I_5 : zI) => zX p l e (zrm 3 66) s m args below meth c (MQ below (zQc D B cA (zqI S K)) args s 0 0 (fun q => B ≤ q)) D B cA 4 0 0 S I_5 [(3, .int v3_4), (2, .int v2_2), (0, .ref (B + 491)), (1, .int a1)] [] 33) (fun v3_4 I_5 h => ?_)) (fun h => ?_)
          · refine zr_iload_n C dyX12_inTheWay_33 rfl 0 rfl ?_
            refine zr_iload_n C dyX12_inTheWay_34 rfl 1 rfl ?_
            refine zr_iadd C dyX12_inTheWay_35 ?_
            refine zr_aload_n C dyX12_inTheWay_36 rfl 2 rfl ?_
            refine zg_12_235 C hS dyX12_inTheWay_37 ?_
            refine zr_icmp_ge C dyX12_inTheWay_40 (tgt := 74) (by decide) (fun hc_13 => ?_) (fun hc_13 => ?_)
            · replace h := zif_pos hc_13 h
              refine zn_iinc C (fun v2_6 => [(2, .int v2_6), (3, .int v3_4), (0, .ref (B + 491)), (1, .int a1)]) dyX12_inTheWay_74 1 rfl zc_i_1 (Nat.le_of_ble_eq_true rfl) (fun _ => rfl) (fun v2_6 ev2_6 => ?_)
              replace h := h v2_6 ev2_6
              refine zr_goto C dyX12_inTheWay_77 (tgt := 23) (by decide) ?_
              refine zr_sub (lv2 := [(2, .int v2_6), (0, .ref (B + 491)), (1, .int a1)]) [0, 2, 3] rfl ?_
              exact h
            · replace h := zif_neg hc_13 h
              refine zr_aload_n C dyX12_inTheWay_43 rfl 2 rfl ?_
              refine zr_iload_n C dyX12_inTheWay_44 rfl 0 rfl ?_
              refine zr_iload_n C dyX12_inTheWay_45 rfl 1 rfl ?_
              refine zr_iconst C dyX12_inTheWay_46 zc_i_m1 ?_
              refine zr_iconst C dyX12_inTheWay_47 zc_i_m1 ?_
              refine zv_12_426 C hS (st := []) h ⟨Nat.le_of_ble_eq_true rfl, Nat.le_of_ble_eq_true rfl⟩ (Nat.le_of_ble_eq_true rfl) dyX12_inTheWay_48 (fun I_7 h => ?_)
              refine zr_aload_n C dyX12_inTheWay_51 rfl 2 rfl ?_
              refine zv_12_423 C hS (st := []) h ⟨Nat.le_of_ble_eq_true rfl, Nat.le_of_ble_eq_true rfl⟩ (Nat.le_of_ble_eq_true rfl) dyX12_inTheWay_52 (fun r_8 I_9 h => ?_)
              refine zr_if_ge C dyX12_inTheWay_55 (tgt := 68) (by decide) (fun hc_12 => ?_) (fun hc_12 => ?_)
              · replace h := zif_pos hc_12 h
                refine zn_iinc C (fun v3_10 => [(3, .int v3_10), (2, .int v2_2), (0, .ref (B + 491)), (1, .int a1)]) dyX12_inTheWay_68 0 rfl zc_i_1 (Nat.le_of_ble_eq_true rfl) (fun _ => rfl) (fun v3_10 ev3_10 => ?_)
                replace h := h v3_10 ev3_10
                refine zr_goto C dyX12_inTheWay_71 (tgt := 33) (by decide) ?_
                exact h
              · replace h := zif_neg hc_12 h
                refine zr_iload_n C dyX12_inTheWay_58 rfl 3 rfl ?_
                refine zr_if_ne C dyX12_inTheWay_59 (tgt := 66) (by decide) (fun hc_11 => ?_) (fun hc_11 => ?_)
                · replace h := zif_neg hc_11 h
                  refine zr_iload_n C dyX12_inTheWay_66 rfl 1 rfl ?_
                  exact zr_iret C rfl dyX12_inTheWay_67 ⟨rfl, _, rfl, h⟩
                · replace h := zif_pos hc_11 h
                  refine zr_iload_n C dyX12_inTheWay_62 rfl 0 rfl ?_
                  refine zr_goto C dyX12_inTheWay_63 (tgt := 67) (by decide) ?_
                  exact zr_iret C rfl dyX12_inTheWay_67 ⟨rfl, _, rfl, h⟩
          exact h
      exact h
    · replace h := zif_neg hc_15 h
      refine zr_bipush C dyX12_inTheWay_18 zc_b_m2 ?_
      exact zr_iret C rfl dyX12_inTheWay_20 ⟨rfl, _, rfl, h⟩
  · replace h := zif_pos hc_16 h
    refine zr_iconst C dyX12_inTheWay_9 zc_i_m1 ?_
    exact zr_iret C rfl dyX12_inTheWay_10 ⟨rfl, _, rfl, h⟩
def w_M_expected  (I : zI) (K : Int32 → zI → Prop) : Prop :=
  (if (I.1 491 8) = 0 then (w_M_laysTry (-1) 0 (-1) (-1) I (fun I_1 => w_M_wrongOf I_1 (fun r_2 I_3 => ∀ (P27 : Int32 → Int32 → zI → Prop), (∀ (v2_4 : Int32) (v3_5 : Int32) (I_6 : zI), ((if 11 ≤ v3_5 then K v2_4 I_6 else (w_M_laysTry (-1) 0 (-1) (-1) I_6 (fun I_7 => vp_in r_2 120 ∧ (∀ I_8, I_8 = (zu I_7 520 (Int32.toNatClampNeg r_2) v3_5) → ∀ (P64 : zI → Prop), (∀ (I_9 : zI), (w_M_wrongOf I_9 (fun r_10 I_11 => ∀ (P96 : Int32 → Prop), (∀ (v2_12 : Int32), (∀ v3_13, v3_13 = (v3_5 + 1) → P27 v2_12 v3_13 I_11) → P96 v2_12) → ∀ (P90 : Prop), ((∀ v2_14, v2_14 = (v2_4 ||| (1 <<< (v3_5 &&& 31))) → P96 v2_14) → P90) → (if v3_5 = 10 then (if 0 ≤ r_10 then P96 v2_4 else P90) else (if r_10 ≤ r_2 then P96 v2_4 else P90)))) → P64 I_9) → (if v3_5 = 10 then P64 I_8 else (vp_in (r_2 + 1) 120 ∧ (∀ I_18, I_18 = (zu I_8 520 (Int32.toNatClampNeg (r_2 + 1)) 11) → P64 I_18)))))))) → P27 v2_4 v3_5 I_6) → P27 0 0 I_3))) else (K (-2) I))
theorem dyX12_expected_0 : decode cX12_expected 0 = .ok (.aload_n 0, 1) := by decide +kernel
theorem dyX12_expected_1 : decode cX12_expected 1 = .ok (.getfield 182, 3) := by decide +kernel
theorem dyX12_expected_4 : decode cX12_expected 4 = .ok (.ifCond .eq 6, 3) := by decide +kernel
theorem dyX12_expected_7 : decode cX12_expected 7 = .ok (.bipush (-2), 2) := by decide +kernel
theorem dyX12_expected_9 : decode cX12_expected 9 = .ok (.ireturn, 1) := by decide +kernel
theorem dyX12_expected_10 : decode cX12_expected 10 = .ok (.aload_n 0, 1) := by decide +kernel
theorem dyX12_expected_11 : decode cX12_expected 11 = .ok (.iconst (-1), 1) := by decide +kernel
theorem dyX12_expected_12 : decode cX12_expected 12 = .ok (.iconst 0, 1) := by decide +kernel
theorem dyX12_expected_13 : decode cX12_expected 13 = .ok (.iconst (-1), 1) := by decide +kernel
theorem dyX12_expected_14 : decode cX12_expected 14 = .ok (.iconst (-1), 1) := by decide +kernel
theorem dyX12_expected_15 : decode cX12_expected 15 = .ok (.invokevirtual 426, 3) := by decide +kernel
theorem dyX12_expected_18 : decode cX12_expected 18 = .ok (.aload_n 0, 1) := by decide +kernel
theorem dyX12_expected_19 : decode cX12_expected 19 = .ok (.invokevirtual 423, 3) := by decide +kernel
theorem dyX12_expected_22 : decode cX12_expected 22 = .ok (.istore_n 1, 1) := by decide +kernel
theorem dyX12_expected_23 : decode cX12_expected 23 = .ok (.iconst 0, 1) := by decide +kernel
theorem dyX12_expected_24 : decode cX12_expected 24 = .ok (.istore_n 2, 1) := by decide +kernel
theorem dyX12_expected_25 : decode cX12_expected 25 = .ok (.iconst 0, 1) := by decide +kernel
theorem dyX12_expected_26 : decode cX12_expected 26 = .ok (.istore_n 3, 1) := by decide +kernel
theorem dyX12_expected_27 : decode cX12_expected 27 = .ok (.iload_n 3, 1) := by decide +kernel
theorem dyX12_expected_28 : decode cX12_expected 28 = .ok (.bipush 11, 2) := by decide +kernel
theorem dyX12_expected_30 : decode cX12_expected 30 = .ok (.if_icmp .ge 72, 3) := by decide +kernel
theorem dyX12_expected_33 : decode cX12_expected 33 = .ok (.aload_n 0, 1) := by decide +kernel
theorem dyX12_expected_34 : decode cX12_expected 34 = .ok (.iconst (-1), 1) := by decide +kernel
theorem dyX12_expected_35 : decode cX12_expected 35 = .ok (.iconst 0, 1) := by decide +kernel
theorem dyX12_expected_36 : decode cX12_expected 36 = .ok (.iconst (-1), 1) := by decide +kernel
theorem dyX12_expected_37 : decode cX12_expected 37 = .ok (.iconst (-1), 1) := by decide +kernel
theorem dyX12_expected_38 : decode cX12_expected 38 = .ok (.invokevirtual 426, 3) := by decide +kernel
theorem dyX12_expected_41 : decode cX12_expected 41 = .ok (.aload_n 0, 1) := by decide +kernel
theorem dyX12_expected_42 : decode cX12_expected 42 = .ok (.getfield 96, 3) := by decide +kernel
theorem dyX12_expected_45 : decode cX12_expected 45 = .ok (.iload_n 1, 1) := by decide +kernel
theorem dyX12_expected_46 : decode cX12_expected 46 = .ok (.iload_n 3, 1) := by decide +kernel
theorem dyX12_expected_47 : decode cX12_expected 47 = .ok (.iastore, 1) := by decide +kernel
theorem dyX12_expected_48 : decode cX12_expected 48 = .ok (.iload_n 3, 1) := by decide +kernel
theorem dyX12_expected_49 : decode cX12_expected 49 = .ok (.bipush 10, 2) := by decide +kernel
theorem dyX12_expected_51 : decode cX12_expected 51 = .ok (.if_icmp .eq 13, 3) := by decide +kernel
theorem dyX12_expected_54 : decode cX12_expected 54 = .ok (.aload_n 0, 1) := by decide +kernel
theorem dyX12_expected_55 : decode cX12_expected 55 = .ok (.getfield 96, 3) := by decide +kernel
theorem dyX12_expected_58 : decode cX12_expected 58 = .ok (.iload_n 1, 1) := by decide +kernel
theorem dyX12_expected_59 : decode cX12_expected 59 = .ok (.iconst 1, 1) := by decide +kernel
theorem dyX12_expected_60 : decode cX12_expected 60 = .ok (.iadd, 1) := by decide +kernel
theorem dyX12_expected_61 : decode cX12_expected 61 = .ok (.bipush 11, 2) := by decide +kernel
theorem dyX12_expected_63 : decode cX12_expected 63 = .ok (.iastore, 1) := by decide +kernel
theorem dyX12_expected_64 : decode cX12_expected 64 = .ok (.aload_n 0, 1) := by decide +kernel
theorem dyX12_expected_65 : decode cX12_expected 65 = .ok (.invokevirtual 423, 3) := by decide +kernel
theorem dyX12_expected_68 : decode cX12_expected 68 = .ok (.istore 4, 2) := by decide +kernel
theorem dyX12_expected_70 : decode cX12_expected 70 = .ok (.iload_n 3, 1) := by decide +kernel
theorem dyX12_expected_71 : decode cX12_expected 71 = .ok (.bipush 10, 2) := by decide +kernel
theorem dyX12_expected_73 : decode cX12_expected 73 = .ok (.if_icmp .ne 11, 3) := by decide +kernel
theorem dyX12_expected_76 : decode cX12_expected 76 = .ok (.iload 4, 2) := by decide +kernel
theorem dyX12_expected_78 : decode cX12_expected 78 = .ok (.ifCond .ge 18, 3) := by decide +kernel
theorem dyX12_expected_81 : decode cX12_expected 81 = .ok (.goto 9, 3) := by decide +kernel
theorem dyX12_expected_84 : decode cX12_expected 84 = .ok (.iload 4, 2) := by decide +kernel
theorem dyX12_expected_86 : decode cX12_expected 86 = .ok (.iload_n 1, 1) := by decide +kernel
theorem dyX12_expected_87 : decode cX12_expected 87 = .ok (.if_icmp .le 9, 3) := by decide +kernel
theorem dyX12_expected_90 : decode cX12_expected 90 = .ok (.iload_n 2, 1) := by decide +kernel
theorem dyX12_expected_91 : decode cX12_expected 91 = .ok (.iconst 1, 1) := by decide +kernel
theorem dyX12_expected_92 : decode cX12_expected 92 = .ok (.iload_n 3, 1) := by decide +kernel
theorem dyX12_expected_93 : decode cX12_expected 93 = .ok (.ishl, 1) := by decide +kernel
theorem dyX12_expected_94 : decode cX12_expected 94 = .ok (.ior, 1) := by decide +kernel
theorem dyX12_expected_95 : decode cX12_expected 95 = .ok (.istore_n 2, 1) := by decide +kernel
theorem dyX12_expected_96 : decode cX12_expected 96 = .ok (.iinc 3 1, 3) := by decide +kernel
theorem dyX12_expected_99 : decode cX12_expected 99 = .ok (.goto (-72), 3) := by decide +kernel
theorem dyX12_expected_102 : decode cX12_expected 102 = .ok (.iload_n 2, 1) := by decide +kernel
theorem dyX12_expected_103 : decode cX12_expected 103 = .ok (.ireturn, 1) := by decide +kernel
theorem zsg_yX12_expected : yX12_expected.cls = RX12 ∧ yX12_expected.cls ≠ "java/lang/invoke/MethodHandle" ∧ yX12_expected.cls ≠ "java/lang/invoke/VarHandle" ∧ (parseMethodDescriptor yX12_expected.desc).map (fun d => d.parameters.length) = some 0 := by decide +kernel
set_option maxRecDepth 20000 in
theorem c_M_expected {l : Launch} {D : va_G} {B : Nat} {cA : Nat → ClassId} {ad : Nat → Nat} {S : List zC} (hS : zOkM S)  {I : zI} {K : Int32 → zI → Prop}  (h : w_M_expected  I K) : Met l yX12_expected (zws yX12_expected cX12_expected 5 (some .int)) (zrm 3 66) (zPc D B cA ad [.ref (B + 491)] S I) (zQc D B cA (zqI S K)) 0 0 (fun q => B ≤ q) := by
  refine zm_of (cc := cX12_expected) (maxL := 5) (ret := (some .int)) (by decide +kernel) rfl (Nat.le_of_ble_eq_true rfl) trivial ?_
  intro p e s m args below meth c C _
  unfold w_M_expected at h
  show zX p l e (zrm 3 66) s m args below meth c (MQ below (zQc D B cA (zqI S K)) args s 0 0 (fun q => B ≤ q)) D B cA 5 0 0 S I [(0, .ref (B + 491))] [] 0
  refine zr_aload_n C dyX12_expected_0 rfl 0 rfl ?_
  refine zg_12_182 C hS dyX12_expected_1 ?_
  refine zr_if_eq C dyX12_expected_4 (tgt := 10) (by decide) (fun hc_21 => ?_) (fun hc_21 => ?_)
  · replace h := zif_pos hc_21 h
    refine zr_aload_n C dyX12_expected_10 rfl 0 rfl ?_
    refine zr_iconst C dyX12_expected_11 zc_i_m1 ?_
    refine zr_iconst C dyX12_expected_12 zc_i_0 ?_
    refine zr_iconst C dyX12_expected_13 zc_i_m1 ?_
    refine zr_iconst C dyX12_expected_14 zc_i_m1 ?_
    refine zv_12_426 C hS (st := []) h ⟨Nat.le_of_ble_eq_true rfl, Nat.le_of_ble_eq_true rfl⟩ (Nat.le_of_ble_eq_true rfl) dyX12_expected_15 (fun I_1 h => ?_)
    refine zr_aload_n C dyX12_expected_18 rfl 0 rfl ?_
    refine zv_12_423 C hS (st := []) h ⟨Nat.le_of_ble_eq_true rfl, Nat.le_of_ble_eq_true rfl⟩ (Nat.le_of_ble_eq_true rfl) dyX12_expected_19 (fun r_2 I_3 h => ?_)
    refine zr_istore_n C dyX12_expected_22 rfl (Nat.le_of_ble_eq_true rfl) (lv2 := [(1, .int r_2), (0, .ref (B + 491))]) rfl ?_
    refine zr_iconst C dyX12_expected_23 zc_i_0 ?_
    refine zr_istore_n C dyX12_expected_24 rfl (Nat.le_of_ble_eq_true rfl) (lv2 := [(2, .int 0), (1, .int r_2), (0, .ref (B + 491))]) rfl ?_
    refine zr_iconst C dyX12_expected_25 zc_i_0 ?_
    refine zr_istore_n C dyX12_expected_26 rfl (Nat.le_of_ble_eq_true rfl) (lv2 := [(3, .int 0), (2, .int 0), (1, .int r_2), (0, .ref (B + 491))]) rfl ?_
    refine zjn (h (fun (v2_4 : Int32) (v3_5 : Int32) (I_6 : zI) => zX p l e (zrm 3 66) s m args below meth c (MQ below (zQc D B cA (zqI S K)) args s 0 0 (fun q => B ≤ q)) D B cA 5 0 0 S I_6 [(3, .int v3_5), (2, .int v2_4), (1, .int r_2), (0, .ref (B + 491))] [] 27) (fun v2_4 v3_5 I_6 h => ?_)) (fun h => ?_)
    · refine zr_iload_n C dyX12_expected_27 rfl 0 rfl ?_
      refine zr_bipush C dyX12_expected_28 zc_b_11 ?_
      refine zr_icmp_ge C dyX12_expected_30 (tgt := 102) (by decide) (fun hc_20 => ?_) (fun hc_20 => ?_)
      · replace h := zif_pos hc_20 h
        refine zr_iload_n C dyX12_expected_102 rfl 1 rfl ?_
        exact zr_iret C rfl dyX12_expected_103 ⟨rfl, _, rfl, h⟩
      · replace h := zif_neg hc_20 h
        refine zr_aload_n C dyX12_expected_33 rfl 3 rfl ?_
        refine zr_iconst C dyX12_expected_34 zc_i_m1 ?_
        refine zr_iconst C dyX12_expected_35 zc_i_0 ?_
        refine zr_iconst C dyX12_expected_36 zc_i_m1 ?_
        refine zr_iconst C dyX12_expected_37 zc_i_m1 ?_
        refine zv_12_426 C hS (st := []) h ⟨Nat.le_of_ble_eq_true rfl, Nat.le_of_ble_eq_true rfl⟩ (Nat.le_of_ble_eq_true rfl) dyX12_expected_38 (fun I_7 h => ?_)
        refine zr_aload_n C dyX12_expected_41 rfl 3 rfl ?_
        refine zg_12_96 C hS dyX12_expected_42 ?_
        refine zr_iload_n C dyX12_expected_45 rfl 2 rfl ?_
        refine zr_iload_n C dyX12_expected_46 rfl 0 rfl ?_
        refine zr_iast C (hS _ _ zs_520) h.1 dyX12_expected_47 ?_
        replace h := h.2
        refine zn_mem C (fun I_8 eI_8 => ?_)
        replace h := h I_8 eI_8
        refine zr_iload_n C dyX12_expected_48 rfl 0 rfl ?_
        refine zr_bipush C dyX12_expected_49 zc_b_10 ?_
        refine zjn (h (fun (I_9 : zI) => zX p l e (zrm 3 66) s m args below meth c (MQ below (zQc D B cA (zqI S K)) args s 0 0 (fun q => B ≤ q)) D B cA 5 0 0 S I_9 [(3, .int v3_5), (2, .int v2_4), (1, .int r_2), (0, .ref (B + 491))] [] 64) (fun I_9 h => ?_)) (fun h => ?_)
        · refine zr_aload_n C dyX12_expected_64 rfl 3 rfl ?_
          refine zv_12_423 C hS (st := []) h ⟨Nat.le_of_ble_eq_true rfl, Nat.le_of_ble_eq_true rfl⟩ (Nat.le_of_ble_eq_true rfl) dyX12_expected_65 (fun r_10 I_11 h => ?_)
          refine zr_istore C dyX12_expected_68 (Nat.le_of_ble_eq_true rfl) (lv2 := [(4, .int r_10), (3, .int v3_5), (2, .int v2_4), (1, .int r_2), (0, .ref (B + 491))]) rfl ?_
          refine zr_iload_n C dyX12_expected_70 rfl 1 rfl ?_
          refine zr_bipush C dyX12_expected_71 zc_b_10 ?_
          refine zjn (h (fun (v2_12 : Int32) => zX p l e (zrm 3 66) s m args below meth c (MQ below (zQc D B cA (zqI S K)) args s 0 0 (fun q => B ≤ q)) D B cA 5 0 0 S I_11 [(3, .int v3_5), (2, .int v2_12), (1, .int r_2), (0, .ref (B + 491))] [] 96) (fun v2_12 h => ?_)) (fun h => ?_)
          · refine zn_iinc C (fun v3_13 => [(3, .int v3_13), (2, .int v2_12), (1, .int r_2), (0, .ref (B + 491))]) dyX12_expected_96 0 rfl zc_i_1 (Nat.le_of_ble_eq_true rfl) (fun _ => rfl) (fun v3_13 ev3_13 => ?_)
            replace h := h v3_13 ev3_13
            refine zr_goto C dyX12_expected_99 (tgt := 27) (by decide) ?_
            exact h
          refine zjn (h (zX p l e (zrm 3 66) s m args below meth c (MQ below (zQc D B cA (zqI S K)) args s 0 0 (fun q => B ≤ q)) D B cA 5 0 0 S I_11 [(3, .int v3_5), (2, .int v2_4), (1, .int r_2), (0, .ref (B + 491))] [] 90) (fun  h => ?_)) (fun h => ?_)
          · refine zr_iload_n C dyX12_expected_90 rfl 1 rfl ?_
            refine zr_iconst C dyX12_expected_91 zc_i_1 ?_
            refine zr_iload_n C dyX12_expected_92 rfl 0 rfl ?_
            refine zr_ishl C dyX12_expected_93 ?_
            refine zr_ior C dyX12_expected_94 ?_
            refine zn_istore_n C (fun v2_14 => [(2, .int v2_14), (3, .int v3_5), (1, .int r_2), (0, .ref (B + 491))]) dyX12_expected_95 rfl (Nat.le_of_ble_eq_true rfl) (fun _ => rfl) (fun v2_14 ev2_14 => ?_)
            replace h := h v2_14 ev2_14
            refine zr_sub (lv2 := [(3, .int v3_5), (2, .int v2_14), (1, .int r_2), (0, .ref (B + 491))]) [1, 0, 2, 3] rfl ?_
            exact h
          refine zr_icmp_ne C dyX12_expected_73 (tgt := 84) (by decide) (fun hc_17 => ?_) (fun hc_17 => ?_)
          · replace h := zif_neg hc_17 h
            refine zr_iload C dyX12_expected_84 0 rfl ?_
            refine zr_iload_n C dyX12_expected_86 rfl 3 rfl ?_
            refine zr_icmp_le C dyX12_expected_87 (tgt := 96) (by decide) (fun hc_15 => ?_) (fun hc_15 => ?_)
            · replace h := zif_pos hc_15 h
              refine zr_sub (lv2 := [(3, .int v3_5), (2, .int v2_4), (1, .int r_2), (0, .ref (B + 491))]) [1, 2, 3, 4] rfl ?_
              exact h
            · replace h := zif_neg hc_15 h
              refine zr_sub (lv2 := [(3, .int v3_5), (2, .int v2_4), (1, .int r_2), (0, .ref (B + 491))]) [1, 2, 3, 4] rfl ?_
              exact h
          · replace h := zif_pos hc_17 h
            refine zr_iload C dyX12_expected_76 0 rfl ?_
            refine zr_if_ge C dyX12_expected_78 (tgt := 96) (by decide) (fun hc_16 => ?_) (fun hc_16 => ?_)
            · replace h := zif_pos hc_16 h
              refine zr_sub (lv2 := [(3, .int v3_5), (2, .int v2_4), (1, .int r_2), (0, .ref (B + 491))]) [1, 2, 3, 4] rfl ?_
              exact h
            · replace h := zif_neg hc_16 h
              refine zr_goto C dyX12_expected_81 (tgt := 90) (by decide) ?_
              refine zr_sub (lv2 := [(3, .int v3_5), (2, .int v2_4), (1, .int r_2), (0, .ref (B + 491))]) [1, 2, 3, 4] rfl ?_
              exact h
        refine zr_icmp_eq C dyX12_expected_51 (tgt := 64) (by decide) (fun hc_19 => ?_) (fun hc_19 => ?_)
        · replace h := zif_pos hc_19 h
          exact h
        · replace h := zif_neg hc_19 h
          refine zr_aload_n C dyX12_expected_54 rfl 3 rfl ?_
          refine zg_12_96 C hS dyX12_expected_55 ?_
          refine zr_iload_n C dyX12_expected_58 rfl 2 rfl ?_
          refine zr_iconst C dyX12_expected_59 zc_i_1 ?_
          refine zr_iadd C dyX12_expected_60 ?_
          refine zr_bipush C dyX12_expected_61 zc_b_11 ?_
          refine zr_iast C (hS _ _ zs_520) h.1 dyX12_expected_63 ?_
          replace h := h.2
          refine zn_mem C (fun I_18 eI_18 => ?_)
          replace h := h I_18 eI_18
          exact h
    exact h
  · replace h := zif_neg hc_21 h
    refine zr_bipush C dyX12_expected_7 zc_b_m2 ?_
    exact zr_iret C rfl dyX12_expected_9 ⟨rfl, _, rfl, h⟩
def w_M_mend (a1 : Int32) (I : zI) (K : Int32 → zI → Prop) : Prop :=
  w_M_in a1 0 1 I (fun r_1 => (if r_1 = 0 then (K (-1) I) else (if (I.1 491 8) = 0 then (∀ (P23 : Int32 → zI → Prop), (∀ (v2_2 : Int32) (I_3 : zI), ((if (I_3.1 491 15) ≤ v2_2 then (K (-2) I_3) else (∀ (P33 : Int32 → zI → Prop), (∀ (v3_4 : Int32) (I_5 : zI), ((if 10 ≤ v3_4 then (∀ v2_6, v2_6 = (v2_2 + 1) → P23 v2_6 I_5) else (w_M_laysTry (-1) 0 v2_2 v3_4 I_5 (fun I_7 => w_M_wrongOf I_7 (fun r_8 I_9 => (if 0 ≤ r_8 then (∀ v3_10, v3_10 = (v3_4 + 1) → P33 v3_10 I_9) else (if a1 = 0 then K v2_2 I_9 else K v3_4 I_9))))))) → P33 v3_4 I_5) → P33 0 I_3))) → P23 v2_2 I_3) → P23 0 I) else (K (-2) I))))
theorem dyX12_mend_0 : decode cX12_mend 0 = .ok (.iload_n 1, 1) := by decide +kernel
theorem dyX12_mend_1 : decode cX12_mend 1 = .ok (.iconst 0, 1) := by decide +kernel
theorem dyX12_mend_2 : decode cX12_mend 2 = .ok (.iconst 1, 1) := by decide +kernel
theorem dyX12_mend_3 : decode cX12_mend 3 = .ok (.invokestatic 286, 3) := by decide +kernel
theorem dyX12_mend_6 : decode cX12_mend 6 = .ok (.ifCond .ne 5, 3) := by decide +kernel
theorem dyX12_mend_9 : decode cX12_mend 9 = .ok (.iconst (-1), 1) := by decide +kernel
theorem dyX12_mend_10 : decode cX12_mend 10 = .ok (.ireturn, 1) := by decide +kernel
theorem dyX12_mend_11 : decode cX12_mend 11 = .ok (.aload_n 0, 1) := by decide +kernel
theorem dyX12_mend_12 : decode cX12_mend 12 = .ok (.getfield 182, 3) := by decide +kernel
theorem dyX12_mend_15 : decode cX12_mend 15 = .ok (.ifCond .eq 6, 3) := by decide +kernel
theorem dyX12_mend_18 : decode cX12_mend 18 = .ok (.bipush (-2), 2) := by decide +kernel
theorem dyX12_mend_20 : decode cX12_mend 20 = .ok (.ireturn, 1) := by decide +kernel
theorem dyX12_mend_21 : decode cX12_mend 21 = .ok (.iconst 0, 1) := by decide +kernel
theorem dyX12_mend_22 : decode cX12_mend 22 = .ok (.istore_n 2, 1) := by decide +kernel
theorem dyX12_mend_23 : decode cX12_mend 23 = .ok (.iload_n 2, 1) := by decide +kernel
theorem dyX12_mend_24 : decode cX12_mend 24 = .ok (.aload_n 0, 1) := by decide +kernel
theorem dyX12_mend_25 : decode cX12_mend 25 = .ok (.getfield 235, 3) := by decide +kernel
theorem dyX12_mend_28 : decode cX12_mend 28 = .ok (.if_icmp .ge 48, 3) := by decide +kernel
theorem dyX12_mend_31 : decode cX12_mend 31 = .ok (.iconst 0, 1) := by decide +kernel
theorem dyX12_mend_32 : decode cX12_mend 32 = .ok (.istore_n 3, 1) := by decide +kernel
theorem dyX12_mend_33 : decode cX12_mend 33 = .ok (.iload_n 3, 1) := by decide +kernel
theorem dyX12_mend_34 : decode cX12_mend 34 = .ok (.bipush 10, 2) := by decide +kernel
theorem dyX12_mend_36 : decode cX12_mend 36 = .ok (.if_icmp .ge 34, 3) := by decide +kernel
theorem dyX12_mend_39 : decode cX12_mend 39 = .ok (.aload_n 0, 1) := by decide +kernel
theorem dyX12_mend_40 : decode cX12_mend 40 = .ok (.iconst (-1), 1) := by decide +kernel
theorem dyX12_mend_41 : decode cX12_mend 41 = .ok (.iconst 0, 1) := by decide +kernel
theorem dyX12_mend_42 : decode cX12_mend 42 = .ok (.iload_n 2, 1) := by decide +kernel
theorem dyX12_mend_43 : decode cX12_mend 43 = .ok (.iload_n 3, 1) := by decide +kernel
theorem dyX12_mend_44 : decode cX12_mend 44 = .ok (.invokevirtual 426, 3) := by decide +kernel
theorem dyX12_mend_47 : decode cX12_mend 47 = .ok (.aload_n 0, 1) := by decide +kernel
theorem dyX12_mend_48 : decode cX12_mend 48 = .ok (.invokevirtual 423, 3) := by decide +kernel
theorem dyX12_mend_51 : decode cX12_mend 51 = .ok (.ifCond .ge 13, 3) := by decide +kernel
theorem dyX12_mend_54 : decode cX12_mend 54 = .ok (.iload_n 1, 1) := by decide +kernel
theorem dyX12_mend_55 : decode cX12_mend 55 = .ok (.ifCond .ne 7, 3) := by decide +kernel
theorem dyX12_mend_58 : decode cX12_mend 58 = .ok (.iload_n 2, 1) := by decide +kernel
theorem dyX12_mend_59 : decode cX12_mend 59 = .ok (.goto 4, 3) := by decide +kernel
theorem dyX12_mend_62 : decode cX12_mend 62 = .ok (.iload_n 3, 1) := by decide +kernel
theorem dyX12_mend_63 : decode cX12_mend 63 = .ok (.ireturn, 1) := by decide +kernel
theorem dyX12_mend_64 : decode cX12_mend 64 = .ok (.iinc 3 1, 3) := by decide +kernel
theorem dyX12_mend_67 : decode cX12_mend 67 = .ok (.goto (-34), 3) := by decide +kernel
theorem dyX12_mend_70 : decode cX12_mend 70 = .ok (.iinc 2 1, 3) := by decide +kernel
theorem dyX12_mend_73 : decode cX12_mend 73 = .ok (.goto (-50), 3) := by decide +kernel
theorem dyX12_mend_76 : decode cX12_mend 76 = .ok (.bipush (-2), 2) := by decide +kernel
theorem dyX12_mend_78 : decode cX12_mend 78 = .ok (.ireturn, 1) := by decide +kernel
theorem zsg_yX12_mend : yX12_mend.cls = RX12 ∧ yX12_mend.cls ≠ "java/lang/invoke/MethodHandle" ∧ yX12_mend.cls ≠ "java/lang/invoke/VarHandle" ∧ (parseMethodDescriptor yX12_mend.desc).map (fun d => d.parameters.length) = some 1 := by decide +kernel
set_option maxRecDepth 20000 in
theorem c_M_mend {l : Launch} {D : va_G} {B : Nat} {cA : Nat → ClassId} {ad : Nat → Nat} {S : List zC} (hS : zOkM S) {a1 : Int32} {I : zI} {K : Int32 → zI → Prop}  (h : w_M_mend a1 I K) : Met l yX12_mend (zws yX12_mend cX12_mend 4 (some .int)) (zrm 3 66) (zPc D B cA ad [.ref (B + 491), .int a1] S I) (zQc D B cA (zqI S K)) 0 0 (fun q => B ≤ q) := by
  refine zm_of (cc := cX12_mend) (maxL := 4) (ret := (some .int)) (by decide +kernel) rfl (Nat.le_of_ble_eq_true rfl) trivial ?_
  intro p e s m args below meth c C _
  unfold w_M_mend at h
  show zX p l e (zrm 3 66) s m args below meth c (MQ below (zQc D B cA (zqI S K)) args s 0 0 (fun q => B ≤ q)) D B cA 4 0 0 S I [(0, .ref (B + 491)), (1, .int a1)] [] 0
  refine zr_iload_n C dyX12_mend_0 rfl 1 rfl ?_
  refine zr_iconst C dyX12_mend_1 zc_i_0 ?_
  refine zr_iconst C dyX12_mend_2 zc_i_1 ?_
  refine zv_12_286 C hS (st := []) h ⟨Nat.le_of_ble_eq_true rfl, Nat.le_of_ble_eq_true rfl⟩ (Nat.le_of_ble_eq_true rfl) dyX12_mend_3 (fun r_1 h => ?_)
  refine zr_if_ne C dyX12_mend_6 (tgt := 11) (by decide) (fun hc_16 => ?_) (fun hc_16 => ?_)
  · replace h := zif_neg hc_16 h
    refine zr_aload_n C dyX12_mend_11 rfl 0 rfl ?_
    refine zg_12_182 C hS dyX12_mend_12 ?_
    refine zr_if_eq C dyX12_mend_15 (tgt := 21) (by decide) (fun hc_15 => ?_) (fun hc_15 => ?_)
    · replace h := zif_pos hc_15 h
      refine zr_iconst C dyX12_mend_21 zc_i_0 ?_
      refine zr_istore_n C dyX12_mend_22 rfl (Nat.le_of_ble_eq_true rfl) (lv2 := [(2, .int 0), (0, .ref (B + 491)), (1, .int a1)]) rfl ?_
      refine zjn (h (fun (v2_2 : Int32) (I_3 : zI) => zX p l e (zrm 3 66) s m args below meth c (MQ below (zQc D B cA (zqI S K)) args s 0 0 (fun q => B ≤ q)) D B cA 4 0 0 S I_3 [(2, .int v2_2), (0, .ref (B + 491)), (1, .int a1)] [] 23) (fun v2_2 I_3 h => ?_)) (fun h => ?_)
      · refine zr_iload_n C dyX12_mend_23 rfl 0 rfl ?_
        refine zr_aload_n C dyX12_mend_24 rfl 1 rfl ?_
        refine zg_12_235 C hS dyX12_mend_25 ?_
        refine zr_icmp_ge C dyX12_mend_28 (tgt := 76) (by decide) (fun hc_14 => ?_) (fun hc_14 => ?_)
        · replace h := zif_pos hc_14 h
          refine zr_bipush C dyX12_mend_76 zc_b_m2 ?_
          exact zr_iret C rfl dyX12_mend_78 ⟨rfl, _, rfl, h⟩
        · replace h := zif_neg hc_14 h
          refine zr_iconst C dyX12_mend_31 zc_i_0 ?_
          refine zr_istore_n C dyX12_mend_32 rfl (Nat.le_of_ble_eq_true rfl) (lv2 := [(3, .int 0), (2, .int v2_2), (0, .ref (B + 491)), (1, .int a1)]) rfl ?_
          refine zjn (h (fun (v3_4 : Int32) (I_5 : zI) => zX p l e (zrm 3 66) s m args below meth c (MQ below (zQc D B cA (zqI S K)) args s 0 0 (fun q => B ≤ q)) D B cA 4 0 0 S I_5 [(3, .int v3_4), (2, .int v2_2), (0, .ref (B + 491)), (1, .int a1)] [] 33) (fun v3_4 I_5 h => ?_)) (fun h => ?_)
          · refine zr_iload_n C dyX12_mend_33 rfl 0 rfl ?_
            refine zr_bipush C dyX12_mend_34 zc_b_10 ?_
            refine zr_icmp_ge C dyX12_mend_36 (tgt := 70) (by decide) (fun hc_13 => ?_) (fun hc_13 => ?_)
            · replace h := zif_pos hc_13 h
              refine zn_iinc C (fun v2_6 => [(2, .int v2_6), (3, .int v3_4), (0, .ref (B + 491)), (1, .int a1)]) dyX12_mend_70 1 rfl zc_i_1 (Nat.le_of_ble_eq_true rfl) (fun _ => rfl) (fun v2_6 ev2_6 => ?_)
              replace h := h v2_6 ev2_6
              refine zr_goto C dyX12_mend_73 (tgt := 23) (by decide) ?_
              refine zr_sub (lv2 := [(2, .int v2_6), (0, .ref (B + 491)), (1, .int a1)]) [0, 2, 3] rfl ?_
              exact h
            · replace h := zif_neg hc_13 h
              refine zr_aload_n C dyX12_mend_39 rfl 2 rfl ?_
              refine zr_iconst C dyX12_mend_40 zc_i_m1 ?_
              refine zr_iconst C dyX12_mend_41 zc_i_0 ?_
              refine zr_iload_n C dyX12_mend_42 rfl 1 rfl ?_
              refine zr_iload_n C dyX12_mend_43 rfl 0 rfl ?_
              refine zv_12_426 C hS (st := []) h ⟨Nat.le_of_ble_eq_true rfl, Nat.le_of_ble_eq_true rfl⟩ (Nat.le_of_ble_eq_true rfl) dyX12_mend_44 (fun I_7 h => ?_)
              refine zr_aload_n C dyX12_mend_47 rfl 2 rfl ?_
              refine zv_12_423 C hS (st := []) h ⟨Nat.le_of_ble_eq_true rfl, Nat.le_of_ble_eq_true rfl⟩ (Nat.le_of_ble_eq_true rfl) dyX12_mend_48 (fun r_8 I_9 h => ?_)
              refine zr_if_ge C dyX12_mend_51 (tgt := 64) (by decide) (fun hc_12 => ?_) (fun hc_12 => ?_)
              · replace h := zif_pos hc_12 h
                refine zn_iinc C (fun v3_10 => [(3, .int v3_10), (2, .int v2_2), (0, .ref (B + 491)), (1, .int a1)]) dyX12_mend_64 0 rfl zc_i_1 (Nat.le_of_ble_eq_true rfl) (fun _ => rfl) (fun v3_10 ev3_10 => ?_)
                replace h := h v3_10 ev3_10
                refine zr_goto C dyX12_mend_67 (tgt := 33) (by decide) ?_
                exact h
              · replace h := zif_neg hc_12 h
                refine zr_iload_n C dyX12_mend_54 rfl 3 rfl ?_
                refine zr_if_ne C dyX12_mend_55 (tgt := 62) (by decide) (fun hc_11 => ?_) (fun hc_11 => ?_)
                · replace h := zif_neg hc_11 h
                  refine zr_iload_n C dyX12_mend_62 rfl 0 rfl ?_
                  exact zr_iret C rfl dyX12_mend_63 ⟨rfl, _, rfl, h⟩
                · replace h := zif_pos hc_11 h
                  refine zr_iload_n C dyX12_mend_58 rfl 1 rfl ?_
                  refine zr_goto C dyX12_mend_59 (tgt := 63) (by decide) ?_
                  exact zr_iret C rfl dyX12_mend_63 ⟨rfl, _, rfl, h⟩
          exact h
      exact h
    · replace h := zif_neg hc_15 h
      refine zr_bipush C dyX12_mend_18 zc_b_m2 ?_
      exact zr_iret C rfl dyX12_mend_20 ⟨rfl, _, rfl, h⟩
  · replace h := zif_pos hc_16 h
    refine zr_iconst C dyX12_mend_9 zc_i_m1 ?_
    exact zr_iret C rfl dyX12_mend_10 ⟨rfl, _, rfl, h⟩
theorem zg_12_168 {p : Program} {l : Launch} {e : Env} {R : Room} {s : State} {m : MethodId} {args : Array Value} {below : List Frame} {meth : Method} {c : Code} {Q : State → Prop} {D : va_G} {B : Nat} {cA : Nat → ClassId} {ad : Nat → Nat} {cc : ByteArray} {nL : Nat} {ret : Option FieldType} {S : List zC} {I : zI} {lv : List (Nat × Value)} {st : List Value} {pc : Nat} (C : zCx p s m args meth c cc nL RX12 ret D B cA ad) (hS : zOkM S) (hd : decode cc pc = .ok (.getfield 168, 3)) (kk : zX p l e R s m args below meth c Q D B cA nL 0 0 S I lv (.ref (B + 544) :: st) (pc + 3)) : zX p l e R s m args below meth c Q D B cA nL 0 0 S I lv (.ref (B + 491) :: st) pc :=
  zr_getr C (ci := 12) (Cn := RX12) (T := TX12) (N := 82) (k := 491) (j := 79) (fs := [none, some (some 492), some (some 493), none, some (some 494), none, some (some 495), none, none, none, some (some 496), some (some 497), some (some 498), some (some 499), some (some 500), none, some (some 501), some (some 502), some (some 503), none, some (some 504), some (some 505), some (some 506), some (some 507), some (some 508), none, some (some 509), some (some 510), some (some 511), some (some 512), some (some 513), some (some 514), some (some 515), some (some 516), some (some 517), some (some 518), none, none, some (some 519), none, some (some 520), none, none, none, some (some 521), some (some 522), some (some 523), some (some 524), some (some 525), some (some 526), some (some 527), none, some (some 528), none, some (some 529), none, some (some 530), some (some 531), some (some 532), none, some (some 533), some (some 534), some (some 535), some (some 536), some (some 537), none, none, none, some (some 538), some (some 539), some (some 540), none, none, none, some (some 541), none, none, some (some 542), some (some 543), some (some 544), none, some (some 545)]) rfl zin_12 (Nat.le_of_ble_eq_true rfl) rfl (hS _ _ zs_491) rfl zk_fl_12_168 hd kk
theorem zg_12_430 {p : Program} {l : Launch} {e : Env} {R : Room} {s : State} {m : MethodId} {args : Array Value} {below : List Frame} {meth : Method} {c : Code} {Q : State → Prop} {D : va_G} {B : Nat} {cA : Nat → ClassId} {ad : Nat → Nat} {cc : ByteArray} {nL : Nat} {ret : Option FieldType} {S : List zC} {I : zI} {lv : List (Nat × Value)} {st : List Value} {pc : Nat} (C : zCx p s m args meth c cc nL RX12 ret D B cA ad) (hS : zOkM S) (hd : decode cc pc = .ok (.getfield 430, 3)) (kk : zX p l e R s m args below meth c Q D B cA nL 0 0 S I lv (.int (I.1 491 80) :: st) (pc + 3)) : zX p l e R s m args below meth c Q D B cA nL 0 0 S I lv (.ref (B + 491) :: st) pc :=
  zr_geti C (ci := 12) (Cn := RX12) (T := TX12) (N := 82) (k := 491) (j := 80) (fs := [none, some (some 492), some (some 493), none, some (some 494), none, some (some 495), none, none, none, some (some 496), some (some 497), some (some 498), some (some 499), some (some 500), none, some (some 501), some (some 502), some (some 503), none, some (some 504), some (some 505), some (some 506), some (some 507), some (some 508), none, some (some 509), some (some 510), some (some 511), some (some 512), some (some 513), some (some 514), some (some 515), some (some 516), some (some 517), some (some 518), none, none, some (some 519), none, some (some 520), none, none, none, some (some 521), some (some 522), some (some 523), some (some 524), some (some 525), some (some 526), some (some 527), none, some (some 528), none, some (some 529), none, some (some 530), some (some 531), some (some 532), none, some (some 533), some (some 534), some (some 535), some (some 536), some (some 537), none, none, none, some (some 538), some (some 539), some (some 540), none, none, none, some (some 541), none, none, some (some 542), some (some 543), some (some 544), none, some (some 545)]) rfl zin_12 (Nat.le_of_ble_eq_true rfl) rfl (hS _ _ zs_491) rfl zk_fl_12_430 hd kk
theorem zp_12_430 {p : Program} {l : Launch} {e : Env} {R : Room} {s : State} {m : MethodId} {args : Array Value} {below : List Frame} {meth : Method} {c : Code} {Q : State → Prop} {D : va_G} {B : Nat} {cA : Nat → ClassId} {ad : Nat → Nat} {cc : ByteArray} {nL : Nat} {ret : Option FieldType} {S : List zC} {I : zI} {lv : List (Nat × Value)} {st : List Value} {pc : Nat} (C : zCx p s m args meth c cc nL RX12 ret D B cA ad) (hS : zOkM S) {v : Int32} (hd : decode cc pc = .ok (.putfield 430, 3)) (kk : zX p l e R s m args below meth c Q D B cA nL 0 0 S (zu I 491 80 v) lv st (pc + 3)) : zX p l e R s m args below meth c Q D B cA nL 0 0 S I lv (.int v :: .ref (B + 491) :: st) pc :=
  zr_puti C (ci := 12) (Cn := RX12) (T := TX12) (N := 82) (k := 491) (j := 80) (fs := [none, some (some 492), some (some 493), none, some (some 494), none, some (some 495), none, none, none, some (some 496), some (some 497), some (some 498), some (some 499), some (some 500), none, some (some 501), some (some 502), some (some 503), none, some (some 504), some (some 505), some (some 506), some (some 507), some (some 508), none, some (some 509), some (some 510), some (some 511), some (some 512), some (some 513), some (some 514), some (some 515), some (some 516), some (some 517), some (some 518), none, none, some (some 519), none, some (some 520), none, none, none, some (some 521), some (some 522), some (some 523), some (some 524), some (some 525), some (some 526), some (some 527), none, some (some 528), none, some (some 529), none, some (some 530), some (some 531), some (some 532), none, some (some 533), some (some 534), some (some 535), some (some 536), some (some 537), none, none, none, some (some 538), some (some 539), some (some 540), none, none, none, some (some 541), none, none, some (some 542), some (some 543), some (some 544), none, some (some 545)]) rfl zin_12 (Nat.le_of_ble_eq_true rfl) rfl (hS _ _ zs_491) rfl tyX12 tyX12_ok nmX12 (ty := .int) zpd_I rfl rfl rfl zk_fl_12_430 hd kk
def w_M_says (a1 : Int32) (I : zI) (K : zI → Prop) : Prop :=
  vp_in (I.1 491 80) 1000 ∧ (∀ I_1, I_1 = (zu I 544 (Int32.toNatClampNeg (I.1 491 80)) a1) → ∀ I_2, I_2 = (zu I_1 491 80 ((I_1.1 491 80) + 1)) → K I_2)
theorem dyX12_says_0 : decode cX12_says 0 = .ok (.aload_n 0, 1) := by decide +kernel
theorem dyX12_says_1 : decode cX12_says 1 = .ok (.getfield 168, 3) := by decide +kernel
theorem dyX12_says_4 : decode cX12_says 4 = .ok (.aload_n 0, 1) := by decide +kernel
theorem dyX12_says_5 : decode cX12_says 5 = .ok (.getfield 430, 3) := by decide +kernel
theorem dyX12_says_8 : decode cX12_says 8 = .ok (.iload_n 1, 1) := by decide +kernel
theorem dyX12_says_9 : decode cX12_says 9 = .ok (.iastore, 1) := by decide +kernel
theorem dyX12_says_10 : decode cX12_says 10 = .ok (.aload_n 0, 1) := by decide +kernel
theorem dyX12_says_11 : decode cX12_says 11 = .ok (.dup, 1) := by decide +kernel
theorem dyX12_says_12 : decode cX12_says 12 = .ok (.getfield 430, 3) := by decide +kernel
theorem dyX12_says_15 : decode cX12_says 15 = .ok (.iconst 1, 1) := by decide +kernel
theorem dyX12_says_16 : decode cX12_says 16 = .ok (.iadd, 1) := by decide +kernel
theorem dyX12_says_17 : decode cX12_says 17 = .ok (.putfield 430, 3) := by decide +kernel
theorem dyX12_says_20 : decode cX12_says 20 = .ok (.return_, 1) := by decide +kernel
theorem zsg_yX12_says : yX12_says.cls = RX12 ∧ yX12_says.cls ≠ "java/lang/invoke/MethodHandle" ∧ yX12_says.cls ≠ "java/lang/invoke/VarHandle" ∧ (parseMethodDescriptor yX12_says.desc).map (fun d => d.parameters.length) = some 1 := by decide +kernel
set_option maxRecDepth 20000 in
theorem c_M_says {l : Launch} {D : va_G} {B : Nat} {cA : Nat → ClassId} {ad : Nat → Nat} {S : List zC} (hS : zOkM S) {a1 : Int32} {I : zI} {K : zI → Prop}  (h : w_M_says a1 I K) : Met l yX12_says (zws yX12_says cX12_says 2 none) (zrm 0 0) (zPc D B cA ad [.ref (B + 491), .int a1] S I) (zQc D B cA (zqV S K)) 0 0 (fun q => B ≤ q) := by
  refine zm_of (cc := cX12_says) (maxL := 2) (ret := none) (by decide +kernel) rfl (Nat.le_of_ble_eq_true rfl) trivial ?_
  intro p e s m args below meth c C _
  unfold w_M_says at h
  show zX p l e (zrm 0 0) s m args below meth c (MQ below (zQc D B cA (zqV S K)) args s 0 0 (fun q => B ≤ q)) D B cA 2 0 0 S I [(0, .ref (B + 491)), (1, .int a1)] [] 0
  refine zr_aload_n C dyX12_says_0 rfl 0 rfl ?_
  refine zg_12_168 C hS dyX12_says_1 ?_
  refine zr_aload_n C dyX12_says_4 rfl 0 rfl ?_
  refine zg_12_430 C hS dyX12_says_5 ?_
  refine zr_iload_n C dyX12_says_8 rfl 1 rfl ?_
  refine zr_iast C (hS _ _ zs_544) h.1 dyX12_says_9 ?_
  replace h := h.2
  refine zn_mem C (fun I_1 eI_1 => ?_)
  replace h := h I_1 eI_1
  refine zr_aload_n C dyX12_says_10 rfl 0 rfl ?_
  refine zr_dup C dyX12_says_11 rfl ?_
  refine zg_12_430 C hS dyX12_says_12 ?_
  refine zr_iconst C dyX12_says_15 zc_i_1 ?_
  refine zr_iadd C dyX12_says_16 ?_
  refine zp_12_430 C hS dyX12_says_17 ?_
  refine zn_mem C (fun I_2 eI_2 => ?_)
  replace h := h I_2 eI_2
  exact zr_vret C rfl dyX12_says_20 ⟨rfl, rfl, h⟩
theorem zv_12_433 {p : Program} {l : Launch} {e : Env} {R : Room} {s : State} {m : MethodId} {args : Array Value} {below : List Frame} {meth : Method} {c : Code} {Q : State → Prop} {D : va_G} {B : Nat} {cA : Nat → ClassId} {ad : Nat → Nat} {cc : ByteArray} {nL : Nat} {ret : Option FieldType} {S : List zC} {I : zI} {lv : List (Nat × Value)} {st : List Value} {pc : Nat} (C : zCx p s m args meth c cc nL RX12 ret D B cA ad) {K : zI → Prop} {xa1 : Int32} (hS : zOkM S)  (h : w_M_says xa1 I K) (hR : 0 + 1 ≤ R.frames ∧ 8 + (2 + 11) + (0) ≤ R.locals) (hw : (st.map fun v => v.category).sum ≤ 8) (hd : decode cc pc = .ok (.invokevirtual 433, 3)) (kk : ∀ I2, K I2 → zX p l e R s m args below meth c Q D B cA nL 0 0 S I2 lv st (pc + 3)) : zX p l e R s m args below meth c Q D B cA nL 0 0 S I lv (.int xa1 :: .ref (B + 491) :: st) pc :=
  have hf : 0 ≤ R.cells ∧ 0 ≤ R.slots := ⟨Nat.zero_le _, Nat.zero_le _⟩
  zc_VqV C (ci := 12) (q := (RX12, TX12, 82)) (k := 491) (fs := [none, some (some 492), some (some 493), none, some (some 494), none, some (some 495), none, none, none, some (some 496), some (some 497), some (some 498), some (some 499), some (some 500), none, some (some 501), some (some 502), some (some 503), none, some (some 504), some (some 505), some (some 506), some (some 507), some (some 508), none, some (some 509), some (some 510), some (some 511), some (some 512), some (some 513), some (some 514), some (some 515), some (some 516), some (some 517), some (some 518), none, none, some (some 519), none, some (some 520), none, none, none, some (some 521), some (some 522), some (some 523), some (some 524), some (some 525), some (some 526), some (some 527), none, some (some 528), none, some (some 529), none, some (some 530), some (some 531), some (some 532), none, some (some 533), some (some 534), some (some 535), some (some 536), some (some 537), none, none, none, some (some 538), some (some 539), some (some 540), none, none, none, some (some 541), none, none, some (some 542), some (some 543), some (some 544), none, some (some 545)]) (As := [.int xa1]) (st := st) rfl (hS _ _ zs_491) (c_M_says hS h) (zgV zk_ml_12_433 zk_im_yX12_says zk_se_yX12_says zk_in_12 zk_cd_yX12_says) zsg_yX12_says hR rfl rfl hw hd hf kk
def w_M_saysToken (a1 : Int32) (I : zI) (K : zI → Prop) : Prop :=
  vp_in a1 3700 ∧ (∀ v2_1, v2_1 = (I.1 526 (Int32.toNatClampNeg a1)) → vp_in v2_1 110 ∧ (∀ v3_2, v3_2 = (I.1 505 (Int32.toNatClampNeg v2_1)) → ∀ (P14 : Int32 → zI → Prop), (∀ (v3_3 : Int32) (I_4 : zI), (vp_in v2_1 110 ∧ (vp_in v2_1 110 ∧ (if ((I_4.1 505 (Int32.toNatClampNeg v2_1)) + (I_4.1 506 (Int32.toNatClampNeg v2_1))) ≤ v3_3 then K I_4 else (vp_in v3_3 300 ∧ (w_M_says (I_4.1 495 (Int32.toNatClampNeg v3_3)) I_4 (fun I_5 => ∀ v3_6, v3_6 = (v3_3 + 1) → P14 v3_6 I_5)))))) → P14 v3_3 I_4) → P14 v3_2 I))
theorem dyX12_saysToken_0 : decode cX12_saysToken 0 = .ok (.aload_n 0, 1) := by decide +kernel
theorem dyX12_saysToken_1 : decode cX12_saysToken 1 = .ok (.getfield 114, 3) := by decide +kernel
theorem dyX12_saysToken_4 : decode cX12_saysToken 4 = .ok (.iload_n 1, 1) := by decide +kernel
theorem dyX12_saysToken_5 : decode cX12_saysToken 5 = .ok (.iaload, 1) := by decide +kernel
theorem dyX12_saysToken_6 : decode cX12_saysToken 6 = .ok (.istore_n 2, 1) := by decide +kernel
theorem dyX12_saysToken_7 : decode cX12_saysToken 7 = .ok (.aload_n 0, 1) := by decide +kernel
theorem dyX12_saysToken_8 : decode cX12_saysToken 8 = .ok (.getfield 50, 3) := by decide +kernel
theorem dyX12_saysToken_11 : decode cX12_saysToken 11 = .ok (.iload_n 2, 1) := by decide +kernel
theorem dyX12_saysToken_12 : decode cX12_saysToken 12 = .ok (.iaload, 1) := by decide +kernel
theorem dyX12_saysToken_13 : decode cX12_saysToken 13 = .ok (.istore_n 3, 1) := by decide +kernel
theorem dyX12_saysToken_14 : decode cX12_saysToken 14 = .ok (.iload_n 3, 1) := by decide +kernel
theorem dyX12_saysToken_15 : decode cX12_saysToken 15 = .ok (.aload_n 0, 1) := by decide +kernel
theorem dyX12_saysToken_16 : decode cX12_saysToken 16 = .ok (.getfield 50, 3) := by decide +kernel
theorem dyX12_saysToken_19 : decode cX12_saysToken 19 = .ok (.iload_n 2, 1) := by decide +kernel
theorem dyX12_saysToken_20 : decode cX12_saysToken 20 = .ok (.iaload, 1) := by decide +kernel
theorem dyX12_saysToken_21 : decode cX12_saysToken 21 = .ok (.aload_n 0, 1) := by decide +kernel
theorem dyX12_saysToken_22 : decode cX12_saysToken 22 = .ok (.getfield 53, 3) := by decide +kernel
theorem dyX12_saysToken_25 : decode cX12_saysToken 25 = .ok (.iload_n 2, 1) := by decide +kernel
theorem dyX12_saysToken_26 : decode cX12_saysToken 26 = .ok (.iaload, 1) := by decide +kernel
theorem dyX12_saysToken_27 : decode cX12_saysToken 27 = .ok (.iadd, 1) := by decide +kernel
theorem dyX12_saysToken_28 : decode cX12_saysToken 28 = .ok (.if_icmp .ge 19, 3) := by decide +kernel
theorem dyX12_saysToken_31 : decode cX12_saysToken 31 = .ok (.aload_n 0, 1) := by decide +kernel
theorem dyX12_saysToken_32 : decode cX12_saysToken 32 = .ok (.aload_n 0, 1) := by decide +kernel
theorem dyX12_saysToken_33 : decode cX12_saysToken 33 = .ok (.getfield 19, 3) := by decide +kernel
theorem dyX12_saysToken_36 : decode cX12_saysToken 36 = .ok (.iload_n 3, 1) := by decide +kernel
theorem dyX12_saysToken_37 : decode cX12_saysToken 37 = .ok (.iaload, 1) := by decide +kernel
theorem dyX12_saysToken_38 : decode cX12_saysToken 38 = .ok (.invokevirtual 433, 3) := by decide +kernel
theorem dyX12_saysToken_41 : decode cX12_saysToken 41 = .ok (.iinc 3 1, 3) := by decide +kernel
theorem dyX12_saysToken_44 : decode cX12_saysToken 44 = .ok (.goto (-30), 3) := by decide +kernel
theorem dyX12_saysToken_47 : decode cX12_saysToken 47 = .ok (.return_, 1) := by decide +kernel
theorem zsg_yX12_saysToken : yX12_saysToken.cls = RX12 ∧ yX12_saysToken.cls ≠ "java/lang/invoke/MethodHandle" ∧ yX12_saysToken.cls ≠ "java/lang/invoke/VarHandle" ∧ (parseMethodDescriptor yX12_saysToken.desc).map (fun d => d.parameters.length) = some 1 := by decide +kernel
set_option maxRecDepth 20000 in
theorem c_M_saysToken {l : Launch} {D : va_G} {B : Nat} {cA : Nat → ClassId} {ad : Nat → Nat} {S : List zC} (hS : zOkM S) {a1 : Int32} {I : zI} {K : zI → Prop}  (h : w_M_saysToken a1 I K) : Met l yX12_saysToken (zws yX12_saysToken cX12_saysToken 4 none) (zrm 1 21) (zPc D B cA ad [.ref (B + 491), .int a1] S I) (zQc D B cA (zqV S K)) 0 0 (fun q => B ≤ q) := by
  refine zm_of (cc := cX12_saysToken) (maxL := 4) (ret := none) (by decide +kernel) rfl (Nat.le_of_ble_eq_true rfl) trivial ?_
  intro p e s m args below meth c C _
  unfold w_M_saysToken at h
  show zX p l e (zrm 1 21) s m args below meth c (MQ below (zQc D B cA (zqV S K)) args s 0 0 (fun q => B ≤ q)) D B cA 4 0 0 S I [(0, .ref (B + 491)), (1, .int a1)] [] 0
  refine zr_aload_n C dyX12_saysToken_0 rfl 0 rfl ?_
  refine zg_12_114 C hS dyX12_saysToken_1 ?_
  refine zr_iload_n C dyX12_saysToken_4 rfl 1 rfl ?_
  refine zr_iald C (hS _ _ zs_526) h.1 dyX12_saysToken_5 ?_
  replace h := h.2
  refine zn_istore_n C (fun v2_1 => [(2, .int v2_1), (0, .ref (B + 491)), (1, .int a1)]) dyX12_saysToken_6 rfl (Nat.le_of_ble_eq_true rfl) (fun _ => rfl) (fun v2_1 ev2_1 => ?_)
  replace h := h v2_1 ev2_1
  refine zr_aload_n C dyX12_saysToken_7 rfl 1 rfl ?_
  refine zg_12_50 C hS dyX12_saysToken_8 ?_
  refine zr_iload_n C dyX12_saysToken_11 rfl 0 rfl ?_
  refine zr_iald C (hS _ _ zs_505) h.1 dyX12_saysToken_12 ?_
  replace h := h.2
  refine zn_istore_n C (fun v3_2 => [(3, .int v3_2), (2, .int v2_1), (0, .ref (B + 491)), (1, .int a1)]) dyX12_saysToken_13 rfl (Nat.le_of_ble_eq_true rfl) (fun _ => rfl) (fun v3_2 ev3_2 => ?_)
  replace h := h v3_2 ev3_2
  refine zjn (h (fun (v3_3 : Int32) (I_4 : zI) => zX p l e (zrm 1 21) s m args below meth c (MQ below (zQc D B cA (zqV S K)) args s 0 0 (fun q => B ≤ q)) D B cA 4 0 0 S I_4 [(3, .int v3_3), (2, .int v2_1), (0, .ref (B + 491))] [] 14) (fun v3_3 I_4 h => ?_)) (fun h => ?_)
  · refine zr_iload_n C dyX12_saysToken_14 rfl 0 rfl ?_
    refine zr_aload_n C dyX12_saysToken_15 rfl 2 rfl ?_
    refine zg_12_50 C hS dyX12_saysToken_16 ?_
    refine zr_iload_n C dyX12_saysToken_19 rfl 1 rfl ?_
    refine zr_iald C (hS _ _ zs_505) h.1 dyX12_saysToken_20 ?_
    replace h := h.2
    refine zr_aload_n C dyX12_saysToken_21 rfl 2 rfl ?_
    refine zg_12_53 C hS dyX12_saysToken_22 ?_
    refine zr_iload_n C dyX12_saysToken_25 rfl 1 rfl ?_
    refine zr_iald C (hS _ _ zs_506) h.1 dyX12_saysToken_26 ?_
    replace h := h.2
    refine zr_iadd C dyX12_saysToken_27 ?_
    refine zr_icmp_ge C dyX12_saysToken_28 (tgt := 47) (by decide) (fun hc_7 => ?_) (fun hc_7 => ?_)
    · replace h := zif_pos hc_7 h
      exact zr_vret C rfl dyX12_saysToken_47 ⟨rfl, rfl, h⟩
    · replace h := zif_neg hc_7 h
      refine zr_aload_n C dyX12_saysToken_31 rfl 2 rfl ?_
      refine zr_aload_n C dyX12_saysToken_32 rfl 2 rfl ?_
      refine zg_12_19 C hS dyX12_saysToken_33 ?_
      refine zr_iload_n C dyX12_saysToken_36 rfl 0 rfl ?_
      refine zr_iald C (hS _ _ zs_495) h.1 dyX12_saysToken_37 ?_
      replace h := h.2
      refine zv_12_433 C hS (st := []) h ⟨Nat.le_of_ble_eq_true rfl, Nat.le_of_ble_eq_true rfl⟩ (Nat.le_of_ble_eq_true rfl) dyX12_saysToken_38 (fun I_5 h => ?_)
      refine zn_iinc C (fun v3_6 => [(3, .int v3_6), (2, .int v2_1), (0, .ref (B + 491))]) dyX12_saysToken_41 0 rfl zc_i_1 (Nat.le_of_ble_eq_true rfl) (fun _ => rfl) (fun v3_6 ev3_6 => ?_)
      replace h := h v3_6 ev3_6
      refine zr_goto C dyX12_saysToken_44 (tgt := 14) (by decide) ?_
      exact h
  refine zr_sub (lv2 := [(3, .int v3_2), (2, .int v2_1), (0, .ref (B + 491))]) [0, 1, 2] rfl ?_
  exact h
theorem zg_12_165 {p : Program} {l : Launch} {e : Env} {R : Room} {s : State} {m : MethodId} {args : Array Value} {below : List Frame} {meth : Method} {c : Code} {Q : State → Prop} {D : va_G} {B : Nat} {cA : Nat → ClassId} {ad : Nat → Nat} {cc : ByteArray} {nL : Nat} {ret : Option FieldType} {S : List zC} {I : zI} {lv : List (Nat × Value)} {st : List Value} {pc : Nat} (C : zCx p s m args meth c cc nL RX12 ret D B cA ad) (hS : zOkM S) (hd : decode cc pc = .ok (.getfield 165, 3)) (kk : zX p l e R s m args below meth c Q D B cA nL 0 0 S I lv (.ref (B + 543) :: st) (pc + 3)) : zX p l e R s m args below meth c Q D B cA nL 0 0 S I lv (.ref (B + 491) :: st) pc :=
  zr_getr C (ci := 12) (Cn := RX12) (T := TX12) (N := 82) (k := 491) (j := 78) (fs := [none, some (some 492), some (some 493), none, some (some 494), none, some (some 495), none, none, none, some (some 496), some (some 497), some (some 498), some (some 499), some (some 500), none, some (some 501), some (some 502), some (some 503), none, some (some 504), some (some 505), some (some 506), some (some 507), some (some 508), none, some (some 509), some (some 510), some (some 511), some (some 512), some (some 513), some (some 514), some (some 515), some (some 516), some (some 517), some (some 518), none, none, some (some 519), none, some (some 520), none, none, none, some (some 521), some (some 522), some (some 523), some (some 524), some (some 525), some (some 526), some (some 527), none, some (some 528), none, some (some 529), none, some (some 530), some (some 531), some (some 532), none, some (some 533), some (some 534), some (some 535), some (some 536), some (some 537), none, none, none, some (some 538), some (some 539), some (some 540), none, none, none, some (some 541), none, none, some (some 542), some (some 543), some (some 544), none, some (some 545)]) rfl zin_12 (Nat.le_of_ble_eq_true rfl) rfl (hS _ _ zs_491) rfl zk_fl_12_165 hd kk
def w_M_pushes (a1 : Int32) (a2 : Int32) (I : zI) (K : Int32 → zI → Prop) : Prop :=
  vp_in a1 700 ∧ (∀ I_1, I_1 = (zu I 543 (Int32.toNatClampNeg a1) a2) → K (a1 + 1) I_1)
theorem dyX12_pushes_0 : decode cX12_pushes 0 = .ok (.aload_n 0, 1) := by decide +kernel
theorem dyX12_pushes_1 : decode cX12_pushes 1 = .ok (.getfield 165, 3) := by decide +kernel
theorem dyX12_pushes_4 : decode cX12_pushes 4 = .ok (.iload_n 1, 1) := by decide +kernel
theorem dyX12_pushes_5 : decode cX12_pushes 5 = .ok (.iload_n 2, 1) := by decide +kernel
theorem dyX12_pushes_6 : decode cX12_pushes 6 = .ok (.iastore, 1) := by decide +kernel
theorem dyX12_pushes_7 : decode cX12_pushes 7 = .ok (.iload_n 1, 1) := by decide +kernel
theorem dyX12_pushes_8 : decode cX12_pushes 8 = .ok (.iconst 1, 1) := by decide +kernel
theorem dyX12_pushes_9 : decode cX12_pushes 9 = .ok (.iadd, 1) := by decide +kernel
theorem dyX12_pushes_10 : decode cX12_pushes 10 = .ok (.ireturn, 1) := by decide +kernel
theorem zsg_yX12_pushes : yX12_pushes.cls = RX12 ∧ yX12_pushes.cls ≠ "java/lang/invoke/MethodHandle" ∧ yX12_pushes.cls ≠ "java/lang/invoke/VarHandle" ∧ (parseMethodDescriptor yX12_pushes.desc).map (fun d => d.parameters.length) = some 2 := by decide +kernel
set_option maxRecDepth 20000 in
theorem c_M_pushes {l : Launch} {D : va_G} {B : Nat} {cA : Nat → ClassId} {ad : Nat → Nat} {S : List zC} (hS : zOkM S) {a1 : Int32} {a2 : Int32} {I : zI} {K : Int32 → zI → Prop}  (h : w_M_pushes a1 a2 I K) : Met l yX12_pushes (zws yX12_pushes cX12_pushes 3 (some .int)) (zrm 0 0) (zPc D B cA ad [.ref (B + 491), .int a1, .int a2] S I) (zQc D B cA (zqI S K)) 0 0 (fun q => B ≤ q) := by
  refine zm_of (cc := cX12_pushes) (maxL := 3) (ret := (some .int)) (by decide +kernel) rfl (Nat.le_of_ble_eq_true rfl) trivial ?_
  intro p e s m args below meth c C _
  unfold w_M_pushes at h
  show zX p l e (zrm 0 0) s m args below meth c (MQ below (zQc D B cA (zqI S K)) args s 0 0 (fun q => B ≤ q)) D B cA 3 0 0 S I [(0, .ref (B + 491)), (1, .int a1), (2, .int a2)] [] 0
  refine zr_aload_n C dyX12_pushes_0 rfl 0 rfl ?_
  refine zg_12_165 C hS dyX12_pushes_1 ?_
  refine zr_iload_n C dyX12_pushes_4 rfl 1 rfl ?_
  refine zr_iload_n C dyX12_pushes_5 rfl 2 rfl ?_
  refine zr_iast C (hS _ _ zs_543) h.1 dyX12_pushes_6 ?_
  replace h := h.2
  refine zn_mem C (fun I_1 eI_1 => ?_)
  replace h := h I_1 eI_1
  refine zr_iload_n C dyX12_pushes_7 rfl 1 rfl ?_
  refine zr_iconst C dyX12_pushes_8 zc_i_1 ?_
  refine zr_iadd C dyX12_pushes_9 ?_
  exact zr_iret C rfl dyX12_pushes_10 ⟨rfl, _, rfl, h⟩
theorem zv_12_436 {p : Program} {l : Launch} {e : Env} {R : Room} {s : State} {m : MethodId} {args : Array Value} {below : List Frame} {meth : Method} {c : Code} {Q : State → Prop} {D : va_G} {B : Nat} {cA : Nat → ClassId} {ad : Nat → Nat} {cc : ByteArray} {nL : Nat} {ret : Option FieldType} {S : List zC} {I : zI} {lv : List (Nat × Value)} {st : List Value} {pc : Nat} (C : zCx p s m args meth c cc nL RX12 ret D B cA ad) {K : Int32 → zI → Prop} {xa1 : Int32} {xa2 : Int32} (hS : zOkM S)  (h : w_M_pushes xa1 xa2 I K) (hR : 0 + 1 ≤ R.frames ∧ 8 + (3 + 11) + (0) ≤ R.locals) (hw : (st.map fun v => v.category).sum ≤ 8) (hd : decode cc pc = .ok (.invokevirtual 436, 3)) (kk : ∀ v I2, K v I2 → zX p l e R s m args below meth c Q D B cA nL 0 0 S I2 lv (.int v :: st) (pc + 3)) : zX p l e R s m args below meth c Q D B cA nL 0 0 S I lv (.int xa2 :: .int xa1 :: .ref (B + 491) :: st) pc :=
  have hf : 0 ≤ R.cells ∧ 0 ≤ R.slots := ⟨Nat.zero_le _, Nat.zero_le _⟩
  zc_VqI C (ci := 12) (q := (RX12, TX12, 82)) (k := 491) (fs := [none, some (some 492), some (some 493), none, some (some 494), none, some (some 495), none, none, none, some (some 496), some (some 497), some (some 498), some (some 499), some (some 500), none, some (some 501), some (some 502), some (some 503), none, some (some 504), some (some 505), some (some 506), some (some 507), some (some 508), none, some (some 509), some (some 510), some (some 511), some (some 512), some (some 513), some (some 514), some (some 515), some (some 516), some (some 517), some (some 518), none, none, some (some 519), none, some (some 520), none, none, none, some (some 521), some (some 522), some (some 523), some (some 524), some (some 525), some (some 526), some (some 527), none, some (some 528), none, some (some 529), none, some (some 530), some (some 531), some (some 532), none, some (some 533), some (some 534), some (some 535), some (some 536), some (some 537), none, none, none, some (some 538), some (some 539), some (some 540), none, none, none, some (some 541), none, none, some (some 542), some (some 543), some (some 544), none, some (some 545)]) (As := [.int xa1, .int xa2]) (st := st) rfl (hS _ _ zs_491) (c_M_pushes hS h) (zgV zk_ml_12_436 zk_im_yX12_pushes zk_se_yX12_pushes zk_in_12 zk_cd_yX12_pushes) zsg_yX12_pushes hR rfl rfl hw hd hf kk
theorem zv_12_439 {p : Program} {l : Launch} {e : Env} {R : Room} {s : State} {m : MethodId} {args : Array Value} {below : List Frame} {meth : Method} {c : Code} {Q : State → Prop} {D : va_G} {B : Nat} {cA : Nat → ClassId} {ad : Nat → Nat} {cc : ByteArray} {nL : Nat} {ret : Option FieldType} {S : List zC} {I : zI} {lv : List (Nat × Value)} {st : List Value} {pc : Nat} (C : zCx p s m args meth c cc nL RX12 ret D B cA ad) {K : zI → Prop} {xa1 : Int32} (hS : zOkM S)  (h : w_M_saysToken xa1 I K) (hR : 1 + 1 ≤ R.frames ∧ 8 + (4 + 11) + (21) ≤ R.locals) (hw : (st.map fun v => v.category).sum ≤ 8) (hd : decode cc pc = .ok (.invokevirtual 439, 3)) (kk : ∀ I2, K I2 → zX p l e R s m args below meth c Q D B cA nL 0 0 S I2 lv st (pc + 3)) : zX p l e R s m args below meth c Q D B cA nL 0 0 S I lv (.int xa1 :: .ref (B + 491) :: st) pc :=
  have hf : 0 ≤ R.cells ∧ 0 ≤ R.slots := ⟨Nat.zero_le _, Nat.zero_le _⟩
  zc_VqV C (ci := 12) (q := (RX12, TX12, 82)) (k := 491) (fs := [none, some (some 492), some (some 493), none, some (some 494), none, some (some 495), none, none, none, some (some 496), some (some 497), some (some 498), some (some 499), some (some 500), none, some (some 501), some (some 502), some (some 503), none, some (some 504), some (some 505), some (some 506), some (some 507), some (some 508), none, some (some 509), some (some 510), some (some 511), some (some 512), some (some 513), some (some 514), some (some 515), some (some 516), some (some 517), some (some 518), none, none, some (some 519), none, some (some 520), none, none, none, some (some 521), some (some 522), some (some 523), some (some 524), some (some 525), some (some 526), some (some 527), none, some (some 528), none, some (some 529), none, some (some 530), some (some 531), some (some 532), none, some (some 533), some (some 534), some (some 535), some (some 536), some (some 537), none, none, none, some (some 538), some (some 539), some (some 540), none, none, none, some (some 541), none, none, some (some 542), some (some 543), some (some 544), none, some (some 545)]) (As := [.int xa1]) (st := st) rfl (hS _ _ zs_491) (c_M_saysToken hS h) (zgV zk_ml_12_439 zk_im_yX12_saysToken zk_se_yX12_saysToken zk_in_12 zk_cd_yX12_saysToken) zsg_yX12_saysToken hR rfl rfl hw hd hf kk
def w_M_prints (a1 : Int32) (I : zI) (K : zI → Prop) : Prop :=
  ∀ I_1, I_1 = (zu I 491 80 0) → w_M_pushes 0 (1000 + a1) I_1 (fun r_2 I_3 => ∀ (P16 : Int32 → zI → Prop), (∀ (v2_4 : Int32) (I_5 : zI), ((if v2_4 ≤ 0 then K I_5 else (∀ v2_6, v2_6 = (v2_4 + (-1)) → vp_in v2_6 700 ∧ (∀ v3_7, v3_7 = (I_5.1 543 (Int32.toNatClampNeg v2_6)) → (if 1000 ≤ v3_7 then (∀ v4_8, v4_8 = (v3_7 - 1000) → vp_in v4_8 3700 ∧ (∀ v5_9, v5_9 = (I_5.1 509 (Int32.toNatClampNeg v4_8)) → (if 0 ≤ v5_9 then (∀ (P88 : Prop), ((w_M_pushes v2_6 41 I_5 (fun r_10 I_11 => w_M_childOf v4_8 2 I_11 (fun r_12 => w_M_pushes r_10 (1000 + r_12) I_11 (fun r_13 I_14 => ∀ (P128 : Int32 → Prop), (∀ (t_15 : Int32), (w_M_pushes r_13 t_15 I_14 (fun r_16 I_17 => w_M_childOf v4_8 0 I_17 (fun r_18 => w_M_pushes r_16 (1000 + r_18) I_17 (fun r_19 I_20 => w_M_pushes r_19 40 I_20 (fun r_21 I_22 => P16 r_21 I_22))))) → P128 t_15) → (if v5_9 = 4 then P128 43 else P128 42))))) → P88) → (if v5_9 = 4 then P88 else (if v5_9 = 6 then P88 else (if v5_9 = 10 then (w_M_childOf v4_8 1 I_5 (fun r_33 => w_M_pushes v2_6 (1000 + r_33) I_5 (fun r_34 I_35 => P16 r_34 I_35))) else (vp_in v4_8 3700 ∧ (∀ v6_24, v6_24 = ((I_5.1 512 (Int32.toNatClampNeg v4_8)) - 1) → ∀ (P198 : Int32 → Int32 → zI → Prop), (∀ (v2_25 : Int32) (v6_26 : Int32) (I_27 : zI), ((if v6_26 < 0 then P16 v2_25 I_27 else (w_M_childOf v4_8 v6_26 I_27 (fun r_28 => w_M_pushes v2_25 (1000 + r_28) I_27 (fun r_29 I_30 => ∀ v6_31, v6_31 = (v6_26 + (-1)) → P198 r_29 v6_31 I_30))))) → P198 v2_25 v6_26 I_27) → P198 v2_6 v6_24 I_5)))))) else (w_M_saysToken v4_8 I_5 (fun I_39 => P16 v2_6 I_39))))) else (w_M_says v3_7 I_5 (fun I_41 => P16 v2_6 I_41))))))) → P16 v2_4 I_5) → P16 r_2 I_3)
theorem dyX12_prints_0 : decode cX12_prints 0 = .ok (.aload_n 0, 1) := by decide +kernel
theorem dyX12_prints_1 : decode cX12_prints 1 = .ok (.iconst 0, 1) := by decide +kernel
theorem dyX12_prints_2 : decode cX12_prints 2 = .ok (.putfield 430, 3) := by decide +kernel
theorem dyX12_prints_5 : decode cX12_prints 5 = .ok (.aload_n 0, 1) := by decide +kernel
theorem dyX12_prints_6 : decode cX12_prints 6 = .ok (.iconst 0, 1) := by decide +kernel
theorem dyX12_prints_7 : decode cX12_prints 7 = .ok (.sipush 1000, 3) := by decide +kernel
theorem dyX12_prints_10 : decode cX12_prints 10 = .ok (.iload_n 1, 1) := by decide +kernel
theorem dyX12_prints_11 : decode cX12_prints 11 = .ok (.iadd, 1) := by decide +kernel
theorem dyX12_prints_12 : decode cX12_prints 12 = .ok (.invokevirtual 436, 3) := by decide +kernel
theorem dyX12_prints_15 : decode cX12_prints 15 = .ok (.istore_n 2, 1) := by decide +kernel
theorem dyX12_prints_16 : decode cX12_prints 16 = .ok (.iload_n 2, 1) := by decide +kernel
theorem dyX12_prints_17 : decode cX12_prints 17 = .ok (.ifCond .le 213, 3) := by decide +kernel
theorem dyX12_prints_20 : decode cX12_prints 20 = .ok (.iinc 2 (-1), 3) := by decide +kernel
theorem dyX12_prints_23 : decode cX12_prints 23 = .ok (.aload_n 0, 1) := by decide +kernel
theorem dyX12_prints_24 : decode cX12_prints 24 = .ok (.getfield 165, 3) := by decide +kernel
theorem dyX12_prints_27 : decode cX12_prints 27 = .ok (.iload_n 2, 1) := by decide +kernel
theorem dyX12_prints_28 : decode cX12_prints 28 = .ok (.iaload, 1) := by decide +kernel
theorem dyX12_prints_29 : decode cX12_prints 29 = .ok (.istore_n 3, 1) := by decide +kernel
theorem dyX12_prints_30 : decode cX12_prints 30 = .ok (.iload_n 3, 1) := by decide +kernel
theorem dyX12_prints_31 : decode cX12_prints 31 = .ok (.sipush 1000, 3) := by decide +kernel
theorem dyX12_prints_34 : decode cX12_prints 34 = .ok (.if_icmp .ge 11, 3) := by decide +kernel
theorem dyX12_prints_37 : decode cX12_prints 37 = .ok (.aload_n 0, 1) := by decide +kernel
theorem dyX12_prints_38 : decode cX12_prints 38 = .ok (.iload_n 3, 1) := by decide +kernel
theorem dyX12_prints_39 : decode cX12_prints 39 = .ok (.invokevirtual 433, 3) := by decide +kernel
theorem dyX12_prints_42 : decode cX12_prints 42 = .ok (.goto (-26), 3) := by decide +kernel
theorem dyX12_prints_45 : decode cX12_prints 45 = .ok (.iload_n 3, 1) := by decide +kernel
theorem dyX12_prints_46 : decode cX12_prints 46 = .ok (.sipush 1000, 3) := by decide +kernel
theorem dyX12_prints_49 : decode cX12_prints 49 = .ok (.isub, 1) := by decide +kernel
theorem dyX12_prints_50 : decode cX12_prints 50 = .ok (.istore 4, 2) := by decide +kernel
theorem dyX12_prints_52 : decode cX12_prints 52 = .ok (.aload_n 0, 1) := by decide +kernel
theorem dyX12_prints_53 : decode cX12_prints 53 = .ok (.getfield 62, 3) := by decide +kernel
theorem dyX12_prints_56 : decode cX12_prints 56 = .ok (.iload 4, 2) := by decide +kernel
theorem dyX12_prints_58 : decode cX12_prints 58 = .ok (.iaload, 1) := by decide +kernel
theorem dyX12_prints_59 : decode cX12_prints 59 = .ok (.istore 5, 2) := by decide +kernel
theorem dyX12_prints_61 : decode cX12_prints 61 = .ok (.iload 5, 2) := by decide +kernel
theorem dyX12_prints_63 : decode cX12_prints 63 = .ok (.ifCond .ge 12, 3) := by decide +kernel
theorem dyX12_prints_66 : decode cX12_prints 66 = .ok (.aload_n 0, 1) := by decide +kernel
theorem dyX12_prints_67 : decode cX12_prints 67 = .ok (.iload 4, 2) := by decide +kernel
theorem dyX12_prints_69 : decode cX12_prints 69 = .ok (.invokevirtual 439, 3) := by decide +kernel
theorem dyX12_prints_72 : decode cX12_prints 72 = .ok (.goto 155, 3) := by decide +kernel
theorem dyX12_prints_75 : decode cX12_prints 75 = .ok (.iload 5, 2) := by decide +kernel
theorem dyX12_prints_77 : decode cX12_prints 77 = .ok (.iconst 4, 1) := by decide +kernel
theorem dyX12_prints_78 : decode cX12_prints 78 = .ok (.if_icmp .eq 10, 3) := by decide +kernel
theorem dyX12_prints_81 : decode cX12_prints 81 = .ok (.iload 5, 2) := by decide +kernel
theorem dyX12_prints_83 : decode cX12_prints 83 = .ok (.bipush 6, 2) := by decide +kernel
theorem dyX12_prints_85 : decode cX12_prints 85 = .ok (.if_icmp .ne 75, 3) := by decide +kernel
theorem dyX12_prints_88 : decode cX12_prints 88 = .ok (.aload_n 0, 1) := by decide +kernel
theorem dyX12_prints_89 : decode cX12_prints 89 = .ok (.iload_n 2, 1) := by decide +kernel
theorem dyX12_prints_90 : decode cX12_prints 90 = .ok (.bipush 41, 2) := by decide +kernel
theorem dyX12_prints_92 : decode cX12_prints 92 = .ok (.invokevirtual 436, 3) := by decide +kernel
theorem dyX12_prints_95 : decode cX12_prints 95 = .ok (.istore_n 2, 1) := by decide +kernel
theorem dyX12_prints_96 : decode cX12_prints 96 = .ok (.aload_n 0, 1) := by decide +kernel
theorem dyX12_prints_97 : decode cX12_prints 97 = .ok (.iload_n 2, 1) := by decide +kernel
theorem dyX12_prints_98 : decode cX12_prints 98 = .ok (.sipush 1000, 3) := by decide +kernel
theorem dyX12_prints_101 : decode cX12_prints 101 = .ok (.aload_n 0, 1) := by decide +kernel
theorem dyX12_prints_102 : decode cX12_prints 102 = .ok (.iload 4, 2) := by decide +kernel
theorem dyX12_prints_104 : decode cX12_prints 104 = .ok (.iconst 2, 1) := by decide +kernel
theorem dyX12_prints_105 : decode cX12_prints 105 = .ok (.invokevirtual 299, 3) := by decide +kernel
theorem dyX12_prints_108 : decode cX12_prints 108 = .ok (.iadd, 1) := by decide +kernel
theorem dyX12_prints_109 : decode cX12_prints 109 = .ok (.invokevirtual 436, 3) := by decide +kernel
theorem dyX12_prints_112 : decode cX12_prints 112 = .ok (.istore_n 2, 1) := by decide +kernel
theorem dyX12_prints_113 : decode cX12_prints 113 = .ok (.aload_n 0, 1) := by decide +kernel
theorem dyX12_prints_114 : decode cX12_prints 114 = .ok (.iload_n 2, 1) := by decide +kernel
theorem dyX12_prints_115 : decode cX12_prints 115 = .ok (.iload 5, 2) := by decide +kernel
theorem dyX12_prints_117 : decode cX12_prints 117 = .ok (.iconst 4, 1) := by decide +kernel
theorem dyX12_prints_118 : decode cX12_prints 118 = .ok (.if_icmp .ne 8, 3) := by decide +kernel
theorem dyX12_prints_121 : decode cX12_prints 121 = .ok (.bipush 43, 2) := by decide +kernel
theorem dyX12_prints_123 : decode cX12_prints 123 = .ok (.goto 5, 3) := by decide +kernel
theorem dyX12_prints_126 : decode cX12_prints 126 = .ok (.bipush 42, 2) := by decide +kernel
theorem dyX12_prints_128 : decode cX12_prints 128 = .ok (.invokevirtual 436, 3) := by decide +kernel
theorem dyX12_prints_131 : decode cX12_prints 131 = .ok (.istore_n 2, 1) := by decide +kernel
theorem dyX12_prints_132 : decode cX12_prints 132 = .ok (.aload_n 0, 1) := by decide +kernel
theorem dyX12_prints_133 : decode cX12_prints 133 = .ok (.iload_n 2, 1) := by decide +kernel
theorem dyX12_prints_134 : decode cX12_prints 134 = .ok (.sipush 1000, 3) := by decide +kernel
theorem dyX12_prints_137 : decode cX12_prints 137 = .ok (.aload_n 0, 1) := by decide +kernel
theorem dyX12_prints_138 : decode cX12_prints 138 = .ok (.iload 4, 2) := by decide +kernel
theorem dyX12_prints_140 : decode cX12_prints 140 = .ok (.iconst 0, 1) := by decide +kernel
theorem dyX12_prints_141 : decode cX12_prints 141 = .ok (.invokevirtual 299, 3) := by decide +kernel
theorem dyX12_prints_144 : decode cX12_prints 144 = .ok (.iadd, 1) := by decide +kernel
theorem dyX12_prints_145 : decode cX12_prints 145 = .ok (.invokevirtual 436, 3) := by decide +kernel
theorem dyX12_prints_148 : decode cX12_prints 148 = .ok (.istore_n 2, 1) := by decide +kernel
theorem dyX12_prints_149 : decode cX12_prints 149 = .ok (.aload_n 0, 1) := by decide +kernel
theorem dyX12_prints_150 : decode cX12_prints 150 = .ok (.iload_n 2, 1) := by decide +kernel
theorem dyX12_prints_151 : decode cX12_prints 151 = .ok (.bipush 40, 2) := by decide +kernel
theorem dyX12_prints_153 : decode cX12_prints 153 = .ok (.invokevirtual 436, 3) := by decide +kernel
theorem dyX12_prints_156 : decode cX12_prints 156 = .ok (.istore_n 2, 1) := by decide +kernel
theorem dyX12_prints_157 : decode cX12_prints 157 = .ok (.goto 70, 3) := by decide +kernel
theorem dyX12_prints_160 : decode cX12_prints 160 = .ok (.iload 5, 2) := by decide +kernel
theorem dyX12_prints_162 : decode cX12_prints 162 = .ok (.bipush 10, 2) := by decide +kernel
theorem dyX12_prints_164 : decode cX12_prints 164 = .ok (.if_icmp .ne 23, 3) := by decide +kernel
theorem dyX12_prints_167 : decode cX12_prints 167 = .ok (.aload_n 0, 1) := by decide +kernel
theorem dyX12_prints_168 : decode cX12_prints 168 = .ok (.iload_n 2, 1) := by decide +kernel
theorem dyX12_prints_169 : decode cX12_prints 169 = .ok (.sipush 1000, 3) := by decide +kernel
theorem dyX12_prints_172 : decode cX12_prints 172 = .ok (.aload_n 0, 1) := by decide +kernel
theorem dyX12_prints_173 : decode cX12_prints 173 = .ok (.iload 4, 2) := by decide +kernel
theorem dyX12_prints_175 : decode cX12_prints 175 = .ok (.iconst 1, 1) := by decide +kernel
theorem dyX12_prints_176 : decode cX12_prints 176 = .ok (.invokevirtual 299, 3) := by decide +kernel
theorem dyX12_prints_179 : decode cX12_prints 179 = .ok (.iadd, 1) := by decide +kernel
theorem dyX12_prints_180 : decode cX12_prints 180 = .ok (.invokevirtual 436, 3) := by decide +kernel
theorem dyX12_prints_183 : decode cX12_prints 183 = .ok (.istore_n 2, 1) := by decide +kernel
theorem dyX12_prints_184 : decode cX12_prints 184 = .ok (.goto 43, 3) := by decide +kernel
theorem dyX12_prints_187 : decode cX12_prints 187 = .ok (.aload_n 0, 1) := by decide +kernel
theorem dyX12_prints_188 : decode cX12_prints 188 = .ok (.getfield 71, 3) := by decide +kernel
theorem dyX12_prints_191 : decode cX12_prints 191 = .ok (.iload 4, 2) := by decide +kernel
theorem dyX12_prints_193 : decode cX12_prints 193 = .ok (.iaload, 1) := by decide +kernel
theorem dyX12_prints_194 : decode cX12_prints 194 = .ok (.iconst 1, 1) := by decide +kernel
theorem dyX12_prints_195 : decode cX12_prints 195 = .ok (.isub, 1) := by decide +kernel
theorem dyX12_prints_196 : decode cX12_prints 196 = .ok (.istore 6, 2) := by decide +kernel
theorem dyX12_prints_198 : decode cX12_prints 198 = .ok (.iload 6, 2) := by decide +kernel
theorem dyX12_prints_200 : decode cX12_prints 200 = .ok (.ifCond .lt 27, 3) := by decide +kernel
theorem dyX12_prints_203 : decode cX12_prints 203 = .ok (.aload_n 0, 1) := by decide +kernel
theorem dyX12_prints_204 : decode cX12_prints 204 = .ok (.iload_n 2, 1) := by decide +kernel
theorem dyX12_prints_205 : decode cX12_prints 205 = .ok (.sipush 1000, 3) := by decide +kernel
theorem dyX12_prints_208 : decode cX12_prints 208 = .ok (.aload_n 0, 1) := by decide +kernel
theorem dyX12_prints_209 : decode cX12_prints 209 = .ok (.iload 4, 2) := by decide +kernel
theorem dyX12_prints_211 : decode cX12_prints 211 = .ok (.iload 6, 2) := by decide +kernel
theorem dyX12_prints_213 : decode cX12_prints 213 = .ok (.invokevirtual 299, 3) := by decide +kernel
theorem dyX12_prints_216 : decode cX12_prints 216 = .ok (.iadd, 1) := by decide +kernel
theorem dyX12_prints_217 : decode cX12_prints 217 = .ok (.invokevirtual 436, 3) := by decide +kernel
theorem dyX12_prints_220 : decode cX12_prints 220 = .ok (.istore_n 2, 1) := by decide +kernel
theorem dyX12_prints_221 : decode cX12_prints 221 = .ok (.iinc 6 (-1), 3) := by decide +kernel
theorem dyX12_prints_224 : decode cX12_prints 224 = .ok (.goto (-26), 3) := by decide +kernel
theorem dyX12_prints_227 : decode cX12_prints 227 = .ok (.goto (-211), 3) := by decide +kernel
theorem dyX12_prints_230 : decode cX12_prints 230 = .ok (.return_, 1) := by decide +kernel
theorem zsg_yX12_prints : yX12_prints.cls = RX12 ∧ yX12_prints.cls ≠ "java/lang/invoke/MethodHandle" ∧ yX12_prints.cls ≠ "java/lang/invoke/VarHandle" ∧ (parseMethodDescriptor yX12_prints.desc).map (fun d => d.parameters.length) = some 1 := by decide +kernel
set_option maxRecDepth 20000 in
theorem c_M_prints {l : Launch} {D : va_G} {B : Nat} {cA : Nat → ClassId} {ad : Nat → Nat} {S : List zC} (hS : zOkM S) {a1 : Int32} {I : zI} {K : zI → Prop}  (h : w_M_prints a1 I K) : Met l yX12_prints (zws yX12_prints cX12_prints 7 none) (zrm 2 44) (zPc D B cA ad [.ref (B + 491), .int a1] S I) (zQc D B cA (zqV S K)) 0 0 (fun q => B ≤ q) := by
  refine zm_of (cc := cX12_prints) (maxL := 7) (ret := none) (by decide +kernel) rfl (Nat.le_of_ble_eq_true rfl) trivial ?_
  intro p e s m args below meth c C _
  unfold w_M_prints at h
  show zX p l e (zrm 2 44) s m args below meth c (MQ below (zQc D B cA (zqV S K)) args s 0 0 (fun q => B ≤ q)) D B cA 7 0 0 S I [(0, .ref (B + 491)), (1, .int a1)] [] 0
  refine zr_aload_n C dyX12_prints_0 rfl 0 rfl ?_
  refine zr_iconst C dyX12_prints_1 zc_i_0 ?_
  refine zp_12_430 C hS dyX12_prints_2 ?_
  refine zn_mem C (fun I_1 eI_1 => ?_)
  replace h := h I_1 eI_1
  refine zr_aload_n C dyX12_prints_5 rfl 0 rfl ?_
  refine zr_iconst C dyX12_prints_6 zc_i_0 ?_
  refine zr_sipush C dyX12_prints_7 zc_s_1000 ?_
  refine zr_iload_n C dyX12_prints_10 rfl 1 rfl ?_
  refine zr_iadd C dyX12_prints_11 ?_
  refine zv_12_436 C hS (st := []) h ⟨Nat.le_of_ble_eq_true rfl, Nat.le_of_ble_eq_true rfl⟩ (Nat.le_of_ble_eq_true rfl) dyX12_prints_12 (fun r_2 I_3 h => ?_)
  refine zr_istore_n C dyX12_prints_15 rfl (Nat.le_of_ble_eq_true rfl) (lv2 := [(2, .int r_2), (0, .ref (B + 491)), (1, .int a1)]) rfl ?_
  refine zjn (h (fun (v2_4 : Int32) (I_5 : zI) => zX p l e (zrm 2 44) s m args below meth c (MQ below (zQc D B cA (zqV S K)) args s 0 0 (fun q => B ≤ q)) D B cA 7 0 0 S I_5 [(2, .int v2_4), (0, .ref (B + 491))] [] 16) (fun v2_4 I_5 h => ?_)) (fun h => ?_)
  · refine zr_iload_n C dyX12_prints_16 rfl 0 rfl ?_
    refine zr_if_le C dyX12_prints_17 (tgt := 230) (by decide) (fun hc_43 => ?_) (fun hc_43 => ?_)
    · replace h := zif_pos hc_43 h
      exact zr_vret C rfl dyX12_prints_230 ⟨rfl, rfl, h⟩
    · replace h := zif_neg hc_43 h
      refine zn_iinc C (fun v2_6 => [(2, .int v2_6), (0, .ref (B + 491))]) dyX12_prints_20 0 rfl zc_i_m1 (Nat.le_of_ble_eq_true rfl) (fun _ => rfl) (fun v2_6 ev2_6 => ?_)
      replace h := h v2_6 ev2_6
      refine zr_aload_n C dyX12_prints_23 rfl 1 rfl ?_
      refine zg_12_165 C hS dyX12_prints_24 ?_
      refine zr_iload_n C dyX12_prints_27 rfl 0 rfl ?_
      refine zr_iald C (hS _ _ zs_543) h.1 dyX12_prints_28 ?_
      replace h := h.2
      refine zn_istore_n C (fun v3_7 => [(3, .int v3_7), (2, .int v2_6), (0, .ref (B + 491))]) dyX12_prints_29 rfl (Nat.le_of_ble_eq_true rfl) (fun _ => rfl) (fun v3_7 ev3_7 => ?_)
      replace h := h v3_7 ev3_7
      refine zr_iload_n C dyX12_prints_30 rfl 0 rfl ?_
      refine zr_sipush C dyX12_prints_31 zc_s_1000 ?_
      refine zr_icmp_ge C dyX12_prints_34 (tgt := 45) (by decide) (fun hc_42 => ?_) (fun hc_42 => ?_)
      · replace h := zif_pos hc_42 h
        refine zr_iload_n C dyX12_prints_45 rfl 0 rfl ?_
        refine zr_sipush C dyX12_prints_46 zc_s_1000 ?_
        refine zr_isub C dyX12_prints_49 ?_
        refine zn_istore C (fun v4_8 => [(4, .int v4_8), (3, .int v3_7), (2, .int v2_6), (0, .ref (B + 491))]) dyX12_prints_50 (Nat.le_of_ble_eq_true rfl) (fun _ => rfl) (fun v4_8 ev4_8 => ?_)
        replace h := h v4_8 ev4_8
        refine zr_aload_n C dyX12_prints_52 rfl 3 rfl ?_
        refine zg_12_62 C hS dyX12_prints_53 ?_
        refine zr_iload C dyX12_prints_56 0 rfl ?_
        refine zr_iald C (hS _ _ zs_509) h.1 dyX12_prints_58 ?_
        replace h := h.2
        refine zn_istore C (fun v5_9 => [(5, .int v5_9), (4, .int v4_8), (3, .int v3_7), (2, .int v2_6), (0, .ref (B + 491))]) dyX12_prints_59 (Nat.le_of_ble_eq_true rfl) (fun _ => rfl) (fun v5_9 ev5_9 => ?_)
        replace h := h v5_9 ev5_9
        refine zr_iload C dyX12_prints_61 0 rfl ?_
        refine zr_if_ge C dyX12_prints_63 (tgt := 75) (by decide) (fun hc_40 => ?_) (fun hc_40 => ?_)
        · replace h := zif_pos hc_40 h
          refine zr_iload C dyX12_prints_75 0 rfl ?_
          refine zr_iconst C dyX12_prints_77 zc_i_4 ?_
          refine zjn (h (zX p l e (zrm 2 44) s m args below meth c (MQ below (zQc D B cA (zqV S K)) args s 0 0 (fun q => B ≤ q)) D B cA 7 0 0 S I_5 [(5, .int v5_9), (4, .int v4_8), (2, .int v2_6), (0, .ref (B + 491))] [] 88) (fun  h => ?_)) (fun h => ?_)
          · refine zr_aload_n C dyX12_prints_88 rfl 3 rfl ?_
            refine zr_iload_n C dyX12_prints_89 rfl 2 rfl ?_
            refine zr_bipush C dyX12_prints_90 zc_b_41 ?_
            refine zv_12_436 C hS (st := []) h ⟨Nat.le_of_ble_eq_true rfl, Nat.le_of_ble_eq_true rfl⟩ (Nat.le_of_ble_eq_true rfl) dyX12_prints_92 (fun r_10 I_11 h => ?_)
            refine zr_istore_n C dyX12_prints_95 rfl (Nat.le_of_ble_eq_true rfl) (lv2 := [(2, .int r_10), (5, .int v5_9), (4, .int v4_8), (0, .ref (B + 491))]) rfl ?_
            refine zr_aload_n C dyX12_prints_96 rfl 3 rfl ?_
            refine zr_iload_n C dyX12_prints_97 rfl 0 rfl ?_
            refine zr_sipush C dyX12_prints_98 zc_s_1000 ?_
            refine zr_aload_n C dyX12_prints_101 rfl 3 rfl ?_
            refine zr_iload C dyX12_prints_102 2 rfl ?_
            refine zr_iconst C dyX12_prints_104 zc_i_2 ?_
            refine zv_12_299 C hS (st := [.int 1000, .int r_10, .ref (B + 491)]) h ⟨Nat.le_of_ble_eq_true rfl, Nat.le_of_ble_eq_true rfl⟩ (Nat.le_of_ble_eq_true rfl) dyX12_prints_105 (fun r_12 h => ?_)
            refine zr_iadd C dyX12_prints_108 ?_
            refine zv_12_436 C hS (st := []) h ⟨Nat.le_of_ble_eq_true rfl, Nat.le_of_ble_eq_true rfl⟩ (Nat.le_of_ble_eq_true rfl) dyX12_prints_109 (fun r_13 I_14 h => ?_)
            refine zr_istore_n C dyX12_prints_112 rfl (Nat.le_of_ble_eq_true rfl) (lv2 := [(2, .int r_13), (5, .int v5_9), (4, .int v4_8), (0, .ref (B + 491))]) rfl ?_
            refine zr_aload_n C dyX12_prints_113 rfl 3 rfl ?_
            refine zr_iload_n C dyX12_prints_114 rfl 0 rfl ?_
            refine zr_iload C dyX12_prints_115 1 rfl ?_
            refine zr_iconst C dyX12_prints_117 zc_i_4 ?_
            refine zjn (h (fun (t_15 : Int32) => zX p l e (zrm 2 44) s m args below meth c (MQ below (zQc D B cA (zqV S K)) args s 0 0 (fun q => B ≤ q)) D B cA 7 0 0 S I_14 [(4, .int v4_8), (0, .ref (B + 491))] [.int t_15, .int r_13, .ref (B + 491)] 128) (fun t_15 h => ?_)) (fun h => ?_)
            · refine zv_12_436 C hS (st := []) h ⟨Nat.le_of_ble_eq_true rfl, Nat.le_of_ble_eq_true rfl⟩ (Nat.le_of_ble_eq_true rfl) dyX12_prints_128 (fun r_16 I_17 h => ?_)
              refine zr_istore_n C dyX12_prints_131 rfl (Nat.le_of_ble_eq_true rfl) (lv2 := [(2, .int r_16), (4, .int v4_8), (0, .ref (B + 491))]) rfl ?_
              refine zr_aload_n C dyX12_prints_132 rfl 2 rfl ?_
              refine zr_iload_n C dyX12_prints_133 rfl 0 rfl ?_
              refine zr_sipush C dyX12_prints_134 zc_s_1000 ?_
              refine zr_aload_n C dyX12_prints_137 rfl 2 rfl ?_
              refine zr_iload C dyX12_prints_138 1 rfl ?_
              refine zr_iconst C dyX12_prints_140 zc_i_0 ?_
              refine zv_12_299 C hS (st := [.int 1000, .int r_16, .ref (B + 491)]) h ⟨Nat.le_of_ble_eq_true rfl, Nat.le_of_ble_eq_true rfl⟩ (Nat.le_of_ble_eq_true rfl) dyX12_prints_141 (fun r_18 h => ?_)
              refine zr_iadd C dyX12_prints_144 ?_
              refine zv_12_436 C hS (st := []) h ⟨Nat.le_of_ble_eq_true rfl, Nat.le_of_ble_eq_true rfl⟩ (Nat.le_of_ble_eq_true rfl) dyX12_prints_145 (fun r_19 I_20 h => ?_)
              refine zr_istore_n C dyX12_prints_148 rfl (Nat.le_of_ble_eq_true rfl) (lv2 := [(2, .int r_19), (4, .int v4_8), (0, .ref (B + 491))]) rfl ?_
              refine zr_aload_n C dyX12_prints_149 rfl 2 rfl ?_
              refine zr_iload_n C dyX12_prints_150 rfl 0 rfl ?_
              refine zr_bipush C dyX12_prints_151 zc_b_40 ?_
              refine zv_12_436 C hS (st := []) h ⟨Nat.le_of_ble_eq_true rfl, Nat.le_of_ble_eq_true rfl⟩ (Nat.le_of_ble_eq_true rfl) dyX12_prints_153 (fun r_21 I_22 h => ?_)
              refine zr_istore_n C dyX12_prints_156 rfl (Nat.le_of_ble_eq_true rfl) (lv2 := [(2, .int r_21), (4, .int v4_8), (0, .ref (B + 491))]) rfl ?_
              refine zr_goto C dyX12_prints_157 (tgt := 227) (by decide) ?_
              refine zr_goto C dyX12_prints_227 (tgt := 16) (by decide) ?_
              refine zr_sub (lv2 := [(2, .int r_21), (0, .ref (B + 491))]) [0, 2] rfl ?_
              exact h
            refine zr_icmp_ne C dyX12_prints_118 (tgt := 126) (by decide) (fun hc_23 => ?_) (fun hc_23 => ?_)
            · replace h := zif_neg hc_23 h
              refine zr_bipush C dyX12_prints_126 zc_b_42 ?_
              refine zr_sub (lv2 := [(4, .int v4_8), (0, .ref (B + 491))]) [2, 3] rfl ?_
              exact h
            · replace h := zif_pos hc_23 h
              refine zr_bipush C dyX12_prints_121 zc_b_43 ?_
              refine zr_goto C dyX12_prints_123 (tgt := 128) (by decide) ?_
              refine zr_sub (lv2 := [(4, .int v4_8), (0, .ref (B + 491))]) [2, 3] rfl ?_
              exact h
          refine zr_icmp_eq C dyX12_prints_78 (tgt := 88) (by decide) (fun hc_38 => ?_) (fun hc_38 => ?_)
          · replace h := zif_pos hc_38 h
            refine zr_sub (lv2 := [(5, .int v5_9), (4, .int v4_8), (2, .int v2_6), (0, .ref (B + 491))]) [0, 1, 3, 4] rfl ?_
            exact h
          · replace h := zif_neg hc_38 h
            refine zr_iload C dyX12_prints_81 0 rfl ?_
            refine zr_bipush C dyX12_prints_83 zc_b_6 ?_
            refine zr_icmp_ne C dyX12_prints_85 (tgt := 160) (by decide) (fun hc_37 => ?_) (fun hc_37 => ?_)
            · replace h := zif_neg hc_37 h
              refine zr_iload C dyX12_prints_160 0 rfl ?_
              refine zr_bipush C dyX12_prints_162 zc_b_10 ?_
              refine zr_icmp_ne C dyX12_prints_164 (tgt := 187) (by decide) (fun hc_36 => ?_) (fun hc_36 => ?_)
              · replace h := zif_neg hc_36 h
                refine zr_aload_n C dyX12_prints_187 rfl 4 rfl ?_
                refine zg_12_71 C hS dyX12_prints_188 ?_
                refine zr_iload C dyX12_prints_191 1 rfl ?_
                refine zr_iald C (hS _ _ zs_512) h.1 dyX12_prints_193 ?_
                replace h := h.2
                refine zr_iconst C dyX12_prints_194 zc_i_1 ?_
                refine zr_isub C dyX12_prints_195 ?_
                refine zn_istore C (fun v6_24 => [(6, .int v6_24), (5, .int v5_9), (4, .int v4_8), (3, .int v3_7), (2, .int v2_6), (0, .ref (B + 491))]) dyX12_prints_196 (Nat.le_of_ble_eq_true rfl) (fun _ => rfl) (fun v6_24 ev6_24 => ?_)
                replace h := h v6_24 ev6_24
                refine zjn (h (fun (v2_25 : Int32) (v6_26 : Int32) (I_27 : zI) => zX p l e (zrm 2 44) s m args below meth c (MQ below (zQc D B cA (zqV S K)) args s 0 0 (fun q => B ≤ q)) D B cA 7 0 0 S I_27 [(6, .int v6_26), (4, .int v4_8), (2, .int v2_25), (0, .ref (B + 491))] [] 198) (fun v2_25 v6_26 I_27 h => ?_)) (fun h => ?_)
                · refine zr_iload C dyX12_prints_198 0 rfl ?_
                  refine zr_if_lt C dyX12_prints_200 (tgt := 227) (by decide) (fun hc_32 => ?_) (fun hc_32 => ?_)
                  · replace h := zif_pos hc_32 h
                    refine zr_goto C dyX12_prints_227 (tgt := 16) (by decide) ?_
                    refine zr_sub (lv2 := [(2, .int v2_25), (0, .ref (B + 491))]) [2, 3] rfl ?_
                    exact h
                  · replace h := zif_neg hc_32 h
                    refine zr_aload_n C dyX12_prints_203 rfl 3 rfl ?_
                    refine zr_iload_n C dyX12_prints_204 rfl 2 rfl ?_
                    refine zr_sipush C dyX12_prints_205 zc_s_1000 ?_
                    refine zr_aload_n C dyX12_prints_208 rfl 3 rfl ?_
                    refine zr_iload C dyX12_prints_209 1 rfl ?_
                    refine zr_iload C dyX12_prints_211 0 rfl ?_
                    refine zv_12_299 C hS (st := [.int 1000, .int v2_25, .ref (B + 491)]) h ⟨Nat.le_of_ble_eq_true rfl, Nat.le_of_ble_eq_true rfl⟩ (Nat.le_of_ble_eq_true rfl) dyX12_prints_213 (fun r_28 h => ?_)
                    refine zr_iadd C dyX12_prints_216 ?_
                    refine zv_12_436 C hS (st := []) h ⟨Nat.le_of_ble_eq_true rfl, Nat.le_of_ble_eq_true rfl⟩ (Nat.le_of_ble_eq_true rfl) dyX12_prints_217 (fun r_29 I_30 h => ?_)
                    refine zr_istore_n C dyX12_prints_220 rfl (Nat.le_of_ble_eq_true rfl) (lv2 := [(2, .int r_29), (6, .int v6_26), (4, .int v4_8), (0, .ref (B + 491))]) rfl ?_
                    refine zn_iinc C (fun v6_31 => [(6, .int v6_31), (2, .int r_29), (4, .int v4_8), (0, .ref (B + 491))]) dyX12_prints_221 1 rfl zc_i_m1 (Nat.le_of_ble_eq_true rfl) (fun _ => rfl) (fun v6_31 ev6_31 => ?_)
                    replace h := h v6_31 ev6_31
                    refine zr_goto C dyX12_prints_224 (tgt := 198) (by decide) ?_
                    refine zr_sub (lv2 := [(6, .int v6_31), (4, .int v4_8), (2, .int r_29), (0, .ref (B + 491))]) [0, 2, 1, 3] rfl ?_
                    exact h
                refine zr_sub (lv2 := [(6, .int v6_24), (4, .int v4_8), (2, .int v2_6), (0, .ref (B + 491))]) [0, 2, 4, 5] rfl ?_
                exact h
              · replace h := zif_pos hc_36 h
                refine zr_aload_n C dyX12_prints_167 rfl 4 rfl ?_
                refine zr_iload_n C dyX12_prints_168 rfl 3 rfl ?_
                refine zr_sipush C dyX12_prints_169 zc_s_1000 ?_
                refine zr_aload_n C dyX12_prints_172 rfl 4 rfl ?_
                refine zr_iload C dyX12_prints_173 1 rfl ?_
                refine zr_iconst C dyX12_prints_175 zc_i_1 ?_
                refine zv_12_299 C hS (st := [.int 1000, .int v2_6, .ref (B + 491)]) h ⟨Nat.le_of_ble_eq_true rfl, Nat.le_of_ble_eq_true rfl⟩ (Nat.le_of_ble_eq_true rfl) dyX12_prints_176 (fun r_33 h => ?_)
                refine zr_iadd C dyX12_prints_179 ?_
                refine zv_12_436 C hS (st := []) h ⟨Nat.le_of_ble_eq_true rfl, Nat.le_of_ble_eq_true rfl⟩ (Nat.le_of_ble_eq_true rfl) dyX12_prints_180 (fun r_34 I_35 h => ?_)
                refine zr_istore_n C dyX12_prints_183 rfl (Nat.le_of_ble_eq_true rfl) (lv2 := [(2, .int r_34), (5, .int v5_9), (4, .int v4_8), (3, .int v3_7), (0, .ref (B + 491))]) rfl ?_
                refine zr_goto C dyX12_prints_184 (tgt := 227) (by decide) ?_
                refine zr_goto C dyX12_prints_227 (tgt := 16) (by decide) ?_
                refine zr_sub (lv2 := [(2, .int r_34), (0, .ref (B + 491))]) [0, 4] rfl ?_
                exact h
            · replace h := zif_pos hc_37 h
              refine zr_sub (lv2 := [(5, .int v5_9), (4, .int v4_8), (2, .int v2_6), (0, .ref (B + 491))]) [0, 1, 3, 4] rfl ?_
              exact h
        · replace h := zif_neg hc_40 h
          refine zr_aload_n C dyX12_prints_66 rfl 4 rfl ?_
          refine zr_iload C dyX12_prints_67 1 rfl ?_
          refine zv_12_439 C hS (st := []) h ⟨Nat.le_of_ble_eq_true rfl, Nat.le_of_ble_eq_true rfl⟩ (Nat.le_of_ble_eq_true rfl) dyX12_prints_69 (fun I_39 h => ?_)
          refine zr_goto C dyX12_prints_72 (tgt := 227) (by decide) ?_
          refine zr_goto C dyX12_prints_227 (tgt := 16) (by decide) ?_
          refine zr_sub (lv2 := [(2, .int v2_6), (0, .ref (B + 491))]) [3, 4] rfl ?_
          exact h
      · replace h := zif_neg hc_42 h
        refine zr_aload_n C dyX12_prints_37 rfl 2 rfl ?_
        refine zr_iload_n C dyX12_prints_38 rfl 0 rfl ?_
        refine zv_12_433 C hS (st := []) h ⟨Nat.le_of_ble_eq_true rfl, Nat.le_of_ble_eq_true rfl⟩ (Nat.le_of_ble_eq_true rfl) dyX12_prints_39 (fun I_41 h => ?_)
        refine zr_goto C dyX12_prints_42 (tgt := 16) (by decide) ?_
        refine zr_sub (lv2 := [(2, .int v2_6), (0, .ref (B + 491))]) [1, 2] rfl ?_
        exact h
  refine zr_sub (lv2 := [(2, .int r_2), (0, .ref (B + 491))]) [0, 1] rfl ?_
  exact h
theorem zv_12_442 {p : Program} {l : Launch} {e : Env} {R : Room} {s : State} {m : MethodId} {args : Array Value} {below : List Frame} {meth : Method} {c : Code} {Q : State → Prop} {D : va_G} {B : Nat} {cA : Nat → ClassId} {ad : Nat → Nat} {cc : ByteArray} {nL : Nat} {ret : Option FieldType} {S : List zC} {I : zI} {lv : List (Nat × Value)} {st : List Value} {pc : Nat} (C : zCx p s m args meth c cc nL RX12 ret D B cA ad) {K : zI → Prop} {xa1 : Int32} (hS : zOkM S)  (h : w_M_prints xa1 I K) (hR : 2 + 1 ≤ R.frames ∧ 8 + (7 + 11) + (44) ≤ R.locals) (hw : (st.map fun v => v.category).sum ≤ 8) (hd : decode cc pc = .ok (.invokevirtual 442, 3)) (kk : ∀ I2, K I2 → zX p l e R s m args below meth c Q D B cA nL 0 0 S I2 lv st (pc + 3)) : zX p l e R s m args below meth c Q D B cA nL 0 0 S I lv (.int xa1 :: .ref (B + 491) :: st) pc :=
  have hf : 0 ≤ R.cells ∧ 0 ≤ R.slots := ⟨Nat.zero_le _, Nat.zero_le _⟩
  zc_VqV C (ci := 12) (q := (RX12, TX12, 82)) (k := 491) (fs := [none, some (some 492), some (some 493), none, some (some 494), none, some (some 495), none, none, none, some (some 496), some (some 497), some (some 498), some (some 499), some (some 500), none, some (some 501), some (some 502), some (some 503), none, some (some 504), some (some 505), some (some 506), some (some 507), some (some 508), none, some (some 509), some (some 510), some (some 511), some (some 512), some (some 513), some (some 514), some (some 515), some (some 516), some (some 517), some (some 518), none, none, some (some 519), none, some (some 520), none, none, none, some (some 521), some (some 522), some (some 523), some (some 524), some (some 525), some (some 526), some (some 527), none, some (some 528), none, some (some 529), none, some (some 530), some (some 531), some (some 532), none, some (some 533), some (some 534), some (some 535), some (some 536), some (some 537), none, none, none, some (some 538), some (some 539), some (some 540), none, none, none, some (some 541), none, none, some (some 542), some (some 543), some (some 544), none, some (some 545)]) (As := [.int xa1]) (st := st) rfl (hS _ _ zs_491) (c_M_prints hS h) (zgV zk_ml_12_442 zk_im_yX12_prints zk_se_yX12_prints zk_in_12 zk_cd_yX12_prints) zsg_yX12_prints hR rfl rfl hw hd hf kk
def w_M_print (a1 : Int32) (I : zI) (K : Int32 → zI → Prop) : Prop :=
  w_M_prints (I.1 491 37) I (fun I_1 => w_M_in a1 0 ((I_1.1 491 80) - 1) I_1 (fun r_2 => (if r_2 = 0 then (K (-1) I_1) else (vp_in a1 1000 ∧ (K (I_1.1 544 (Int32.toNatClampNeg a1)) I_1)))))
theorem dyX12_print_0 : decode cX12_print 0 = .ok (.aload_n 0, 1) := by decide +kernel
theorem dyX12_print_1 : decode cX12_print 1 = .ok (.aload_n 0, 1) := by decide +kernel
theorem dyX12_print_2 : decode cX12_print 2 = .ok (.getfield 178, 3) := by decide +kernel
theorem dyX12_print_5 : decode cX12_print 5 = .ok (.invokevirtual 442, 3) := by decide +kernel
theorem dyX12_print_8 : decode cX12_print 8 = .ok (.iload_n 1, 1) := by decide +kernel
theorem dyX12_print_9 : decode cX12_print 9 = .ok (.iconst 0, 1) := by decide +kernel
theorem dyX12_print_10 : decode cX12_print 10 = .ok (.aload_n 0, 1) := by decide +kernel
theorem dyX12_print_11 : decode cX12_print 11 = .ok (.getfield 430, 3) := by decide +kernel
theorem dyX12_print_14 : decode cX12_print 14 = .ok (.iconst 1, 1) := by decide +kernel
theorem dyX12_print_15 : decode cX12_print 15 = .ok (.isub, 1) := by decide +kernel
theorem dyX12_print_16 : decode cX12_print 16 = .ok (.invokestatic 286, 3) := by decide +kernel
theorem dyX12_print_19 : decode cX12_print 19 = .ok (.ifCond .eq 12, 3) := by decide +kernel
theorem dyX12_print_22 : decode cX12_print 22 = .ok (.aload_n 0, 1) := by decide +kernel
theorem dyX12_print_23 : decode cX12_print 23 = .ok (.getfield 168, 3) := by decide +kernel
theorem dyX12_print_26 : decode cX12_print 26 = .ok (.iload_n 1, 1) := by decide +kernel
theorem dyX12_print_27 : decode cX12_print 27 = .ok (.iaload, 1) := by decide +kernel
theorem dyX12_print_28 : decode cX12_print 28 = .ok (.goto 4, 3) := by decide +kernel
theorem dyX12_print_31 : decode cX12_print 31 = .ok (.iconst (-1), 1) := by decide +kernel
theorem dyX12_print_32 : decode cX12_print 32 = .ok (.ireturn, 1) := by decide +kernel
theorem zsg_yX12_print : yX12_print.cls = RX12 ∧ yX12_print.cls ≠ "java/lang/invoke/MethodHandle" ∧ yX12_print.cls ≠ "java/lang/invoke/VarHandle" ∧ (parseMethodDescriptor yX12_print.desc).map (fun d => d.parameters.length) = some 1 := by decide +kernel
set_option maxRecDepth 20000 in
theorem c_M_print {l : Launch} {D : va_G} {B : Nat} {cA : Nat → ClassId} {ad : Nat → Nat} {S : List zC} (hS : zOkM S) {a1 : Int32} {I : zI} {K : Int32 → zI → Prop}  (h : w_M_print a1 I K) : Met l yX12_print (zws yX12_print cX12_print 2 (some .int)) (zrm 3 70) (zPc D B cA ad [.ref (B + 491), .int a1] S I) (zQc D B cA (zqI S K)) 0 0 (fun q => B ≤ q) := by
  refine zm_of (cc := cX12_print) (maxL := 2) (ret := (some .int)) (by decide +kernel) rfl (Nat.le_of_ble_eq_true rfl) trivial ?_
  intro p e s m args below meth c C _
  unfold w_M_print at h
  show zX p l e (zrm 3 70) s m args below meth c (MQ below (zQc D B cA (zqI S K)) args s 0 0 (fun q => B ≤ q)) D B cA 2 0 0 S I [(0, .ref (B + 491)), (1, .int a1)] [] 0
  refine zr_aload_n C dyX12_print_0 rfl 0 rfl ?_
  refine zr_aload_n C dyX12_print_1 rfl 0 rfl ?_
  refine zg_12_178 C hS dyX12_print_2 ?_
  refine zv_12_442 C hS (st := []) h ⟨Nat.le_of_ble_eq_true rfl, Nat.le_of_ble_eq_true rfl⟩ (Nat.le_of_ble_eq_true rfl) dyX12_print_5 (fun I_1 h => ?_)
  refine zr_iload_n C dyX12_print_8 rfl 1 rfl ?_
  refine zr_iconst C dyX12_print_9 zc_i_0 ?_
  refine zr_aload_n C dyX12_print_10 rfl 0 rfl ?_
  refine zg_12_430 C hS dyX12_print_11 ?_
  refine zr_iconst C dyX12_print_14 zc_i_1 ?_
  refine zr_isub C dyX12_print_15 ?_
  refine zv_12_286 C hS (st := []) h ⟨Nat.le_of_ble_eq_true rfl, Nat.le_of_ble_eq_true rfl⟩ (Nat.le_of_ble_eq_true rfl) dyX12_print_16 (fun r_2 h => ?_)
  refine zr_if_eq C dyX12_print_19 (tgt := 31) (by decide) (fun hc_3 => ?_) (fun hc_3 => ?_)
  · replace h := zif_pos hc_3 h
    refine zr_iconst C dyX12_print_31 zc_i_m1 ?_
    exact zr_iret C rfl dyX12_print_32 ⟨rfl, _, rfl, h⟩
  · replace h := zif_neg hc_3 h
    refine zr_aload_n C dyX12_print_22 rfl 0 rfl ?_
    refine zg_12_168 C hS dyX12_print_23 ?_
    refine zr_iload_n C dyX12_print_26 rfl 1 rfl ?_
    refine zr_iald C (hS _ _ zs_544) h.1 dyX12_print_27 ?_
    replace h := h.2
    refine zr_goto C dyX12_print_28 (tgt := 32) (by decide) ?_
    exact zr_iret C rfl dyX12_print_32 ⟨rfl, _, rfl, h⟩
def w_M_isTerm (a1 : Int32) (I : zI) (K : Int32 → Prop) : Prop :=
  w_M_isIn a1 I (fun r_1 => (if r_1 = 0 then K 0 else (vp_in a1 3700 ∧ (if (I.1 509 (Int32.toNatClampNeg a1)) ≤ 3 then K 0 else K 1))))
theorem dyX12_isTerm_0 : decode cX12_isTerm 0 = .ok (.aload_n 0, 1) := by decide +kernel
theorem dyX12_isTerm_1 : decode cX12_isTerm 1 = .ok (.iload_n 1, 1) := by decide +kernel
theorem dyX12_isTerm_2 : decode cX12_isTerm 2 = .ok (.invokevirtual 417, 3) := by decide +kernel
theorem dyX12_isTerm_5 : decode cX12_isTerm 5 = .ok (.ifCond .eq 17, 3) := by decide +kernel
theorem dyX12_isTerm_8 : decode cX12_isTerm 8 = .ok (.aload_n 0, 1) := by decide +kernel
theorem dyX12_isTerm_9 : decode cX12_isTerm 9 = .ok (.getfield 62, 3) := by decide +kernel
theorem dyX12_isTerm_12 : decode cX12_isTerm 12 = .ok (.iload_n 1, 1) := by decide +kernel
theorem dyX12_isTerm_13 : decode cX12_isTerm 13 = .ok (.iaload, 1) := by decide +kernel
theorem dyX12_isTerm_14 : decode cX12_isTerm 14 = .ok (.iconst 3, 1) := by decide +kernel
theorem dyX12_isTerm_15 : decode cX12_isTerm 15 = .ok (.if_icmp .le 7, 3) := by decide +kernel
theorem dyX12_isTerm_18 : decode cX12_isTerm 18 = .ok (.iconst 1, 1) := by decide +kernel
theorem dyX12_isTerm_19 : decode cX12_isTerm 19 = .ok (.goto 4, 3) := by decide +kernel
theorem dyX12_isTerm_22 : decode cX12_isTerm 22 = .ok (.iconst 0, 1) := by decide +kernel
theorem dyX12_isTerm_23 : decode cX12_isTerm 23 = .ok (.ireturn, 1) := by decide +kernel
theorem zsg_yX12_isTerm : yX12_isTerm.cls = RX12 ∧ yX12_isTerm.cls ≠ "java/lang/invoke/MethodHandle" ∧ yX12_isTerm.cls ≠ "java/lang/invoke/VarHandle" ∧ (parseMethodDescriptor yX12_isTerm.desc).map (fun d => d.parameters.length) = some 1 := by decide +kernel
set_option maxRecDepth 20000 in
theorem c_M_isTerm {l : Launch} {D : va_G} {B : Nat} {cA : Nat → ClassId} {ad : Nat → Nat} {S : List zC} (hS : zOkM S) {a1 : Int32} {I : zI} {K : Int32 → Prop}  (h : w_M_isTerm a1 I K) : Met l yX12_isTerm (zws yX12_isTerm cX12_isTerm 2 (some .boolean)) (zrm 2 43) (zPc D B cA ad [.ref (B + 491), .int a1] S I) (zQc D B cA (zpI S I K)) 0 0 (fun q => B ≤ q) := by
  refine zm_of (cc := cX12_isTerm) (maxL := 2) (ret := (some .boolean)) (by decide +kernel) rfl (Nat.le_of_ble_eq_true rfl) trivial ?_
  intro p e s m args below meth c C _
  unfold w_M_isTerm at h
  show zX p l e (zrm 2 43) s m args below meth c (MQ below (zQc D B cA (zpI S I K)) args s 0 0 (fun q => B ≤ q)) D B cA 2 0 0 S I [(0, .ref (B + 491)), (1, .int a1)] [] 0
  refine zr_aload_n C dyX12_isTerm_0 rfl 0 rfl ?_
  refine zr_iload_n C dyX12_isTerm_1 rfl 1 rfl ?_
  refine zv_12_417 C hS (st := []) h ⟨Nat.le_of_ble_eq_true rfl, Nat.le_of_ble_eq_true rfl⟩ (Nat.le_of_ble_eq_true rfl) dyX12_isTerm_2 (fun r_1 h => ?_)
  refine zr_if_eq C dyX12_isTerm_5 (tgt := 22) (by decide) (fun hc_3 => ?_) (fun hc_3 => ?_)
  · replace h := zif_pos hc_3 h
    refine zr_iconst C dyX12_isTerm_22 zc_i_0 ?_
    exact zr_zret C rfl (zb.nar zb_0) dyX12_isTerm_23 ⟨rfl, rfl, _, rfl, h⟩
  · replace h := zif_neg hc_3 h
    refine zr_aload_n C dyX12_isTerm_8 rfl 0 rfl ?_
    refine zg_12_62 C hS dyX12_isTerm_9 ?_
    refine zr_iload_n C dyX12_isTerm_12 rfl 1 rfl ?_
    refine zr_iald C (hS _ _ zs_509) h.1 dyX12_isTerm_13 ?_
    replace h := h.2
    refine zr_iconst C dyX12_isTerm_14 zc_i_3 ?_
    refine zr_icmp_le C dyX12_isTerm_15 (tgt := 22) (by decide) (fun hc_2 => ?_) (fun hc_2 => ?_)
    · replace h := zif_pos hc_2 h
      refine zr_iconst C dyX12_isTerm_22 zc_i_0 ?_
      exact zr_zret C rfl (zb.nar zb_0) dyX12_isTerm_23 ⟨rfl, rfl, _, rfl, h⟩
    · replace h := zif_neg hc_2 h
      refine zr_iconst C dyX12_isTerm_18 zc_i_1 ?_
      refine zr_goto C dyX12_isTerm_19 (tgt := 23) (by decide) ?_
      exact zr_zret C rfl (zb.nar zb_1) dyX12_isTerm_23 ⟨rfl, rfl, _, rfl, h⟩
theorem zv_12_445 {p : Program} {l : Launch} {e : Env} {R : Room} {s : State} {m : MethodId} {args : Array Value} {below : List Frame} {meth : Method} {c : Code} {Q : State → Prop} {D : va_G} {B : Nat} {cA : Nat → ClassId} {ad : Nat → Nat} {cc : ByteArray} {nL : Nat} {ret : Option FieldType} {S : List zC} {I : zI} {lv : List (Nat × Value)} {st : List Value} {pc : Nat} (C : zCx p s m args meth c cc nL RX12 ret D B cA ad) {K : Int32 → Prop} {xa1 : Int32} (hS : zOkM S)  (h : w_M_isTerm xa1 I K) (hR : 2 + 1 ≤ R.frames ∧ 8 + (2 + 11) + (43) ≤ R.locals) (hw : (st.map fun v => v.category).sum ≤ 8) (hd : decode cc pc = .ok (.invokevirtual 445, 3)) (kk : ∀ v, K v → zX p l e R s m args below meth c Q D B cA nL 0 0 S I lv (.int v :: st) (pc + 3)) : zX p l e R s m args below meth c Q D B cA nL 0 0 S I lv (.int xa1 :: .ref (B + 491) :: st) pc :=
  have hf : 0 ≤ R.cells ∧ 0 ≤ R.slots := ⟨Nat.zero_le _, Nat.zero_le _⟩
  zc_VpI C (ci := 12) (q := (RX12, TX12, 82)) (k := 491) (fs := [none, some (some 492), some (some 493), none, some (some 494), none, some (some 495), none, none, none, some (some 496), some (some 497), some (some 498), some (some 499), some (some 500), none, some (some 501), some (some 502), some (some 503), none, some (some 504), some (some 505), some (some 506), some (some 507), some (some 508), none, some (some 509), some (some 510), some (some 511), some (some 512), some (some 513), some (some 514), some (some 515), some (some 516), some (some 517), some (some 518), none, none, some (some 519), none, some (some 520), none, none, none, some (some 521), some (some 522), some (some 523), some (some 524), some (some 525), some (some 526), some (some 527), none, some (some 528), none, some (some 529), none, some (some 530), some (some 531), some (some 532), none, some (some 533), some (some 534), some (some 535), some (some 536), some (some 537), none, none, none, some (some 538), some (some 539), some (some 540), none, none, none, some (some 541), none, none, some (some 542), some (some 543), some (some 544), none, some (some 545)]) (As := [.int xa1]) (st := st) rfl (hS _ _ zs_491) (c_M_isTerm hS h) (zgV zk_ml_12_445 zk_im_yX12_isTerm zk_se_yX12_isTerm zk_in_12 zk_cd_yX12_isTerm) zsg_yX12_isTerm hR rfl rfl hw hd hf kk
theorem zg_12_171 {p : Program} {l : Launch} {e : Env} {R : Room} {s : State} {m : MethodId} {args : Array Value} {below : List Frame} {meth : Method} {c : Code} {Q : State → Prop} {D : va_G} {B : Nat} {cA : Nat → ClassId} {ad : Nat → Nat} {cc : ByteArray} {nL : Nat} {ret : Option FieldType} {S : List zC} {I : zI} {lv : List (Nat × Value)} {st : List Value} {pc : Nat} (C : zCx p s m args meth c cc nL RX12 ret D B cA ad) (hS : zOkM S) (hd : decode cc pc = .ok (.getfield 171, 3)) (kk : zX p l e R s m args below meth c Q D B cA nL 0 0 S I lv (.ref (B + 545) :: st) (pc + 3)) : zX p l e R s m args below meth c Q D B cA nL 0 0 S I lv (.ref (B + 491) :: st) pc :=
  zr_getr C (ci := 12) (Cn := RX12) (T := TX12) (N := 82) (k := 491) (j := 81) (fs := [none, some (some 492), some (some 493), none, some (some 494), none, some (some 495), none, none, none, some (some 496), some (some 497), some (some 498), some (some 499), some (some 500), none, some (some 501), some (some 502), some (some 503), none, some (some 504), some (some 505), some (some 506), some (some 507), some (some 508), none, some (some 509), some (some 510), some (some 511), some (some 512), some (some 513), some (some 514), some (some 515), some (some 516), some (some 517), some (some 518), none, none, some (some 519), none, some (some 520), none, none, none, some (some 521), some (some 522), some (some 523), some (some 524), some (some 525), some (some 526), some (some 527), none, some (some 528), none, some (some 529), none, some (some 530), some (some 531), some (some 532), none, some (some 533), some (some 534), some (some 535), some (some 536), some (some 537), none, none, none, some (some 538), some (some 539), some (some 540), none, none, none, some (some 541), none, none, some (some 542), some (some 543), some (some 544), none, some (some 545)]) rfl zin_12 (Nat.le_of_ble_eq_true rfl) rfl (hS _ _ zs_491) rfl zk_fl_12_171 hd kk
def w_M_alike (a1 : Int32) (a2 : Int32) (I : zI) (K : Int32 → zI → Prop) : Prop :=
  w_M_isTerm a1 I (fun r_1 => (if r_1 = 0 then (K (-1) I) else (w_M_isTerm a2 I (fun r_2 => (if r_2 = 0 then (K (-1) I) else (w_M_prints a1 I (fun I_3 => ∀ v3_4, v3_4 = (I_3.1 491 80) → ∀ (P31 : Int32 → zI → Prop), (∀ (v4_5 : Int32) (I_6 : zI), ((if v3_4 ≤ v4_5 then (w_M_prints a2 I_6 (fun I_7 => (if (I_7.1 491 80) = v3_4 then (∀ (P75 : Int32 → Prop), (∀ (v4_8 : Int32), ((if v3_4 ≤ v4_8 then K 1 I_7 else (vp_in v4_8 1000 ∧ (vp_in v4_8 1000 ∧ (if (I_7.1 545 (Int32.toNatClampNeg v4_8)) = (I_7.1 544 (Int32.toNatClampNeg v4_8)) then (∀ v4_9, v4_9 = (v4_8 + 1) → P75 v4_9) else K 0 I_7))))) → P75 v4_8) → P75 0) else K 0 I_7))) else (vp_in v4_5 1000 ∧ (vp_in v4_5 1000 ∧ (∀ I_13, I_13 = (zu I_6 545 (Int32.toNatClampNeg v4_5) (I_6.1 544 (Int32.toNatClampNeg v4_5))) → ∀ v4_14, v4_14 = (v4_5 + 1) → P31 v4_14 I_13))))) → P31 v4_5 I_6) → P31 0 I_3)))))))
theorem dyX12_alike_0 : decode cX12_alike 0 = .ok (.aload_n 0, 1) := by decide +kernel
theorem dyX12_alike_1 : decode cX12_alike 1 = .ok (.iload_n 1, 1) := by decide +kernel
theorem dyX12_alike_2 : decode cX12_alike 2 = .ok (.invokevirtual 445, 3) := by decide +kernel
theorem dyX12_alike_5 : decode cX12_alike 5 = .ok (.ifCond .eq 11, 3) := by decide +kernel
theorem dyX12_alike_8 : decode cX12_alike 8 = .ok (.aload_n 0, 1) := by decide +kernel
theorem dyX12_alike_9 : decode cX12_alike 9 = .ok (.iload_n 2, 1) := by decide +kernel
theorem dyX12_alike_10 : decode cX12_alike 10 = .ok (.invokevirtual 445, 3) := by decide +kernel
theorem dyX12_alike_13 : decode cX12_alike 13 = .ok (.ifCond .ne 5, 3) := by decide +kernel
theorem dyX12_alike_16 : decode cX12_alike 16 = .ok (.iconst (-1), 1) := by decide +kernel
theorem dyX12_alike_17 : decode cX12_alike 17 = .ok (.ireturn, 1) := by decide +kernel
theorem dyX12_alike_18 : decode cX12_alike 18 = .ok (.aload_n 0, 1) := by decide +kernel
theorem dyX12_alike_19 : decode cX12_alike 19 = .ok (.iload_n 1, 1) := by decide +kernel
theorem dyX12_alike_20 : decode cX12_alike 20 = .ok (.invokevirtual 442, 3) := by decide +kernel
theorem dyX12_alike_23 : decode cX12_alike 23 = .ok (.aload_n 0, 1) := by decide +kernel
theorem dyX12_alike_24 : decode cX12_alike 24 = .ok (.getfield 430, 3) := by decide +kernel
theorem dyX12_alike_27 : decode cX12_alike 27 = .ok (.istore_n 3, 1) := by decide +kernel
theorem dyX12_alike_28 : decode cX12_alike 28 = .ok (.iconst 0, 1) := by decide +kernel
theorem dyX12_alike_29 : decode cX12_alike 29 = .ok (.istore 4, 2) := by decide +kernel
theorem dyX12_alike_31 : decode cX12_alike 31 = .ok (.iload 4, 2) := by decide +kernel
theorem dyX12_alike_33 : decode cX12_alike 33 = .ok (.iload_n 3, 1) := by decide +kernel
theorem dyX12_alike_34 : decode cX12_alike 34 = .ok (.if_icmp .ge 23, 3) := by decide +kernel
theorem dyX12_alike_37 : decode cX12_alike 37 = .ok (.aload_n 0, 1) := by decide +kernel
theorem dyX12_alike_38 : decode cX12_alike 38 = .ok (.getfield 171, 3) := by decide +kernel
theorem dyX12_alike_41 : decode cX12_alike 41 = .ok (.iload 4, 2) := by decide +kernel
theorem dyX12_alike_43 : decode cX12_alike 43 = .ok (.aload_n 0, 1) := by decide +kernel
theorem dyX12_alike_44 : decode cX12_alike 44 = .ok (.getfield 168, 3) := by decide +kernel
theorem dyX12_alike_47 : decode cX12_alike 47 = .ok (.iload 4, 2) := by decide +kernel
theorem dyX12_alike_49 : decode cX12_alike 49 = .ok (.iaload, 1) := by decide +kernel
theorem dyX12_alike_50 : decode cX12_alike 50 = .ok (.iastore, 1) := by decide +kernel
theorem dyX12_alike_51 : decode cX12_alike 51 = .ok (.iinc 4 1, 3) := by decide +kernel
theorem dyX12_alike_54 : decode cX12_alike 54 = .ok (.goto (-23), 3) := by decide +kernel
theorem dyX12_alike_57 : decode cX12_alike 57 = .ok (.aload_n 0, 1) := by decide +kernel
theorem dyX12_alike_58 : decode cX12_alike 58 = .ok (.iload_n 2, 1) := by decide +kernel
theorem dyX12_alike_59 : decode cX12_alike 59 = .ok (.invokevirtual 442, 3) := by decide +kernel
theorem dyX12_alike_62 : decode cX12_alike 62 = .ok (.aload_n 0, 1) := by decide +kernel
theorem dyX12_alike_63 : decode cX12_alike 63 = .ok (.getfield 430, 3) := by decide +kernel
theorem dyX12_alike_66 : decode cX12_alike 66 = .ok (.iload_n 3, 1) := by decide +kernel
theorem dyX12_alike_67 : decode cX12_alike 67 = .ok (.if_icmp .eq 5, 3) := by decide +kernel
theorem dyX12_alike_70 : decode cX12_alike 70 = .ok (.iconst 0, 1) := by decide +kernel
theorem dyX12_alike_71 : decode cX12_alike 71 = .ok (.ireturn, 1) := by decide +kernel
theorem dyX12_alike_72 : decode cX12_alike 72 = .ok (.iconst 0, 1) := by decide +kernel
theorem dyX12_alike_73 : decode cX12_alike 73 = .ok (.istore 4, 2) := by decide +kernel
theorem dyX12_alike_75 : decode cX12_alike 75 = .ok (.iload 4, 2) := by decide +kernel
theorem dyX12_alike_77 : decode cX12_alike 77 = .ok (.iload_n 3, 1) := by decide +kernel
theorem dyX12_alike_78 : decode cX12_alike 78 = .ok (.if_icmp .ge 28, 3) := by decide +kernel
theorem dyX12_alike_81 : decode cX12_alike 81 = .ok (.aload_n 0, 1) := by decide +kernel
theorem dyX12_alike_82 : decode cX12_alike 82 = .ok (.getfield 171, 3) := by decide +kernel
theorem dyX12_alike_85 : decode cX12_alike 85 = .ok (.iload 4, 2) := by decide +kernel
theorem dyX12_alike_87 : decode cX12_alike 87 = .ok (.iaload, 1) := by decide +kernel
theorem dyX12_alike_88 : decode cX12_alike 88 = .ok (.aload_n 0, 1) := by decide +kernel
theorem dyX12_alike_89 : decode cX12_alike 89 = .ok (.getfield 168, 3) := by decide +kernel
theorem dyX12_alike_92 : decode cX12_alike 92 = .ok (.iload 4, 2) := by decide +kernel
theorem dyX12_alike_94 : decode cX12_alike 94 = .ok (.iaload, 1) := by decide +kernel
theorem dyX12_alike_95 : decode cX12_alike 95 = .ok (.if_icmp .eq 5, 3) := by decide +kernel
theorem dyX12_alike_98 : decode cX12_alike 98 = .ok (.iconst 0, 1) := by decide +kernel
theorem dyX12_alike_99 : decode cX12_alike 99 = .ok (.ireturn, 1) := by decide +kernel
theorem dyX12_alike_100 : decode cX12_alike 100 = .ok (.iinc 4 1, 3) := by decide +kernel
theorem dyX12_alike_103 : decode cX12_alike 103 = .ok (.goto (-28), 3) := by decide +kernel
theorem dyX12_alike_106 : decode cX12_alike 106 = .ok (.iconst 1, 1) := by decide +kernel
theorem dyX12_alike_107 : decode cX12_alike 107 = .ok (.ireturn, 1) := by decide +kernel
theorem zsg_yX12_alike : yX12_alike.cls = RX12 ∧ yX12_alike.cls ≠ "java/lang/invoke/MethodHandle" ∧ yX12_alike.cls ≠ "java/lang/invoke/VarHandle" ∧ (parseMethodDescriptor yX12_alike.desc).map (fun d => d.parameters.length) = some 2 := by decide +kernel
set_option maxRecDepth 20000 in
theorem c_M_alike {l : Launch} {D : va_G} {B : Nat} {cA : Nat → ClassId} {ad : Nat → Nat} {S : List zC} (hS : zOkM S) {a1 : Int32} {a2 : Int32} {I : zI} {K : Int32 → zI → Prop}  (h : w_M_alike a1 a2 I K) : Met l yX12_alike (zws yX12_alike cX12_alike 5 (some .int)) (zrm 3 70) (zPc D B cA ad [.ref (B + 491), .int a1, .int a2] S I) (zQc D B cA (zqI S K)) 0 0 (fun q => B ≤ q) := by
  refine zm_of (cc := cX12_alike) (maxL := 5) (ret := (some .int)) (by decide +kernel) rfl (Nat.le_of_ble_eq_true rfl) trivial ?_
  intro p e s m args below meth c C _
  unfold w_M_alike at h
  show zX p l e (zrm 3 70) s m args below meth c (MQ below (zQc D B cA (zqI S K)) args s 0 0 (fun q => B ≤ q)) D B cA 5 0 0 S I [(0, .ref (B + 491)), (1, .int a1), (2, .int a2)] [] 0
  refine zr_aload_n C dyX12_alike_0 rfl 0 rfl ?_
  refine zr_iload_n C dyX12_alike_1 rfl 1 rfl ?_
  refine zv_12_445 C hS (st := []) h ⟨Nat.le_of_ble_eq_true rfl, Nat.le_of_ble_eq_true rfl⟩ (Nat.le_of_ble_eq_true rfl) dyX12_alike_2 (fun r_1 h => ?_)
  refine zr_if_eq C dyX12_alike_5 (tgt := 16) (by decide) (fun hc_17 => ?_) (fun hc_17 => ?_)
  · replace h := zif_pos hc_17 h
    refine zr_iconst C dyX12_alike_16 zc_i_m1 ?_
    exact zr_iret C rfl dyX12_alike_17 ⟨rfl, _, rfl, h⟩
  · replace h := zif_neg hc_17 h
    refine zr_aload_n C dyX12_alike_8 rfl 0 rfl ?_
    refine zr_iload_n C dyX12_alike_9 rfl 2 rfl ?_
    refine zv_12_445 C hS (st := []) h ⟨Nat.le_of_ble_eq_true rfl, Nat.le_of_ble_eq_true rfl⟩ (Nat.le_of_ble_eq_true rfl) dyX12_alike_10 (fun r_2 h => ?_)
    refine zr_if_ne C dyX12_alike_13 (tgt := 18) (by decide) (fun hc_16 => ?_) (fun hc_16 => ?_)
    · replace h := zif_neg hc_16 h
      refine zr_aload_n C dyX12_alike_18 rfl 0 rfl ?_
      refine zr_iload_n C dyX12_alike_19 rfl 1 rfl ?_
      refine zv_12_442 C hS (st := []) h ⟨Nat.le_of_ble_eq_true rfl, Nat.le_of_ble_eq_true rfl⟩ (Nat.le_of_ble_eq_true rfl) dyX12_alike_20 (fun I_3 h => ?_)
      refine zr_aload_n C dyX12_alike_23 rfl 0 rfl ?_
      refine zg_12_430 C hS dyX12_alike_24 ?_
      refine zn_istore_n C (fun v3_4 => [(3, .int v3_4), (0, .ref (B + 491)), (1, .int a1), (2, .int a2)]) dyX12_alike_27 rfl (Nat.le_of_ble_eq_true rfl) (fun _ => rfl) (fun v3_4 ev3_4 => ?_)
      replace h := h v3_4 ev3_4
      refine zr_iconst C dyX12_alike_28 zc_i_0 ?_
      refine zr_istore C dyX12_alike_29 (Nat.le_of_ble_eq_true rfl) (lv2 := [(4, .int 0), (3, .int v3_4), (0, .ref (B + 491)), (1, .int a1), (2, .int a2)]) rfl ?_
      refine zjn (h (fun (v4_5 : Int32) (I_6 : zI) => zX p l e (zrm 3 70) s m args below meth c (MQ below (zQc D B cA (zqI S K)) args s 0 0 (fun q => B ≤ q)) D B cA 5 0 0 S I_6 [(4, .int v4_5), (3, .int v3_4), (0, .ref (B + 491)), (2, .int a2)] [] 31) (fun v4_5 I_6 h => ?_)) (fun h => ?_)
      · refine zr_iload C dyX12_alike_31 0 rfl ?_
        refine zr_iload_n C dyX12_alike_33 rfl 1 rfl ?_
        refine zr_icmp_ge C dyX12_alike_34 (tgt := 57) (by decide) (fun hc_15 => ?_) (fun hc_15 => ?_)
        · replace h := zif_pos hc_15 h
          refine zr_aload_n C dyX12_alike_57 rfl 2 rfl ?_
          refine zr_iload_n C dyX12_alike_58 rfl 3 rfl ?_
          refine zv_12_442 C hS (st := []) h ⟨Nat.le_of_ble_eq_true rfl, Nat.le_of_ble_eq_true rfl⟩ (Nat.le_of_ble_eq_true rfl) dyX12_alike_59 (fun I_7 h => ?_)
          refine zr_aload_n C dyX12_alike_62 rfl 2 rfl ?_
          refine zg_12_430 C hS dyX12_alike_63 ?_
          refine zr_iload_n C dyX12_alike_66 rfl 1 rfl ?_
          refine zr_icmp_eq C dyX12_alike_67 (tgt := 72) (by decide) (fun hc_12 => ?_) (fun hc_12 => ?_)
          · replace h := zif_pos hc_12 h
            refine zr_iconst C dyX12_alike_72 zc_i_0 ?_
            refine zr_istore C dyX12_alike_73 (Nat.le_of_ble_eq_true rfl) (lv2 := [(4, .int 0), (3, .int v3_4), (0, .ref (B + 491)), (2, .int a2)]) rfl ?_
            refine zjn (h (fun (v4_8 : Int32) => zX p l e (zrm 3 70) s m args below meth c (MQ below (zQc D B cA (zqI S K)) args s 0 0 (fun q => B ≤ q)) D B cA 5 0 0 S I_7 [(4, .int v4_8), (3, .int v3_4), (0, .ref (B + 491))] [] 75) (fun v4_8 h => ?_)) (fun h => ?_)
            · refine zr_iload C dyX12_alike_75 0 rfl ?_
              refine zr_iload_n C dyX12_alike_77 rfl 1 rfl ?_
              refine zr_icmp_ge C dyX12_alike_78 (tgt := 106) (by decide) (fun hc_11 => ?_) (fun hc_11 => ?_)
              · replace h := zif_pos hc_11 h
                refine zr_iconst C dyX12_alike_106 zc_i_1 ?_
                exact zr_iret C rfl dyX12_alike_107 ⟨rfl, _, rfl, h⟩
              · replace h := zif_neg hc_11 h
                refine zr_aload_n C dyX12_alike_81 rfl 2 rfl ?_
                refine zg_12_171 C hS dyX12_alike_82 ?_
                refine zr_iload C dyX12_alike_85 0 rfl ?_
                refine zr_iald C (hS _ _ zs_545) h.1 dyX12_alike_87 ?_
                replace h := h.2
                refine zr_aload_n C dyX12_alike_88 rfl 2 rfl ?_
                refine zg_12_168 C hS dyX12_alike_89 ?_
                refine zr_iload C dyX12_alike_92 0 rfl ?_
                refine zr_iald C (hS _ _ zs_544) h.1 dyX12_alike_94 ?_
                replace h := h.2
                refine zr_icmp_eq C dyX12_alike_95 (tgt := 100) (by decide) (fun hc_10 => ?_) (fun hc_10 => ?_)
                · replace h := zif_pos hc_10 h
                  refine zn_iinc C (fun v4_9 => [(4, .int v4_9), (3, .int v3_4), (0, .ref (B + 491))]) dyX12_alike_100 0 rfl zc_i_1 (Nat.le_of_ble_eq_true rfl) (fun _ => rfl) (fun v4_9 ev4_9 => ?_)
                  replace h := h v4_9 ev4_9
                  refine zr_goto C dyX12_alike_103 (tgt := 75) (by decide) ?_
                  exact h
                · replace h := zif_neg hc_10 h
                  refine zr_iconst C dyX12_alike_98 zc_i_0 ?_
                  exact zr_iret C rfl dyX12_alike_99 ⟨rfl, _, rfl, h⟩
            refine zr_sub (lv2 := [(4, .int 0), (3, .int v3_4), (0, .ref (B + 491))]) [0, 1, 2] rfl ?_
            exact h
          · replace h := zif_neg hc_12 h
            refine zr_iconst C dyX12_alike_70 zc_i_0 ?_
            exact zr_iret C rfl dyX12_alike_71 ⟨rfl, _, rfl, h⟩
        · replace h := zif_neg hc_15 h
          refine zr_aload_n C dyX12_alike_37 rfl 2 rfl ?_
          refine zg_12_171 C hS dyX12_alike_38 ?_
          refine zr_iload C dyX12_alike_41 0 rfl ?_
          refine zr_aload_n C dyX12_alike_43 rfl 2 rfl ?_
          refine zg_12_168 C hS dyX12_alike_44 ?_
          refine zr_iload C dyX12_alike_47 0 rfl ?_
          refine zr_iald C (hS _ _ zs_544) h.1 dyX12_alike_49 ?_
          replace h := h.2
          refine zr_iast C (hS _ _ zs_545) h.1 dyX12_alike_50 ?_
          replace h := h.2
          refine zn_mem C (fun I_13 eI_13 => ?_)
          replace h := h I_13 eI_13
          refine zn_iinc C (fun v4_14 => [(4, .int v4_14), (3, .int v3_4), (0, .ref (B + 491)), (2, .int a2)]) dyX12_alike_51 0 rfl zc_i_1 (Nat.le_of_ble_eq_true rfl) (fun _ => rfl) (fun v4_14 ev4_14 => ?_)
          replace h := h v4_14 ev4_14
          refine zr_goto C dyX12_alike_54 (tgt := 31) (by decide) ?_
          exact h
      refine zr_sub (lv2 := [(4, .int 0), (3, .int v3_4), (0, .ref (B + 491)), (2, .int a2)]) [0, 1, 2, 4] rfl ?_
      exact h
    · replace h := zif_pos hc_16 h
      refine zr_iconst C dyX12_alike_16 zc_i_m1 ?_
      exact zr_iret C rfl dyX12_alike_17 ⟨rfl, _, rfl, h⟩
def w_M_row (a1 : Int32) (I : zI) (K : Int32 → zI → Prop) : Prop :=
  w_M_in a1 0 1 I (fun r_1 => (if r_1 = 0 then (K (-1) I) else (∀ I_2, I_2 = (zu I 491 65 0) → w_M_rowNow I_2 (fun r_3 I_4 => (if a1 = 0 then K r_3 I_4 else (K (I_4.1 491 65) I_4))))))
theorem dyX12_row_0 : decode cX12_row 0 = .ok (.iload_n 1, 1) := by decide +kernel
theorem dyX12_row_1 : decode cX12_row 1 = .ok (.iconst 0, 1) := by decide +kernel
theorem dyX12_row_2 : decode cX12_row 2 = .ok (.iconst 1, 1) := by decide +kernel
theorem dyX12_row_3 : decode cX12_row 3 = .ok (.invokestatic 286, 3) := by decide +kernel
theorem dyX12_row_6 : decode cX12_row 6 = .ok (.ifCond .ne 5, 3) := by decide +kernel
theorem dyX12_row_9 : decode cX12_row 9 = .ok (.iconst (-1), 1) := by decide +kernel
theorem dyX12_row_10 : decode cX12_row 10 = .ok (.ireturn, 1) := by decide +kernel
theorem dyX12_row_11 : decode cX12_row 11 = .ok (.aload_n 0, 1) := by decide +kernel
theorem dyX12_row_12 : decode cX12_row 12 = .ok (.iconst 0, 1) := by decide +kernel
theorem dyX12_row_13 : decode cX12_row 13 = .ok (.putfield 315, 3) := by decide +kernel
theorem dyX12_row_16 : decode cX12_row 16 = .ok (.aload_n 0, 1) := by decide +kernel
theorem dyX12_row_17 : decode cX12_row 17 = .ok (.invokevirtual 369, 3) := by decide +kernel
theorem dyX12_row_20 : decode cX12_row 20 = .ok (.istore_n 2, 1) := by decide +kernel
theorem dyX12_row_21 : decode cX12_row 21 = .ok (.iload_n 1, 1) := by decide +kernel
theorem dyX12_row_22 : decode cX12_row 22 = .ok (.ifCond .ne 7, 3) := by decide +kernel
theorem dyX12_row_25 : decode cX12_row 25 = .ok (.iload_n 2, 1) := by decide +kernel
theorem dyX12_row_26 : decode cX12_row 26 = .ok (.goto 7, 3) := by decide +kernel
theorem dyX12_row_29 : decode cX12_row 29 = .ok (.aload_n 0, 1) := by decide +kernel
theorem dyX12_row_30 : decode cX12_row 30 = .ok (.getfield 315, 3) := by decide +kernel
theorem dyX12_row_33 : decode cX12_row 33 = .ok (.ireturn, 1) := by decide +kernel
theorem zsg_yX12_row : yX12_row.cls = RX12 ∧ yX12_row.cls ≠ "java/lang/invoke/MethodHandle" ∧ yX12_row.cls ≠ "java/lang/invoke/VarHandle" ∧ (parseMethodDescriptor yX12_row.desc).map (fun d => d.parameters.length) = some 1 := by decide +kernel
set_option maxRecDepth 20000 in
theorem c_M_row {l : Launch} {D : va_G} {B : Nat} {cA : Nat → ClassId} {ad : Nat → Nat} {S : List zC} (hS : zOkM S) {a1 : Int32} {I : zI} {K : Int32 → zI → Prop}  (h : w_M_row a1 I K) : Met l yX12_row (zws yX12_row cX12_row 3 (some .int)) (zrm 2 49) (zPc D B cA ad [.ref (B + 491), .int a1] S I) (zQc D B cA (zqI S K)) 0 0 (fun q => B ≤ q) := by
  refine zm_of (cc := cX12_row) (maxL := 3) (ret := (some .int)) (by decide +kernel) rfl (Nat.le_of_ble_eq_true rfl) trivial ?_
  intro p e s m args below meth c C _
  unfold w_M_row at h
  show zX p l e (zrm 2 49) s m args below meth c (MQ below (zQc D B cA (zqI S K)) args s 0 0 (fun q => B ≤ q)) D B cA 3 0 0 S I [(0, .ref (B + 491)), (1, .int a1)] [] 0
  refine zr_iload_n C dyX12_row_0 rfl 1 rfl ?_
  refine zr_iconst C dyX12_row_1 zc_i_0 ?_
  refine zr_iconst C dyX12_row_2 zc_i_1 ?_
  refine zv_12_286 C hS (st := []) h ⟨Nat.le_of_ble_eq_true rfl, Nat.le_of_ble_eq_true rfl⟩ (Nat.le_of_ble_eq_true rfl) dyX12_row_3 (fun r_1 h => ?_)
  refine zr_if_ne C dyX12_row_6 (tgt := 11) (by decide) (fun hc_6 => ?_) (fun hc_6 => ?_)
  · replace h := zif_neg hc_6 h
    refine zr_aload_n C dyX12_row_11 rfl 0 rfl ?_
    refine zr_iconst C dyX12_row_12 zc_i_0 ?_
    refine zp_12_315 C hS dyX12_row_13 ?_
    refine zn_mem C (fun I_2 eI_2 => ?_)
    replace h := h I_2 eI_2
    refine zr_aload_n C dyX12_row_16 rfl 0 rfl ?_
    refine zv_12_369 C hS (st := []) h ⟨Nat.le_of_ble_eq_true rfl, Nat.le_of_ble_eq_true rfl⟩ (Nat.le_of_ble_eq_true rfl) dyX12_row_17 (fun r_3 I_4 h => ?_)
    refine zr_istore_n C dyX12_row_20 rfl (Nat.le_of_ble_eq_true rfl) (lv2 := [(2, .int r_3), (0, .ref (B + 491)), (1, .int a1)]) rfl ?_
    refine zr_iload_n C dyX12_row_21 rfl 2 rfl ?_
    refine zr_if_ne C dyX12_row_22 (tgt := 29) (by decide) (fun hc_5 => ?_) (fun hc_5 => ?_)
    · replace h := zif_neg hc_5 h
      refine zr_aload_n C dyX12_row_29 rfl 1 rfl ?_
      refine zg_12_315 C hS dyX12_row_30 ?_
      exact zr_iret C rfl dyX12_row_33 ⟨rfl, _, rfl, h⟩
    · replace h := zif_pos hc_5 h
      refine zr_iload_n C dyX12_row_25 rfl 0 rfl ?_
      refine zr_goto C dyX12_row_26 (tgt := 33) (by decide) ?_
      exact zr_iret C rfl dyX12_row_33 ⟨rfl, _, rfl, h⟩
  · replace h := zif_pos hc_6 h
    refine zr_iconst C dyX12_row_9 zc_i_m1 ?_
    exact zr_iret C rfl dyX12_row_10 ⟨rfl, _, rfl, h⟩
def w_M_pair (a1 : Int32) (a2 : Int32) (I : zI) (K : Int32 → Prop) : Prop :=
  w_M_in a1 0 ((I.1 491 59) - 1) I (fun r_1 => (if r_1 = 0 then (K (-1)) else (w_M_in a2 0 1 I (fun r_2 => (if r_2 = 0 then (K (-1)) else (if a2 = 0 then (vp_in a1 4100 ∧ (K (I.1 533 (Int32.toNatClampNeg a1)))) else (vp_in a1 4100 ∧ (K (I.1 534 (Int32.toNatClampNeg a1))))))))))
theorem dyX12_pair_0 : decode cX12_pair 0 = .ok (.iload_n 1, 1) := by decide +kernel
theorem dyX12_pair_1 : decode cX12_pair 1 = .ok (.iconst 0, 1) := by decide +kernel
theorem dyX12_pair_2 : decode cX12_pair 2 = .ok (.aload_n 0, 1) := by decide +kernel
theorem dyX12_pair_3 : decode cX12_pair 3 = .ok (.getfield 312, 3) := by decide +kernel
theorem dyX12_pair_6 : decode cX12_pair 6 = .ok (.iconst 1, 1) := by decide +kernel
theorem dyX12_pair_7 : decode cX12_pair 7 = .ok (.isub, 1) := by decide +kernel
theorem dyX12_pair_8 : decode cX12_pair 8 = .ok (.invokestatic 286, 3) := by decide +kernel
theorem dyX12_pair_11 : decode cX12_pair 11 = .ok (.ifCond .eq 12, 3) := by decide +kernel
theorem dyX12_pair_14 : decode cX12_pair 14 = .ok (.iload_n 2, 1) := by decide +kernel
theorem dyX12_pair_15 : decode cX12_pair 15 = .ok (.iconst 0, 1) := by decide +kernel
theorem dyX12_pair_16 : decode cX12_pair 16 = .ok (.iconst 1, 1) := by decide +kernel
theorem dyX12_pair_17 : decode cX12_pair 17 = .ok (.invokestatic 286, 3) := by decide +kernel
theorem dyX12_pair_20 : decode cX12_pair 20 = .ok (.ifCond .ne 5, 3) := by decide +kernel
theorem dyX12_pair_23 : decode cX12_pair 23 = .ok (.iconst (-1), 1) := by decide +kernel
theorem dyX12_pair_24 : decode cX12_pair 24 = .ok (.ireturn, 1) := by decide +kernel
theorem dyX12_pair_25 : decode cX12_pair 25 = .ok (.iload_n 2, 1) := by decide +kernel
theorem dyX12_pair_26 : decode cX12_pair 26 = .ok (.ifCond .ne 12, 3) := by decide +kernel
theorem dyX12_pair_29 : decode cX12_pair 29 = .ok (.aload_n 0, 1) := by decide +kernel
theorem dyX12_pair_30 : decode cX12_pair 30 = .ok (.getfield 135, 3) := by decide +kernel
theorem dyX12_pair_33 : decode cX12_pair 33 = .ok (.iload_n 1, 1) := by decide +kernel
theorem dyX12_pair_34 : decode cX12_pair 34 = .ok (.iaload, 1) := by decide +kernel
theorem dyX12_pair_35 : decode cX12_pair 35 = .ok (.goto 9, 3) := by decide +kernel
theorem dyX12_pair_38 : decode cX12_pair 38 = .ok (.aload_n 0, 1) := by decide +kernel
theorem dyX12_pair_39 : decode cX12_pair 39 = .ok (.getfield 138, 3) := by decide +kernel
theorem dyX12_pair_42 : decode cX12_pair 42 = .ok (.iload_n 1, 1) := by decide +kernel
theorem dyX12_pair_43 : decode cX12_pair 43 = .ok (.iaload, 1) := by decide +kernel
theorem dyX12_pair_44 : decode cX12_pair 44 = .ok (.ireturn, 1) := by decide +kernel
theorem zsg_yX12_pair : yX12_pair.cls = RX12 ∧ yX12_pair.cls ≠ "java/lang/invoke/MethodHandle" ∧ yX12_pair.cls ≠ "java/lang/invoke/VarHandle" ∧ (parseMethodDescriptor yX12_pair.desc).map (fun d => d.parameters.length) = some 2 := by decide +kernel
set_option maxRecDepth 20000 in
theorem c_M_pair {l : Launch} {D : va_G} {B : Nat} {cA : Nat → ClassId} {ad : Nat → Nat} {S : List zC} (hS : zOkM S) {a1 : Int32} {a2 : Int32} {I : zI} {K : Int32 → Prop}  (h : w_M_pair a1 a2 I K) : Met l yX12_pair (zws yX12_pair cX12_pair 3 (some .int)) (zrm 1 22) (zPc D B cA ad [.ref (B + 491), .int a1, .int a2] S I) (zQc D B cA (zpI S I K)) 0 0 (fun q => B ≤ q) := by
  refine zm_of (cc := cX12_pair) (maxL := 3) (ret := (some .int)) (by decide +kernel) rfl (Nat.le_of_ble_eq_true rfl) trivial ?_
  intro p e s m args below meth c C _
  unfold w_M_pair at h
  show zX p l e (zrm 1 22) s m args below meth c (MQ below (zQc D B cA (zpI S I K)) args s 0 0 (fun q => B ≤ q)) D B cA 3 0 0 S I [(0, .ref (B + 491)), (1, .int a1), (2, .int a2)] [] 0
  refine zr_iload_n C dyX12_pair_0 rfl 1 rfl ?_
  refine zr_iconst C dyX12_pair_1 zc_i_0 ?_
  refine zr_aload_n C dyX12_pair_2 rfl 0 rfl ?_
  refine zg_12_312 C hS dyX12_pair_3 ?_
  refine zr_iconst C dyX12_pair_6 zc_i_1 ?_
  refine zr_isub C dyX12_pair_7 ?_
  refine zv_12_286 C hS (st := []) h ⟨Nat.le_of_ble_eq_true rfl, Nat.le_of_ble_eq_true rfl⟩ (Nat.le_of_ble_eq_true rfl) dyX12_pair_8 (fun r_1 h => ?_)
  refine zr_if_eq C dyX12_pair_11 (tgt := 23) (by decide) (fun hc_5 => ?_) (fun hc_5 => ?_)
  · replace h := zif_pos hc_5 h
    refine zr_iconst C dyX12_pair_23 zc_i_m1 ?_
    exact zr_iret C rfl dyX12_pair_24 ⟨rfl, rfl, _, rfl, h⟩
  · replace h := zif_neg hc_5 h
    refine zr_iload_n C dyX12_pair_14 rfl 2 rfl ?_
    refine zr_iconst C dyX12_pair_15 zc_i_0 ?_
    refine zr_iconst C dyX12_pair_16 zc_i_1 ?_
    refine zv_12_286 C hS (st := []) h ⟨Nat.le_of_ble_eq_true rfl, Nat.le_of_ble_eq_true rfl⟩ (Nat.le_of_ble_eq_true rfl) dyX12_pair_17 (fun r_2 h => ?_)
    refine zr_if_ne C dyX12_pair_20 (tgt := 25) (by decide) (fun hc_4 => ?_) (fun hc_4 => ?_)
    · replace h := zif_neg hc_4 h
      refine zr_iload_n C dyX12_pair_25 rfl 2 rfl ?_
      refine zr_if_ne C dyX12_pair_26 (tgt := 38) (by decide) (fun hc_3 => ?_) (fun hc_3 => ?_)
      · replace h := zif_neg hc_3 h
        refine zr_aload_n C dyX12_pair_38 rfl 0 rfl ?_
        refine zg_12_138 C hS dyX12_pair_39 ?_
        refine zr_iload_n C dyX12_pair_42 rfl 1 rfl ?_
        refine zr_iald C (hS _ _ zs_534) h.1 dyX12_pair_43 ?_
        replace h := h.2
        exact zr_iret C rfl dyX12_pair_44 ⟨rfl, rfl, _, rfl, h⟩
      · replace h := zif_pos hc_3 h
        refine zr_aload_n C dyX12_pair_29 rfl 0 rfl ?_
        refine zg_12_135 C hS dyX12_pair_30 ?_
        refine zr_iload_n C dyX12_pair_33 rfl 1 rfl ?_
        refine zr_iald C (hS _ _ zs_533) h.1 dyX12_pair_34 ?_
        replace h := h.2
        refine zr_goto C dyX12_pair_35 (tgt := 44) (by decide) ?_
        exact zr_iret C rfl dyX12_pair_44 ⟨rfl, rfl, _, rfl, h⟩
    · replace h := zif_pos hc_4 h
      refine zr_iconst C dyX12_pair_23 zc_i_m1 ?_
      exact zr_iret C rfl dyX12_pair_24 ⟨rfl, rfl, _, rfl, h⟩
def w_M_youngBelow (a1 : Int32) (I : zI) (K : Int32 → Prop) : Prop :=
  ∀ (P4 : Int32 → Int32 → Prop), (∀ (v2_1 : Int32) (v3_2 : Int32), (vp_in a1 700 ∧ (if (I.1 522 (Int32.toNatClampNeg a1)) ≤ v3_2 then K v2_1 else (vp_in v3_2 700 ∧ (vp_in (I.1 521 (Int32.toNatClampNeg v3_2)) 3700 ∧ (∀ (P35 : Int32 → Prop), (∀ (v2_3 : Int32), (∀ v3_4, v3_4 = (v3_2 + 1) → P4 v2_3 v3_4) → P35 v2_3) → (if (I.1 516 (Int32.toNatClampNeg (I.1 521 (Int32.toNatClampNeg v3_2)))) = (I.1 491 36) then (∀ v2_5, v2_5 = (v2_1 + 1) → P35 v2_5) else P35 v2_1)))))) → P4 v2_1 v3_2) → P4 0 a1
theorem dyX12_youngBelow_0 : decode cX12_youngBelow 0 = .ok (.iconst 0, 1) := by decide +kernel
theorem dyX12_youngBelow_1 : decode cX12_youngBelow 1 = .ok (.istore_n 2, 1) := by decide +kernel
theorem dyX12_youngBelow_2 : decode cX12_youngBelow 2 = .ok (.iload_n 1, 1) := by decide +kernel
theorem dyX12_youngBelow_3 : decode cX12_youngBelow 3 = .ok (.istore_n 3, 1) := by decide +kernel
theorem dyX12_youngBelow_4 : decode cX12_youngBelow 4 = .ok (.iload_n 3, 1) := by decide +kernel
theorem dyX12_youngBelow_5 : decode cX12_youngBelow 5 = .ok (.aload_n 0, 1) := by decide +kernel
theorem dyX12_youngBelow_6 : decode cX12_youngBelow 6 = .ok (.getfield 102, 3) := by decide +kernel
theorem dyX12_youngBelow_9 : decode cX12_youngBelow 9 = .ok (.iload_n 1, 1) := by decide +kernel
theorem dyX12_youngBelow_10 : decode cX12_youngBelow 10 = .ok (.iaload, 1) := by decide +kernel
theorem dyX12_youngBelow_11 : decode cX12_youngBelow 11 = .ok (.if_icmp .ge 30, 3) := by decide +kernel
theorem dyX12_youngBelow_14 : decode cX12_youngBelow 14 = .ok (.aload_n 0, 1) := by decide +kernel
theorem dyX12_youngBelow_15 : decode cX12_youngBelow 15 = .ok (.getfield 83, 3) := by decide +kernel
theorem dyX12_youngBelow_18 : decode cX12_youngBelow 18 = .ok (.aload_n 0, 1) := by decide +kernel
theorem dyX12_youngBelow_19 : decode cX12_youngBelow 19 = .ok (.getfield 99, 3) := by decide +kernel
theorem dyX12_youngBelow_22 : decode cX12_youngBelow 22 = .ok (.iload_n 3, 1) := by decide +kernel
theorem dyX12_youngBelow_23 : decode cX12_youngBelow 23 = .ok (.iaload, 1) := by decide +kernel
theorem dyX12_youngBelow_24 : decode cX12_youngBelow 24 = .ok (.iaload, 1) := by decide +kernel
theorem dyX12_youngBelow_25 : decode cX12_youngBelow 25 = .ok (.aload_n 0, 1) := by decide +kernel
theorem dyX12_youngBelow_26 : decode cX12_youngBelow 26 = .ok (.getfield 250, 3) := by decide +kernel
theorem dyX12_youngBelow_29 : decode cX12_youngBelow 29 = .ok (.if_icmp .ne 6, 3) := by decide +kernel
theorem dyX12_youngBelow_32 : decode cX12_youngBelow 32 = .ok (.iinc 2 1, 3) := by decide +kernel
theorem dyX12_youngBelow_35 : decode cX12_youngBelow 35 = .ok (.iinc 3 1, 3) := by decide +kernel
theorem dyX12_youngBelow_38 : decode cX12_youngBelow 38 = .ok (.goto (-34), 3) := by decide +kernel
theorem dyX12_youngBelow_41 : decode cX12_youngBelow 41 = .ok (.iload_n 2, 1) := by decide +kernel
theorem dyX12_youngBelow_42 : decode cX12_youngBelow 42 = .ok (.ireturn, 1) := by decide +kernel
theorem zsg_yX12_youngBelow : yX12_youngBelow.cls = RX12 ∧ yX12_youngBelow.cls ≠ "java/lang/invoke/MethodHandle" ∧ yX12_youngBelow.cls ≠ "java/lang/invoke/VarHandle" ∧ (parseMethodDescriptor yX12_youngBelow.desc).map (fun d => d.parameters.length) = some 1 := by decide +kernel
set_option maxRecDepth 20000 in
theorem c_M_youngBelow {l : Launch} {D : va_G} {B : Nat} {cA : Nat → ClassId} {ad : Nat → Nat} {S : List zC} (hS : zOkM S) {a1 : Int32} {I : zI} {K : Int32 → Prop}  (h : w_M_youngBelow a1 I K) : Met l yX12_youngBelow (zws yX12_youngBelow cX12_youngBelow 4 (some .int)) (zrm 0 0) (zPc D B cA ad [.ref (B + 491), .int a1] S I) (zQc D B cA (zpI S I K)) 0 0 (fun q => B ≤ q) := by
  refine zm_of (cc := cX12_youngBelow) (maxL := 4) (ret := (some .int)) (by decide +kernel) rfl (Nat.le_of_ble_eq_true rfl) trivial ?_
  intro p e s m args below meth c C _
  unfold w_M_youngBelow at h
  show zX p l e (zrm 0 0) s m args below meth c (MQ below (zQc D B cA (zpI S I K)) args s 0 0 (fun q => B ≤ q)) D B cA 4 0 0 S I [(0, .ref (B + 491)), (1, .int a1)] [] 0
  refine zr_iconst C dyX12_youngBelow_0 zc_i_0 ?_
  refine zr_istore_n C dyX12_youngBelow_1 rfl (Nat.le_of_ble_eq_true rfl) (lv2 := [(2, .int 0), (0, .ref (B + 491)), (1, .int a1)]) rfl ?_
  refine zr_iload_n C dyX12_youngBelow_2 rfl 2 rfl ?_
  refine zr_istore_n C dyX12_youngBelow_3 rfl (Nat.le_of_ble_eq_true rfl) (lv2 := [(3, .int a1), (2, .int 0), (0, .ref (B + 491)), (1, .int a1)]) rfl ?_
  refine zjn (h (fun (v2_1 : Int32) (v3_2 : Int32) => zX p l e (zrm 0 0) s m args below meth c (MQ below (zQc D B cA (zpI S I K)) args s 0 0 (fun q => B ≤ q)) D B cA 4 0 0 S I [(3, .int v3_2), (2, .int v2_1), (0, .ref (B + 491)), (1, .int a1)] [] 4) (fun v2_1 v3_2 h => ?_)) (fun h => ?_)
  · refine zr_iload_n C dyX12_youngBelow_4 rfl 0 rfl ?_
    refine zr_aload_n C dyX12_youngBelow_5 rfl 2 rfl ?_
    refine zg_12_102 C hS dyX12_youngBelow_6 ?_
    refine zr_iload_n C dyX12_youngBelow_9 rfl 3 rfl ?_
    refine zr_iald C (hS _ _ zs_522) h.1 dyX12_youngBelow_10 ?_
    replace h := h.2
    refine zr_icmp_ge C dyX12_youngBelow_11 (tgt := 41) (by decide) (fun hc_7 => ?_) (fun hc_7 => ?_)
    · replace h := zif_pos hc_7 h
      refine zr_iload_n C dyX12_youngBelow_41 rfl 1 rfl ?_
      exact zr_iret C rfl dyX12_youngBelow_42 ⟨rfl, rfl, _, rfl, h⟩
    · replace h := zif_neg hc_7 h
      refine zr_aload_n C dyX12_youngBelow_14 rfl 2 rfl ?_
      refine zg_12_83 C hS dyX12_youngBelow_15 ?_
      refine zr_aload_n C dyX12_youngBelow_18 rfl 2 rfl ?_
      refine zg_12_99 C hS dyX12_youngBelow_19 ?_
      refine zr_iload_n C dyX12_youngBelow_22 rfl 0 rfl ?_
      refine zr_iald C (hS _ _ zs_521) h.1 dyX12_youngBelow_23 ?_
      replace h := h.2
      refine zr_iald C (hS _ _ zs_516) h.1 dyX12_youngBelow_24 ?_
      replace h := h.2
      refine zr_aload_n C dyX12_youngBelow_25 rfl 2 rfl ?_
      refine zg_12_250 C hS dyX12_youngBelow_26 ?_
      refine zjn (h (fun (v2_3 : Int32) => zX p l e (zrm 0 0) s m args below meth c (MQ below (zQc D B cA (zpI S I K)) args s 0 0 (fun q => B ≤ q)) D B cA 4 0 0 S I [(3, .int v3_2), (2, .int v2_3), (0, .ref (B + 491)), (1, .int a1)] [] 35) (fun v2_3 h => ?_)) (fun h => ?_)
      · refine zn_iinc C (fun v3_4 => [(3, .int v3_4), (2, .int v2_3), (0, .ref (B + 491)), (1, .int a1)]) dyX12_youngBelow_35 0 rfl zc_i_1 (Nat.le_of_ble_eq_true rfl) (fun _ => rfl) (fun v3_4 ev3_4 => ?_)
        replace h := h v3_4 ev3_4
        refine zr_goto C dyX12_youngBelow_38 (tgt := 4) (by decide) ?_
        exact h
      refine zr_icmp_ne C dyX12_youngBelow_29 (tgt := 35) (by decide) (fun hc_6 => ?_) (fun hc_6 => ?_)
      · replace h := zif_neg hc_6 h
        exact h
      · replace h := zif_pos hc_6 h
        refine zn_iinc C (fun v2_5 => [(2, .int v2_5), (3, .int v3_2), (0, .ref (B + 491)), (1, .int a1)]) dyX12_youngBelow_32 1 rfl zc_i_1 (Nat.le_of_ble_eq_true rfl) (fun _ => rfl) (fun v2_5 ev2_5 => ?_)
        replace h := h v2_5 ev2_5
        refine zr_sub (lv2 := [(3, .int v3_2), (2, .int v2_5), (0, .ref (B + 491)), (1, .int a1)]) [1, 0, 2, 3] rfl ?_
        exact h
  exact h
theorem zv_12_448 {p : Program} {l : Launch} {e : Env} {R : Room} {s : State} {m : MethodId} {args : Array Value} {below : List Frame} {meth : Method} {c : Code} {Q : State → Prop} {D : va_G} {B : Nat} {cA : Nat → ClassId} {ad : Nat → Nat} {cc : ByteArray} {nL : Nat} {ret : Option FieldType} {S : List zC} {I : zI} {lv : List (Nat × Value)} {st : List Value} {pc : Nat} (C : zCx p s m args meth c cc nL RX12 ret D B cA ad) {K : Int32 → Prop} {xa1 : Int32} (hS : zOkM S)  (h : w_M_youngBelow xa1 I K) (hR : 0 + 1 ≤ R.frames ∧ 8 + (4 + 11) + (0) ≤ R.locals) (hw : (st.map fun v => v.category).sum ≤ 8) (hd : decode cc pc = .ok (.invokevirtual 448, 3)) (kk : ∀ v, K v → zX p l e R s m args below meth c Q D B cA nL 0 0 S I lv (.int v :: st) (pc + 3)) : zX p l e R s m args below meth c Q D B cA nL 0 0 S I lv (.int xa1 :: .ref (B + 491) :: st) pc :=
  have hf : 0 ≤ R.cells ∧ 0 ≤ R.slots := ⟨Nat.zero_le _, Nat.zero_le _⟩
  zc_VpI C (ci := 12) (q := (RX12, TX12, 82)) (k := 491) (fs := [none, some (some 492), some (some 493), none, some (some 494), none, some (some 495), none, none, none, some (some 496), some (some 497), some (some 498), some (some 499), some (some 500), none, some (some 501), some (some 502), some (some 503), none, some (some 504), some (some 505), some (some 506), some (some 507), some (some 508), none, some (some 509), some (some 510), some (some 511), some (some 512), some (some 513), some (some 514), some (some 515), some (some 516), some (some 517), some (some 518), none, none, some (some 519), none, some (some 520), none, none, none, some (some 521), some (some 522), some (some 523), some (some 524), some (some 525), some (some 526), some (some 527), none, some (some 528), none, some (some 529), none, some (some 530), some (some 531), some (some 532), none, some (some 533), some (some 534), some (some 535), some (some 536), some (some 537), none, none, none, some (some 538), some (some 539), some (some 540), none, none, none, some (some 541), none, none, some (some 542), some (some 543), some (some 544), none, some (some 545)]) (As := [.int xa1]) (st := st) rfl (hS _ _ zs_491) (c_M_youngBelow hS h) (zgV zk_ml_12_448 zk_im_yX12_youngBelow zk_se_yX12_youngBelow zk_in_12 zk_cd_yX12_youngBelow) zsg_yX12_youngBelow hR rfl rfl hw hd hf kk
def w_M_young (a1 : Int32) (I : zI) (K : Int32 → Prop) : Prop :=
  w_M_isRun a1 I (fun r_1 => (if r_1 = 0 then (K (-1)) else (vp_in a1 110 ∧ (vp_in (I.1 528 (Int32.toNatClampNeg a1)) 3700 ∧ (w_M_youngBelow (I.1 523 (Int32.toNatClampNeg (I.1 528 (Int32.toNatClampNeg a1)))) I (fun r_2 => K r_2))))))
theorem dyX12_young_0 : decode cX12_young 0 = .ok (.aload_n 0, 1) := by decide +kernel
theorem dyX12_young_1 : decode cX12_young 1 = .ok (.iload_n 1, 1) := by decide +kernel
theorem dyX12_young_2 : decode cX12_young 2 = .ok (.invokevirtual 401, 3) := by decide +kernel
theorem dyX12_young_5 : decode cX12_young 5 = .ok (.ifCond .eq 21, 3) := by decide +kernel
theorem dyX12_young_8 : decode cX12_young 8 = .ok (.aload_n 0, 1) := by decide +kernel
theorem dyX12_young_9 : decode cX12_young 9 = .ok (.aload_n 0, 1) := by decide +kernel
theorem dyX12_young_10 : decode cX12_young 10 = .ok (.getfield 105, 3) := by decide +kernel
theorem dyX12_young_13 : decode cX12_young 13 = .ok (.aload_n 0, 1) := by decide +kernel
theorem dyX12_young_14 : decode cX12_young 14 = .ok (.getfield 120, 3) := by decide +kernel
theorem dyX12_young_17 : decode cX12_young 17 = .ok (.iload_n 1, 1) := by decide +kernel
theorem dyX12_young_18 : decode cX12_young 18 = .ok (.iaload, 1) := by decide +kernel
theorem dyX12_young_19 : decode cX12_young 19 = .ok (.iaload, 1) := by decide +kernel
theorem dyX12_young_20 : decode cX12_young 20 = .ok (.invokevirtual 448, 3) := by decide +kernel
theorem dyX12_young_23 : decode cX12_young 23 = .ok (.goto 4, 3) := by decide +kernel
theorem dyX12_young_26 : decode cX12_young 26 = .ok (.iconst (-1), 1) := by decide +kernel
theorem dyX12_young_27 : decode cX12_young 27 = .ok (.ireturn, 1) := by decide +kernel
theorem zsg_yX12_young : yX12_young.cls = RX12 ∧ yX12_young.cls ≠ "java/lang/invoke/MethodHandle" ∧ yX12_young.cls ≠ "java/lang/invoke/VarHandle" ∧ (parseMethodDescriptor yX12_young.desc).map (fun d => d.parameters.length) = some 1 := by decide +kernel
set_option maxRecDepth 20000 in
theorem c_M_young {l : Launch} {D : va_G} {B : Nat} {cA : Nat → ClassId} {ad : Nat → Nat} {S : List zC} (hS : zOkM S) {a1 : Int32} {I : zI} {K : Int32 → Prop}  (h : w_M_young a1 I K) : Met l yX12_young (zws yX12_young cX12_young 2 (some .int)) (zrm 2 43) (zPc D B cA ad [.ref (B + 491), .int a1] S I) (zQc D B cA (zpI S I K)) 0 0 (fun q => B ≤ q) := by
  refine zm_of (cc := cX12_young) (maxL := 2) (ret := (some .int)) (by decide +kernel) rfl (Nat.le_of_ble_eq_true rfl) trivial ?_
  intro p e s m args below meth c C _
  unfold w_M_young at h
  show zX p l e (zrm 2 43) s m args below meth c (MQ below (zQc D B cA (zpI S I K)) args s 0 0 (fun q => B ≤ q)) D B cA 2 0 0 S I [(0, .ref (B + 491)), (1, .int a1)] [] 0
  refine zr_aload_n C dyX12_young_0 rfl 0 rfl ?_
  refine zr_iload_n C dyX12_young_1 rfl 1 rfl ?_
  refine zv_12_401 C hS (st := []) h ⟨Nat.le_of_ble_eq_true rfl, Nat.le_of_ble_eq_true rfl⟩ (Nat.le_of_ble_eq_true rfl) dyX12_young_2 (fun r_1 h => ?_)
  refine zr_if_eq C dyX12_young_5 (tgt := 26) (by decide) (fun hc_3 => ?_) (fun hc_3 => ?_)
  · replace h := zif_pos hc_3 h
    refine zr_iconst C dyX12_young_26 zc_i_m1 ?_
    exact zr_iret C rfl dyX12_young_27 ⟨rfl, rfl, _, rfl, h⟩
  · replace h := zif_neg hc_3 h
    refine zr_aload_n C dyX12_young_8 rfl 0 rfl ?_
    refine zr_aload_n C dyX12_young_9 rfl 0 rfl ?_
    refine zg_12_105 C hS dyX12_young_10 ?_
    refine zr_aload_n C dyX12_young_13 rfl 0 rfl ?_
    refine zg_12_120 C hS dyX12_young_14 ?_
    refine zr_iload_n C dyX12_young_17 rfl 1 rfl ?_
    refine zr_iald C (hS _ _ zs_528) h.1 dyX12_young_18 ?_
    replace h := h.2
    refine zr_iald C (hS _ _ zs_523) h.1 dyX12_young_19 ?_
    replace h := h.2
    refine zv_12_448 C hS (st := []) h ⟨Nat.le_of_ble_eq_true rfl, Nat.le_of_ble_eq_true rfl⟩ (Nat.le_of_ble_eq_true rfl) dyX12_young_20 (fun r_2 h => ?_)
    refine zr_goto C dyX12_young_23 (tgt := 27) (by decide) ?_
    exact zr_iret C rfl dyX12_young_27 ⟨rfl, rfl, _, rfl, h⟩
def w_M_runs  (I : zI) (K : Int32 → Prop) : Prop :=
  K (I.1 491 51)
theorem dyX12_runs_0 : decode cX12_runs 0 = .ok (.aload_n 0, 1) := by decide +kernel
theorem dyX12_runs_1 : decode cX12_runs 1 = .ok (.getfield 290, 3) := by decide +kernel
theorem dyX12_runs_4 : decode cX12_runs 4 = .ok (.ireturn, 1) := by decide +kernel
theorem zsg_yX12_runs : yX12_runs.cls = RX12 ∧ yX12_runs.cls ≠ "java/lang/invoke/MethodHandle" ∧ yX12_runs.cls ≠ "java/lang/invoke/VarHandle" ∧ (parseMethodDescriptor yX12_runs.desc).map (fun d => d.parameters.length) = some 0 := by decide +kernel
set_option maxRecDepth 20000 in
theorem c_M_runs {l : Launch} {D : va_G} {B : Nat} {cA : Nat → ClassId} {ad : Nat → Nat} {S : List zC} (hS : zOkM S)  {I : zI} {K : Int32 → Prop}  (h : w_M_runs  I K) : Met l yX12_runs (zws yX12_runs cX12_runs 1 (some .int)) (zrm 0 0) (zPc D B cA ad [.ref (B + 491)] S I) (zQc D B cA (zpI S I K)) 0 0 (fun q => B ≤ q) := by
  refine zm_of (cc := cX12_runs) (maxL := 1) (ret := (some .int)) (by decide +kernel) rfl (Nat.le_of_ble_eq_true rfl) trivial ?_
  intro p e s m args below meth c C _
  unfold w_M_runs at h
  show zX p l e (zrm 0 0) s m args below meth c (MQ below (zQc D B cA (zpI S I K)) args s 0 0 (fun q => B ≤ q)) D B cA 1 0 0 S I [(0, .ref (B + 491))] [] 0
  refine zr_aload_n C dyX12_runs_0 rfl 0 rfl ?_
  refine zg_12_290 C hS dyX12_runs_1 ?_
  exact zr_iret C rfl dyX12_runs_4 ⟨rfl, rfl, _, rfl, h⟩
def w_M_run (a1 : Int32) (I : zI) (K : Int32 → Prop) : Prop :=
  w_M_isRun a1 I (fun r_1 => (if r_1 = 0 then (K (-1)) else (vp_in a1 110 ∧ (K (I.1 528 (Int32.toNatClampNeg a1))))))
theorem dyX12_run_0 : decode cX12_run 0 = .ok (.aload_n 0, 1) := by decide +kernel
theorem dyX12_run_1 : decode cX12_run 1 = .ok (.iload_n 1, 1) := by decide +kernel
theorem dyX12_run_2 : decode cX12_run 2 = .ok (.invokevirtual 401, 3) := by decide +kernel
theorem dyX12_run_5 : decode cX12_run 5 = .ok (.ifCond .eq 12, 3) := by decide +kernel
theorem dyX12_run_8 : decode cX12_run 8 = .ok (.aload_n 0, 1) := by decide +kernel
theorem dyX12_run_9 : decode cX12_run 9 = .ok (.getfield 120, 3) := by decide +kernel
theorem dyX12_run_12 : decode cX12_run 12 = .ok (.iload_n 1, 1) := by decide +kernel
theorem dyX12_run_13 : decode cX12_run 13 = .ok (.iaload, 1) := by decide +kernel
theorem dyX12_run_14 : decode cX12_run 14 = .ok (.goto 4, 3) := by decide +kernel
theorem dyX12_run_17 : decode cX12_run 17 = .ok (.iconst (-1), 1) := by decide +kernel
theorem dyX12_run_18 : decode cX12_run 18 = .ok (.ireturn, 1) := by decide +kernel
theorem zsg_yX12_run : yX12_run.cls = RX12 ∧ yX12_run.cls ≠ "java/lang/invoke/MethodHandle" ∧ yX12_run.cls ≠ "java/lang/invoke/VarHandle" ∧ (parseMethodDescriptor yX12_run.desc).map (fun d => d.parameters.length) = some 1 := by decide +kernel
set_option maxRecDepth 20000 in
theorem c_M_run {l : Launch} {D : va_G} {B : Nat} {cA : Nat → ClassId} {ad : Nat → Nat} {S : List zC} (hS : zOkM S) {a1 : Int32} {I : zI} {K : Int32 → Prop}  (h : w_M_run a1 I K) : Met l yX12_run (zws yX12_run cX12_run 2 (some .int)) (zrm 2 43) (zPc D B cA ad [.ref (B + 491), .int a1] S I) (zQc D B cA (zpI S I K)) 0 0 (fun q => B ≤ q) := by
  refine zm_of (cc := cX12_run) (maxL := 2) (ret := (some .int)) (by decide +kernel) rfl (Nat.le_of_ble_eq_true rfl) trivial ?_
  intro p e s m args below meth c C _
  unfold w_M_run at h
  show zX p l e (zrm 2 43) s m args below meth c (MQ below (zQc D B cA (zpI S I K)) args s 0 0 (fun q => B ≤ q)) D B cA 2 0 0 S I [(0, .ref (B + 491)), (1, .int a1)] [] 0
  refine zr_aload_n C dyX12_run_0 rfl 0 rfl ?_
  refine zr_iload_n C dyX12_run_1 rfl 1 rfl ?_
  refine zv_12_401 C hS (st := []) h ⟨Nat.le_of_ble_eq_true rfl, Nat.le_of_ble_eq_true rfl⟩ (Nat.le_of_ble_eq_true rfl) dyX12_run_2 (fun r_1 h => ?_)
  refine zr_if_eq C dyX12_run_5 (tgt := 17) (by decide) (fun hc_2 => ?_) (fun hc_2 => ?_)
  · replace h := zif_pos hc_2 h
    refine zr_iconst C dyX12_run_17 zc_i_m1 ?_
    exact zr_iret C rfl dyX12_run_18 ⟨rfl, rfl, _, rfl, h⟩
  · replace h := zif_neg hc_2 h
    refine zr_aload_n C dyX12_run_8 rfl 0 rfl ?_
    refine zg_12_120 C hS dyX12_run_9 ?_
    refine zr_iload_n C dyX12_run_12 rfl 1 rfl ?_
    refine zr_iald C (hS _ _ zs_528) h.1 dyX12_run_13 ?_
    replace h := h.2
    refine zr_goto C dyX12_run_14 (tgt := 18) (by decide) ?_
    exact zr_iret C rfl dyX12_run_18 ⟨rfl, rfl, _, rfl, h⟩
def w_M_value (a1 : Int32) (I : zI) (K : Int32 → zI → Prop) : Prop :=
  w_M_isGoodName a1 I (fun r_1 => (if r_1 = 0 then K 0 I else (w_M_runsAll 0 I (fun r_2 I_3 => vp_in a1 110 ∧ (w_M_nameOf (I_3.2 507 (Int32.toNatClampNeg a1)) I_3 (fun r_4 I_5 => vp_in r_4 60 ∧ (K (I_5.1 531 (Int32.toNatClampNeg r_4)) I_5)))))))
theorem dyX12_value_0 : decode cX12_value 0 = .ok (.aload_n 0, 1) := by decide +kernel
theorem dyX12_value_1 : decode cX12_value 1 = .ok (.iload_n 1, 1) := by decide +kernel
theorem dyX12_value_2 : decode cX12_value 2 = .ok (.invokevirtual 394, 3) := by decide +kernel
theorem dyX12_value_5 : decode cX12_value 5 = .ok (.ifCond .ne 5, 3) := by decide +kernel
theorem dyX12_value_8 : decode cX12_value 8 = .ok (.iconst 0, 1) := by decide +kernel
theorem dyX12_value_9 : decode cX12_value 9 = .ok (.ireturn, 1) := by decide +kernel
theorem dyX12_value_10 : decode cX12_value 10 = .ok (.aload_n 0, 1) := by decide +kernel
theorem dyX12_value_11 : decode cX12_value 11 = .ok (.iconst 0, 1) := by decide +kernel
theorem dyX12_value_12 : decode cX12_value 12 = .ok (.invokevirtual 372, 3) := by decide +kernel
theorem dyX12_value_15 : decode cX12_value 15 = .ok (.pop, 1) := by decide +kernel
theorem dyX12_value_16 : decode cX12_value 16 = .ok (.aload_n 0, 1) := by decide +kernel
theorem dyX12_value_17 : decode cX12_value 17 = .ok (.getfield 129, 3) := by decide +kernel
theorem dyX12_value_20 : decode cX12_value 20 = .ok (.aload_n 0, 1) := by decide +kernel
theorem dyX12_value_21 : decode cX12_value 21 = .ok (.aload_n 0, 1) := by decide +kernel
theorem dyX12_value_22 : decode cX12_value 22 = .ok (.getfield 56, 3) := by decide +kernel
theorem dyX12_value_25 : decode cX12_value 25 = .ok (.iload_n 1, 1) := by decide +kernel
theorem dyX12_value_26 : decode cX12_value 26 = .ok (.laload, 1) := by decide +kernel
theorem dyX12_value_27 : decode cX12_value 27 = .ok (.invokevirtual 302, 3) := by decide +kernel
theorem dyX12_value_30 : decode cX12_value 30 = .ok (.iaload, 1) := by decide +kernel
theorem dyX12_value_31 : decode cX12_value 31 = .ok (.ireturn, 1) := by decide +kernel
theorem zsg_yX12_value : yX12_value.cls = RX12 ∧ yX12_value.cls ≠ "java/lang/invoke/MethodHandle" ∧ yX12_value.cls ≠ "java/lang/invoke/VarHandle" ∧ (parseMethodDescriptor yX12_value.desc).map (fun d => d.parameters.length) = some 1 := by decide +kernel
set_option maxRecDepth 20000 in
theorem c_M_value {l : Launch} {D : va_G} {B : Nat} {cA : Nat → ClassId} {ad : Nat → Nat} {S : List zC} (hS : zOkM S) {a1 : Int32} {I : zI} {K : Int32 → zI → Prop}  (h : w_M_value a1 I K) : Met l yX12_value (zws yX12_value cX12_value 2 (some .int)) (zrm 3 76) (zPc D B cA ad [.ref (B + 491), .int a1] S I) (zQc D B cA (zqI S K)) 0 0 (fun q => B ≤ q) := by
  refine zm_of (cc := cX12_value) (maxL := 2) (ret := (some .int)) (by decide +kernel) rfl (Nat.le_of_ble_eq_true rfl) trivial ?_
  intro p e s m args below meth c C _
  unfold w_M_value at h
  show zX p l e (zrm 3 76) s m args below meth c (MQ below (zQc D B cA (zqI S K)) args s 0 0 (fun q => B ≤ q)) D B cA 2 0 0 S I [(0, .ref (B + 491)), (1, .int a1)] [] 0
  refine zr_aload_n C dyX12_value_0 rfl 0 rfl ?_
  refine zr_iload_n C dyX12_value_1 rfl 1 rfl ?_
  refine zv_12_394 C hS (st := []) h ⟨Nat.le_of_ble_eq_true rfl, Nat.le_of_ble_eq_true rfl⟩ (Nat.le_of_ble_eq_true rfl) dyX12_value_2 (fun r_1 h => ?_)
  refine zr_if_ne C dyX12_value_5 (tgt := 10) (by decide) (fun hc_6 => ?_) (fun hc_6 => ?_)
  · replace h := zif_neg hc_6 h
    refine zr_aload_n C dyX12_value_10 rfl 0 rfl ?_
    refine zr_iconst C dyX12_value_11 zc_i_0 ?_
    refine zv_12_372 C hS (st := []) h ⟨Nat.le_of_ble_eq_true rfl, Nat.le_of_ble_eq_true rfl⟩ (Nat.le_of_ble_eq_true rfl) dyX12_value_12 (fun r_2 I_3 h => ?_)
    refine zr_pop C dyX12_value_15 rfl ?_
    refine zr_aload_n C dyX12_value_16 rfl 0 rfl ?_
    refine zg_12_129 C hS dyX12_value_17 ?_
    refine zr_aload_n C dyX12_value_20 rfl 0 rfl ?_
    refine zr_aload_n C dyX12_value_21 rfl 0 rfl ?_
    refine zg_12_56 C hS dyX12_value_22 ?_
    refine zr_iload_n C dyX12_value_25 rfl 1 rfl ?_
    refine zr_lald C (hS _ _ zs_507) h.1 dyX12_value_26 ?_
    replace h := h.2
    refine zv_12_302 C hS (st := [.ref (B + 531)]) h ⟨Nat.le_of_ble_eq_true rfl, Nat.le_of_ble_eq_true rfl⟩ (Nat.le_of_ble_eq_true rfl) dyX12_value_27 (fun r_4 I_5 h => ?_)
    refine zr_iald C (hS _ _ zs_531) h.1 dyX12_value_30 ?_
    replace h := h.2
    exact zr_iret C rfl dyX12_value_31 ⟨rfl, _, rfl, h⟩
  · replace h := zif_pos hc_6 h
    refine zr_iconst C dyX12_value_8 zc_i_0 ?_
    exact zr_iret C rfl dyX12_value_9 ⟨rfl, _, rfl, h⟩
def w_M_worth (a1 : Int32) (I : zI) (K : Int32 → zI → Prop) : Prop :=
  w_M_isTerm a1 I (fun r_1 => (if r_1 = 0 then K 0 I else (w_M_runsAll 0 I (fun r_2 I_3 => vp_in a1 3700 ∧ (w_M_reckons (I_3.1 523 (Int32.toNatClampNeg a1)) I_3 (fun I_4 => vp_in a1 3700 ∧ (K (I_4.1 532 (Int32.toNatClampNeg a1)) I_4)))))))
theorem dyX12_worth_0 : decode cX12_worth 0 = .ok (.aload_n 0, 1) := by decide +kernel
theorem dyX12_worth_1 : decode cX12_worth 1 = .ok (.iload_n 1, 1) := by decide +kernel
theorem dyX12_worth_2 : decode cX12_worth 2 = .ok (.invokevirtual 445, 3) := by decide +kernel
theorem dyX12_worth_5 : decode cX12_worth 5 = .ok (.ifCond .ne 5, 3) := by decide +kernel
theorem dyX12_worth_8 : decode cX12_worth 8 = .ok (.iconst 0, 1) := by decide +kernel
theorem dyX12_worth_9 : decode cX12_worth 9 = .ok (.ireturn, 1) := by decide +kernel
theorem dyX12_worth_10 : decode cX12_worth 10 = .ok (.aload_n 0, 1) := by decide +kernel
theorem dyX12_worth_11 : decode cX12_worth 11 = .ok (.iconst 0, 1) := by decide +kernel
theorem dyX12_worth_12 : decode cX12_worth 12 = .ok (.invokevirtual 372, 3) := by decide +kernel
theorem dyX12_worth_15 : decode cX12_worth 15 = .ok (.pop, 1) := by decide +kernel
theorem dyX12_worth_16 : decode cX12_worth 16 = .ok (.aload_n 0, 1) := by decide +kernel
theorem dyX12_worth_17 : decode cX12_worth 17 = .ok (.aload_n 0, 1) := by decide +kernel
theorem dyX12_worth_18 : decode cX12_worth 18 = .ok (.getfield 105, 3) := by decide +kernel
theorem dyX12_worth_21 : decode cX12_worth 21 = .ok (.iload_n 1, 1) := by decide +kernel
theorem dyX12_worth_22 : decode cX12_worth 22 = .ok (.iaload, 1) := by decide +kernel
theorem dyX12_worth_23 : decode cX12_worth 23 = .ok (.invokevirtual 309, 3) := by decide +kernel
theorem dyX12_worth_26 : decode cX12_worth 26 = .ok (.aload_n 0, 1) := by decide +kernel
theorem dyX12_worth_27 : decode cX12_worth 27 = .ok (.getfield 132, 3) := by decide +kernel
theorem dyX12_worth_30 : decode cX12_worth 30 = .ok (.iload_n 1, 1) := by decide +kernel
theorem dyX12_worth_31 : decode cX12_worth 31 = .ok (.iaload, 1) := by decide +kernel
theorem dyX12_worth_32 : decode cX12_worth 32 = .ok (.ireturn, 1) := by decide +kernel
theorem zsg_yX12_worth : yX12_worth.cls = RX12 ∧ yX12_worth.cls ≠ "java/lang/invoke/MethodHandle" ∧ yX12_worth.cls ≠ "java/lang/invoke/VarHandle" ∧ (parseMethodDescriptor yX12_worth.desc).map (fun d => d.parameters.length) = some 1 := by decide +kernel
set_option maxRecDepth 20000 in
theorem c_M_worth {l : Launch} {D : va_G} {B : Nat} {cA : Nat → ClassId} {ad : Nat → Nat} {S : List zC} (hS : zOkM S) {a1 : Int32} {I : zI} {K : Int32 → zI → Prop}  (h : w_M_worth a1 I K) : Met l yX12_worth (zws yX12_worth cX12_worth 2 (some .int)) (zrm 3 76) (zPc D B cA ad [.ref (B + 491), .int a1] S I) (zQc D B cA (zqI S K)) 0 0 (fun q => B ≤ q) := by
  refine zm_of (cc := cX12_worth) (maxL := 2) (ret := (some .int)) (by decide +kernel) rfl (Nat.le_of_ble_eq_true rfl) trivial ?_
  intro p e s m args below meth c C _
  unfold w_M_worth at h
  show zX p l e (zrm 3 76) s m args below meth c (MQ below (zQc D B cA (zqI S K)) args s 0 0 (fun q => B ≤ q)) D B cA 2 0 0 S I [(0, .ref (B + 491)), (1, .int a1)] [] 0
  refine zr_aload_n C dyX12_worth_0 rfl 0 rfl ?_
  refine zr_iload_n C dyX12_worth_1 rfl 1 rfl ?_
  refine zv_12_445 C hS (st := []) h ⟨Nat.le_of_ble_eq_true rfl, Nat.le_of_ble_eq_true rfl⟩ (Nat.le_of_ble_eq_true rfl) dyX12_worth_2 (fun r_1 h => ?_)
  refine zr_if_ne C dyX12_worth_5 (tgt := 10) (by decide) (fun hc_5 => ?_) (fun hc_5 => ?_)
  · replace h := zif_neg hc_5 h
    refine zr_aload_n C dyX12_worth_10 rfl 0 rfl ?_
    refine zr_iconst C dyX12_worth_11 zc_i_0 ?_
    refine zv_12_372 C hS (st := []) h ⟨Nat.le_of_ble_eq_true rfl, Nat.le_of_ble_eq_true rfl⟩ (Nat.le_of_ble_eq_true rfl) dyX12_worth_12 (fun r_2 I_3 h => ?_)
    refine zr_pop C dyX12_worth_15 rfl ?_
    refine zr_aload_n C dyX12_worth_16 rfl 0 rfl ?_
    refine zr_aload_n C dyX12_worth_17 rfl 0 rfl ?_
    refine zg_12_105 C hS dyX12_worth_18 ?_
    refine zr_iload_n C dyX12_worth_21 rfl 1 rfl ?_
    refine zr_iald C (hS _ _ zs_523) h.1 dyX12_worth_22 ?_
    replace h := h.2
    refine zv_12_309 C hS (st := []) h ⟨Nat.le_of_ble_eq_true rfl, Nat.le_of_ble_eq_true rfl⟩ (Nat.le_of_ble_eq_true rfl) dyX12_worth_23 (fun I_4 h => ?_)
    refine zr_aload_n C dyX12_worth_26 rfl 0 rfl ?_
    refine zg_12_132 C hS dyX12_worth_27 ?_
    refine zr_iload_n C dyX12_worth_30 rfl 1 rfl ?_
    refine zr_iald C (hS _ _ zs_532) h.1 dyX12_worth_31 ?_
    replace h := h.2
    exact zr_iret C rfl dyX12_worth_32 ⟨rfl, _, rfl, h⟩
  · replace h := zif_pos hc_5 h
    refine zr_iconst C dyX12_worth_8 zc_i_0 ?_
    exact zr_iret C rfl dyX12_worth_9 ⟨rfl, _, rfl, h⟩
def w_M_firm (a1 : Int32) (I : zI) (K : Int32 → Prop) : Prop :=
  w_M_isTerm a1 I (fun r_1 => (if r_1 = 0 then (K (-1)) else (vp_in a1 3700 ∧ (∀ v2_2, v2_2 = (I.1 523 (Int32.toNatClampNeg a1)) → ∀ (P19 : Int32 → Prop), (∀ (v3_3 : Int32), (vp_in v2_2 700 ∧ (if (I.1 522 (Int32.toNatClampNeg v2_2)) ≤ v3_3 then K 1 else (vp_in v3_3 700 ∧ (vp_in (I.1 521 (Int32.toNatClampNeg v3_3)) 3700 ∧ (if (I.1 509 (Int32.toNatClampNeg (I.1 521 (Int32.toNatClampNeg v3_3)))) = 8 then K 0 else (∀ v3_4, v3_4 = (v3_3 + 1) → P19 v3_4)))))) → P19 v3_3) → P19 v2_2))))
theorem dyX12_firm_0 : decode cX12_firm 0 = .ok (.aload_n 0, 1) := by decide +kernel
theorem dyX12_firm_1 : decode cX12_firm 1 = .ok (.iload_n 1, 1) := by decide +kernel
theorem dyX12_firm_2 : decode cX12_firm 2 = .ok (.invokevirtual 445, 3) := by decide +kernel
theorem dyX12_firm_5 : decode cX12_firm 5 = .ok (.ifCond .ne 5, 3) := by decide +kernel
theorem dyX12_firm_8 : decode cX12_firm 8 = .ok (.iconst (-1), 1) := by decide +kernel
theorem dyX12_firm_9 : decode cX12_firm 9 = .ok (.ireturn, 1) := by decide +kernel
theorem dyX12_firm_10 : decode cX12_firm 10 = .ok (.aload_n 0, 1) := by decide +kernel
theorem dyX12_firm_11 : decode cX12_firm 11 = .ok (.getfield 105, 3) := by decide +kernel
theorem dyX12_firm_14 : decode cX12_firm 14 = .ok (.iload_n 1, 1) := by decide +kernel
theorem dyX12_firm_15 : decode cX12_firm 15 = .ok (.iaload, 1) := by decide +kernel
theorem dyX12_firm_16 : decode cX12_firm 16 = .ok (.istore_n 2, 1) := by decide +kernel
theorem dyX12_firm_17 : decode cX12_firm 17 = .ok (.iload_n 2, 1) := by decide +kernel
theorem dyX12_firm_18 : decode cX12_firm 18 = .ok (.istore_n 3, 1) := by decide +kernel
theorem dyX12_firm_19 : decode cX12_firm 19 = .ok (.iload_n 3, 1) := by decide +kernel
theorem dyX12_firm_20 : decode cX12_firm 20 = .ok (.aload_n 0, 1) := by decide +kernel
theorem dyX12_firm_21 : decode cX12_firm 21 = .ok (.getfield 102, 3) := by decide +kernel
theorem dyX12_firm_24 : decode cX12_firm 24 = .ok (.iload_n 2, 1) := by decide +kernel
theorem dyX12_firm_25 : decode cX12_firm 25 = .ok (.iaload, 1) := by decide +kernel
theorem dyX12_firm_26 : decode cX12_firm 26 = .ok (.if_icmp .ge 27, 3) := by decide +kernel
theorem dyX12_firm_29 : decode cX12_firm 29 = .ok (.aload_n 0, 1) := by decide +kernel
theorem dyX12_firm_30 : decode cX12_firm 30 = .ok (.getfield 62, 3) := by decide +kernel
theorem dyX12_firm_33 : decode cX12_firm 33 = .ok (.aload_n 0, 1) := by decide +kernel
theorem dyX12_firm_34 : decode cX12_firm 34 = .ok (.getfield 99, 3) := by decide +kernel
theorem dyX12_firm_37 : decode cX12_firm 37 = .ok (.iload_n 3, 1) := by decide +kernel
theorem dyX12_firm_38 : decode cX12_firm 38 = .ok (.iaload, 1) := by decide +kernel
theorem dyX12_firm_39 : decode cX12_firm 39 = .ok (.iaload, 1) := by decide +kernel
theorem dyX12_firm_40 : decode cX12_firm 40 = .ok (.bipush 8, 2) := by decide +kernel
theorem dyX12_firm_42 : decode cX12_firm 42 = .ok (.if_icmp .ne 5, 3) := by decide +kernel
theorem dyX12_firm_45 : decode cX12_firm 45 = .ok (.iconst 0, 1) := by decide +kernel
theorem dyX12_firm_46 : decode cX12_firm 46 = .ok (.ireturn, 1) := by decide +kernel
theorem dyX12_firm_47 : decode cX12_firm 47 = .ok (.iinc 3 1, 3) := by decide +kernel
theorem dyX12_firm_50 : decode cX12_firm 50 = .ok (.goto (-31), 3) := by decide +kernel
theorem dyX12_firm_53 : decode cX12_firm 53 = .ok (.iconst 1, 1) := by decide +kernel
theorem dyX12_firm_54 : decode cX12_firm 54 = .ok (.ireturn, 1) := by decide +kernel
theorem zsg_yX12_firm : yX12_firm.cls = RX12 ∧ yX12_firm.cls ≠ "java/lang/invoke/MethodHandle" ∧ yX12_firm.cls ≠ "java/lang/invoke/VarHandle" ∧ (parseMethodDescriptor yX12_firm.desc).map (fun d => d.parameters.length) = some 1 := by decide +kernel
set_option maxRecDepth 20000 in
theorem c_M_firm {l : Launch} {D : va_G} {B : Nat} {cA : Nat → ClassId} {ad : Nat → Nat} {S : List zC} (hS : zOkM S) {a1 : Int32} {I : zI} {K : Int32 → Prop}  (h : w_M_firm a1 I K) : Met l yX12_firm (zws yX12_firm cX12_firm 4 (some .int)) (zrm 3 64) (zPc D B cA ad [.ref (B + 491), .int a1] S I) (zQc D B cA (zpI S I K)) 0 0 (fun q => B ≤ q) := by
  refine zm_of (cc := cX12_firm) (maxL := 4) (ret := (some .int)) (by decide +kernel) rfl (Nat.le_of_ble_eq_true rfl) trivial ?_
  intro p e s m args below meth c C _
  unfold w_M_firm at h
  show zX p l e (zrm 3 64) s m args below meth c (MQ below (zQc D B cA (zpI S I K)) args s 0 0 (fun q => B ≤ q)) D B cA 4 0 0 S I [(0, .ref (B + 491)), (1, .int a1)] [] 0
  refine zr_aload_n C dyX12_firm_0 rfl 0 rfl ?_
  refine zr_iload_n C dyX12_firm_1 rfl 1 rfl ?_
  refine zv_12_445 C hS (st := []) h ⟨Nat.le_of_ble_eq_true rfl, Nat.le_of_ble_eq_true rfl⟩ (Nat.le_of_ble_eq_true rfl) dyX12_firm_2 (fun r_1 h => ?_)
  refine zr_if_ne C dyX12_firm_5 (tgt := 10) (by decide) (fun hc_7 => ?_) (fun hc_7 => ?_)
  · replace h := zif_neg hc_7 h
    refine zr_aload_n C dyX12_firm_10 rfl 0 rfl ?_
    refine zg_12_105 C hS dyX12_firm_11 ?_
    refine zr_iload_n C dyX12_firm_14 rfl 1 rfl ?_
    refine zr_iald C (hS _ _ zs_523) h.1 dyX12_firm_15 ?_
    replace h := h.2
    refine zn_istore_n C (fun v2_2 => [(2, .int v2_2), (0, .ref (B + 491)), (1, .int a1)]) dyX12_firm_16 rfl (Nat.le_of_ble_eq_true rfl) (fun _ => rfl) (fun v2_2 ev2_2 => ?_)
    replace h := h v2_2 ev2_2
    refine zr_iload_n C dyX12_firm_17 rfl 0 rfl ?_
    refine zr_istore_n C dyX12_firm_18 rfl (Nat.le_of_ble_eq_true rfl) (lv2 := [(3, .int v2_2), (2, .int v2_2), (0, .ref (B + 491)), (1, .int a1)]) rfl ?_
    refine zjn (h (fun (v3_3 : Int32) => zX p l e (zrm 3 64) s m args below meth c (MQ below (zQc D B cA (zpI S I K)) args s 0 0 (fun q => B ≤ q)) D B cA 4 0 0 S I [(3, .int v3_3), (2, .int v2_2), (0, .ref (B + 491))] [] 19) (fun v3_3 h => ?_)) (fun h => ?_)
    · refine zr_iload_n C dyX12_firm_19 rfl 0 rfl ?_
      refine zr_aload_n C dyX12_firm_20 rfl 2 rfl ?_
      refine zg_12_102 C hS dyX12_firm_21 ?_
      refine zr_iload_n C dyX12_firm_24 rfl 1 rfl ?_
      refine zr_iald C (hS _ _ zs_522) h.1 dyX12_firm_25 ?_
      replace h := h.2
      refine zr_icmp_ge C dyX12_firm_26 (tgt := 53) (by decide) (fun hc_6 => ?_) (fun hc_6 => ?_)
      · replace h := zif_pos hc_6 h
        refine zr_iconst C dyX12_firm_53 zc_i_1 ?_
        exact zr_iret C rfl dyX12_firm_54 ⟨rfl, rfl, _, rfl, h⟩
      · replace h := zif_neg hc_6 h
        refine zr_aload_n C dyX12_firm_29 rfl 2 rfl ?_
        refine zg_12_62 C hS dyX12_firm_30 ?_
        refine zr_aload_n C dyX12_firm_33 rfl 2 rfl ?_
        refine zg_12_99 C hS dyX12_firm_34 ?_
        refine zr_iload_n C dyX12_firm_37 rfl 0 rfl ?_
        refine zr_iald C (hS _ _ zs_521) h.1 dyX12_firm_38 ?_
        replace h := h.2
        refine zr_iald C (hS _ _ zs_509) h.1 dyX12_firm_39 ?_
        replace h := h.2
        refine zr_bipush C dyX12_firm_40 zc_b_8 ?_
        refine zr_icmp_ne C dyX12_firm_42 (tgt := 47) (by decide) (fun hc_5 => ?_) (fun hc_5 => ?_)
        · replace h := zif_neg hc_5 h
          refine zn_iinc C (fun v3_4 => [(3, .int v3_4), (2, .int v2_2), (0, .ref (B + 491))]) dyX12_firm_47 0 rfl zc_i_1 (Nat.le_of_ble_eq_true rfl) (fun _ => rfl) (fun v3_4 ev3_4 => ?_)
          replace h := h v3_4 ev3_4
          refine zr_goto C dyX12_firm_50 (tgt := 19) (by decide) ?_
          exact h
        · replace h := zif_pos hc_5 h
          refine zr_iconst C dyX12_firm_45 zc_i_0 ?_
          exact zr_iret C rfl dyX12_firm_46 ⟨rfl, rfl, _, rfl, h⟩
    refine zr_sub (lv2 := [(3, .int v2_2), (2, .int v2_2), (0, .ref (B + 491))]) [0, 1, 2] rfl ?_
    exact h
  · replace h := zif_pos hc_7 h
    refine zr_iconst C dyX12_firm_8 zc_i_m1 ?_
    exact zr_iret C rfl dyX12_firm_9 ⟨rfl, rfl, _, rfl, h⟩
