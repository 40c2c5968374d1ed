def w_Runner_noteReads (a1 : Int32) (a2 : Int32) (I : zI) (K : zI → Prop) : Prop :=
  ∀ (P2 : Int32 → zI → Prop), (∀ (v3_1 : Int32) (I_2 : zI), ((if a2 ≤ v3_1 then K I_2 else (w_Row_get 44 400 v3_1 I_2 (fun r_3 => w_Row_get 25 3400 r_3 I_2 (fun r_4 => ∀ (P86 : zI → Prop), (∀ (I_5 : zI), (∀ v3_6, v3_6 = (v3_1 + 1) → P2 v3_6 I_5) → P86 I_5) → (if r_4 = 8 then (w_Row_get 50 400 v3_1 I_2 (fun r_7 => w_Row_get 70 100 r_7 I_2 (fun r_8 => w_Row_get 76 100 r_8 I_2 (fun r_9 => w_Row_set 80 100 r_7 r_9 I_2 (fun I_10 => w_Row_set 78 100 r_8 (-2) I_10 (fun I_11 => P86 I_11)))))) else P86 I_2)))))) → P2 v3_1 I_2) → P2 a1 I
theorem dyX7_noteReads_0 : decode cX7_noteReads 0 = .ok (.iload_n 1, 1) := by decide +kernel
theorem dyX7_noteReads_1 : decode cX7_noteReads 1 = .ok (.istore_n 3, 1) := by decide +kernel
theorem dyX7_noteReads_2 : decode cX7_noteReads 2 = .ok (.iload_n 3, 1) := by decide +kernel
theorem dyX7_noteReads_3 : decode cX7_noteReads 3 = .ok (.iload_n 2, 1) := by decide +kernel
theorem dyX7_noteReads_4 : decode cX7_noteReads 4 = .ok (.if_icmp .ge 88, 3) := by decide +kernel
theorem dyX7_noteReads_7 : decode cX7_noteReads 7 = .ok (.aload_n 0, 1) := by decide +kernel
theorem dyX7_noteReads_8 : decode cX7_noteReads 8 = .ok (.getfield 44, 3) := by decide +kernel
theorem dyX7_noteReads_11 : decode cX7_noteReads 11 = .ok (.getfield 69, 3) := by decide +kernel
theorem dyX7_noteReads_14 : decode cX7_noteReads 14 = .ok (.aload_n 0, 1) := by decide +kernel
theorem dyX7_noteReads_15 : decode cX7_noteReads 15 = .ok (.getfield 48, 3) := by decide +kernel
theorem dyX7_noteReads_18 : decode cX7_noteReads 18 = .ok (.getfield 74, 3) := by decide +kernel
theorem dyX7_noteReads_21 : decode cX7_noteReads 21 = .ok (.iload_n 3, 1) := by decide +kernel
theorem dyX7_noteReads_22 : decode cX7_noteReads 22 = .ok (.invokevirtual 52, 3) := by decide +kernel
theorem dyX7_noteReads_25 : decode cX7_noteReads 25 = .ok (.invokevirtual 52, 3) := by decide +kernel
theorem dyX7_noteReads_28 : decode cX7_noteReads 28 = .ok (.bipush 8, 2) := by decide +kernel
theorem dyX7_noteReads_30 : decode cX7_noteReads 30 = .ok (.if_icmp .ne 56, 3) := by decide +kernel
theorem dyX7_noteReads_33 : decode cX7_noteReads 33 = .ok (.aload_n 0, 1) := by decide +kernel
theorem dyX7_noteReads_34 : decode cX7_noteReads 34 = .ok (.getfield 48, 3) := by decide +kernel
theorem dyX7_noteReads_37 : decode cX7_noteReads 37 = .ok (.getfield 127, 3) := by decide +kernel
theorem dyX7_noteReads_40 : decode cX7_noteReads 40 = .ok (.iload_n 3, 1) := by decide +kernel
theorem dyX7_noteReads_41 : decode cX7_noteReads 41 = .ok (.invokevirtual 52, 3) := by decide +kernel
theorem dyX7_noteReads_44 : decode cX7_noteReads 44 = .ok (.istore 4, 2) := by decide +kernel
theorem dyX7_noteReads_46 : decode cX7_noteReads 46 = .ok (.aload_n 0, 1) := by decide +kernel
theorem dyX7_noteReads_47 : decode cX7_noteReads 47 = .ok (.getfield 14, 3) := by decide +kernel
theorem dyX7_noteReads_50 : decode cX7_noteReads 50 = .ok (.iload 4, 2) := by decide +kernel
theorem dyX7_noteReads_52 : decode cX7_noteReads 52 = .ok (.invokevirtual 52, 3) := by decide +kernel
theorem dyX7_noteReads_55 : decode cX7_noteReads 55 = .ok (.istore 5, 2) := by decide +kernel
theorem dyX7_noteReads_57 : decode cX7_noteReads 57 = .ok (.aload_n 0, 1) := by decide +kernel
theorem dyX7_noteReads_58 : decode cX7_noteReads 58 = .ok (.getfield 32, 3) := by decide +kernel
theorem dyX7_noteReads_61 : decode cX7_noteReads 61 = .ok (.iload 4, 2) := by decide +kernel
theorem dyX7_noteReads_63 : decode cX7_noteReads 63 = .ok (.aload_n 0, 1) := by decide +kernel
theorem dyX7_noteReads_64 : decode cX7_noteReads 64 = .ok (.getfield 26, 3) := by decide +kernel
theorem dyX7_noteReads_67 : decode cX7_noteReads 67 = .ok (.iload 5, 2) := by decide +kernel
theorem dyX7_noteReads_69 : decode cX7_noteReads 69 = .ok (.invokevirtual 52, 3) := by decide +kernel
theorem dyX7_noteReads_72 : decode cX7_noteReads 72 = .ok (.invokevirtual 111, 3) := by decide +kernel
theorem dyX7_noteReads_75 : decode cX7_noteReads 75 = .ok (.aload_n 0, 1) := by decide +kernel
theorem dyX7_noteReads_76 : decode cX7_noteReads 76 = .ok (.getfield 29, 3) := by decide +kernel
theorem dyX7_noteReads_79 : decode cX7_noteReads 79 = .ok (.iload 5, 2) := by decide +kernel
theorem dyX7_noteReads_81 : decode cX7_noteReads 81 = .ok (.bipush (-2), 2) := by decide +kernel
theorem dyX7_noteReads_83 : decode cX7_noteReads 83 = .ok (.invokevirtual 111, 3) := by decide +kernel
theorem dyX7_noteReads_86 : decode cX7_noteReads 86 = .ok (.iinc 3 1, 3) := by decide +kernel
theorem dyX7_noteReads_89 : decode cX7_noteReads 89 = .ok (.goto (-87), 3) := by decide +kernel
theorem dyX7_noteReads_92 : decode cX7_noteReads 92 = .ok (.return_, 1) := by decide +kernel
theorem zsg_yX7_noteReads : yX7_noteReads.cls = RX7 ∧ yX7_noteReads.cls ≠ "java/lang/invoke/MethodHandle" ∧ yX7_noteReads.cls ≠ "java/lang/invoke/VarHandle" ∧ (parseMethodDescriptor yX7_noteReads.desc).map (fun d => d.parameters.length) = some 2 := by decide +kernel
set_option maxRecDepth 20000 in
theorem c_Runner_noteReads {l : Launch} {D : va_G} {B : Nat} {cA : Nat → ClassId} {ad : Nat → Nat} {S : List zC} (hS : zOkX S) {a1 : Int32} {a2 : Int32} {I : zI} {K : zI → Prop}  (h : w_Runner_noteReads a1 a2 I K) : Met l yX7_noteReads (zws yX7_noteReads cX7_noteReads 6 none) (zrm 1 22) (zPc D B cA ad [.ref (B + 69), .int a1, .int a2] S I) (zQc D B cA (zqV S K)) 0 0 (fun q => B ≤ q) := by
  refine zm_of (cc := cX7_noteReads) (maxL := 6) (ret := none) (by decide +kernel) rfl (Nat.le_of_ble_eq_true rfl) trivial ?_
  intro p e s m args below meth c C _
  unfold w_Runner_noteReads at h
  show zX p l e (zrm 1 22) s m args below meth c (MQ below (zQc D B cA (zqV S K)) args s 0 0 (fun q => B ≤ q)) D B cA 6 0 0 S I [(0, .ref (B + 69)), (1, .int a1), (2, .int a2)] [] 0
  refine zr_iload_n C dyX7_noteReads_0 rfl 1 rfl ?_
  refine zr_istore_n C dyX7_noteReads_1 rfl (Nat.le_of_ble_eq_true rfl) (lv2 := [(3, .int a1), (0, .ref (B + 69)), (1, .int a1), (2, .int a2)]) rfl ?_
  refine zjn (h (fun (v3_1 : Int32) (I_2 : zI) => zX p l e (zrm 1 22) s m args below meth c (MQ below (zQc D B cA (zqV S K)) args s 0 0 (fun q => B ≤ q)) D B cA 6 0 0 S I_2 [(3, .int v3_1), (0, .ref (B + 69)), (2, .int a2)] [] 2) (fun v3_1 I_2 h => ?_)) (fun h => ?_)
  · refine zr_iload_n C dyX7_noteReads_2 rfl 0 rfl ?_
    refine zr_iload_n C dyX7_noteReads_3 rfl 2 rfl ?_
    refine zr_icmp_ge C dyX7_noteReads_4 (tgt := 92) (by decide) (fun hc_13 => ?_) (fun hc_13 => ?_)
    · replace h := zif_pos hc_13 h
      exact zr_vret C rfl dyX7_noteReads_92 ⟨rfl, rfl, h⟩
    · replace h := zif_neg hc_13 h
      refine zr_aload_n C dyX7_noteReads_7 rfl 1 rfl ?_
      refine zg_7_44 C hS dyX7_noteReads_8 ?_
      refine zg_7_69 C hS dyX7_noteReads_11 ?_
      refine zr_aload_n C dyX7_noteReads_14 rfl 1 rfl ?_
      refine zg_7_48 C hS dyX7_noteReads_15 ?_
      refine zg_7_74 C hS dyX7_noteReads_18 ?_
      refine zr_iload_n C dyX7_noteReads_21 rfl 0 rfl ?_
      refine zv_7_52 C hS (zIsRow.of hS zir_44) (st := [.ref (B + 25)]) h ⟨Nat.le_of_ble_eq_true rfl, Nat.le_of_ble_eq_true rfl⟩ (Nat.le_of_ble_eq_true rfl) dyX7_noteReads_22 (fun r_3 h => ?_)
      refine zv_7_52 C hS (zIsRow.of hS zir_25) (st := []) h ⟨Nat.le_of_ble_eq_true rfl, Nat.le_of_ble_eq_true rfl⟩ (Nat.le_of_ble_eq_true rfl) dyX7_noteReads_25 (fun r_4 h => ?_)
      refine zr_bipush C dyX7_noteReads_28 zc_b_8 ?_
      refine zjn (h (fun (I_5 : zI) => zX p l e (zrm 1 22) s m args below meth c (MQ below (zQc D B cA (zqV S K)) args s 0 0 (fun q => B ≤ q)) D B cA 6 0 0 S I_5 [(3, .int v3_1), (0, .ref (B + 69)), (2, .int a2)] [] 86) (fun I_5 h => ?_)) (fun h => ?_)
      · refine zn_iinc C (fun v3_6 => [(3, .int v3_6), (0, .ref (B + 69)), (2, .int a2)]) dyX7_noteReads_86 0 rfl zc_i_1 (Nat.le_of_ble_eq_true rfl) (fun _ => rfl) (fun v3_6 ev3_6 => ?_)
        replace h := h v3_6 ev3_6
        refine zr_goto C dyX7_noteReads_89 (tgt := 2) (by decide) ?_
        exact h
      refine zr_icmp_ne C dyX7_noteReads_30 (tgt := 86) (by decide) (fun hc_12 => ?_) (fun hc_12 => ?_)
      · replace h := zif_neg hc_12 h
        exact h
      · replace h := zif_pos hc_12 h
        refine zr_aload_n C dyX7_noteReads_33 rfl 1 rfl ?_
        refine zg_7_48 C hS dyX7_noteReads_34 ?_
        refine zg_7_127 C hS dyX7_noteReads_37 ?_
        refine zr_iload_n C dyX7_noteReads_40 rfl 0 rfl ?_
        refine zv_7_52 C hS (zIsRow.of hS zir_50) (st := []) h ⟨Nat.le_of_ble_eq_true rfl, Nat.le_of_ble_eq_true rfl⟩ (Nat.le_of_ble_eq_true rfl) dyX7_noteReads_41 (fun r_7 h => ?_)
        refine zr_istore C dyX7_noteReads_44 (Nat.le_of_ble_eq_true rfl) (lv2 := [(4, .int r_7), (3, .int v3_1), (0, .ref (B + 69)), (2, .int a2)]) rfl ?_
        refine zr_aload_n C dyX7_noteReads_46 rfl 2 rfl ?_
        refine zg_7_14 C hS dyX7_noteReads_47 ?_
        refine zr_iload C dyX7_noteReads_50 0 rfl ?_
        refine zv_7_52 C hS (zIsRow.of hS zir_70) (st := []) h ⟨Nat.le_of_ble_eq_true rfl, Nat.le_of_ble_eq_true rfl⟩ (Nat.le_of_ble_eq_true rfl) dyX7_noteReads_52 (fun r_8 h => ?_)
        refine zr_istore C dyX7_noteReads_55 (Nat.le_of_ble_eq_true rfl) (lv2 := [(5, .int r_8), (4, .int r_7), (3, .int v3_1), (0, .ref (B + 69)), (2, .int a2)]) rfl ?_
        refine zr_aload_n C dyX7_noteReads_57 rfl 3 rfl ?_
        refine zg_7_32 C hS dyX7_noteReads_58 ?_
        refine zr_iload C dyX7_noteReads_61 1 rfl ?_
        refine zr_aload_n C dyX7_noteReads_63 rfl 3 rfl ?_
        refine zg_7_26 C hS dyX7_noteReads_64 ?_
        refine zr_iload C dyX7_noteReads_67 0 rfl ?_
        refine zv_7_52 C hS (zIsRow.of hS zir_76) (st := [.int r_7, .ref (B + 80)]) h ⟨Nat.le_of_ble_eq_true rfl, Nat.le_of_ble_eq_true rfl⟩ (Nat.le_of_ble_eq_true rfl) dyX7_noteReads_69 (fun r_9 h => ?_)
        refine zv_7_111 C hS (zIsRow.of hS zir_80) (st := []) h ⟨Nat.le_of_ble_eq_true rfl, Nat.le_of_ble_eq_true rfl⟩ (Nat.le_of_ble_eq_true rfl) dyX7_noteReads_72 (fun I_10 h => ?_)
        refine zr_aload_n C dyX7_noteReads_75 rfl 3 rfl ?_
        refine zg_7_29 C hS dyX7_noteReads_76 ?_
        refine zr_iload C dyX7_noteReads_79 0 rfl ?_
        refine zr_bipush C dyX7_noteReads_81 zc_b_m2 ?_
        refine zv_7_111 C hS (zIsRow.of hS zir_78) (st := []) h ⟨Nat.le_of_ble_eq_true rfl, Nat.le_of_ble_eq_true rfl⟩ (Nat.le_of_ble_eq_true rfl) dyX7_noteReads_83 (fun I_11 h => ?_)
        refine zr_sub (lv2 := [(3, .int v3_1), (0, .ref (B + 69)), (2, .int a2)]) [2, 3, 4] rfl ?_
        exact h
  refine zr_sub (lv2 := [(3, .int a1), (0, .ref (B + 69)), (2, .int a2)]) [0, 1, 3] rfl ?_
  exact h
def w_Runner_numberOf (a0 : Int32) (I : zI) (K : Int32 → Prop) : Prop :=
  ∀ (P5 : Int32 → Int32 → Prop), (∀ (v1_1 : Int32) (v2_2 : Int32), ((if v2_2 < 0 then K v1_1 else (∀ v3_3, v3_3 = (((a0.toUInt32 >>> (v2_2.toUInt32 &&& Int32.toUInt32 31)).toInt32) &&& 255) → ∀ (P34 : Int32 → Prop), (∀ (t_4 : Int32), (∀ v2_5, v2_5 = (v2_2 + (-8)) → P5 t_4 v2_5) → P34 t_4) → (if v3_3 = 0 then P34 v1_1 else (P34 (((v1_1 * 10) + v3_3) - 48)))))) → P5 v1_1 v2_2) → P5 0 24
theorem dyX7_numberOf_0 : decode cX7_numberOf 0 = .ok (.iconst 0, 1) := by decide +kernel
theorem dyX7_numberOf_1 : decode cX7_numberOf 1 = .ok (.istore_n 1, 1) := by decide +kernel
theorem dyX7_numberOf_2 : decode cX7_numberOf 2 = .ok (.bipush 24, 2) := by decide +kernel
theorem dyX7_numberOf_4 : decode cX7_numberOf 4 = .ok (.istore_n 2, 1) := by decide +kernel
theorem dyX7_numberOf_5 : decode cX7_numberOf 5 = .ok (.iload_n 2, 1) := by decide +kernel
theorem dyX7_numberOf_6 : decode cX7_numberOf 6 = .ok (.ifCond .lt 35, 3) := by decide +kernel
theorem dyX7_numberOf_9 : decode cX7_numberOf 9 = .ok (.iload_n 0, 1) := by decide +kernel
theorem dyX7_numberOf_10 : decode cX7_numberOf 10 = .ok (.iload_n 2, 1) := by decide +kernel
theorem dyX7_numberOf_11 : decode cX7_numberOf 11 = .ok (.iushr, 1) := by decide +kernel
theorem dyX7_numberOf_12 : decode cX7_numberOf 12 = .ok (.sipush 255, 3) := by decide +kernel
theorem dyX7_numberOf_15 : decode cX7_numberOf 15 = .ok (.iand, 1) := by decide +kernel
theorem dyX7_numberOf_16 : decode cX7_numberOf 16 = .ok (.istore_n 3, 1) := by decide +kernel
theorem dyX7_numberOf_17 : decode cX7_numberOf 17 = .ok (.iload_n 3, 1) := by decide +kernel
theorem dyX7_numberOf_18 : decode cX7_numberOf 18 = .ok (.ifCond .ne 7, 3) := by decide +kernel
theorem dyX7_numberOf_21 : decode cX7_numberOf 21 = .ok (.iload_n 1, 1) := by decide +kernel
theorem dyX7_numberOf_22 : decode cX7_numberOf 22 = .ok (.goto 12, 3) := by decide +kernel
theorem dyX7_numberOf_25 : decode cX7_numberOf 25 = .ok (.iload_n 1, 1) := by decide +kernel
theorem dyX7_numberOf_26 : decode cX7_numberOf 26 = .ok (.bipush 10, 2) := by decide +kernel
theorem dyX7_numberOf_28 : decode cX7_numberOf 28 = .ok (.imul, 1) := by decide +kernel
theorem dyX7_numberOf_29 : decode cX7_numberOf 29 = .ok (.iload_n 3, 1) := by decide +kernel
theorem dyX7_numberOf_30 : decode cX7_numberOf 30 = .ok (.iadd, 1) := by decide +kernel
theorem dyX7_numberOf_31 : decode cX7_numberOf 31 = .ok (.bipush 48, 2) := by decide +kernel
theorem dyX7_numberOf_33 : decode cX7_numberOf 33 = .ok (.isub, 1) := by decide +kernel
theorem dyX7_numberOf_34 : decode cX7_numberOf 34 = .ok (.istore_n 1, 1) := by decide +kernel
theorem dyX7_numberOf_35 : decode cX7_numberOf 35 = .ok (.iinc 2 (-8), 3) := by decide +kernel
theorem dyX7_numberOf_38 : decode cX7_numberOf 38 = .ok (.goto (-33), 3) := by decide +kernel
theorem dyX7_numberOf_41 : decode cX7_numberOf 41 = .ok (.iload_n 1, 1) := by decide +kernel
theorem dyX7_numberOf_42 : decode cX7_numberOf 42 = .ok (.ireturn, 1) := by decide +kernel
theorem zsg_yX7_numberOf : yX7_numberOf.cls ≠ "java/lang/invoke/MethodHandle" ∧ yX7_numberOf.cls ≠ "java/lang/invoke/VarHandle" ∧ (parseMethodDescriptor yX7_numberOf.desc).map (fun d => d.parameters.length) = some 1 := by decide +kernel
set_option maxRecDepth 20000 in
theorem c_Runner_numberOf {l : Launch} {D : va_G} {B : Nat} {cA : Nat → ClassId} {ad : Nat → Nat} {S : List zC} (hS : zOkX S) {a0 : Int32} {I : zI} {K : Int32 → Prop}  (h : w_Runner_numberOf a0 I K) : Met l yX7_numberOf (zws yX7_numberOf cX7_numberOf 4 (some .int)) (zrm 0 0) (zPc D B cA ad [.int a0] S I) (zQc D B cA (zpI S I K)) 0 0 (fun q => B ≤ q) := by
  refine zm_of (cc := cX7_numberOf) (maxL := 4) (ret := (some .int)) (by decide +kernel) rfl (Nat.le_of_ble_eq_true rfl) trivial ?_
  intro p e s m args below meth c C _
  unfold w_Runner_numberOf at h
  show zX p l e (zrm 0 0) s m args below meth c (MQ below (zQc D B cA (zpI S I K)) args s 0 0 (fun q => B ≤ q)) D B cA 4 0 0 S I [(0, .int a0)] [] 0
  refine zr_iconst C dyX7_numberOf_0 zc_i_0 ?_
  refine zr_istore_n C dyX7_numberOf_1 rfl (Nat.le_of_ble_eq_true rfl) (lv2 := [(1, .int 0), (0, .int a0)]) rfl ?_
  refine zr_bipush C dyX7_numberOf_2 zc_b_24 ?_
  refine zr_istore_n C dyX7_numberOf_4 rfl (Nat.le_of_ble_eq_true rfl) (lv2 := [(2, .int 24), (1, .int 0), (0, .int a0)]) rfl ?_
  refine zjn (h (fun (v1_1 : Int32) (v2_2 : Int32) => zX p l e (zrm 0 0) s m args below meth c (MQ below (zQc D B cA (zpI S I K)) args s 0 0 (fun q => B ≤ q)) D B cA 4 0 0 S I [(2, .int v2_2), (1, .int v1_1), (0, .int a0)] [] 5) (fun v1_1 v2_2 h => ?_)) (fun h => ?_)
  · refine zr_iload_n C dyX7_numberOf_5 rfl 0 rfl ?_
    refine zr_if_lt C dyX7_numberOf_6 (tgt := 41) (by decide) (fun hc_7 => ?_) (fun hc_7 => ?_)
    · replace h := zif_pos hc_7 h
      refine zr_iload_n C dyX7_numberOf_41 rfl 1 rfl ?_
      exact zr_iret C rfl dyX7_numberOf_42 ⟨rfl, rfl, _, rfl, h⟩
    · replace h := zif_neg hc_7 h
      refine zr_iload_n C dyX7_numberOf_9 rfl 2 rfl ?_
      refine zr_iload_n C dyX7_numberOf_10 rfl 0 rfl ?_
      refine zr_iushr C dyX7_numberOf_11 ?_
      refine zr_sipush C dyX7_numberOf_12 zc_s_255 ?_
      refine zr_iand C dyX7_numberOf_15 ?_
      refine zn_istore_n C (fun v3_3 => [(3, .int v3_3), (2, .int v2_2), (1, .int v1_1), (0, .int a0)]) dyX7_numberOf_16 rfl (Nat.le_of_ble_eq_true rfl) (fun _ => rfl) (fun v3_3 ev3_3 => ?_)
      replace h := h v3_3 ev3_3
      refine zr_iload_n C dyX7_numberOf_17 rfl 0 rfl ?_
      refine zjn (h (fun (t_4 : Int32) => zX p l e (zrm 0 0) s m args below meth c (MQ below (zQc D B cA (zpI S I K)) args s 0 0 (fun q => B ≤ q)) D B cA 4 0 0 S I [(2, .int v2_2), (0, .int a0)] [.int t_4] 34) (fun t_4 h => ?_)) (fun h => ?_)
      · refine zr_istore_n C dyX7_numberOf_34 rfl (Nat.le_of_ble_eq_true rfl) (lv2 := [(1, .int t_4), (2, .int v2_2), (0, .int a0)]) rfl ?_
        refine zn_iinc C (fun v2_5 => [(2, .int v2_5), (1, .int t_4), (0, .int a0)]) dyX7_numberOf_35 1 rfl zc_i_m8 (Nat.le_of_ble_eq_true rfl) (fun _ => rfl) (fun v2_5 ev2_5 => ?_)
        replace h := h v2_5 ev2_5
        refine zr_goto C dyX7_numberOf_38 (tgt := 5) (by decide) ?_
        exact h
      refine zr_if_ne C dyX7_numberOf_18 (tgt := 25) (by decide) (fun hc_6 => ?_) (fun hc_6 => ?_)
      · replace h := zif_neg hc_6 h
        refine zr_iload_n C dyX7_numberOf_25 rfl 2 rfl ?_
        refine zr_bipush C dyX7_numberOf_26 zc_b_10 ?_
        refine zr_imul C dyX7_numberOf_28 ?_
        refine zr_iload_n C dyX7_numberOf_29 rfl 0 rfl ?_
        refine zr_iadd C dyX7_numberOf_30 ?_
        refine zr_bipush C dyX7_numberOf_31 zc_b_48 ?_
        refine zr_isub C dyX7_numberOf_33 ?_
        refine zr_sub (lv2 := [(2, .int v2_2), (0, .int a0)]) [1, 3] rfl ?_
        exact h
      · replace h := zif_pos hc_6 h
        refine zr_iload_n C dyX7_numberOf_21 rfl 2 rfl ?_
        refine zr_goto C dyX7_numberOf_22 (tgt := 34) (by decide) ?_
        refine zr_sub (lv2 := [(2, .int v2_2), (0, .int a0)]) [1, 3] rfl ?_
        exact h
  exact h
theorem zg_7_114 {p : Program} {l : Launch} {e : Env} {R : Room} {s : State} {m : MethodId} {args : Array Value} {below : List Frame} {meth : Method} {c : Code} {Q : State → Prop} {D : va_G} {B : Nat} {cA : Nat → ClassId} {ad : Nat → Nat} {cc : ByteArray} {nL : Nat} {ret : Option FieldType} {S : List zC} {I : zI} {lv : List (Nat × Value)} {st : List Value} {pc : Nat} (C : zCx p s m args meth c cc nL RX7 ret D B cA ad) (hS : zOkX S) (hd : decode cc pc = .ok (.getfield 114, 3)) (kk : zX p l e R s m args below meth c Q D B cA nL 0 0 S I lv (.ref (B + 54) :: st) (pc + 3)) : zX p l e R s m args below meth c Q D B cA nL 0 0 S I lv (.ref (B + 43) :: st) pc :=
  zr_getr C (ci := 9) (Cn := RX9) (T := TX9) (N := 16) (k := 43) (j := 6) (fs := [some (some 24), some (some 44), some (some 46), some (some 48), some (some 50), some (some 52), some (some 54), some (some 56), some (some 58), some (some 60), some (some 62), none, none, none, none, none]) rfl zin_9 (Nat.le_of_ble_eq_true rfl) rfl (hS _ _ zs_43) rfl zk_fl_7_114 hd kk
theorem zg_7_35 {p : Program} {l : Launch} {e : Env} {R : Room} {s : State} {m : MethodId} {args : Array Value} {below : List Frame} {meth : Method} {c : Code} {Q : State → Prop} {D : va_G} {B : Nat} {cA : Nat → ClassId} {ad : Nat → Nat} {cc : ByteArray} {nL : Nat} {ret : Option FieldType} {S : List zC} {I : zI} {lv : List (Nat × Value)} {st : List Value} {pc : Nat} (C : zCx p s m args meth c cc nL RX7 ret D B cA ad) (hS : zOkX S) (hd : decode cc pc = .ok (.getfield 35, 3)) (kk : zX p l e R s m args below meth c Q D B cA nL 0 0 S I lv (.ref (B + 82) :: st) (pc + 3)) : zX p l e R s m args below meth c Q D B cA nL 0 0 S I lv (.ref (B + 69) :: st) pc :=
  zr_getr C (ci := 7) (Cn := RX7) (T := TX7) (N := 17) (k := 69) (j := 8) (fs := [some (some 24), some (some 43), some (some 70), some (some 72), some (some 74), some (some 76), some (some 78), some (some 80), some (some 82), some (some 84), some (some 86), none, none, none, none, none, none]) rfl zin_7 (Nat.le_of_ble_eq_true rfl) rfl (hS _ _ zs_69) rfl zk_fl_7_35 hd kk
theorem zg_7_152 {p : Program} {l : Launch} {e : Env} {R : Room} {s : State} {m : MethodId} {args : Array Value} {below : List Frame} {meth : Method} {c : Code} {Q : State → Prop} {D : va_G} {B : Nat} {cA : Nat → ClassId} {ad : Nat → Nat} {cc : ByteArray} {nL : Nat} {ret : Option FieldType} {S : List zC} {I : zI} {lv : List (Nat × Value)} {st : List Value} {pc : Nat} (C : zCx p s m args meth c cc nL RX7 ret D B cA ad) (hS : zOkX S) (hd : decode cc pc = .ok (.getfield 152, 3)) (kk : zX p l e R s m args below meth c Q D B cA nL 0 0 S I lv (.ref (B + 37) :: st) (pc + 3)) : zX p l e R s m args below meth c Q D B cA nL 0 0 S I lv (.ref (B + 24) :: st) pc :=
  zr_getr C (ci := 3) (Cn := RX3) (T := TX3) (N := 10) (k := 24) (j := 6) (fs := [some (some 25), some (some 27), some (some 29), some (some 31), some (some 33), some (some 35), some (some 37), some (some 39), some (some 41), none]) rfl zin_3 (Nat.le_of_ble_eq_true rfl) rfl (hS _ _ zs_24) rfl zk_fl_7_152 hd kk
theorem zv_7_155 {p : Program} {l : Launch} {e : Env} {R : Room} {s : State} {m : MethodId} {args : Array Value} {below : List Frame} {meth : Method} {c : Code} {Q : State → Prop} {D : va_G} {B : Nat} {cA : Nat → ClassId} {ad : Nat → Nat} {cc : ByteArray} {nL : Nat} {ret : Option FieldType} {S : List zC} {I : zI} {lv : List (Nat × Value)} {st : List Value} {pc : Nat} (C : zCx p s m args meth c cc nL RX7 ret D B cA ad) {K : Int32 → Prop} {xa0 : Int32} (hS : zOkX S)  (h : w_Runner_numberOf xa0 I K) (hR : 0 + 1 ≤ R.frames ∧ 8 + (4 + 11) + (0) ≤ R.locals) (hw : (st.map fun v => v.category).sum ≤ 8) (hd : decode cc pc = .ok (.invokestatic 155, 3)) (kk : ∀ v, K v → zX p l e R s m args below meth c Q D B cA nL 0 0 S I lv (.int v :: st) (pc + 3)) : zX p l e R s m args below meth c Q D B cA nL 0 0 S I lv (.int xa0 :: st) pc :=
  have hf : 0 ≤ R.cells ∧ 0 ≤ R.slots := ⟨Nat.zero_le _, Nat.zero_le _⟩
  zc_SpI C (As := [.int xa0]) (st := st) (c_Runner_numberOf hS h) (zgM zk_cd_yX7_numberOf) zk_ml_7_155 zk_st_yX7_numberOf zk_in_7 zsg_yX7_numberOf hR rfl rfl hw hd hf kk
def w_Runner_worthAt (a1 : Int32) (I : zI) (K : Int32 → Prop) : Prop :=
  ∀ v2_1, v2_1 = (a1 + 1) → w_Row_get 54 400 v2_1 I (fun r_2 => ∀ v3_3, v3_3 = ((v2_1 + r_2) + 1) → w_Row_get 44 400 a1 I (fun r_4 => w_Row_get 25 3400 r_4 I (fun r_5 => ∀ (P120 : Prop), ((w_Row_get 82 400 v2_1 I (fun r_6 => K r_6)) → P120) → (if r_5 = 4 then (w_Row_get 82 400 v2_1 I (fun r_8 => w_Row_get 82 400 v3_3 I (fun r_9 => K (r_8 + r_9)))) else (if r_5 = 5 then P120 else (if r_5 = 6 then (w_Row_get 82 400 v2_1 I (fun r_12 => w_Row_get 82 400 v3_3 I (fun r_13 => K (r_12 * r_13)))) else (if r_5 = 7 then P120 else (if r_5 = 8 then (w_Row_get 50 400 a1 I (fun r_16 => w_Row_get 70 100 r_16 I (fun r_17 => w_Row_get 72 100 r_17 I (fun r_18 => K r_18)))) else (if r_5 = 9 then (w_Row_get 44 400 v2_1 I (fun r_20 => w_Row_get 37 3400 r_20 I (fun r_21 => w_Runner_numberOf r_21 I (fun r_22 => K r_22)))) else (if r_5 = 10 then (w_Row_get 82 400 (v2_1 + 1) I (fun r_24 => K r_24)) else K 0))))))))))
theorem dyX7_worthAt_0 : decode cX7_worthAt 0 = .ok (.iload_n 1, 1) := by decide +kernel
theorem dyX7_worthAt_1 : decode cX7_worthAt 1 = .ok (.iconst 1, 1) := by decide +kernel
theorem dyX7_worthAt_2 : decode cX7_worthAt 2 = .ok (.iadd, 1) := by decide +kernel
theorem dyX7_worthAt_3 : decode cX7_worthAt 3 = .ok (.istore_n 2, 1) := by decide +kernel
theorem dyX7_worthAt_4 : decode cX7_worthAt 4 = .ok (.iload_n 2, 1) := by decide +kernel
theorem dyX7_worthAt_5 : decode cX7_worthAt 5 = .ok (.aload_n 0, 1) := by decide +kernel
theorem dyX7_worthAt_6 : decode cX7_worthAt 6 = .ok (.getfield 48, 3) := by decide +kernel
theorem dyX7_worthAt_9 : decode cX7_worthAt 9 = .ok (.getfield 114, 3) := by decide +kernel
theorem dyX7_worthAt_12 : decode cX7_worthAt 12 = .ok (.iload_n 2, 1) := by decide +kernel
theorem dyX7_worthAt_13 : decode cX7_worthAt 13 = .ok (.invokevirtual 52, 3) := by decide +kernel
theorem dyX7_worthAt_16 : decode cX7_worthAt 16 = .ok (.iadd, 1) := by decide +kernel
theorem dyX7_worthAt_17 : decode cX7_worthAt 17 = .ok (.iconst 1, 1) := by decide +kernel
theorem dyX7_worthAt_18 : decode cX7_worthAt 18 = .ok (.iadd, 1) := by decide +kernel
theorem dyX7_worthAt_19 : decode cX7_worthAt 19 = .ok (.istore_n 3, 1) := by decide +kernel
theorem dyX7_worthAt_20 : decode cX7_worthAt 20 = .ok (.aload_n 0, 1) := by decide +kernel
theorem dyX7_worthAt_21 : decode cX7_worthAt 21 = .ok (.getfield 44, 3) := by decide +kernel
theorem dyX7_worthAt_24 : decode cX7_worthAt 24 = .ok (.getfield 69, 3) := by decide +kernel
theorem dyX7_worthAt_27 : decode cX7_worthAt 27 = .ok (.aload_n 0, 1) := by decide +kernel
theorem dyX7_worthAt_28 : decode cX7_worthAt 28 = .ok (.getfield 48, 3) := by decide +kernel
theorem dyX7_worthAt_31 : decode cX7_worthAt 31 = .ok (.getfield 74, 3) := by decide +kernel
theorem dyX7_worthAt_34 : decode cX7_worthAt 34 = .ok (.iload_n 1, 1) := by decide +kernel
theorem dyX7_worthAt_35 : decode cX7_worthAt 35 = .ok (.invokevirtual 52, 3) := by decide +kernel
theorem dyX7_worthAt_38 : decode cX7_worthAt 38 = .ok (.invokevirtual 52, 3) := by decide +kernel
theorem dyX7_worthAt_41 : decode cX7_worthAt 41 = .ok (.tableswitch 150 4 10 #[43, 79, 61, 79, 88, 114, 139], 43) := by decide +kernel
theorem dyX7_worthAt_84 : decode cX7_worthAt 84 = .ok (.aload_n 0, 1) := by decide +kernel
theorem dyX7_worthAt_85 : decode cX7_worthAt 85 = .ok (.getfield 35, 3) := by decide +kernel
theorem dyX7_worthAt_88 : decode cX7_worthAt 88 = .ok (.iload_n 2, 1) := by decide +kernel
theorem dyX7_worthAt_89 : decode cX7_worthAt 89 = .ok (.invokevirtual 52, 3) := by decide +kernel
theorem dyX7_worthAt_92 : decode cX7_worthAt 92 = .ok (.aload_n 0, 1) := by decide +kernel
theorem dyX7_worthAt_93 : decode cX7_worthAt 93 = .ok (.getfield 35, 3) := by decide +kernel
theorem dyX7_worthAt_96 : decode cX7_worthAt 96 = .ok (.iload_n 3, 1) := by decide +kernel
theorem dyX7_worthAt_97 : decode cX7_worthAt 97 = .ok (.invokevirtual 52, 3) := by decide +kernel
theorem dyX7_worthAt_100 : decode cX7_worthAt 100 = .ok (.iadd, 1) := by decide +kernel
theorem dyX7_worthAt_101 : decode cX7_worthAt 101 = .ok (.ireturn, 1) := by decide +kernel
theorem dyX7_worthAt_102 : decode cX7_worthAt 102 = .ok (.aload_n 0, 1) := by decide +kernel
theorem dyX7_worthAt_103 : decode cX7_worthAt 103 = .ok (.getfield 35, 3) := by decide +kernel
theorem dyX7_worthAt_106 : decode cX7_worthAt 106 = .ok (.iload_n 2, 1) := by decide +kernel
theorem dyX7_worthAt_107 : decode cX7_worthAt 107 = .ok (.invokevirtual 52, 3) := by decide +kernel
theorem dyX7_worthAt_110 : decode cX7_worthAt 110 = .ok (.aload_n 0, 1) := by decide +kernel
theorem dyX7_worthAt_111 : decode cX7_worthAt 111 = .ok (.getfield 35, 3) := by decide +kernel
theorem dyX7_worthAt_114 : decode cX7_worthAt 114 = .ok (.iload_n 3, 1) := by decide +kernel
theorem dyX7_worthAt_115 : decode cX7_worthAt 115 = .ok (.invokevirtual 52, 3) := by decide +kernel
theorem dyX7_worthAt_118 : decode cX7_worthAt 118 = .ok (.imul, 1) := by decide +kernel
theorem dyX7_worthAt_119 : decode cX7_worthAt 119 = .ok (.ireturn, 1) := by decide +kernel
theorem dyX7_worthAt_120 : decode cX7_worthAt 120 = .ok (.aload_n 0, 1) := by decide +kernel
theorem dyX7_worthAt_121 : decode cX7_worthAt 121 = .ok (.getfield 35, 3) := by decide +kernel
theorem dyX7_worthAt_124 : decode cX7_worthAt 124 = .ok (.iload_n 2, 1) := by decide +kernel
theorem dyX7_worthAt_125 : decode cX7_worthAt 125 = .ok (.invokevirtual 52, 3) := by decide +kernel
theorem dyX7_worthAt_128 : decode cX7_worthAt 128 = .ok (.ireturn, 1) := by decide +kernel
theorem dyX7_worthAt_129 : decode cX7_worthAt 129 = .ok (.aload_n 0, 1) := by decide +kernel
theorem dyX7_worthAt_130 : decode cX7_worthAt 130 = .ok (.getfield 20, 3) := by decide +kernel
theorem dyX7_worthAt_133 : decode cX7_worthAt 133 = .ok (.aload_n 0, 1) := by decide +kernel
theorem dyX7_worthAt_134 : decode cX7_worthAt 134 = .ok (.getfield 14, 3) := by decide +kernel
theorem dyX7_worthAt_137 : decode cX7_worthAt 137 = .ok (.aload_n 0, 1) := by decide +kernel
theorem dyX7_worthAt_138 : decode cX7_worthAt 138 = .ok (.getfield 48, 3) := by decide +kernel
theorem dyX7_worthAt_141 : decode cX7_worthAt 141 = .ok (.getfield 127, 3) := by decide +kernel
theorem dyX7_worthAt_144 : decode cX7_worthAt 144 = .ok (.iload_n 1, 1) := by decide +kernel
theorem dyX7_worthAt_145 : decode cX7_worthAt 145 = .ok (.invokevirtual 52, 3) := by decide +kernel
theorem dyX7_worthAt_148 : decode cX7_worthAt 148 = .ok (.invokevirtual 52, 3) := by decide +kernel
theorem dyX7_worthAt_151 : decode cX7_worthAt 151 = .ok (.invokevirtual 52, 3) := by decide +kernel
theorem dyX7_worthAt_154 : decode cX7_worthAt 154 = .ok (.ireturn, 1) := by decide +kernel
theorem dyX7_worthAt_155 : decode cX7_worthAt 155 = .ok (.aload_n 0, 1) := by decide +kernel
theorem dyX7_worthAt_156 : decode cX7_worthAt 156 = .ok (.getfield 44, 3) := by decide +kernel
theorem dyX7_worthAt_159 : decode cX7_worthAt 159 = .ok (.getfield 152, 3) := by decide +kernel
theorem dyX7_worthAt_162 : decode cX7_worthAt 162 = .ok (.aload_n 0, 1) := by decide +kernel
theorem dyX7_worthAt_163 : decode cX7_worthAt 163 = .ok (.getfield 48, 3) := by decide +kernel
theorem dyX7_worthAt_166 : decode cX7_worthAt 166 = .ok (.getfield 74, 3) := by decide +kernel
theorem dyX7_worthAt_169 : decode cX7_worthAt 169 = .ok (.iload_n 2, 1) := by decide +kernel
theorem dyX7_worthAt_170 : decode cX7_worthAt 170 = .ok (.invokevirtual 52, 3) := by decide +kernel
theorem dyX7_worthAt_173 : decode cX7_worthAt 173 = .ok (.invokevirtual 52, 3) := by decide +kernel
theorem dyX7_worthAt_176 : decode cX7_worthAt 176 = .ok (.invokestatic 155, 3) := by decide +kernel
theorem dyX7_worthAt_179 : decode cX7_worthAt 179 = .ok (.ireturn, 1) := by decide +kernel
theorem dyX7_worthAt_180 : decode cX7_worthAt 180 = .ok (.aload_n 0, 1) := by decide +kernel
theorem dyX7_worthAt_181 : decode cX7_worthAt 181 = .ok (.getfield 35, 3) := by decide +kernel
theorem dyX7_worthAt_184 : decode cX7_worthAt 184 = .ok (.iload_n 2, 1) := by decide +kernel
theorem dyX7_worthAt_185 : decode cX7_worthAt 185 = .ok (.iconst 1, 1) := by decide +kernel
theorem dyX7_worthAt_186 : decode cX7_worthAt 186 = .ok (.iadd, 1) := by decide +kernel
theorem dyX7_worthAt_187 : decode cX7_worthAt 187 = .ok (.invokevirtual 52, 3) := by decide +kernel
theorem dyX7_worthAt_190 : decode cX7_worthAt 190 = .ok (.ireturn, 1) := by decide +kernel
theorem dyX7_worthAt_191 : decode cX7_worthAt 191 = .ok (.iconst 0, 1) := by decide +kernel
theorem dyX7_worthAt_192 : decode cX7_worthAt 192 = .ok (.ireturn, 1) := by decide +kernel
theorem zsg_yX7_worthAt : yX7_worthAt.cls = RX7 ∧ yX7_worthAt.cls ≠ "java/lang/invoke/MethodHandle" ∧ yX7_worthAt.cls ≠ "java/lang/invoke/VarHandle" ∧ (parseMethodDescriptor yX7_worthAt.desc).map (fun d => d.parameters.length) = some 1 := by decide +kernel
set_option maxRecDepth 20000 in
theorem c_Runner_worthAt {l : Launch} {D : va_G} {B : Nat} {cA : Nat → ClassId} {ad : Nat → Nat} {S : List zC} (hS : zOkX S) {a1 : Int32} {I : zI} {K : Int32 → Prop}  (h : w_Runner_worthAt a1 I K) : Met l yX7_worthAt (zws yX7_worthAt cX7_worthAt 4 (some .int)) (zrm 1 23) (zPc D B cA ad [.ref (B + 69), .int a1] S I) (zQc D B cA (zpI S I K)) 0 0 (fun q => B ≤ q) := by
  refine zm_of (cc := cX7_worthAt) (maxL := 4) (ret := (some .int)) (by decide +kernel) rfl (Nat.le_of_ble_eq_true rfl) trivial ?_
  intro p e s m args below meth c C _
  unfold w_Runner_worthAt at h
  show zX p l e (zrm 1 23) s m args below meth c (MQ below (zQc D B cA (zpI S I K)) args s 0 0 (fun q => B ≤ q)) D B cA 4 0 0 S I [(0, .ref (B + 69)), (1, .int a1)] [] 0
  refine zr_iload_n C dyX7_worthAt_0 rfl 1 rfl ?_
  refine zr_iconst C dyX7_worthAt_1 zc_i_1 ?_
  refine zr_iadd C dyX7_worthAt_2 ?_
  refine zn_istore_n C (fun v2_1 => [(2, .int v2_1), (0, .ref (B + 69)), (1, .int a1)]) dyX7_worthAt_3 rfl (Nat.le_of_ble_eq_true rfl) (fun _ => rfl) (fun v2_1 ev2_1 => ?_)
  replace h := h v2_1 ev2_1
  refine zr_iload_n C dyX7_worthAt_4 rfl 0 rfl ?_
  refine zr_aload_n C dyX7_worthAt_5 rfl 1 rfl ?_
  refine zg_7_48 C hS dyX7_worthAt_6 ?_
  refine zg_7_114 C hS dyX7_worthAt_9 ?_
  refine zr_iload_n C dyX7_worthAt_12 rfl 0 rfl ?_
  refine zv_7_52 C hS (zIsRow.of hS zir_54) (st := [.int v2_1]) h ⟨Nat.le_of_ble_eq_true rfl, Nat.le_of_ble_eq_true rfl⟩ (Nat.le_of_ble_eq_true rfl) dyX7_worthAt_13 (fun r_2 h => ?_)
  refine zr_iadd C dyX7_worthAt_16 ?_
  refine zr_iconst C dyX7_worthAt_17 zc_i_1 ?_
  refine zr_iadd C dyX7_worthAt_18 ?_
  refine zn_istore_n C (fun v3_3 => [(3, .int v3_3), (2, .int v2_1), (0, .ref (B + 69)), (1, .int a1)]) dyX7_worthAt_19 rfl (Nat.le_of_ble_eq_true rfl) (fun _ => rfl) (fun v3_3 ev3_3 => ?_)
  replace h := h v3_3 ev3_3
  refine zr_aload_n C dyX7_worthAt_20 rfl 2 rfl ?_
  refine zg_7_44 C hS dyX7_worthAt_21 ?_
  refine zg_7_69 C hS dyX7_worthAt_24 ?_
  refine zr_aload_n C dyX7_worthAt_27 rfl 2 rfl ?_
  refine zg_7_48 C hS dyX7_worthAt_28 ?_
  refine zg_7_74 C hS dyX7_worthAt_31 ?_
  refine zr_iload_n C dyX7_worthAt_34 rfl 3 rfl ?_
  refine zv_7_52 C hS (zIsRow.of hS zir_44) (st := [.ref (B + 25)]) h ⟨Nat.le_of_ble_eq_true rfl, Nat.le_of_ble_eq_true rfl⟩ (Nat.le_of_ble_eq_true rfl) dyX7_worthAt_35 (fun r_4 h => ?_)
  refine zv_7_52 C hS (zIsRow.of hS zir_25) (st := []) h ⟨Nat.le_of_ble_eq_true rfl, Nat.le_of_ble_eq_true rfl⟩ (Nat.le_of_ble_eq_true rfl) dyX7_worthAt_38 (fun r_5 h => ?_)
  refine zjn (h (zX p l e (zrm 1 23) s m args below meth c (MQ below (zQc D B cA (zpI S I K)) args s 0 0 (fun q => B ≤ q)) D B cA 4 0 0 S I [(2, .int v2_1), (0, .ref (B + 69))] [] 120) (fun  h => ?_)) (fun h => ?_)
  · refine zr_aload_n C dyX7_worthAt_120 rfl 1 rfl ?_
    refine zg_7_35 C hS dyX7_worthAt_121 ?_
    refine zr_iload_n C dyX7_worthAt_124 rfl 0 rfl ?_
    refine zv_7_52 C hS (zIsRow.of hS zir_82) (st := []) h ⟨Nat.le_of_ble_eq_true rfl, Nat.le_of_ble_eq_true rfl⟩ (Nat.le_of_ble_eq_true rfl) dyX7_worthAt_125 (fun r_6 h => ?_)
    exact zr_iret C rfl dyX7_worthAt_128 ⟨rfl, rfl, _, rfl, h⟩
  by_cases hc_7 : r_5 = 4
  · replace h := zif_pos hc_7 h
    refine zr_tableIn C dyX7_worthAt_41 (by rw [hc_7]; decide) (by rw [hc_7]; decide) (off := 43) (by rw [hc_7]; decide) (tgt := 84) (by decide) ?_
    refine zr_aload_n C dyX7_worthAt_84 rfl 2 rfl ?_
    refine zg_7_35 C hS dyX7_worthAt_85 ?_
    refine zr_iload_n C dyX7_worthAt_88 rfl 1 rfl ?_
    refine zv_7_52 C hS (zIsRow.of hS zir_82) (st := []) h ⟨Nat.le_of_ble_eq_true rfl, Nat.le_of_ble_eq_true rfl⟩ (Nat.le_of_ble_eq_true rfl) dyX7_worthAt_89 (fun r_8 h => ?_)
    refine zr_aload_n C dyX7_worthAt_92 rfl 2 rfl ?_
    refine zg_7_35 C hS dyX7_worthAt_93 ?_
    refine zr_iload_n C dyX7_worthAt_96 rfl 0 rfl ?_
    refine zv_7_52 C hS (zIsRow.of hS zir_82) (st := [.int r_8]) h ⟨Nat.le_of_ble_eq_true rfl, Nat.le_of_ble_eq_true rfl⟩ (Nat.le_of_ble_eq_true rfl) dyX7_worthAt_97 (fun r_9 h => ?_)
    refine zr_iadd C dyX7_worthAt_100 ?_
    exact zr_iret C rfl dyX7_worthAt_101 ⟨rfl, rfl, _, rfl, h⟩
  replace h := zif_neg hc_7 h
  by_cases hc_10 : r_5 = 5
  · replace h := zif_pos hc_10 h
    refine zr_tableIn C dyX7_worthAt_41 (by rw [hc_10]; decide) (by rw [hc_10]; decide) (off := 79) (by rw [hc_10]; decide) (tgt := 120) (by decide) ?_
    refine zr_sub (lv2 := [(2, .int v2_1), (0, .ref (B + 69))]) [1, 2] rfl ?_
    exact h
  replace h := zif_neg hc_10 h
  by_cases hc_11 : r_5 = 6
  · replace h := zif_pos hc_11 h
    refine zr_tableIn C dyX7_worthAt_41 (by rw [hc_11]; decide) (by rw [hc_11]; decide) (off := 61) (by rw [hc_11]; decide) (tgt := 102) (by decide) ?_
    refine zr_aload_n C dyX7_worthAt_102 rfl 2 rfl ?_
    refine zg_7_35 C hS dyX7_worthAt_103 ?_
    refine zr_iload_n C dyX7_worthAt_106 rfl 1 rfl ?_
    refine zv_7_52 C hS (zIsRow.of hS zir_82) (st := []) h ⟨Nat.le_of_ble_eq_true rfl, Nat.le_of_ble_eq_true rfl⟩ (Nat.le_of_ble_eq_true rfl) dyX7_worthAt_107 (fun r_12 h => ?_)
    refine zr_aload_n C dyX7_worthAt_110 rfl 2 rfl ?_
    refine zg_7_35 C hS dyX7_worthAt_111 ?_
    refine zr_iload_n C dyX7_worthAt_114 rfl 0 rfl ?_
    refine zv_7_52 C hS (zIsRow.of hS zir_82) (st := [.int r_12]) h ⟨Nat.le_of_ble_eq_true rfl, Nat.le_of_ble_eq_true rfl⟩ (Nat.le_of_ble_eq_true rfl) dyX7_worthAt_115 (fun r_13 h => ?_)
    refine zr_imul C dyX7_worthAt_118 ?_
    exact zr_iret C rfl dyX7_worthAt_119 ⟨rfl, rfl, _, rfl, h⟩
  replace h := zif_neg hc_11 h
  by_cases hc_14 : r_5 = 7
  · replace h := zif_pos hc_14 h
    refine zr_tableIn C dyX7_worthAt_41 (by rw [hc_14]; decide) (by rw [hc_14]; decide) (off := 79) (by rw [hc_14]; decide) (tgt := 120) (by decide) ?_
    refine zr_sub (lv2 := [(2, .int v2_1), (0, .ref (B + 69))]) [1, 2] rfl ?_
    exact h
  replace h := zif_neg hc_14 h
  by_cases hc_15 : r_5 = 8
  · replace h := zif_pos hc_15 h
    refine zr_tableIn C dyX7_worthAt_41 (by rw [hc_15]; decide) (by rw [hc_15]; decide) (off := 88) (by rw [hc_15]; decide) (tgt := 129) (by decide) ?_
    refine zr_aload_n C dyX7_worthAt_129 rfl 2 rfl ?_
    refine zg_7_20 C hS dyX7_worthAt_130 ?_
    refine zr_aload_n C dyX7_worthAt_133 rfl 2 rfl ?_
    refine zg_7_14 C hS dyX7_worthAt_134 ?_
    refine zr_aload_n C dyX7_worthAt_137 rfl 2 rfl ?_
    refine zg_7_48 C hS dyX7_worthAt_138 ?_
    refine zg_7_127 C hS dyX7_worthAt_141 ?_
    refine zr_iload_n C dyX7_worthAt_144 rfl 3 rfl ?_
    refine zv_7_52 C hS (zIsRow.of hS zir_50) (st := [.ref (B + 70), .ref (B + 72)]) h ⟨Nat.le_of_ble_eq_true rfl, Nat.le_of_ble_eq_true rfl⟩ (Nat.le_of_ble_eq_true rfl) dyX7_worthAt_145 (fun r_16 h => ?_)
    refine zv_7_52 C hS (zIsRow.of hS zir_70) (st := [.ref (B + 72)]) h ⟨Nat.le_of_ble_eq_true rfl, Nat.le_of_ble_eq_true rfl⟩ (Nat.le_of_ble_eq_true rfl) dyX7_worthAt_148 (fun r_17 h => ?_)
    refine zv_7_52 C hS (zIsRow.of hS zir_72) (st := []) h ⟨Nat.le_of_ble_eq_true rfl, Nat.le_of_ble_eq_true rfl⟩ (Nat.le_of_ble_eq_true rfl) dyX7_worthAt_151 (fun r_18 h => ?_)
    exact zr_iret C rfl dyX7_worthAt_154 ⟨rfl, rfl, _, rfl, h⟩
  replace h := zif_neg hc_15 h
  by_cases hc_19 : r_5 = 9
  · replace h := zif_pos hc_19 h
    refine zr_tableIn C dyX7_worthAt_41 (by rw [hc_19]; decide) (by rw [hc_19]; decide) (off := 114) (by rw [hc_19]; decide) (tgt := 155) (by decide) ?_
    refine zr_aload_n C dyX7_worthAt_155 rfl 2 rfl ?_
    refine zg_7_44 C hS dyX7_worthAt_156 ?_
    refine zg_7_152 C hS dyX7_worthAt_159 ?_
    refine zr_aload_n C dyX7_worthAt_162 rfl 2 rfl ?_
    refine zg_7_48 C hS dyX7_worthAt_163 ?_
    refine zg_7_74 C hS dyX7_worthAt_166 ?_
    refine zr_iload_n C dyX7_worthAt_169 rfl 1 rfl ?_
    refine zv_7_52 C hS (zIsRow.of hS zir_44) (st := [.ref (B + 37)]) h ⟨Nat.le_of_ble_eq_true rfl, Nat.le_of_ble_eq_true rfl⟩ (Nat.le_of_ble_eq_true rfl) dyX7_worthAt_170 (fun r_20 h => ?_)
    refine zv_7_52 C hS (zIsRow.of hS zir_37) (st := []) h ⟨Nat.le_of_ble_eq_true rfl, Nat.le_of_ble_eq_true rfl⟩ (Nat.le_of_ble_eq_true rfl) dyX7_worthAt_173 (fun r_21 h => ?_)
    refine zv_7_155 C hS (st := []) h ⟨Nat.le_of_ble_eq_true rfl, Nat.le_of_ble_eq_true rfl⟩ (Nat.le_of_ble_eq_true rfl) dyX7_worthAt_176 (fun r_22 h => ?_)
    exact zr_iret C rfl dyX7_worthAt_179 ⟨rfl, rfl, _, rfl, h⟩
  replace h := zif_neg hc_19 h
  by_cases hc_23 : r_5 = 10
  · replace h := zif_pos hc_23 h
    refine zr_tableIn C dyX7_worthAt_41 (by rw [hc_23]; decide) (by rw [hc_23]; decide) (off := 139) (by rw [hc_23]; decide) (tgt := 180) (by decide) ?_
    refine zr_aload_n C dyX7_worthAt_180 rfl 2 rfl ?_
    refine zg_7_35 C hS dyX7_worthAt_181 ?_
    refine zr_iload_n C dyX7_worthAt_184 rfl 1 rfl ?_
    refine zr_iconst C dyX7_worthAt_185 zc_i_1 ?_
    refine zr_iadd C dyX7_worthAt_186 ?_
    refine zv_7_52 C hS (zIsRow.of hS zir_82) (st := []) h ⟨Nat.le_of_ble_eq_true rfl, Nat.le_of_ble_eq_true rfl⟩ (Nat.le_of_ble_eq_true rfl) dyX7_worthAt_187 (fun r_24 h => ?_)
    exact zr_iret C rfl dyX7_worthAt_190 ⟨rfl, rfl, _, rfl, h⟩
  replace h := zif_neg hc_23 h
  refine zr_tableOut C dyX7_worthAt_41 (ztab_out (fun i h1 h2 => ?_)) (tgt := 191) (by decide) ?_
  · rcases (by omega : i = 4 ∨ i = 5 ∨ i = 6 ∨ i = 7 ∨ i = 8 ∨ i = 9 ∨ i = 10) with rfl | rfl | rfl | rfl | rfl | rfl | rfl
    · exact hc_7
    · exact hc_10
    · exact hc_11
    · exact hc_14
    · exact hc_15
    · exact hc_19
    · exact hc_23
  refine zr_iconst C dyX7_worthAt_191 zc_i_0 ?_
  exact zr_iret C rfl dyX7_worthAt_192 ⟨rfl, rfl, _, rfl, h⟩
theorem zv_7_149 {p : Program} {l : Launch} {e : Env} {R : Room} {s : State} {m : MethodId} {args : Array Value} {below : List Frame} {meth : Method} {c : Code} {Q : State → Prop} {D : va_G} {B : Nat} {cA : Nat → ClassId} {ad : Nat → Nat} {cc : ByteArray} {nL : Nat} {ret : Option FieldType} {S : List zC} {I : zI} {lv : List (Nat × Value)} {st : List Value} {pc : Nat} (C : zCx p s m args meth c cc nL RX7 ret D B cA ad) {K : Int32 → Prop} {xa1 : Int32} (hS : zOkX S)  (h : w_Runner_worthAt xa1 I K) (hR : 1 + 1 ≤ R.frames ∧ 8 + (4 + 11) + (23) ≤ R.locals) (hw : (st.map fun v => v.category).sum ≤ 8) (hd : decode cc pc = .ok (.invokevirtual 149, 3)) (kk : ∀ v, K v → zX p l e R s m args below meth c Q D B cA nL 0 0 S I lv (.int v :: st) (pc + 3)) : zX p l e R s m args below meth c Q D B cA nL 0 0 S I lv (.int xa1 :: .ref (B + 69) :: st) pc :=
  have hf : 0 ≤ R.cells ∧ 0 ≤ R.slots := ⟨Nat.zero_le _, Nat.zero_le _⟩
  zc_VpI C (ci := 7) (q := (RX7, TX7, 17)) (k := 69) (fs := [some (some 24), some (some 43), some (some 70), some (some 72), some (some 74), some (some 76), some (some 78), some (some 80), some (some 82), some (some 84), some (some 86), none, none, none, none, none, none]) (As := [.int xa1]) (st := st) rfl (hS _ _ zs_69) (c_Runner_worthAt hS h) (zgV zk_ml_7_149 zk_im_yX7_worthAt zk_se_yX7_worthAt zk_in_7 zk_cd_yX7_worthAt) zsg_yX7_worthAt hR rfl rfl hw hd hf kk
def w_Runner_evaluate (a1 : Int32) (a2 : Int32) (I : zI) (K : zI → Prop) : Prop :=
  ∀ v3_1, v3_1 = (a2 - 1) → ∀ (P4 : Int32 → zI → Prop), (∀ (v3_2 : Int32) (I_3 : zI), ((if v3_2 < a1 then K I_3 else (w_Runner_worthAt v3_2 I_3 (fun r_4 => w_Row_set 82 400 v3_2 r_4 I_3 (fun I_5 => ∀ v3_6, v3_6 = (v3_2 + (-1)) → P4 v3_6 I_5))))) → P4 v3_2 I_3) → P4 v3_1 I
theorem dyX7_evaluate_0 : decode cX7_evaluate 0 = .ok (.iload_n 2, 1) := by decide +kernel
theorem dyX7_evaluate_1 : decode cX7_evaluate 1 = .ok (.iconst 1, 1) := by decide +kernel
theorem dyX7_evaluate_2 : decode cX7_evaluate 2 = .ok (.isub, 1) := by decide +kernel
theorem dyX7_evaluate_3 : decode cX7_evaluate 3 = .ok (.istore_n 3, 1) := by decide +kernel
theorem dyX7_evaluate_4 : decode cX7_evaluate 4 = .ok (.iload_n 3, 1) := by decide +kernel
theorem dyX7_evaluate_5 : decode cX7_evaluate 5 = .ok (.iload_n 1, 1) := by decide +kernel
theorem dyX7_evaluate_6 : decode cX7_evaluate 6 = .ok (.if_icmp .lt 22, 3) := by decide +kernel
theorem dyX7_evaluate_9 : decode cX7_evaluate 9 = .ok (.aload_n 0, 1) := by decide +kernel
theorem dyX7_evaluate_10 : decode cX7_evaluate 10 = .ok (.getfield 35, 3) := by decide +kernel
theorem dyX7_evaluate_13 : decode cX7_evaluate 13 = .ok (.iload_n 3, 1) := by decide +kernel
theorem dyX7_evaluate_14 : decode cX7_evaluate 14 = .ok (.aload_n 0, 1) := by decide +kernel
theorem dyX7_evaluate_15 : decode cX7_evaluate 15 = .ok (.iload_n 3, 1) := by decide +kernel
theorem dyX7_evaluate_16 : decode cX7_evaluate 16 = .ok (.invokevirtual 149, 3) := by decide +kernel
theorem dyX7_evaluate_19 : decode cX7_evaluate 19 = .ok (.invokevirtual 111, 3) := by decide +kernel
theorem dyX7_evaluate_22 : decode cX7_evaluate 22 = .ok (.iinc 3 (-1), 3) := by decide +kernel
theorem dyX7_evaluate_25 : decode cX7_evaluate 25 = .ok (.goto (-21), 3) := by decide +kernel
theorem dyX7_evaluate_28 : decode cX7_evaluate 28 = .ok (.return_, 1) := by decide +kernel
theorem zsg_yX7_evaluate : yX7_evaluate.cls = RX7 ∧ yX7_evaluate.cls ≠ "java/lang/invoke/MethodHandle" ∧ yX7_evaluate.cls ≠ "java/lang/invoke/VarHandle" ∧ (parseMethodDescriptor yX7_evaluate.desc).map (fun d => d.parameters.length) = some 2 := by decide +kernel
set_option maxRecDepth 20000 in
theorem c_Runner_evaluate {l : Launch} {D : va_G} {B : Nat} {cA : Nat → ClassId} {ad : Nat → Nat} {S : List zC} (hS : zOkX S) {a1 : Int32} {a2 : Int32} {I : zI} {K : zI → Prop}  (h : w_Runner_evaluate a1 a2 I K) : Met l yX7_evaluate (zws yX7_evaluate cX7_evaluate 4 none) (zrm 2 46) (zPc D B cA ad [.ref (B + 69), .int a1, .int a2] S I) (zQc D B cA (zqV S K)) 0 0 (fun q => B ≤ q) := by
  refine zm_of (cc := cX7_evaluate) (maxL := 4) (ret := none) (by decide +kernel) rfl (Nat.le_of_ble_eq_true rfl) trivial ?_
  intro p e s m args below meth c C _
  unfold w_Runner_evaluate at h
  show zX p l e (zrm 2 46) s m args below meth c (MQ below (zQc D B cA (zqV S K)) args s 0 0 (fun q => B ≤ q)) D B cA 4 0 0 S I [(0, .ref (B + 69)), (1, .int a1), (2, .int a2)] [] 0
  refine zr_iload_n C dyX7_evaluate_0 rfl 2 rfl ?_
  refine zr_iconst C dyX7_evaluate_1 zc_i_1 ?_
  refine zr_isub C dyX7_evaluate_2 ?_
  refine zn_istore_n C (fun v3_1 => [(3, .int v3_1), (0, .ref (B + 69)), (1, .int a1), (2, .int a2)]) dyX7_evaluate_3 rfl (Nat.le_of_ble_eq_true rfl) (fun _ => rfl) (fun v3_1 ev3_1 => ?_)
  replace h := h v3_1 ev3_1
  refine zjn (h (fun (v3_2 : Int32) (I_3 : zI) => zX p l e (zrm 2 46) s m args below meth c (MQ below (zQc D B cA (zqV S K)) args s 0 0 (fun q => B ≤ q)) D B cA 4 0 0 S I_3 [(3, .int v3_2), (0, .ref (B + 69)), (1, .int a1)] [] 4) (fun v3_2 I_3 h => ?_)) (fun h => ?_)
  · refine zr_iload_n C dyX7_evaluate_4 rfl 0 rfl ?_
    refine zr_iload_n C dyX7_evaluate_5 rfl 2 rfl ?_
    refine zr_icmp_lt C dyX7_evaluate_6 (tgt := 28) (by decide) (fun hc_7 => ?_) (fun hc_7 => ?_)
    · replace h := zif_pos hc_7 h
      exact zr_vret C rfl dyX7_evaluate_28 ⟨rfl, rfl, h⟩
    · replace h := zif_neg hc_7 h
      refine zr_aload_n C dyX7_evaluate_9 rfl 1 rfl ?_
      refine zg_7_35 C hS dyX7_evaluate_10 ?_
      refine zr_iload_n C dyX7_evaluate_13 rfl 0 rfl ?_
      refine zr_aload_n C dyX7_evaluate_14 rfl 1 rfl ?_
      refine zr_iload_n C dyX7_evaluate_15 rfl 0 rfl ?_
      refine zv_7_149 C hS (st := [.int v3_2, .ref (B + 82)]) h ⟨Nat.le_of_ble_eq_true rfl, Nat.le_of_ble_eq_true rfl⟩ (Nat.le_of_ble_eq_true rfl) dyX7_evaluate_16 (fun r_4 h => ?_)
      refine zv_7_111 C hS (zIsRow.of hS zir_82) (st := []) h ⟨Nat.le_of_ble_eq_true rfl, Nat.le_of_ble_eq_true rfl⟩ (Nat.le_of_ble_eq_true rfl) dyX7_evaluate_19 (fun I_5 h => ?_)
      refine zn_iinc C (fun v3_6 => [(3, .int v3_6), (0, .ref (B + 69)), (1, .int a1)]) dyX7_evaluate_22 0 rfl zc_i_m1 (Nat.le_of_ble_eq_true rfl) (fun _ => rfl) (fun v3_6 ev3_6 => ?_)
      replace h := h v3_6 ev3_6
      refine zr_goto C dyX7_evaluate_25 (tgt := 4) (by decide) ?_
      exact h
  refine zr_sub (lv2 := [(3, .int v3_1), (0, .ref (B + 69)), (1, .int a1)]) [0, 1, 2] rfl ?_
  exact h
theorem zv_7_146 {p : Program} {l : Launch} {e : Env} {R : Room} {s : State} {m : MethodId} {args : Array Value} {below : List Frame} {meth : Method} {c : Code} {Q : State → Prop} {D : va_G} {B : Nat} {cA : Nat → ClassId} {ad : Nat → Nat} {cc : ByteArray} {nL : Nat} {ret : Option FieldType} {S : List zC} {I : zI} {lv : List (Nat × Value)} {st : List Value} {pc : Nat} (C : zCx p s m args meth c cc nL RX7 ret D B cA ad) {K : zI → Prop} {xk : Nat} {xn : Nat} {xa1 : Int32} {xa2 : Int32} (hS : zOkX S) (xhk : zIsRow S xk xn) (h : w_Row_add xk xn xa1 xa2 I K) (hR : 1 + 1 ≤ R.frames ∧ 8 + (3 + 11) + (22) ≤ R.locals) (hw : (st.map fun v => v.category).sum ≤ 8) (hd : decode cc pc = .ok (.invokevirtual 146, 3)) (kk : ∀ I2, K I2 → zX p l e R s m args below meth c Q D B cA nL 0 0 S I2 lv st (pc + 3)) : zX p l e R s m args below meth c Q D B cA nL 0 0 S I lv (.int xa2 :: .int xa1 :: .ref (B + xk) :: st) pc :=
  have hf : 0 ≤ R.cells ∧ 0 ≤ R.slots := ⟨Nat.zero_le _, Nat.zero_le _⟩
  zc_VqV C (ci := 6) (q := (RX6, TX6, 1)) (k := xk) (fs := [some (some (xk + 1))]) (As := [.int xa1, .int xa2]) (st := st) rfl xhk.1 (c_Row_add hS xhk h) (zgV zk_ml_7_146 zk_im_yX6_add zk_se_yX6_add zk_in_6 zk_cd_yX6_add) zsg_yX6_add hR rfl rfl hw hd hf kk
theorem zg_7_90 {p : Program} {l : Launch} {e : Env} {R : Room} {s : State} {m : MethodId} {args : Array Value} {below : List Frame} {meth : Method} {c : Code} {Q : State → Prop} {D : va_G} {B : Nat} {cA : Nat → ClassId} {ad : Nat → Nat} {cc : ByteArray} {nL : Nat} {ret : Option FieldType} {S : List zC} {I : zI} {lv : List (Nat × Value)} {st : List Value} {pc : Nat} (C : zCx p s m args meth c cc nL RX7 ret D B cA ad) (hS : zOkX S) (hd : decode cc pc = .ok (.getfield 90, 3)) (kk : zX p l e R s m args below meth c Q D B cA nL 0 0 S I lv (.int (I.1 69 12) :: st) (pc + 3)) : zX p l e R s m args below meth c Q D B cA nL 0 0 S I lv (.ref (B + 69) :: st) pc :=
  zr_geti C (ci := 7) (Cn := RX7) (T := TX7) (N := 17) (k := 69) (j := 12) (fs := [some (some 24), some (some 43), some (some 70), some (some 72), some (some 74), some (some 76), some (some 78), some (some 80), some (some 82), some (some 84), some (some 86), none, none, none, none, none, none]) rfl zin_7 (Nat.le_of_ble_eq_true rfl) rfl (hS _ _ zs_69) rfl zk_fl_7_90 hd kk
theorem zg_7_93 {p : Program} {l : Launch} {e : Env} {R : Room} {s : State} {m : MethodId} {args : Array Value} {below : List Frame} {meth : Method} {c : Code} {Q : State → Prop} {D : va_G} {B : Nat} {cA : Nat → ClassId} {ad : Nat → Nat} {cc : ByteArray} {nL : Nat} {ret : Option FieldType} {S : List zC} {I : zI} {lv : List (Nat × Value)} {st : List Value} {pc : Nat} (C : zCx p s m args meth c cc nL RX7 ret D B cA ad) (hS : zOkX S) (hd : decode cc pc = .ok (.getfield 93, 3)) (kk : zX p l e R s m args below meth c Q D B cA nL 0 0 S I lv (.int (I.1 69 13) :: st) (pc + 3)) : zX p l e R s m args below meth c Q D B cA nL 0 0 S I lv (.ref (B + 69) :: st) pc :=
  zr_geti C (ci := 7) (Cn := RX7) (T := TX7) (N := 17) (k := 69) (j := 13) (fs := [some (some 24), some (some 43), some (some 70), some (some 72), some (some 74), some (some 76), some (some 78), some (some 80), some (some 82), some (some 84), some (some 86), none, none, none, none, none, none]) rfl zin_7 (Nat.le_of_ble_eq_true rfl) rfl (hS _ _ zs_69) rfl zk_fl_7_93 hd kk
def w_Runner_setName (a1 : Int32) (a2 : Int32) (a3 : Int32) (I : zI) (K : zI → Prop) : Prop :=
  w_Row_get 70 100 a1 I (fun r_1 => w_Row_get 78 100 r_1 I (fun r_2 => ∀ (P52 : zI → Prop), (∀ (I_3 : zI), (w_Row_set 78 100 r_1 a2 I_3 (fun I_4 => w_Row_get 44 400 a2 I_4 (fun r_5 => w_Row_set 76 100 r_1 r_5 I_4 (fun I_6 => w_Row_add 74 100 r_1 1 I_6 (fun I_7 => w_Row_set 72 100 r_1 a3 I_7 (fun I_8 => K I_8)))))) → P52 I_3) → (if r_2 < 0 then P52 I else (∀ I_9, I_9 = (zu I 69 12 ((I.1 69 12) + 1)) → w_Row_get 78 100 r_1 I_9 (fun r_10 => ∀ I_11, I_11 = (zu I_9 69 13 (if r_10 < (I_9.1 69 13) then r_10 else (I_9.1 69 13))) → P52 I_11)))))
theorem dyX7_setName_0 : decode cX7_setName 0 = .ok (.aload_n 0, 1) := by decide +kernel
theorem dyX7_setName_1 : decode cX7_setName 1 = .ok (.getfield 14, 3) := by decide +kernel
theorem dyX7_setName_4 : decode cX7_setName 4 = .ok (.iload_n 1, 1) := by decide +kernel
theorem dyX7_setName_5 : decode cX7_setName 5 = .ok (.invokevirtual 52, 3) := by decide +kernel
theorem dyX7_setName_8 : decode cX7_setName 8 = .ok (.istore 4, 2) := by decide +kernel
theorem dyX7_setName_10 : decode cX7_setName 10 = .ok (.aload_n 0, 1) := by decide +kernel
theorem dyX7_setName_11 : decode cX7_setName 11 = .ok (.getfield 29, 3) := by decide +kernel
theorem dyX7_setName_14 : decode cX7_setName 14 = .ok (.iload 4, 2) := by decide +kernel
theorem dyX7_setName_16 : decode cX7_setName 16 = .ok (.invokevirtual 52, 3) := by decide +kernel
theorem dyX7_setName_19 : decode cX7_setName 19 = .ok (.ifCond .lt 33, 3) := by decide +kernel
theorem dyX7_setName_22 : decode cX7_setName 22 = .ok (.aload_n 0, 1) := by decide +kernel
theorem dyX7_setName_23 : decode cX7_setName 23 = .ok (.dup, 1) := by decide +kernel
theorem dyX7_setName_24 : decode cX7_setName 24 = .ok (.getfield 90, 3) := by decide +kernel
theorem dyX7_setName_27 : decode cX7_setName 27 = .ok (.iconst 1, 1) := by decide +kernel
theorem dyX7_setName_28 : decode cX7_setName 28 = .ok (.iadd, 1) := by decide +kernel
theorem dyX7_setName_29 : decode cX7_setName 29 = .ok (.putfield 90, 3) := by decide +kernel
theorem dyX7_setName_32 : decode cX7_setName 32 = .ok (.aload_n 0, 1) := by decide +kernel
theorem dyX7_setName_33 : decode cX7_setName 33 = .ok (.aload_n 0, 1) := by decide +kernel
theorem dyX7_setName_34 : decode cX7_setName 34 = .ok (.getfield 93, 3) := by decide +kernel
theorem dyX7_setName_37 : decode cX7_setName 37 = .ok (.aload_n 0, 1) := by decide +kernel
theorem dyX7_setName_38 : decode cX7_setName 38 = .ok (.getfield 29, 3) := by decide +kernel
theorem dyX7_setName_41 : decode cX7_setName 41 = .ok (.iload 4, 2) := by decide +kernel
theorem dyX7_setName_43 : decode cX7_setName 43 = .ok (.invokevirtual 52, 3) := by decide +kernel
theorem dyX7_setName_46 : decode cX7_setName 46 = .ok (.invokestatic 140, 3) := by decide +kernel
theorem dyX7_setName_49 : decode cX7_setName 49 = .ok (.putfield 93, 3) := by decide +kernel
theorem dyX7_setName_52 : decode cX7_setName 52 = .ok (.aload_n 0, 1) := by decide +kernel
theorem dyX7_setName_53 : decode cX7_setName 53 = .ok (.getfield 29, 3) := by decide +kernel
theorem dyX7_setName_56 : decode cX7_setName 56 = .ok (.iload 4, 2) := by decide +kernel
theorem dyX7_setName_58 : decode cX7_setName 58 = .ok (.iload_n 2, 1) := by decide +kernel
theorem dyX7_setName_59 : decode cX7_setName 59 = .ok (.invokevirtual 111, 3) := by decide +kernel
theorem dyX7_setName_62 : decode cX7_setName 62 = .ok (.aload_n 0, 1) := by decide +kernel
theorem dyX7_setName_63 : decode cX7_setName 63 = .ok (.getfield 26, 3) := by decide +kernel
theorem dyX7_setName_66 : decode cX7_setName 66 = .ok (.iload 4, 2) := by decide +kernel
theorem dyX7_setName_68 : decode cX7_setName 68 = .ok (.aload_n 0, 1) := by decide +kernel
theorem dyX7_setName_69 : decode cX7_setName 69 = .ok (.getfield 48, 3) := by decide +kernel
theorem dyX7_setName_72 : decode cX7_setName 72 = .ok (.getfield 74, 3) := by decide +kernel
theorem dyX7_setName_75 : decode cX7_setName 75 = .ok (.iload_n 2, 1) := by decide +kernel
theorem dyX7_setName_76 : decode cX7_setName 76 = .ok (.invokevirtual 52, 3) := by decide +kernel
theorem dyX7_setName_79 : decode cX7_setName 79 = .ok (.invokevirtual 111, 3) := by decide +kernel
theorem dyX7_setName_82 : decode cX7_setName 82 = .ok (.aload_n 0, 1) := by decide +kernel
theorem dyX7_setName_83 : decode cX7_setName 83 = .ok (.getfield 23, 3) := by decide +kernel
theorem dyX7_setName_86 : decode cX7_setName 86 = .ok (.iload 4, 2) := by decide +kernel
theorem dyX7_setName_88 : decode cX7_setName 88 = .ok (.iconst 1, 1) := by decide +kernel
theorem dyX7_setName_89 : decode cX7_setName 89 = .ok (.invokevirtual 146, 3) := by decide +kernel
theorem dyX7_setName_92 : decode cX7_setName 92 = .ok (.aload_n 0, 1) := by decide +kernel
theorem dyX7_setName_93 : decode cX7_setName 93 = .ok (.getfield 20, 3) := by decide +kernel
theorem dyX7_setName_96 : decode cX7_setName 96 = .ok (.iload 4, 2) := by decide +kernel
theorem dyX7_setName_98 : decode cX7_setName 98 = .ok (.iload_n 3, 1) := by decide +kernel
theorem dyX7_setName_99 : decode cX7_setName 99 = .ok (.invokevirtual 111, 3) := by decide +kernel
theorem dyX7_setName_102 : decode cX7_setName 102 = .ok (.return_, 1) := by decide +kernel
theorem zsg_yX7_setName : yX7_setName.cls = RX7 ∧ yX7_setName.cls ≠ "java/lang/invoke/MethodHandle" ∧ yX7_setName.cls ≠ "java/lang/invoke/VarHandle" ∧ (parseMethodDescriptor yX7_setName.desc).map (fun d => d.parameters.length) = some 3 := by decide +kernel
set_option maxRecDepth 20000 in
theorem c_Runner_setName {l : Launch} {D : va_G} {B : Nat} {cA : Nat → ClassId} {ad : Nat → Nat} {S : List zC} (hS : zOkX S) {a1 : Int32} {a2 : Int32} {a3 : Int32} {I : zI} {K : zI → Prop}  (h : w_Runner_setName a1 a2 a3 I K) : Met l yX7_setName (zws yX7_setName cX7_setName 5 none) (zrm 2 44) (zPc D B cA ad [.ref (B + 69), .int a1, .int a2, .int a3] S I) (zQc D B cA (zqV S K)) 0 0 (fun q => B ≤ q) := by
  refine zm_of (cc := cX7_setName) (maxL := 5) (ret := none) (by decide +kernel) rfl (Nat.le_of_ble_eq_true rfl) trivial ?_
  intro p e s m args below meth c C _
  unfold w_Runner_setName at h
  show zX p l e (zrm 2 44) s m args below meth c (MQ below (zQc D B cA (zqV S K)) args s 0 0 (fun q => B ≤ q)) D B cA 5 0 0 S I [(0, .ref (B + 69)), (1, .int a1), (2, .int a2), (3, .int a3)] [] 0
  refine zr_aload_n C dyX7_setName_0 rfl 0 rfl ?_
  refine zg_7_14 C hS dyX7_setName_1 ?_
  refine zr_iload_n C dyX7_setName_4 rfl 1 rfl ?_
  refine zv_7_52 C hS (zIsRow.of hS zir_70) (st := []) h ⟨Nat.le_of_ble_eq_true rfl, Nat.le_of_ble_eq_true rfl⟩ (Nat.le_of_ble_eq_true rfl) dyX7_setName_5 (fun r_1 h => ?_)
  refine zr_istore C dyX7_setName_8 (Nat.le_of_ble_eq_true rfl) (lv2 := [(4, .int r_1), (0, .ref (B + 69)), (1, .int a1), (2, .int a2), (3, .int a3)]) rfl ?_
  refine zr_aload_n C dyX7_setName_10 rfl 1 rfl ?_
  refine zg_7_29 C hS dyX7_setName_11 ?_
  refine zr_iload C dyX7_setName_14 0 rfl ?_
  refine zv_7_52 C hS (zIsRow.of hS zir_78) (st := []) h ⟨Nat.le_of_ble_eq_true rfl, Nat.le_of_ble_eq_true rfl⟩ (Nat.le_of_ble_eq_true rfl) dyX7_setName_16 (fun r_2 h => ?_)
  refine zjn (h (fun (I_3 : zI) => zX p l e (zrm 2 44) s m args below meth c (MQ below (zQc D B cA (zqV S K)) args s 0 0 (fun q => B ≤ q)) D B cA 5 0 0 S I_3 [(4, .int r_1), (0, .ref (B + 69)), (2, .int a2), (3, .int a3)] [] 52) (fun I_3 h => ?_)) (fun h => ?_)
  · refine zr_aload_n C dyX7_setName_52 rfl 1 rfl ?_
    refine zg_7_29 C hS dyX7_setName_53 ?_
    refine zr_iload C dyX7_setName_56 0 rfl ?_
    refine zr_iload_n C dyX7_setName_58 rfl 2 rfl ?_
    refine zv_7_111 C hS (zIsRow.of hS zir_78) (st := []) h ⟨Nat.le_of_ble_eq_true rfl, Nat.le_of_ble_eq_true rfl⟩ (Nat.le_of_ble_eq_true rfl) dyX7_setName_59 (fun I_4 h => ?_)
    refine zr_aload_n C dyX7_setName_62 rfl 1 rfl ?_
    refine zg_7_26 C hS dyX7_setName_63 ?_
    refine zr_iload C dyX7_setName_66 0 rfl ?_
    refine zr_aload_n C dyX7_setName_68 rfl 1 rfl ?_
    refine zg_7_48 C hS dyX7_setName_69 ?_
    refine zg_7_74 C hS dyX7_setName_72 ?_
    refine zr_iload_n C dyX7_setName_75 rfl 2 rfl ?_
    refine zv_7_52 C hS (zIsRow.of hS zir_44) (st := [.int r_1, .ref (B + 76)]) h ⟨Nat.le_of_ble_eq_true rfl, Nat.le_of_ble_eq_true rfl⟩ (Nat.le_of_ble_eq_true rfl) dyX7_setName_76 (fun r_5 h => ?_)
    refine zv_7_111 C hS (zIsRow.of hS zir_76) (st := []) h ⟨Nat.le_of_ble_eq_true rfl, Nat.le_of_ble_eq_true rfl⟩ (Nat.le_of_ble_eq_true rfl) dyX7_setName_79 (fun I_6 h => ?_)
    refine zr_aload_n C dyX7_setName_82 rfl 1 rfl ?_
    refine zg_7_23 C hS dyX7_setName_83 ?_
    refine zr_iload C dyX7_setName_86 0 rfl ?_
    refine zr_iconst C dyX7_setName_88 zc_i_1 ?_
    refine zv_7_146 C hS (zIsRow.of hS zir_74) (st := []) h ⟨Nat.le_of_ble_eq_true rfl, Nat.le_of_ble_eq_true rfl⟩ (Nat.le_of_ble_eq_true rfl) dyX7_setName_89 (fun I_7 h => ?_)
    refine zr_aload_n C dyX7_setName_92 rfl 1 rfl ?_
    refine zg_7_20 C hS dyX7_setName_93 ?_
    refine zr_iload C dyX7_setName_96 0 rfl ?_
    refine zr_iload_n C dyX7_setName_98 rfl 3 rfl ?_
    refine zv_7_111 C hS (zIsRow.of hS zir_72) (st := []) h ⟨Nat.le_of_ble_eq_true rfl, Nat.le_of_ble_eq_true rfl⟩ (Nat.le_of_ble_eq_true rfl) dyX7_setName_99 (fun I_8 h => ?_)
    exact zr_vret C rfl dyX7_setName_102 ⟨rfl, rfl, h⟩
  refine zr_if_lt C dyX7_setName_19 (tgt := 52) (by decide) (fun hc_12 => ?_) (fun hc_12 => ?_)
  · replace h := zif_pos hc_12 h
    refine zr_sub (lv2 := [(4, .int r_1), (0, .ref (B + 69)), (2, .int a2), (3, .int a3)]) [0, 1, 3, 4] rfl ?_
    exact h
  · replace h := zif_neg hc_12 h
    refine zr_aload_n C dyX7_setName_22 rfl 1 rfl ?_
    refine zr_dup C dyX7_setName_23 rfl ?_
    refine zg_7_90 C hS dyX7_setName_24 ?_
    refine zr_iconst C dyX7_setName_27 zc_i_1 ?_
    refine zr_iadd C dyX7_setName_28 ?_
    refine zp_7_90 C hS dyX7_setName_29 ?_
    refine zn_mem C (fun I_9 eI_9 => ?_)
    replace h := h I_9 eI_9
    refine zr_aload_n C dyX7_setName_32 rfl 1 rfl ?_
    refine zr_aload_n C dyX7_setName_33 rfl 1 rfl ?_
    refine zg_7_93 C hS dyX7_setName_34 ?_
    refine zr_aload_n C dyX7_setName_37 rfl 1 rfl ?_
    refine zg_7_29 C hS dyX7_setName_38 ?_
    refine zr_iload C dyX7_setName_41 0 rfl ?_
    refine zv_7_52 C hS (zIsRow.of hS zir_78) (st := [.int (I_9.1 69 13), .ref (B + 69)]) h ⟨Nat.le_of_ble_eq_true rfl, Nat.le_of_ble_eq_true rfl⟩ (Nat.le_of_ble_eq_true rfl) dyX7_setName_43 (fun r_10 h => ?_)
    refine zr_mmin C zk_ml_7_140 zk_st_J_min zk_in_Math zk_cd_J_min (Nat.le_of_ble_eq_true rfl) (Nat.le_of_ble_eq_true rfl) (Nat.le_of_ble_eq_true rfl) (Nat.zero_le _) (Nat.zero_le _) dyX7_setName_46 ?_
    refine zp_7_93 C hS dyX7_setName_49 ?_
    refine zn_mem C (fun I_11 eI_11 => ?_)
    replace h := h I_11 eI_11
    refine zr_sub (lv2 := [(4, .int r_1), (0, .ref (B + 69)), (2, .int a2), (3, .int a3)]) [0, 1, 3, 4] rfl ?_
    exact h
theorem zv_7_124 {p : Program} {l : Launch} {e : Env} {R : Room} {s : State} {m : MethodId} {args : Array Value} {below : List Frame} {meth : Method} {c : Code} {Q : State → Prop} {D : va_G} {B : Nat} {cA : Nat → ClassId} {ad : Nat → Nat} {cc : ByteArray} {nL : Nat} {ret : Option FieldType} {S : List zC} {I : zI} {lv : List (Nat × Value)} {st : List Value} {pc : Nat} (C : zCx p s m args meth c cc nL RX7 ret D B cA ad) {K : zI → Prop} {xa1 : Int32} {xa2 : Int32} (hS : zOkX S)  (h : w_Runner_noteReads xa1 xa2 I K) (hR : 1 + 1 ≤ R.frames ∧ 8 + (6 + 11) + (22) ≤ R.locals) (hw : (st.map fun v => v.category).sum ≤ 8) (hd : decode cc pc = .ok (.invokevirtual 124, 3)) (kk : ∀ I2, K I2 → zX p l e R s m args below meth c Q D B cA nL 0 0 S I2 lv st (pc + 3)) : zX p l e R s m args below meth c Q D B cA nL 0 0 S I lv (.int xa2 :: .int xa1 :: .ref (B + 69) :: st) pc :=
  have hf : 0 ≤ R.cells ∧ 0 ≤ R.slots := ⟨Nat.zero_le _, Nat.zero_le _⟩
  zc_VqV C (ci := 7) (q := (RX7, TX7, 17)) (k := 69) (fs := [some (some 24), some (some 43), some (some 70), some (some 72), some (some 74), some (some 76), some (some 78), some (some 80), some (some 82), some (some 84), some (some 86), none, none, none, none, none, none]) (As := [.int xa1, .int xa2]) (st := st) rfl (hS _ _ zs_69) (c_Runner_noteReads hS h) (zgV zk_ml_7_124 zk_im_yX7_noteReads zk_se_yX7_noteReads zk_in_7 zk_cd_yX7_noteReads) zsg_yX7_noteReads hR rfl rfl hw hd hf kk
theorem zv_7_81 {p : Program} {l : Launch} {e : Env} {R : Room} {s : State} {m : MethodId} {args : Array Value} {below : List Frame} {meth : Method} {c : Code} {Q : State → Prop} {D : va_G} {B : Nat} {cA : Nat → ClassId} {ad : Nat → Nat} {cc : ByteArray} {nL : Nat} {ret : Option FieldType} {S : List zC} {I : zI} {lv : List (Nat × Value)} {st : List Value} {pc : Nat} (C : zCx p s m args meth c cc nL RX7 ret D B cA ad) {K : zI → Prop} {xa1 : Int32} {xa2 : Int32} (hS : zOkX S)  (h : w_Runner_evaluate xa1 xa2 I K) (hR : 2 + 1 ≤ R.frames ∧ 8 + (4 + 11) + (46) ≤ R.locals) (hw : (st.map fun v => v.category).sum ≤ 8) (hd : decode cc pc = .ok (.invokevirtual 81, 3)) (kk : ∀ I2, K I2 → zX p l e R s m args below meth c Q D B cA nL 0 0 S I2 lv st (pc + 3)) : zX p l e R s m args below meth c Q D B cA nL 0 0 S I lv (.int xa2 :: .int xa1 :: .ref (B + 69) :: st) pc :=
  have hf : 0 ≤ R.cells ∧ 0 ≤ R.slots := ⟨Nat.zero_le _, Nat.zero_le _⟩
  zc_VqV C (ci := 7) (q := (RX7, TX7, 17)) (k := 69) (fs := [some (some 24), some (some 43), some (some 70), some (some 72), some (some 74), some (some 76), some (some 78), some (some 80), some (some 82), some (some 84), some (some 86), none, none, none, none, none, none]) (As := [.int xa1, .int xa2]) (st := st) rfl (hS _ _ zs_69) (c_Runner_evaluate hS h) (zgV zk_ml_7_81 zk_im_yX7_evaluate zk_se_yX7_evaluate zk_in_7 zk_cd_yX7_evaluate) zsg_yX7_evaluate hR rfl rfl hw hd hf kk
theorem zv_7_130 {p : Program} {l : Launch} {e : Env} {R : Room} {s : State} {m : MethodId} {args : Array Value} {below : List Frame} {meth : Method} {c : Code} {Q : State → Prop} {D : va_G} {B : Nat} {cA : Nat → ClassId} {ad : Nat → Nat} {cc : ByteArray} {nL : Nat} {ret : Option FieldType} {S : List zC} {I : zI} {lv : List (Nat × Value)} {st : List Value} {pc : Nat} (C : zCx p s m args meth c cc nL RX7 ret D B cA ad) {K : zI → Prop} {xa1 : Int32} {xa2 : Int32} {xa3 : Int32} (hS : zOkX S)  (h : w_Runner_setName xa1 xa2 xa3 I K) (hR : 2 + 1 ≤ R.frames ∧ 8 + (5 + 11) + (44) ≤ R.locals) (hw : (st.map fun v => v.category).sum ≤ 8) (hd : decode cc pc = .ok (.invokevirtual 130, 3)) (kk : ∀ I2, K I2 → zX p l e R s m args below meth c Q D B cA nL 0 0 S I2 lv st (pc + 3)) : zX p l e R s m args below meth c Q D B cA nL 0 0 S I lv (.int xa3 :: .int xa2 :: .int xa1 :: .ref (B + 69) :: st) pc :=
  have hf : 0 ≤ R.cells ∧ 0 ≤ R.slots := ⟨Nat.zero_le _, Nat.zero_le _⟩
  zc_VqV C (ci := 7) (q := (RX7, TX7, 17)) (k := 69) (fs := [some (some 24), some (some 43), some (some 70), some (some 72), some (some 74), some (some 76), some (some 78), some (some 80), some (some 82), some (some 84), some (some 86), none, none, none, none, none, none]) (As := [.int xa1, .int xa2, .int xa3]) (st := st) rfl (hS _ _ zs_69) (c_Runner_setName hS h) (zgV zk_ml_7_130 zk_im_yX7_setName zk_se_yX7_setName zk_in_7 zk_cd_yX7_setName) zsg_yX7_setName hR rfl rfl hw hd hf kk
theorem zg_7_96 {p : Program} {l : Launch} {e : Env} {R : Room} {s : State} {m : MethodId} {args : Array Value} {below : List Frame} {meth : Method} {c : Code} {Q : State → Prop} {D : va_G} {B : Nat} {cA : Nat → ClassId} {ad : Nat → Nat} {cc : ByteArray} {nL : Nat} {ret : Option FieldType} {S : List zC} {I : zI} {lv : List (Nat × Value)} {st : List Value} {pc : Nat} (C : zCx p s m args meth c cc nL RX7 ret D B cA ad) (hS : zOkX S) (hd : decode cc pc = .ok (.getfield 96, 3)) (kk : zX p l e R s m args below meth c Q D B cA nL 0 0 S I lv (.int (I.1 69 14) :: st) (pc + 3)) : zX p l e R s m args below meth c Q D B cA nL 0 0 S I lv (.ref (B + 69) :: st) pc :=
  zr_geti C (ci := 7) (Cn := RX7) (T := TX7) (N := 17) (k := 69) (j := 14) (fs := [some (some 24), some (some 43), some (some 70), some (some 72), some (some 74), some (some 76), some (some 78), some (some 80), some (some 82), some (some 84), some (some 86), none, none, none, none, none, none]) rfl zin_7 (Nat.le_of_ble_eq_true rfl) rfl (hS _ _ zs_69) rfl zk_fl_7_96 hd kk
theorem zg_7_121 {p : Program} {l : Launch} {e : Env} {R : Room} {s : State} {m : MethodId} {args : Array Value} {below : List Frame} {meth : Method} {c : Code} {Q : State → Prop} {D : va_G} {B : Nat} {cA : Nat → ClassId} {ad : Nat → Nat} {cc : ByteArray} {nL : Nat} {ret : Option FieldType} {S : List zC} {I : zI} {lv : List (Nat × Value)} {st : List Value} {pc : Nat} (C : zCx p s m args meth c cc nL RX7 ret D B cA ad) (hS : zOkX S) (hd : decode cc pc = .ok (.getfield 121, 3)) (kk : zX p l e R s m args below meth c Q D B cA nL 0 0 S I lv (.ref (B + 33) :: st) (pc + 3)) : zX p l e R s m args below meth c Q D B cA nL 0 0 S I lv (.ref (B + 24) :: st) pc :=
  zr_getr C (ci := 3) (Cn := RX3) (T := TX3) (N := 10) (k := 24) (j := 4) (fs := [some (some 25), some (some 27), some (some 29), some (some 31), some (some 33), some (some 35), some (some 37), some (some 39), some (some 41), none]) rfl zin_3 (Nat.le_of_ble_eq_true rfl) rfl (hS _ _ zs_24) rfl zk_fl_7_121 hd kk
theorem zv_7_117 {p : Program} {l : Launch} {e : Env} {R : Room} {s : State} {m : MethodId} {args : Array Value} {below : List Frame} {meth : Method} {c : Code} {Q : State → Prop} {D : va_G} {B : Nat} {cA : Nat → ClassId} {ad : Nat → Nat} {cc : ByteArray} {nL : Nat} {ret : Option FieldType} {S : List zC} {I : zI} {lv : List (Nat × Value)} {st : List Value} {pc : Nat} (C : zCx p s m args meth c cc nL RX7 ret D B cA ad) {K : Int32 → zI → Prop} {xa1 : Int32} {xa2 : Int32} {xa3 : Int32} (hS : zOkX S)  (h : w_Runner_recordReads xa1 xa2 xa3 I K) (hR : 2 + 1 ≤ R.frames ∧ 8 + (9 + 11) + (42) ≤ R.locals) (hw : (st.map fun v => v.category).sum ≤ 8) (hd : decode cc pc = .ok (.invokevirtual 117, 3)) (kk : ∀ v I2, K v I2 → zX p l e R s m args below meth c Q D B cA nL 0 0 S I2 lv (.int v :: st) (pc + 3)) : zX p l e R s m args below meth c Q D B cA nL 0 0 S I lv (.int xa3 :: .int xa2 :: .int xa1 :: .ref (B + 69) :: st) pc :=
  have hf : 0 ≤ R.cells ∧ 0 ≤ R.slots := ⟨Nat.zero_le _, Nat.zero_le _⟩
  zc_VqI C (ci := 7) (q := (RX7, TX7, 17)) (k := 69) (fs := [some (some 24), some (some 43), some (some 70), some (some 72), some (some 74), some (some 76), some (some 78), some (some 80), some (some 82), some (some 84), some (some 86), none, none, none, none, none, none]) (As := [.int xa1, .int xa2, .int xa3]) (st := st) rfl (hS _ _ zs_69) (c_Runner_recordReads hS h) (zgV zk_ml_7_117 zk_im_yX7_recordReads zk_se_yX7_recordReads zk_in_7 zk_cd_yX7_recordReads) zsg_yX7_recordReads hR rfl rfl hw hd hf kk
def w_Runner_runStatement (a1 : Int32) (a2 : Int32) (I : zI) (K : zI → Prop) : Prop :=
  w_Row_get 44 400 a1 I (fun r_1 => ∀ v4_2, v4_2 = (a1 + 3) → w_Row_get 54 400 v4_2 I (fun r_3 => ∀ v5_4, v5_4 = (v4_2 + r_3) → ∀ (P55 : Int32 → zI → Prop), (∀ (t_5 : Int32) (I_6 : zI), (∀ (P91 : zI → Prop), (∀ (I_7 : zI), (w_Runner_noteReads v4_2 v5_4 I_7 (fun I_8 => w_Runner_evaluate v4_2 v5_4 I_8 (fun I_9 => w_Row_get 50 400 a1 I_9 (fun r_10 => w_Row_get 82 400 v4_2 I_9 (fun r_11 => w_Runner_setName r_10 a1 r_11 I_9 (fun I_12 => K I_12)))))) → P91 I_7) → (if a2 ≤ 0 then P91 I_6 else (∀ (P81 : Prop), ((∀ I_13, I_13 = (zu I_6 69 14 ((I_6.1 69 14) + 1)) → P91 I_13) → P81) → (if t_5 = 0 then (w_Row_get 33 3400 r_1 I_6 (fun r_14 => (if r_14 = a2 then P81 else P91 I_6))) else P81)))) → P55 t_5 I_6) → ∀ (P54 : zI → Prop), (∀ (I_18 : zI), (P55 0 I_18) → P54 I_18) → (if a2 ≤ 0 then P54 I else (w_Runner_recordReads r_1 v4_2 v5_4 I (fun r_19 I_20 => (if r_19 = 0 then P54 I_20 else P55 1 I_20))))))
theorem dyX7_runStatement_0 : decode cX7_runStatement 0 = .ok (.aload_n 0, 1) := by decide +kernel
theorem dyX7_runStatement_1 : decode cX7_runStatement 1 = .ok (.getfield 48, 3) := by decide +kernel
theorem dyX7_runStatement_4 : decode cX7_runStatement 4 = .ok (.getfield 74, 3) := by decide +kernel
theorem dyX7_runStatement_7 : decode cX7_runStatement 7 = .ok (.iload_n 1, 1) := by decide +kernel
theorem dyX7_runStatement_8 : decode cX7_runStatement 8 = .ok (.invokevirtual 52, 3) := by decide +kernel
theorem dyX7_runStatement_11 : decode cX7_runStatement 11 = .ok (.istore_n 3, 1) := by decide +kernel
theorem dyX7_runStatement_12 : decode cX7_runStatement 12 = .ok (.iload_n 1, 1) := by decide +kernel
theorem dyX7_runStatement_13 : decode cX7_runStatement 13 = .ok (.iconst 3, 1) := by decide +kernel
theorem dyX7_runStatement_14 : decode cX7_runStatement 14 = .ok (.iadd, 1) := by decide +kernel
theorem dyX7_runStatement_15 : decode cX7_runStatement 15 = .ok (.istore 4, 2) := by decide +kernel
theorem dyX7_runStatement_17 : decode cX7_runStatement 17 = .ok (.iload 4, 2) := by decide +kernel
theorem dyX7_runStatement_19 : decode cX7_runStatement 19 = .ok (.aload_n 0, 1) := by decide +kernel
theorem dyX7_runStatement_20 : decode cX7_runStatement 20 = .ok (.getfield 48, 3) := by decide +kernel
theorem dyX7_runStatement_23 : decode cX7_runStatement 23 = .ok (.getfield 114, 3) := by decide +kernel
theorem dyX7_runStatement_26 : decode cX7_runStatement 26 = .ok (.iload 4, 2) := by decide +kernel
theorem dyX7_runStatement_28 : decode cX7_runStatement 28 = .ok (.invokevirtual 52, 3) := by decide +kernel
theorem dyX7_runStatement_31 : decode cX7_runStatement 31 = .ok (.iadd, 1) := by decide +kernel
theorem dyX7_runStatement_32 : decode cX7_runStatement 32 = .ok (.istore 5, 2) := by decide +kernel
theorem dyX7_runStatement_34 : decode cX7_runStatement 34 = .ok (.iload_n 2, 1) := by decide +kernel
theorem dyX7_runStatement_35 : decode cX7_runStatement 35 = .ok (.ifCond .le 19, 3) := by decide +kernel
theorem dyX7_runStatement_38 : decode cX7_runStatement 38 = .ok (.aload_n 0, 1) := by decide +kernel
theorem dyX7_runStatement_39 : decode cX7_runStatement 39 = .ok (.iload_n 3, 1) := by decide +kernel
theorem dyX7_runStatement_40 : decode cX7_runStatement 40 = .ok (.iload 4, 2) := by decide +kernel
theorem dyX7_runStatement_42 : decode cX7_runStatement 42 = .ok (.iload 5, 2) := by decide +kernel
theorem dyX7_runStatement_44 : decode cX7_runStatement 44 = .ok (.invokevirtual 117, 3) := by decide +kernel
theorem dyX7_runStatement_47 : decode cX7_runStatement 47 = .ok (.ifCond .eq 7, 3) := by decide +kernel
theorem dyX7_runStatement_50 : decode cX7_runStatement 50 = .ok (.iconst 1, 1) := by decide +kernel
theorem dyX7_runStatement_51 : decode cX7_runStatement 51 = .ok (.goto 4, 3) := by decide +kernel
theorem dyX7_runStatement_54 : decode cX7_runStatement 54 = .ok (.iconst 0, 1) := by decide +kernel
theorem dyX7_runStatement_55 : decode cX7_runStatement 55 = .ok (.istore 6, 2) := by decide +kernel
theorem dyX7_runStatement_57 : decode cX7_runStatement 57 = .ok (.iload_n 2, 1) := by decide +kernel
theorem dyX7_runStatement_58 : decode cX7_runStatement 58 = .ok (.ifCond .le 33, 3) := by decide +kernel
theorem dyX7_runStatement_61 : decode cX7_runStatement 61 = .ok (.iload 6, 2) := by decide +kernel
theorem dyX7_runStatement_63 : decode cX7_runStatement 63 = .ok (.ifCond .ne 18, 3) := by decide +kernel
theorem dyX7_runStatement_66 : decode cX7_runStatement 66 = .ok (.aload_n 0, 1) := by decide +kernel
theorem dyX7_runStatement_67 : decode cX7_runStatement 67 = .ok (.getfield 44, 3) := by decide +kernel
theorem dyX7_runStatement_70 : decode cX7_runStatement 70 = .ok (.getfield 121, 3) := by decide +kernel
theorem dyX7_runStatement_73 : decode cX7_runStatement 73 = .ok (.iload_n 3, 1) := by decide +kernel
theorem dyX7_runStatement_74 : decode cX7_runStatement 74 = .ok (.invokevirtual 52, 3) := by decide +kernel
theorem dyX7_runStatement_77 : decode cX7_runStatement 77 = .ok (.iload_n 2, 1) := by decide +kernel
theorem dyX7_runStatement_78 : decode cX7_runStatement 78 = .ok (.if_icmp .ne 13, 3) := by decide +kernel
theorem dyX7_runStatement_81 : decode cX7_runStatement 81 = .ok (.aload_n 0, 1) := by decide +kernel
theorem dyX7_runStatement_82 : decode cX7_runStatement 82 = .ok (.dup, 1) := by decide +kernel
theorem dyX7_runStatement_83 : decode cX7_runStatement 83 = .ok (.getfield 96, 3) := by decide +kernel
theorem dyX7_runStatement_86 : decode cX7_runStatement 86 = .ok (.iconst 1, 1) := by decide +kernel
theorem dyX7_runStatement_87 : decode cX7_runStatement 87 = .ok (.iadd, 1) := by decide +kernel
theorem dyX7_runStatement_88 : decode cX7_runStatement 88 = .ok (.putfield 96, 3) := by decide +kernel
theorem dyX7_runStatement_91 : decode cX7_runStatement 91 = .ok (.aload_n 0, 1) := by decide +kernel
theorem dyX7_runStatement_92 : decode cX7_runStatement 92 = .ok (.iload 4, 2) := by decide +kernel
theorem dyX7_runStatement_94 : decode cX7_runStatement 94 = .ok (.iload 5, 2) := by decide +kernel
theorem dyX7_runStatement_96 : decode cX7_runStatement 96 = .ok (.invokevirtual 124, 3) := by decide +kernel
theorem dyX7_runStatement_99 : decode cX7_runStatement 99 = .ok (.aload_n 0, 1) := by decide +kernel
theorem dyX7_runStatement_100 : decode cX7_runStatement 100 = .ok (.iload 4, 2) := by decide +kernel
theorem dyX7_runStatement_102 : decode cX7_runStatement 102 = .ok (.iload 5, 2) := by decide +kernel
theorem dyX7_runStatement_104 : decode cX7_runStatement 104 = .ok (.invokevirtual 81, 3) := by decide +kernel
theorem dyX7_runStatement_107 : decode cX7_runStatement 107 = .ok (.aload_n 0, 1) := by decide +kernel
theorem dyX7_runStatement_108 : decode cX7_runStatement 108 = .ok (.aload_n 0, 1) := by decide +kernel
theorem dyX7_runStatement_109 : decode cX7_runStatement 109 = .ok (.getfield 48, 3) := by decide +kernel
theorem dyX7_runStatement_112 : decode cX7_runStatement 112 = .ok (.getfield 127, 3) := by decide +kernel
theorem dyX7_runStatement_115 : decode cX7_runStatement 115 = .ok (.iload_n 1, 1) := by decide +kernel
theorem dyX7_runStatement_116 : decode cX7_runStatement 116 = .ok (.invokevirtual 52, 3) := by decide +kernel
theorem dyX7_runStatement_119 : decode cX7_runStatement 119 = .ok (.iload_n 1, 1) := by decide +kernel
theorem dyX7_runStatement_120 : decode cX7_runStatement 120 = .ok (.aload_n 0, 1) := by decide +kernel
theorem dyX7_runStatement_121 : decode cX7_runStatement 121 = .ok (.getfield 35, 3) := by decide +kernel
theorem dyX7_runStatement_124 : decode cX7_runStatement 124 = .ok (.iload 4, 2) := by decide +kernel
theorem dyX7_runStatement_126 : decode cX7_runStatement 126 = .ok (.invokevirtual 52, 3) := by decide +kernel
theorem dyX7_runStatement_129 : decode cX7_runStatement 129 = .ok (.invokevirtual 130, 3) := by decide +kernel
theorem dyX7_runStatement_132 : decode cX7_runStatement 132 = .ok (.return_, 1) := by decide +kernel
theorem zsg_yX7_runStatement : yX7_runStatement.cls = RX7 ∧ yX7_runStatement.cls ≠ "java/lang/invoke/MethodHandle" ∧ yX7_runStatement.cls ≠ "java/lang/invoke/VarHandle" ∧ (parseMethodDescriptor yX7_runStatement.desc).map (fun d => d.parameters.length) = some 2 := by decide +kernel
set_option maxRecDepth 20000 in
theorem c_Runner_runStatement {l : Launch} {D : va_G} {B : Nat} {cA : Nat → ClassId} {ad : Nat → Nat} {S : List zC} (hS : zOkX S) {a1 : Int32} {a2 : Int32} {I : zI} {K : zI → Prop}  (h : w_Runner_runStatement a1 a2 I K) : Met l yX7_runStatement (zws yX7_runStatement cX7_runStatement 7 none) (zrm 3 70) (zPc D B cA ad [.ref (B + 69), .int a1, .int a2] S I) (zQc D B cA (zqV S K)) 0 0 (fun q => B ≤ q) := by
  refine zm_of (cc := cX7_runStatement) (maxL := 7) (ret := none) (by decide +kernel) rfl (Nat.le_of_ble_eq_true rfl) trivial ?_
  intro p e s m args below meth c C _
  unfold w_Runner_runStatement at h
  show zX p l e (zrm 3 70) s m args below meth c (MQ below (zQc D B cA (zqV S K)) args s 0 0 (fun q => B ≤ q)) D B cA 7 0 0 S I [(0, .ref (B + 69)), (1, .int a1), (2, .int a2)] [] 0
  refine zr_aload_n C dyX7_runStatement_0 rfl 0 rfl ?_
  refine zg_7_48 C hS dyX7_runStatement_1 ?_
  refine zg_7_74 C hS dyX7_runStatement_4 ?_
  refine zr_iload_n C dyX7_runStatement_7 rfl 1 rfl ?_
  refine zv_7_52 C hS (zIsRow.of hS zir_44) (st := []) h ⟨Nat.le_of_ble_eq_true rfl, Nat.le_of_ble_eq_true rfl⟩ (Nat.le_of_ble_eq_true rfl) dyX7_runStatement_8 (fun r_1 h => ?_)
  refine zr_istore_n C dyX7_runStatement_11 rfl (Nat.le_of_ble_eq_true rfl) (lv2 := [(3, .int r_1), (0, .ref (B + 69)), (1, .int a1), (2, .int a2)]) rfl ?_
  refine zr_iload_n C dyX7_runStatement_12 rfl 2 rfl ?_
  refine zr_iconst C dyX7_runStatement_13 zc_i_3 ?_
  refine zr_iadd C dyX7_runStatement_14 ?_
  refine zn_istore C (fun v4_2 => [(4, .int v4_2), (3, .int r_1), (0, .ref (B + 69)), (1, .int a1), (2, .int a2)]) dyX7_runStatement_15 (Nat.le_of_ble_eq_true rfl) (fun _ => rfl) (fun v4_2 ev4_2 => ?_)
  replace h := h v4_2 ev4_2
  refine zr_iload C dyX7_runStatement_17 0 rfl ?_
  refine zr_aload_n C dyX7_runStatement_19 rfl 2 rfl ?_
  refine zg_7_48 C hS dyX7_runStatement_20 ?_
  refine zg_7_114 C hS dyX7_runStatement_23 ?_
  refine zr_iload C dyX7_runStatement_26 0 rfl ?_
  refine zv_7_52 C hS (zIsRow.of hS zir_54) (st := [.int v4_2]) h ⟨Nat.le_of_ble_eq_true rfl, Nat.le_of_ble_eq_true rfl⟩ (Nat.le_of_ble_eq_true rfl) dyX7_runStatement_28 (fun r_3 h => ?_)
  refine zr_iadd C dyX7_runStatement_31 ?_
  refine zn_istore C (fun v5_4 => [(5, .int v5_4), (4, .int v4_2), (3, .int r_1), (0, .ref (B + 69)), (1, .int a1), (2, .int a2)]) dyX7_runStatement_32 (Nat.le_of_ble_eq_true rfl) (fun _ => rfl) (fun v5_4 ev5_4 => ?_)
  replace h := h v5_4 ev5_4
  refine zr_iload_n C dyX7_runStatement_34 rfl 5 rfl ?_
  refine zjn (h (fun (t_5 : Int32) (I_6 : zI) => zX p l e (zrm 3 70) s m args below meth c (MQ below (zQc D B cA (zqV S K)) args s 0 0 (fun q => B ≤ q)) D B cA 7 0 0 S I_6 [(5, .int v5_4), (4, .int v4_2), (3, .int r_1), (0, .ref (B + 69)), (1, .int a1), (2, .int a2)] [.int t_5] 55) (fun t_5 I_6 h => ?_)) (fun h => ?_)
  · refine zr_istore C dyX7_runStatement_55 (Nat.le_of_ble_eq_true rfl) (lv2 := [(6, .int t_5), (5, .int v5_4), (4, .int v4_2), (3, .int r_1), (0, .ref (B + 69)), (1, .int a1), (2, .int a2)]) rfl ?_
    refine zr_iload_n C dyX7_runStatement_57 rfl 6 rfl ?_
    refine zjn (h (fun (I_7 : zI) => zX p l e (zrm 3 70) s m args below meth c (MQ below (zQc D B cA (zqV S K)) args s 0 0 (fun q => B ≤ q)) D B cA 7 0 0 S I_7 [(5, .int v5_4), (4, .int v4_2), (0, .ref (B + 69)), (1, .int a1)] [] 91) (fun I_7 h => ?_)) (fun h => ?_)
    · refine zr_aload_n C dyX7_runStatement_91 rfl 2 rfl ?_
      refine zr_iload C dyX7_runStatement_92 1 rfl ?_
      refine zr_iload C dyX7_runStatement_94 0 rfl ?_
      refine zv_7_124 C hS (st := []) h ⟨Nat.le_of_ble_eq_true rfl, Nat.le_of_ble_eq_true rfl⟩ (Nat.le_of_ble_eq_true rfl) dyX7_runStatement_96 (fun I_8 h => ?_)
      refine zr_aload_n C dyX7_runStatement_99 rfl 2 rfl ?_
      refine zr_iload C dyX7_runStatement_100 1 rfl ?_
      refine zr_iload C dyX7_runStatement_102 0 rfl ?_
      refine zv_7_81 C hS (st := []) h ⟨Nat.le_of_ble_eq_true rfl, Nat.le_of_ble_eq_true rfl⟩ (Nat.le_of_ble_eq_true rfl) dyX7_runStatement_104 (fun I_9 h => ?_)
      refine zr_aload_n C dyX7_runStatement_107 rfl 2 rfl ?_
      refine zr_aload_n C dyX7_runStatement_108 rfl 2 rfl ?_
      refine zg_7_48 C hS dyX7_runStatement_109 ?_
      refine zg_7_127 C hS dyX7_runStatement_112 ?_
      refine zr_iload_n C dyX7_runStatement_115 rfl 3 rfl ?_
      refine zv_7_52 C hS (zIsRow.of hS zir_50) (st := [.ref (B + 69)]) h ⟨Nat.le_of_ble_eq_true rfl, Nat.le_of_ble_eq_true rfl⟩ (Nat.le_of_ble_eq_true rfl) dyX7_runStatement_116 (fun r_10 h => ?_)
      refine zr_iload_n C dyX7_runStatement_119 rfl 3 rfl ?_
      refine zr_aload_n C dyX7_runStatement_120 rfl 2 rfl ?_
      refine zg_7_35 C hS dyX7_runStatement_121 ?_
      refine zr_iload C dyX7_runStatement_124 1 rfl ?_
      refine zv_7_52 C hS (zIsRow.of hS zir_82) (st := [.int a1, .int r_10, .ref (B + 69)]) h ⟨Nat.le_of_ble_eq_true rfl, Nat.le_of_ble_eq_true rfl⟩ (Nat.le_of_ble_eq_true rfl) dyX7_runStatement_126 (fun r_11 h => ?_)
      refine zv_7_130 C hS (st := []) h ⟨Nat.le_of_ble_eq_true rfl, Nat.le_of_ble_eq_true rfl⟩ (Nat.le_of_ble_eq_true rfl) dyX7_runStatement_129 (fun I_12 h => ?_)
      exact zr_vret C rfl dyX7_runStatement_132 ⟨rfl, rfl, h⟩
    refine zr_if_le C dyX7_runStatement_58 (tgt := 91) (by decide) (fun hc_17 => ?_) (fun hc_17 => ?_)
    · replace h := zif_pos hc_17 h
      refine zr_sub (lv2 := [(5, .int v5_4), (4, .int v4_2), (0, .ref (B + 69)), (1, .int a1)]) [1, 2, 4, 5] rfl ?_
      exact h
    · replace h := zif_neg hc_17 h
      refine zr_iload C dyX7_runStatement_61 0 rfl ?_
      refine zjn (h (zX p l e (zrm 3 70) s m args below meth c (MQ below (zQc D B cA (zqV S K)) args s 0 0 (fun q => B ≤ q)) D B cA 7 0 0 S I_6 [(5, .int v5_4), (4, .int v4_2), (0, .ref (B + 69)), (1, .int a1)] [] 81) (fun  h => ?_)) (fun h => ?_)
      · refine zr_aload_n C dyX7_runStatement_81 rfl 2 rfl ?_
        refine zr_dup C dyX7_runStatement_82 rfl ?_
        refine zg_7_96 C hS dyX7_runStatement_83 ?_
        refine zr_iconst C dyX7_runStatement_86 zc_i_1 ?_
        refine zr_iadd C dyX7_runStatement_87 ?_
        refine zp_7_96 C hS dyX7_runStatement_88 ?_
        refine zn_mem C (fun I_13 eI_13 => ?_)
        replace h := h I_13 eI_13
        exact h
      refine zr_if_ne C dyX7_runStatement_63 (tgt := 81) (by decide) (fun hc_16 => ?_) (fun hc_16 => ?_)
      · replace h := zif_neg hc_16 h
        refine zr_sub (lv2 := [(5, .int v5_4), (4, .int v4_2), (0, .ref (B + 69)), (1, .int a1)]) [1, 2, 4, 5] rfl ?_
        exact h
      · replace h := zif_pos hc_16 h
        refine zr_aload_n C dyX7_runStatement_66 rfl 4 rfl ?_
        refine zg_7_44 C hS dyX7_runStatement_67 ?_
        refine zg_7_121 C hS dyX7_runStatement_70 ?_
        refine zr_iload_n C dyX7_runStatement_73 rfl 3 rfl ?_
        refine zv_7_52 C hS (zIsRow.of hS zir_33) (st := []) h ⟨Nat.le_of_ble_eq_true rfl, Nat.le_of_ble_eq_true rfl⟩ (Nat.le_of_ble_eq_true rfl) dyX7_runStatement_74 (fun r_14 h => ?_)
        refine zr_iload_n C dyX7_runStatement_77 rfl 6 rfl ?_
        refine zr_icmp_ne C dyX7_runStatement_78 (tgt := 91) (by decide) (fun hc_15 => ?_) (fun hc_15 => ?_)
        · replace h := zif_neg hc_15 h
          refine zr_sub (lv2 := [(5, .int v5_4), (4, .int v4_2), (0, .ref (B + 69)), (1, .int a1)]) [1, 2, 4, 5] rfl ?_
          exact h
        · replace h := zif_pos hc_15 h
          refine zr_sub (lv2 := [(5, .int v5_4), (4, .int v4_2), (0, .ref (B + 69)), (1, .int a1)]) [1, 2, 4, 5] rfl ?_
          exact h
  refine zjn (h (fun (I_18 : zI) => zX p l e (zrm 3 70) s m args below meth c (MQ below (zQc D B cA (zqV S K)) args s 0 0 (fun q => B ≤ q)) D B cA 7 0 0 S I_18 [(5, .int v5_4), (4, .int v4_2), (3, .int r_1), (0, .ref (B + 69)), (1, .int a1), (2, .int a2)] [] 54) (fun I_18 h => ?_)) (fun h => ?_)
  · refine zr_iconst C dyX7_runStatement_54 zc_i_0 ?_
    exact h
  refine zr_if_le C dyX7_runStatement_35 (tgt := 54) (by decide) (fun hc_22 => ?_) (fun hc_22 => ?_)
  · replace h := zif_pos hc_22 h
    exact h
  · replace h := zif_neg hc_22 h
    refine zr_aload_n C dyX7_runStatement_38 rfl 3 rfl ?_
    refine zr_iload_n C dyX7_runStatement_39 rfl 2 rfl ?_
    refine zr_iload C dyX7_runStatement_40 1 rfl ?_
    refine zr_iload C dyX7_runStatement_42 0 rfl ?_
    refine zv_7_117 C hS (st := []) h ⟨Nat.le_of_ble_eq_true rfl, Nat.le_of_ble_eq_true rfl⟩ (Nat.le_of_ble_eq_true rfl) dyX7_runStatement_44 (fun r_19 I_20 h => ?_)
    refine zr_if_eq C dyX7_runStatement_47 (tgt := 54) (by decide) (fun hc_21 => ?_) (fun hc_21 => ?_)
    · replace h := zif_pos hc_21 h
      exact h
    · replace h := zif_neg hc_21 h
      refine zr_iconst C dyX7_runStatement_50 zc_i_1 ?_
      refine zr_goto C dyX7_runStatement_51 (tgt := 55) (by decide) ?_
      exact h
theorem zp_7_158 {p : Program} {l : Launch} {e : Env} {R : Room} {s : State} {m : MethodId} {args : Array Value} {below : List Frame} {meth : Method} {c : Code} {Q : State → Prop} {D : va_G} {B : Nat} {cA : Nat → ClassId} {ad : Nat → Nat} {cc : ByteArray} {nL : Nat} {ret : Option FieldType} {S : List zC} {I : zI} {lv : List (Nat × Value)} {st : List Value} {pc : Nat} (C : zCx p s m args meth c cc nL RX7 ret D B cA ad) (hS : zOkX S) {v : Int32} (hd : decode cc pc = .ok (.putfield 158, 3)) (kk : zX p l e R s m args below meth c Q D B cA nL 0 0 S (zu I 69 15 v) lv st (pc + 3)) : zX p l e R s m args below meth c Q D B cA nL 0 0 S I lv (.int v :: .ref (B + 69) :: st) pc :=
  zr_puti C (ci := 7) (Cn := RX7) (T := TX7) (N := 17) (k := 69) (j := 15) (fs := [some (some 24), some (some 43), some (some 70), some (some 72), some (some 74), some (some 76), some (some 78), some (some 80), some (some 82), some (some 84), some (some 86), none, none, none, none, none, none]) rfl zin_7 (Nat.le_of_ble_eq_true rfl) rfl (hS _ _ zs_69) rfl tyX7 tyX7_ok nmX7 (ty := .int) zpd_I rfl rfl rfl zk_fl_7_158 hd kk
theorem zg_7_63 {p : Program} {l : Launch} {e : Env} {R : Room} {s : State} {m : MethodId} {args : Array Value} {below : List Frame} {meth : Method} {c : Code} {Q : State → Prop} {D : va_G} {B : Nat} {cA : Nat → ClassId} {ad : Nat → Nat} {cc : ByteArray} {nL : Nat} {ret : Option FieldType} {S : List zC} {I : zI} {lv : List (Nat × Value)} {st : List Value} {pc : Nat} (C : zCx p s m args meth c cc nL RX7 ret D B cA ad) (hS : zOkX S) (hd : decode cc pc = .ok (.getfield 63, 3)) (kk : zX p l e R s m args below meth c Q D B cA nL 0 0 S I lv (.int (I.1 43 12) :: st) (pc + 3)) : zX p l e R s m args below meth c Q D B cA nL 0 0 S I lv (.ref (B + 43) :: st) pc :=
  zr_geti C (ci := 9) (Cn := RX9) (T := TX9) (N := 16) (k := 43) (j := 12) (fs := [some (some 24), some (some 44), some (some 46), some (some 48), some (some 50), some (some 52), some (some 54), some (some 56), some (some 58), some (some 60), some (some 62), none, none, none, none, none]) rfl zin_9 (Nat.le_of_ble_eq_true rfl) rfl (hS _ _ zs_43) rfl zk_fl_7_63 hd kk
theorem zp_7_161 {p : Program} {l : Launch} {e : Env} {R : Room} {s : State} {m : MethodId} {args : Array Value} {below : List Frame} {meth : Method} {c : Code} {Q : State → Prop} {D : va_G} {B : Nat} {cA : Nat → ClassId} {ad : Nat → Nat} {cc : ByteArray} {nL : Nat} {ret : Option FieldType} {S : List zC} {I : zI} {lv : List (Nat × Value)} {st : List Value} {pc : Nat} (C : zCx p s m args meth c cc nL RX7 ret D B cA ad) (hS : zOkX S) {v : Int32} (hd : decode cc pc = .ok (.putfield 161, 3)) (kk : zX p l e R s m args below meth c Q D B cA nL 0 0 S (zu I 69 16 v) lv st (pc + 3)) : zX p l e R s m args below meth c Q D B cA nL 0 0 S I lv (.int v :: .ref (B + 69) :: st) pc :=
  zr_puti C (ci := 7) (Cn := RX7) (T := TX7) (N := 17) (k := 69) (j := 16) (fs := [some (some 24), some (some 43), some (some 70), some (some 72), some (some 74), some (some 76), some (some 78), some (some 80), some (some 82), some (some 84), some (some 86), none, none, none, none, none, none]) rfl zin_7 (Nat.le_of_ble_eq_true rfl) rfl (hS _ _ zs_69) rfl tyX7 tyX7_ok nmX7 (ty := .int) zpd_I rfl rfl rfl zk_fl_7_161 hd kk
theorem zg_7_161 {p : Program} {l : Launch} {e : Env} {R : Room} {s : State} {m : MethodId} {args : Array Value} {below : List Frame} {meth : Method} {c : Code} {Q : State → Prop} {D : va_G} {B : Nat} {cA : Nat → ClassId} {ad : Nat → Nat} {cc : ByteArray} {nL : Nat} {ret : Option FieldType} {S : List zC} {I : zI} {lv : List (Nat × Value)} {st : List Value} {pc : Nat} (C : zCx p s m args meth c cc nL RX7 ret D B cA ad) (hS : zOkX S) (hd : decode cc pc = .ok (.getfield 161, 3)) (kk : zX p l e R s m args below meth c Q D B cA nL 0 0 S I lv (.int (I.1 69 16) :: st) (pc + 3)) : zX p l e R s m args below meth c Q D B cA nL 0 0 S I lv (.ref (B + 69) :: st) pc :=
  zr_geti C (ci := 7) (Cn := RX7) (T := TX7) (N := 17) (k := 69) (j := 16) (fs := [some (some 24), some (some 43), some (some 70), some (some 72), some (some 74), some (some 76), some (some 78), some (some 80), some (some 82), some (some 84), some (some 86), none, none, none, none, none, none]) rfl zin_7 (Nat.le_of_ble_eq_true rfl) rfl (hS _ _ zs_69) rfl zk_fl_7_161 hd kk
theorem zg_7_158 {p : Program} {l : Launch} {e : Env} {R : Room} {s : State} {m : MethodId} {args : Array Value} {below : List Frame} {meth : Method} {c : Code} {Q : State → Prop} {D : va_G} {B : Nat} {cA : Nat → ClassId} {ad : Nat → Nat} {cc : ByteArray} {nL : Nat} {ret : Option FieldType} {S : List zC} {I : zI} {lv : List (Nat × Value)} {st : List Value} {pc : Nat} (C : zCx p s m args meth c cc nL RX7 ret D B cA ad) (hS : zOkX S) (hd : decode cc pc = .ok (.getfield 158, 3)) (kk : zX p l e R s m args below meth c Q D B cA nL 0 0 S I lv (.int (I.1 69 15) :: st) (pc + 3)) : zX p l e R s m args below meth c Q D B cA nL 0 0 S I lv (.ref (B + 69) :: st) pc :=
  zr_geti C (ci := 7) (Cn := RX7) (T := TX7) (N := 17) (k := 69) (j := 15) (fs := [some (some 24), some (some 43), some (some 70), some (some 72), some (some 74), some (some 76), some (some 78), some (some 80), some (some 82), some (some 84), some (some 86), none, none, none, none, none, none]) rfl zin_7 (Nat.le_of_ble_eq_true rfl) rfl (hS _ _ zs_69) rfl zk_fl_7_158 hd kk
def w_Runner_sumUp  (I : zI) (K : zI → Prop) : Prop :=
  ∀ I_1, I_1 = (zu I 69 15 0) → ∀ (P7 : Int32 → zI → Prop), (∀ (v1_2 : Int32) (I_3 : zI), ((if (I_3.1 43 12) ≤ v1_2 then (∀ I_4, I_4 = (zu I_3 69 16 0) → ∀ (P88 : Int32 → zI → Prop), (∀ (v1_5 : Int32) (I_6 : zI), ((if 100 ≤ v1_5 then K I_6 else (w_Row_get 74 100 v1_5 I_6 (fun r_7 => ∀ (P115 : Int32 → Prop), (∀ (t_8 : Int32), (∀ I_9, I_9 = (zu I_6 69 16 ((I_6.1 69 16) + t_8)) → ∀ v1_10, v1_10 = (v1_5 + 1) → P88 v1_10 I_9) → P115 t_8) → (if r_7 ≤ 0 then P115 0 else P115 1))))) → P88 v1_5 I_6) → P88 0 I_4) else (w_Row_get 44 400 v1_2 I_3 (fun r_13 => w_Row_get 25 3400 r_13 I_3 (fun r_14 => ∀ (P49 : Int32 → Prop), (∀ (t_15 : Int32), (∀ (P71 : Int32 → Prop), (∀ (t_16 : Int32), (∀ I_17, I_17 = (zu I_3 69 15 ((I_3.1 69 15) + t_16)) → ∀ v1_18, v1_18 = (v1_2 + 1) → P7 v1_18 I_17) → P71 t_16) → (if t_15 = 0 then P71 0 else (w_Row_get 82 400 v1_2 I_3 (fun r_19 => P71 r_19)))) → P49 t_15) → (if r_14 = 9 then P49 1 else P49 0)))))) → P7 v1_2 I_3) → P7 0 I_1
theorem dyX7_sumUp_0 : decode cX7_sumUp 0 = .ok (.aload_n 0, 1) := by decide +kernel
theorem dyX7_sumUp_1 : decode cX7_sumUp 1 = .ok (.iconst 0, 1) := by decide +kernel
theorem dyX7_sumUp_2 : decode cX7_sumUp 2 = .ok (.putfield 158, 3) := by decide +kernel
theorem dyX7_sumUp_5 : decode cX7_sumUp 5 = .ok (.iconst 0, 1) := by decide +kernel
theorem dyX7_sumUp_6 : decode cX7_sumUp 6 = .ok (.istore_n 1, 1) := by decide +kernel
theorem dyX7_sumUp_7 : decode cX7_sumUp 7 = .ok (.iload_n 1, 1) := by decide +kernel
theorem dyX7_sumUp_8 : decode cX7_sumUp 8 = .ok (.aload_n 0, 1) := by decide +kernel
theorem dyX7_sumUp_9 : decode cX7_sumUp 9 = .ok (.getfield 48, 3) := by decide +kernel
theorem dyX7_sumUp_12 : decode cX7_sumUp 12 = .ok (.getfield 63, 3) := by decide +kernel
theorem dyX7_sumUp_15 : decode cX7_sumUp 15 = .ok (.if_icmp .ge 66, 3) := by decide +kernel
theorem dyX7_sumUp_18 : decode cX7_sumUp 18 = .ok (.aload_n 0, 1) := by decide +kernel
theorem dyX7_sumUp_19 : decode cX7_sumUp 19 = .ok (.getfield 44, 3) := by decide +kernel
theorem dyX7_sumUp_22 : decode cX7_sumUp 22 = .ok (.getfield 69, 3) := by decide +kernel
theorem dyX7_sumUp_25 : decode cX7_sumUp 25 = .ok (.aload_n 0, 1) := by decide +kernel
theorem dyX7_sumUp_26 : decode cX7_sumUp 26 = .ok (.getfield 48, 3) := by decide +kernel
theorem dyX7_sumUp_29 : decode cX7_sumUp 29 = .ok (.getfield 74, 3) := by decide +kernel
theorem dyX7_sumUp_32 : decode cX7_sumUp 32 = .ok (.iload_n 1, 1) := by decide +kernel
theorem dyX7_sumUp_33 : decode cX7_sumUp 33 = .ok (.invokevirtual 52, 3) := by decide +kernel
theorem dyX7_sumUp_36 : decode cX7_sumUp 36 = .ok (.invokevirtual 52, 3) := by decide +kernel
theorem dyX7_sumUp_39 : decode cX7_sumUp 39 = .ok (.bipush 9, 2) := by decide +kernel
theorem dyX7_sumUp_41 : decode cX7_sumUp 41 = .ok (.if_icmp .ne 7, 3) := by decide +kernel
theorem dyX7_sumUp_44 : decode cX7_sumUp 44 = .ok (.iconst 1, 1) := by decide +kernel
theorem dyX7_sumUp_45 : decode cX7_sumUp 45 = .ok (.goto 4, 3) := by decide +kernel
theorem dyX7_sumUp_48 : decode cX7_sumUp 48 = .ok (.iconst 0, 1) := by decide +kernel
theorem dyX7_sumUp_49 : decode cX7_sumUp 49 = .ok (.istore_n 2, 1) := by decide +kernel
theorem dyX7_sumUp_50 : decode cX7_sumUp 50 = .ok (.aload_n 0, 1) := by decide +kernel
theorem dyX7_sumUp_51 : decode cX7_sumUp 51 = .ok (.dup, 1) := by decide +kernel
theorem dyX7_sumUp_52 : decode cX7_sumUp 52 = .ok (.getfield 158, 3) := by decide +kernel
theorem dyX7_sumUp_55 : decode cX7_sumUp 55 = .ok (.iload_n 2, 1) := by decide +kernel
theorem dyX7_sumUp_56 : decode cX7_sumUp 56 = .ok (.ifCond .eq 14, 3) := by decide +kernel
theorem dyX7_sumUp_59 : decode cX7_sumUp 59 = .ok (.aload_n 0, 1) := by decide +kernel
theorem dyX7_sumUp_60 : decode cX7_sumUp 60 = .ok (.getfield 35, 3) := by decide +kernel
theorem dyX7_sumUp_63 : decode cX7_sumUp 63 = .ok (.iload_n 1, 1) := by decide +kernel
theorem dyX7_sumUp_64 : decode cX7_sumUp 64 = .ok (.invokevirtual 52, 3) := by decide +kernel
theorem dyX7_sumUp_67 : decode cX7_sumUp 67 = .ok (.goto 4, 3) := by decide +kernel
theorem dyX7_sumUp_70 : decode cX7_sumUp 70 = .ok (.iconst 0, 1) := by decide +kernel
theorem dyX7_sumUp_71 : decode cX7_sumUp 71 = .ok (.iadd, 1) := by decide +kernel
theorem dyX7_sumUp_72 : decode cX7_sumUp 72 = .ok (.putfield 158, 3) := by decide +kernel
theorem dyX7_sumUp_75 : decode cX7_sumUp 75 = .ok (.iinc 1 1, 3) := by decide +kernel
theorem dyX7_sumUp_78 : decode cX7_sumUp 78 = .ok (.goto (-71), 3) := by decide +kernel
theorem dyX7_sumUp_81 : decode cX7_sumUp 81 = .ok (.aload_n 0, 1) := by decide +kernel
theorem dyX7_sumUp_82 : decode cX7_sumUp 82 = .ok (.iconst 0, 1) := by decide +kernel
theorem dyX7_sumUp_83 : decode cX7_sumUp 83 = .ok (.putfield 161, 3) := by decide +kernel
theorem dyX7_sumUp_86 : decode cX7_sumUp 86 = .ok (.iconst 0, 1) := by decide +kernel
theorem dyX7_sumUp_87 : decode cX7_sumUp 87 = .ok (.istore_n 1, 1) := by decide +kernel
theorem dyX7_sumUp_88 : decode cX7_sumUp 88 = .ok (.iload_n 1, 1) := by decide +kernel
theorem dyX7_sumUp_89 : decode cX7_sumUp 89 = .ok (.bipush 100, 2) := by decide +kernel
theorem dyX7_sumUp_91 : decode cX7_sumUp 91 = .ok (.if_icmp .ge 34, 3) := by decide +kernel
theorem dyX7_sumUp_94 : decode cX7_sumUp 94 = .ok (.aload_n 0, 1) := by decide +kernel
theorem dyX7_sumUp_95 : decode cX7_sumUp 95 = .ok (.dup, 1) := by decide +kernel
theorem dyX7_sumUp_96 : decode cX7_sumUp 96 = .ok (.getfield 161, 3) := by decide +kernel
theorem dyX7_sumUp_99 : decode cX7_sumUp 99 = .ok (.aload_n 0, 1) := by decide +kernel
theorem dyX7_sumUp_100 : decode cX7_sumUp 100 = .ok (.getfield 23, 3) := by decide +kernel
theorem dyX7_sumUp_103 : decode cX7_sumUp 103 = .ok (.iload_n 1, 1) := by decide +kernel
theorem dyX7_sumUp_104 : decode cX7_sumUp 104 = .ok (.invokevirtual 52, 3) := by decide +kernel
theorem dyX7_sumUp_107 : decode cX7_sumUp 107 = .ok (.ifCond .le 7, 3) := by decide +kernel
theorem dyX7_sumUp_110 : decode cX7_sumUp 110 = .ok (.iconst 1, 1) := by decide +kernel
theorem dyX7_sumUp_111 : decode cX7_sumUp 111 = .ok (.goto 4, 3) := by decide +kernel
theorem dyX7_sumUp_114 : decode cX7_sumUp 114 = .ok (.iconst 0, 1) := by decide +kernel
theorem dyX7_sumUp_115 : decode cX7_sumUp 115 = .ok (.iadd, 1) := by decide +kernel
theorem dyX7_sumUp_116 : decode cX7_sumUp 116 = .ok (.putfield 161, 3) := by decide +kernel
theorem dyX7_sumUp_119 : decode cX7_sumUp 119 = .ok (.iinc 1 1, 3) := by decide +kernel
theorem dyX7_sumUp_122 : decode cX7_sumUp 122 = .ok (.goto (-34), 3) := by decide +kernel
theorem dyX7_sumUp_125 : decode cX7_sumUp 125 = .ok (.return_, 1) := by decide +kernel
theorem zsg_yX7_sumUp : yX7_sumUp.cls = RX7 ∧ yX7_sumUp.cls ≠ "java/lang/invoke/MethodHandle" ∧ yX7_sumUp.cls ≠ "java/lang/invoke/VarHandle" ∧ (parseMethodDescriptor yX7_sumUp.desc).map (fun d => d.parameters.length) = some 0 := by decide +kernel
set_option maxRecDepth 20000 in
theorem c_Runner_sumUp {l : Launch} {D : va_G} {B : Nat} {cA : Nat → ClassId} {ad : Nat → Nat} {S : List zC} (hS : zOkX S)  {I : zI} {K : zI → Prop}  (h : w_Runner_sumUp  I K) : Met l yX7_sumUp (zws yX7_sumUp cX7_sumUp 3 none) (zrm 1 21) (zPc D B cA ad [.ref (B + 69)] S I) (zQc D B cA (zqV S K)) 0 0 (fun q => B ≤ q) := by
  refine zm_of (cc := cX7_sumUp) (maxL := 3) (ret := none) (by decide +kernel) rfl (Nat.le_of_ble_eq_true rfl) trivial ?_
  intro p e s m args below meth c C _
  unfold w_Runner_sumUp at h
  show zX p l e (zrm 1 21) s m args below meth c (MQ below (zQc D B cA (zqV S K)) args s 0 0 (fun q => B ≤ q)) D B cA 3 0 0 S I [(0, .ref (B + 69))] [] 0
  refine zr_aload_n C dyX7_sumUp_0 rfl 0 rfl ?_
  refine zr_iconst C dyX7_sumUp_1 zc_i_0 ?_
  refine zp_7_158 C hS dyX7_sumUp_2 ?_
  refine zn_mem C (fun I_1 eI_1 => ?_)
  replace h := h I_1 eI_1
  refine zr_iconst C dyX7_sumUp_5 zc_i_0 ?_
  refine zr_istore_n C dyX7_sumUp_6 rfl (Nat.le_of_ble_eq_true rfl) (lv2 := [(1, .int 0), (0, .ref (B + 69))]) rfl ?_
  refine zjn (h (fun (v1_2 : Int32) (I_3 : zI) => zX p l e (zrm 1 21) s m args below meth c (MQ below (zQc D B cA (zqV S K)) args s 0 0 (fun q => B ≤ q)) D B cA 3 0 0 S I_3 [(1, .int v1_2), (0, .ref (B + 69))] [] 7) (fun v1_2 I_3 h => ?_)) (fun h => ?_)
  · refine zr_iload_n C dyX7_sumUp_7 rfl 0 rfl ?_
    refine zr_aload_n C dyX7_sumUp_8 rfl 1 rfl ?_
    refine zg_7_48 C hS dyX7_sumUp_9 ?_
    refine zg_7_63 C hS dyX7_sumUp_12 ?_
    refine zr_icmp_ge C dyX7_sumUp_15 (tgt := 81) (by decide) (fun hc_22 => ?_) (fun hc_22 => ?_)
    · replace h := zif_pos hc_22 h
      refine zr_aload_n C dyX7_sumUp_81 rfl 1 rfl ?_
      refine zr_iconst C dyX7_sumUp_82 zc_i_0 ?_
      refine zp_7_161 C hS dyX7_sumUp_83 ?_
      refine zn_mem C (fun I_4 eI_4 => ?_)
      replace h := h I_4 eI_4
      refine zr_iconst C dyX7_sumUp_86 zc_i_0 ?_
      refine zr_istore_n C dyX7_sumUp_87 rfl (Nat.le_of_ble_eq_true rfl) (lv2 := [(1, .int 0), (0, .ref (B + 69))]) rfl ?_
      refine zjn (h (fun (v1_5 : Int32) (I_6 : zI) => zX p l e (zrm 1 21) s m args below meth c (MQ below (zQc D B cA (zqV S K)) args s 0 0 (fun q => B ≤ q)) D B cA 3 0 0 S I_6 [(1, .int v1_5), (0, .ref (B + 69))] [] 88) (fun v1_5 I_6 h => ?_)) (fun h => ?_)
      · refine zr_iload_n C dyX7_sumUp_88 rfl 0 rfl ?_
        refine zr_bipush C dyX7_sumUp_89 zc_b_100 ?_
        refine zr_icmp_ge C dyX7_sumUp_91 (tgt := 125) (by decide) (fun hc_12 => ?_) (fun hc_12 => ?_)
        · replace h := zif_pos hc_12 h
          exact zr_vret C rfl dyX7_sumUp_125 ⟨rfl, rfl, h⟩
        · replace h := zif_neg hc_12 h
          refine zr_aload_n C dyX7_sumUp_94 rfl 1 rfl ?_
          refine zr_dup C dyX7_sumUp_95 rfl ?_
          refine zg_7_161 C hS dyX7_sumUp_96 ?_
          refine zr_aload_n C dyX7_sumUp_99 rfl 1 rfl ?_
          refine zg_7_23 C hS dyX7_sumUp_100 ?_
          refine zr_iload_n C dyX7_sumUp_103 rfl 0 rfl ?_
          refine zv_7_52 C hS (zIsRow.of hS zir_74) (st := [.int (I_6.1 69 16), .ref (B + 69)]) h ⟨Nat.le_of_ble_eq_true rfl, Nat.le_of_ble_eq_true rfl⟩ (Nat.le_of_ble_eq_true rfl) dyX7_sumUp_104 (fun r_7 h => ?_)
          refine zjn (h (fun (t_8 : Int32) => zX p l e (zrm 1 21) s m args below meth c (MQ below (zQc D B cA (zqV S K)) args s 0 0 (fun q => B ≤ q)) D B cA 3 0 0 S I_6 [(1, .int v1_5), (0, .ref (B + 69))] [.int t_8, .int (I_6.1 69 16), .ref (B + 69)] 115) (fun t_8 h => ?_)) (fun h => ?_)
          · refine zr_iadd C dyX7_sumUp_115 ?_
            refine zp_7_161 C hS dyX7_sumUp_116 ?_
            refine zn_mem C (fun I_9 eI_9 => ?_)
            replace h := h I_9 eI_9
            refine zn_iinc C (fun v1_10 => [(1, .int v1_10), (0, .ref (B + 69))]) dyX7_sumUp_119 0 rfl zc_i_1 (Nat.le_of_ble_eq_true rfl) (fun _ => rfl) (fun v1_10 ev1_10 => ?_)
            replace h := h v1_10 ev1_10
            refine zr_goto C dyX7_sumUp_122 (tgt := 88) (by decide) ?_
            exact h
          refine zr_if_le C dyX7_sumUp_107 (tgt := 114) (by decide) (fun hc_11 => ?_) (fun hc_11 => ?_)
          · replace h := zif_pos hc_11 h
            refine zr_iconst C dyX7_sumUp_114 zc_i_0 ?_
            exact h
          · replace h := zif_neg hc_11 h
            refine zr_iconst C dyX7_sumUp_110 zc_i_1 ?_
            refine zr_goto C dyX7_sumUp_111 (tgt := 115) (by decide) ?_
            exact h
      exact h
    · replace h := zif_neg hc_22 h
      refine zr_aload_n C dyX7_sumUp_18 rfl 1 rfl ?_
      refine zg_7_44 C hS dyX7_sumUp_19 ?_
      refine zg_7_69 C hS dyX7_sumUp_22 ?_
      refine zr_aload_n C dyX7_sumUp_25 rfl 1 rfl ?_
      refine zg_7_48 C hS dyX7_sumUp_26 ?_
      refine zg_7_74 C hS dyX7_sumUp_29 ?_
      refine zr_iload_n C dyX7_sumUp_32 rfl 0 rfl ?_
      refine zv_7_52 C hS (zIsRow.of hS zir_44) (st := [.ref (B + 25)]) h ⟨Nat.le_of_ble_eq_true rfl, Nat.le_of_ble_eq_true rfl⟩ (Nat.le_of_ble_eq_true rfl) dyX7_sumUp_33 (fun r_13 h => ?_)
      refine zv_7_52 C hS (zIsRow.of hS zir_25) (st := []) h ⟨Nat.le_of_ble_eq_true rfl, Nat.le_of_ble_eq_true rfl⟩ (Nat.le_of_ble_eq_true rfl) dyX7_sumUp_36 (fun r_14 h => ?_)
      refine zr_bipush C dyX7_sumUp_39 zc_b_9 ?_
      refine zjn (h (fun (t_15 : Int32) => zX p l e (zrm 1 21) s m args below meth c (MQ below (zQc D B cA (zqV S K)) args s 0 0 (fun q => B ≤ q)) D B cA 3 0 0 S I_3 [(1, .int v1_2), (0, .ref (B + 69))] [.int t_15] 49) (fun t_15 h => ?_)) (fun h => ?_)
      · refine zr_istore_n C dyX7_sumUp_49 rfl (Nat.le_of_ble_eq_true rfl) (lv2 := [(2, .int t_15), (1, .int v1_2), (0, .ref (B + 69))]) rfl ?_
        refine zr_aload_n C dyX7_sumUp_50 rfl 2 rfl ?_
        refine zr_dup C dyX7_sumUp_51 rfl ?_
        refine zg_7_158 C hS dyX7_sumUp_52 ?_
        refine zr_iload_n C dyX7_sumUp_55 rfl 0 rfl ?_
        refine zjn (h (fun (t_16 : Int32) => zX p l e (zrm 1 21) s m args below meth c (MQ below (zQc D B cA (zqV S K)) args s 0 0 (fun q => B ≤ q)) D B cA 3 0 0 S I_3 [(1, .int v1_2), (0, .ref (B + 69))] [.int t_16, .int (I_3.1 69 15), .ref (B + 69)] 71) (fun t_16 h => ?_)) (fun h => ?_)
        · refine zr_iadd C dyX7_sumUp_71 ?_
          refine zp_7_158 C hS dyX7_sumUp_72 ?_
          refine zn_mem C (fun I_17 eI_17 => ?_)
          replace h := h I_17 eI_17
          refine zn_iinc C (fun v1_18 => [(1, .int v1_18), (0, .ref (B + 69))]) dyX7_sumUp_75 0 rfl zc_i_1 (Nat.le_of_ble_eq_true rfl) (fun _ => rfl) (fun v1_18 ev1_18 => ?_)
          replace h := h v1_18 ev1_18
          refine zr_goto C dyX7_sumUp_78 (tgt := 7) (by decide) ?_
          exact h
        refine zr_if_eq C dyX7_sumUp_56 (tgt := 70) (by decide) (fun hc_20 => ?_) (fun hc_20 => ?_)
        · replace h := zif_pos hc_20 h
          refine zr_iconst C dyX7_sumUp_70 zc_i_0 ?_
          refine zr_sub (lv2 := [(1, .int v1_2), (0, .ref (B + 69))]) [1, 2] rfl ?_
          exact h
        · replace h := zif_neg hc_20 h
          refine zr_aload_n C dyX7_sumUp_59 rfl 2 rfl ?_
          refine zg_7_35 C hS dyX7_sumUp_60 ?_
          refine zr_iload_n C dyX7_sumUp_63 rfl 1 rfl ?_
          refine zv_7_52 C hS (zIsRow.of hS zir_82) (st := [.int (I_3.1 69 15), .ref (B + 69)]) h ⟨Nat.le_of_ble_eq_true rfl, Nat.le_of_ble_eq_true rfl⟩ (Nat.le_of_ble_eq_true rfl) dyX7_sumUp_64 (fun r_19 h => ?_)
          refine zr_goto C dyX7_sumUp_67 (tgt := 71) (by decide) ?_
          refine zr_sub (lv2 := [(1, .int v1_2), (0, .ref (B + 69))]) [1, 2] rfl ?_
          exact h
      refine zr_icmp_ne C dyX7_sumUp_41 (tgt := 48) (by decide) (fun hc_21 => ?_) (fun hc_21 => ?_)
      · replace h := zif_neg hc_21 h
        refine zr_iconst C dyX7_sumUp_48 zc_i_0 ?_
        exact h
      · replace h := zif_pos hc_21 h
        refine zr_iconst C dyX7_sumUp_44 zc_i_1 ?_
        refine zr_goto C dyX7_sumUp_45 (tgt := 49) (by decide) ?_
        exact h
  exact h
theorem zv_7_56 {p : Program} {l : Launch} {e : Env} {R : Room} {s : State} {m : MethodId} {args : Array Value} {below : List Frame} {meth : Method} {c : Code} {Q : State → Prop} {D : va_G} {B : Nat} {cA : Nat → ClassId} {ad : Nat → Nat} {cc : ByteArray} {nL : Nat} {ret : Option FieldType} {S : List zC} {I : zI} {lv : List (Nat × Value)} {st : List Value} {pc : Nat} (C : zCx p s m args meth c cc nL RX7 ret D B cA ad) {K : zI → Prop}  (hS : zOkX S)  (h : w_Runner_clear I K) (hR : 1 + 1 ≤ R.frames ∧ 8 + (1 + 11) + (22) ≤ R.locals) (hw : (st.map fun v => v.category).sum ≤ 8) (hd : decode cc pc = .ok (.invokevirtual 56, 3)) (kk : ∀ I2, K I2 → zX p l e R s m args below meth c Q D B cA nL 0 0 S I2 lv st (pc + 3)) : zX p l e R s m args below meth c Q D B cA nL 0 0 S I lv (.ref (B + 69) :: st) pc :=
  have hf : 0 ≤ R.cells ∧ 0 ≤ R.slots := ⟨Nat.zero_le _, Nat.zero_le _⟩
  zc_VqV C (ci := 7) (q := (RX7, TX7, 17)) (k := 69) (fs := [some (some 24), some (some 43), some (some 70), some (some 72), some (some 74), some (some 76), some (some 78), some (some 80), some (some 82), some (some 84), some (some 86), none, none, none, none, none, none]) (As := []) (st := st) rfl (hS _ _ zs_69) (c_Runner_clear hS h) (zgV zk_ml_7_56 zk_im_yX7_clear zk_se_yX7_clear zk_in_7 zk_cd_yX7_clear) zsg_yX7_clear hR rfl rfl hw hd hf kk
theorem zv_7_59 {p : Program} {l : Launch} {e : Env} {R : Room} {s : State} {m : MethodId} {args : Array Value} {below : List Frame} {meth : Method} {c : Code} {Q : State → Prop} {D : va_G} {B : Nat} {cA : Nat → ClassId} {ad : Nat → Nat} {cc : ByteArray} {nL : Nat} {ret : Option FieldType} {S : List zC} {I : zI} {lv : List (Nat × Value)} {st : List Value} {pc : Nat} (C : zCx p s m args meth c cc nL RX7 ret D B cA ad) {K : zI → Prop} {xa1 : Nat} (hS : zOkX S) (xha1 : zIsMoment S xa1) (h : w_Runner_findNames xa1 I K) (hR : 2 + 1 ≤ R.frames ∧ 8 + (5 + 11) + (43) ≤ R.locals) (hw : (st.map fun v => v.category).sum ≤ 8) (hd : decode cc pc = .ok (.invokevirtual 59, 3)) (kk : ∀ I2, K I2 → zX p l e R s m args below meth c Q D B cA nL 0 0 S I2 lv st (pc + 3)) : zX p l e R s m args below meth c Q D B cA nL 0 0 S I lv (.ref (B + xa1) :: .ref (B + 69) :: st) pc :=
  have hf : 0 ≤ R.cells ∧ 0 ≤ R.slots := ⟨Nat.zero_le _, Nat.zero_le _⟩
  zc_VqV C (ci := 7) (q := (RX7, TX7, 17)) (k := 69) (fs := [some (some 24), some (some 43), some (some 70), some (some 72), some (some 74), some (some 76), some (some 78), some (some 80), some (some 82), some (some 84), some (some 86), none, none, none, none, none, none]) (As := [.ref (B + xa1)]) (st := st) rfl (hS _ _ zs_69) (c_Runner_findNames hS xha1 h) (zgV zk_ml_7_59 zk_im_yX7_findNames zk_se_yX7_findNames zk_in_7 zk_cd_yX7_findNames) zsg_yX7_findNames hR rfl rfl hw hd hf kk
theorem zv_7_84 {p : Program} {l : Launch} {e : Env} {R : Room} {s : State} {m : MethodId} {args : Array Value} {below : List Frame} {meth : Method} {c : Code} {Q : State → Prop} {D : va_G} {B : Nat} {cA : Nat → ClassId} {ad : Nat → Nat} {cc : ByteArray} {nL : Nat} {ret : Option FieldType} {S : List zC} {I : zI} {lv : List (Nat × Value)} {st : List Value} {pc : Nat} (C : zCx p s m args meth c cc nL RX7 ret D B cA ad) {K : zI → Prop}  (hS : zOkX S)  (h : w_Runner_sumUp I K) (hR : 1 + 1 ≤ R.frames ∧ 8 + (3 + 11) + (21) ≤ R.locals) (hw : (st.map fun v => v.category).sum ≤ 8) (hd : decode cc pc = .ok (.invokevirtual 84, 3)) (kk : ∀ I2, K I2 → zX p l e R s m args below meth c Q D B cA nL 0 0 S I2 lv st (pc + 3)) : zX p l e R s m args below meth c Q D B cA nL 0 0 S I lv (.ref (B + 69) :: st) pc :=
  have hf : 0 ≤ R.cells ∧ 0 ≤ R.slots := ⟨Nat.zero_le _, Nat.zero_le _⟩
  zc_VqV C (ci := 7) (q := (RX7, TX7, 17)) (k := 69) (fs := [some (some 24), some (some 43), some (some 70), some (some 72), some (some 74), some (some 76), some (some 78), some (some 80), some (some 82), some (some 84), some (some 86), none, none, none, none, none, none]) (As := []) (st := st) rfl (hS _ _ zs_69) (c_Runner_sumUp hS h) (zgV zk_ml_7_84 zk_im_yX7_sumUp zk_se_yX7_sumUp zk_in_7 zk_cd_yX7_sumUp) zsg_yX7_sumUp hR rfl rfl hw hd hf kk
theorem zv_7_77 {p : Program} {l : Launch} {e : Env} {R : Room} {s : State} {m : MethodId} {args : Array Value} {below : List Frame} {meth : Method} {c : Code} {Q : State → Prop} {D : va_G} {B : Nat} {cA : Nat → ClassId} {ad : Nat → Nat} {cc : ByteArray} {nL : Nat} {ret : Option FieldType} {S : List zC} {I : zI} {lv : List (Nat × Value)} {st : List Value} {pc : Nat} (C : zCx p s m args meth c cc nL RX7 ret D B cA ad) {K : zI → Prop} {xa1 : Int32} {xa2 : Int32} (hS : zOkX S)  (h : w_Runner_runStatement xa1 xa2 I K) (hR : 3 + 1 ≤ R.frames ∧ 8 + (7 + 11) + (70) ≤ R.locals) (hw : (st.map fun v => v.category).sum ≤ 8) (hd : decode cc pc = .ok (.invokevirtual 77, 3)) (kk : ∀ I2, K I2 → zX p l e R s m args below meth c Q D B cA nL 0 0 S I2 lv st (pc + 3)) : zX p l e R s m args below meth c Q D B cA nL 0 0 S I lv (.int xa2 :: .int xa1 :: .ref (B + 69) :: st) pc :=
  have hf : 0 ≤ R.cells ∧ 0 ≤ R.slots := ⟨Nat.zero_le _, Nat.zero_le _⟩
  zc_VqV C (ci := 7) (q := (RX7, TX7, 17)) (k := 69) (fs := [some (some 24), some (some 43), some (some 70), some (some 72), some (some 74), some (some 76), some (some 78), some (some 80), some (some 82), some (some 84), some (some 86), none, none, none, none, none, none]) (As := [.int xa1, .int xa2]) (st := st) rfl (hS _ _ zs_69) (c_Runner_runStatement hS h) (zgV zk_ml_7_77 zk_im_yX7_runStatement zk_se_yX7_runStatement zk_in_7 zk_cd_yX7_runStatement) zsg_yX7_runStatement hR rfl rfl hw hd hf kk
def w_Runner_runAll (a1 : Nat) (a2 : Int32) (I : zI) (K : zI → Prop) : Prop :=
  w_Runner_clear I (fun I_1 => w_Runner_findNames a1 I_1 (fun I_2 => ∀ (P11 : Int32 → zI → Prop), (∀ (v3_3 : Int32) (I_4 : zI), ((if (I_4.1 43 12) ≤ v3_3 then (w_Runner_evaluate 0 (I_4.1 43 12) I_4 (fun I_5 => w_Runner_sumUp I_5 (fun I_6 => K I_6))) else (w_Row_get 44 400 v3_3 I_4 (fun r_7 => w_Row_get 25 3400 r_7 I_4 (fun r_8 => ∀ (P53 : zI → Prop), (∀ (I_9 : zI), (∀ v3_10, v3_10 = (v3_3 + 1) → P11 v3_10 I_9) → P53 I_9) → (if r_8 = 2 then (w_Runner_runStatement v3_3 a2 I_4 (fun I_11 => P53 I_11)) else P53 I_4)))))) → P11 v3_3 I_4) → P11 0 I_2))
theorem dyX7_runAll_0 : decode cX7_runAll 0 = .ok (.aload_n 0, 1) := by decide +kernel
theorem dyX7_runAll_1 : decode cX7_runAll 1 = .ok (.invokevirtual 56, 3) := by decide +kernel
theorem dyX7_runAll_4 : decode cX7_runAll 4 = .ok (.aload_n 0, 1) := by decide +kernel
theorem dyX7_runAll_5 : decode cX7_runAll 5 = .ok (.aload_n 1, 1) := by decide +kernel
theorem dyX7_runAll_6 : decode cX7_runAll 6 = .ok (.invokevirtual 59, 3) := by decide +kernel
theorem dyX7_runAll_9 : decode cX7_runAll 9 = .ok (.iconst 0, 1) := by decide +kernel
theorem dyX7_runAll_10 : decode cX7_runAll 10 = .ok (.istore_n 3, 1) := by decide +kernel
theorem dyX7_runAll_11 : decode cX7_runAll 11 = .ok (.iload_n 3, 1) := by decide +kernel
theorem dyX7_runAll_12 : decode cX7_runAll 12 = .ok (.aload_n 0, 1) := by decide +kernel
theorem dyX7_runAll_13 : decode cX7_runAll 13 = .ok (.getfield 48, 3) := by decide +kernel
theorem dyX7_runAll_16 : decode cX7_runAll 16 = .ok (.getfield 63, 3) := by decide +kernel
theorem dyX7_runAll_19 : decode cX7_runAll 19 = .ok (.if_icmp .ge 40, 3) := by decide +kernel
theorem dyX7_runAll_22 : decode cX7_runAll 22 = .ok (.aload_n 0, 1) := by decide +kernel
theorem dyX7_runAll_23 : decode cX7_runAll 23 = .ok (.getfield 44, 3) := by decide +kernel
theorem dyX7_runAll_26 : decode cX7_runAll 26 = .ok (.getfield 69, 3) := by decide +kernel
theorem dyX7_runAll_29 : decode cX7_runAll 29 = .ok (.aload_n 0, 1) := by decide +kernel
theorem dyX7_runAll_30 : decode cX7_runAll 30 = .ok (.getfield 48, 3) := by decide +kernel
theorem dyX7_runAll_33 : decode cX7_runAll 33 = .ok (.getfield 74, 3) := by decide +kernel
theorem dyX7_runAll_36 : decode cX7_runAll 36 = .ok (.iload_n 3, 1) := by decide +kernel
theorem dyX7_runAll_37 : decode cX7_runAll 37 = .ok (.invokevirtual 52, 3) := by decide +kernel
theorem dyX7_runAll_40 : decode cX7_runAll 40 = .ok (.invokevirtual 52, 3) := by decide +kernel
theorem dyX7_runAll_43 : decode cX7_runAll 43 = .ok (.iconst 2, 1) := by decide +kernel
theorem dyX7_runAll_44 : decode cX7_runAll 44 = .ok (.if_icmp .ne 9, 3) := by decide +kernel
theorem dyX7_runAll_47 : decode cX7_runAll 47 = .ok (.aload_n 0, 1) := by decide +kernel
theorem dyX7_runAll_48 : decode cX7_runAll 48 = .ok (.iload_n 3, 1) := by decide +kernel
theorem dyX7_runAll_49 : decode cX7_runAll 49 = .ok (.iload_n 2, 1) := by decide +kernel
theorem dyX7_runAll_50 : decode cX7_runAll 50 = .ok (.invokevirtual 77, 3) := by decide +kernel
theorem dyX7_runAll_53 : decode cX7_runAll 53 = .ok (.iinc 3 1, 3) := by decide +kernel
theorem dyX7_runAll_56 : decode cX7_runAll 56 = .ok (.goto (-45), 3) := by decide +kernel
theorem dyX7_runAll_59 : decode cX7_runAll 59 = .ok (.aload_n 0, 1) := by decide +kernel
theorem dyX7_runAll_60 : decode cX7_runAll 60 = .ok (.iconst 0, 1) := by decide +kernel
theorem dyX7_runAll_61 : decode cX7_runAll 61 = .ok (.aload_n 0, 1) := by decide +kernel
theorem dyX7_runAll_62 : decode cX7_runAll 62 = .ok (.getfield 48, 3) := by decide +kernel
theorem dyX7_runAll_65 : decode cX7_runAll 65 = .ok (.getfield 63, 3) := by decide +kernel
theorem dyX7_runAll_68 : decode cX7_runAll 68 = .ok (.invokevirtual 81, 3) := by decide +kernel
theorem dyX7_runAll_71 : decode cX7_runAll 71 = .ok (.aload_n 0, 1) := by decide +kernel
theorem dyX7_runAll_72 : decode cX7_runAll 72 = .ok (.invokevirtual 84, 3) := by decide +kernel
theorem dyX7_runAll_75 : decode cX7_runAll 75 = .ok (.return_, 1) := by decide +kernel
theorem zsg_yX7_runAll : yX7_runAll.cls = RX7 ∧ yX7_runAll.cls ≠ "java/lang/invoke/MethodHandle" ∧ yX7_runAll.cls ≠ "java/lang/invoke/VarHandle" ∧ (parseMethodDescriptor yX7_runAll.desc).map (fun d => d.parameters.length) = some 2 := by decide +kernel
set_option maxRecDepth 20000 in
theorem c_Runner_runAll {l : Launch} {D : va_G} {B : Nat} {cA : Nat → ClassId} {ad : Nat → Nat} {S : List zC} (hS : zOkX S) {a1 : Nat} {a2 : Int32} {I : zI} {K : zI → Prop} (ha1 : zIsMoment S a1) (h : w_Runner_runAll a1 a2 I K) : Met l yX7_runAll (zws yX7_runAll cX7_runAll 4 none) (zrm 4 96) (zPc D B cA ad [.ref (B + 69), .ref (B + a1), .int a2] S I) (zQc D B cA (zqV S K)) 0 0 (fun q => B ≤ q) := by
  refine zm_of (cc := cX7_runAll) (maxL := 4) (ret := none) (by decide +kernel) rfl (Nat.le_of_ble_eq_true rfl) trivial ?_
  intro p e s m args below meth c C _
  unfold w_Runner_runAll at h
  show zX p l e (zrm 4 96) s m args below meth c (MQ below (zQc D B cA (zqV S K)) args s 0 0 (fun q => B ≤ q)) D B cA 4 0 0 S I [(0, .ref (B + 69)), (1, .ref (B + a1)), (2, .int a2)] [] 0
  refine zr_aload_n C dyX7_runAll_0 rfl 0 rfl ?_
  refine zv_7_56 C hS (st := []) h ⟨Nat.le_of_ble_eq_true rfl, Nat.le_of_ble_eq_true rfl⟩ (Nat.le_of_ble_eq_true rfl) dyX7_runAll_1 (fun I_1 h => ?_)
  refine zr_aload_n C dyX7_runAll_4 rfl 0 rfl ?_
  refine zr_aload_n C dyX7_runAll_5 rfl 1 rfl ?_
  refine zv_7_59 C hS ha1 (st := []) h ⟨Nat.le_of_ble_eq_true rfl, Nat.le_of_ble_eq_true rfl⟩ (Nat.le_of_ble_eq_true rfl) dyX7_runAll_6 (fun I_2 h => ?_)
  refine zr_iconst C dyX7_runAll_9 zc_i_0 ?_
  refine zr_istore_n C dyX7_runAll_10 rfl (Nat.le_of_ble_eq_true rfl) (lv2 := [(3, .int 0), (0, .ref (B + 69)), (1, .ref (B + a1)), (2, .int a2)]) rfl ?_
  refine zjn (h (fun (v3_3 : Int32) (I_4 : zI) => zX p l e (zrm 4 96) s m args below meth c (MQ below (zQc D B cA (zqV S K)) args s 0 0 (fun q => B ≤ q)) D B cA 4 0 0 S I_4 [(3, .int v3_3), (0, .ref (B + 69)), (2, .int a2)] [] 11) (fun v3_3 I_4 h => ?_)) (fun h => ?_)
  · refine zr_iload_n C dyX7_runAll_11 rfl 0 rfl ?_
    refine zr_aload_n C dyX7_runAll_12 rfl 1 rfl ?_
    refine zg_7_48 C hS dyX7_runAll_13 ?_
    refine zg_7_63 C hS dyX7_runAll_16 ?_
    refine zr_icmp_ge C dyX7_runAll_19 (tgt := 59) (by decide) (fun hc_13 => ?_) (fun hc_13 => ?_)
    · replace h := zif_pos hc_13 h
      refine zr_aload_n C dyX7_runAll_59 rfl 1 rfl ?_
      refine zr_iconst C dyX7_runAll_60 zc_i_0 ?_
      refine zr_aload_n C dyX7_runAll_61 rfl 1 rfl ?_
      refine zg_7_48 C hS dyX7_runAll_62 ?_
      refine zg_7_63 C hS dyX7_runAll_65 ?_
      refine zv_7_81 C hS (st := []) h ⟨Nat.le_of_ble_eq_true rfl, Nat.le_of_ble_eq_true rfl⟩ (Nat.le_of_ble_eq_true rfl) dyX7_runAll_68 (fun I_5 h => ?_)
      refine zr_aload_n C dyX7_runAll_71 rfl 1 rfl ?_
      refine zv_7_84 C hS (st := []) h ⟨Nat.le_of_ble_eq_true rfl, Nat.le_of_ble_eq_true rfl⟩ (Nat.le_of_ble_eq_true rfl) dyX7_runAll_72 (fun I_6 h => ?_)
      exact zr_vret C rfl dyX7_runAll_75 ⟨rfl, rfl, h⟩
    · replace h := zif_neg hc_13 h
      refine zr_aload_n C dyX7_runAll_22 rfl 1 rfl ?_
      refine zg_7_44 C hS dyX7_runAll_23 ?_
      refine zg_7_69 C hS dyX7_runAll_26 ?_
      refine zr_aload_n C dyX7_runAll_29 rfl 1 rfl ?_
      refine zg_7_48 C hS dyX7_runAll_30 ?_
      refine zg_7_74 C hS dyX7_runAll_33 ?_
      refine zr_iload_n C dyX7_runAll_36 rfl 0 rfl ?_
      refine zv_7_52 C hS (zIsRow.of hS zir_44) (st := [.ref (B + 25)]) h ⟨Nat.le_of_ble_eq_true rfl, Nat.le_of_ble_eq_true rfl⟩ (Nat.le_of_ble_eq_true rfl) dyX7_runAll_37 (fun r_7 h => ?_)
      refine zv_7_52 C hS (zIsRow.of hS zir_25) (st := []) h ⟨Nat.le_of_ble_eq_true rfl, Nat.le_of_ble_eq_true rfl⟩ (Nat.le_of_ble_eq_true rfl) dyX7_runAll_40 (fun r_8 h => ?_)
      refine zr_iconst C dyX7_runAll_43 zc_i_2 ?_
      refine zjn (h (fun (I_9 : zI) => zX p l e (zrm 4 96) s m args below meth c (MQ below (zQc D B cA (zqV S K)) args s 0 0 (fun q => B ≤ q)) D B cA 4 0 0 S I_9 [(3, .int v3_3), (0, .ref (B + 69)), (2, .int a2)] [] 53) (fun I_9 h => ?_)) (fun h => ?_)
      · refine zn_iinc C (fun v3_10 => [(3, .int v3_10), (0, .ref (B + 69)), (2, .int a2)]) dyX7_runAll_53 0 rfl zc_i_1 (Nat.le_of_ble_eq_true rfl) (fun _ => rfl) (fun v3_10 ev3_10 => ?_)
        replace h := h v3_10 ev3_10
        refine zr_goto C dyX7_runAll_56 (tgt := 11) (by decide) ?_
        exact h
      refine zr_icmp_ne C dyX7_runAll_44 (tgt := 53) (by decide) (fun hc_12 => ?_) (fun hc_12 => ?_)
      · replace h := zif_neg hc_12 h
        exact h
      · replace h := zif_pos hc_12 h
        refine zr_aload_n C dyX7_runAll_47 rfl 1 rfl ?_
        refine zr_iload_n C dyX7_runAll_48 rfl 0 rfl ?_
        refine zr_iload_n C dyX7_runAll_49 rfl 2 rfl ?_
        refine zv_7_77 C hS (st := []) h ⟨Nat.le_of_ble_eq_true rfl, Nat.le_of_ble_eq_true rfl⟩ (Nat.le_of_ble_eq_true rfl) dyX7_runAll_50 (fun I_11 h => ?_)
        exact h
  refine zr_sub (lv2 := [(3, .int 0), (0, .ref (B + 69)), (2, .int a2)]) [0, 1, 3] rfl ?_
  exact h
def w_Tokens_has (k : Nat) (a1 : Int32) (I : zI) (K : Int32 → Prop) : Prop :=
  (if a1 < 0 then K 0 else (if (I.1 k 5) ≤ a1 then K 0 else K 1))
theorem dyX8_has_0 : decode cX8_has 0 = .ok (.iload_n 1, 1) := by decide +kernel
theorem dyX8_has_1 : decode cX8_has 1 = .ok (.ifCond .lt 15, 3) := by decide +kernel
theorem dyX8_has_4 : decode cX8_has 4 = .ok (.iload_n 1, 1) := by decide +kernel
theorem dyX8_has_5 : decode cX8_has 5 = .ok (.aload_n 0, 1) := by decide +kernel
theorem dyX8_has_6 : decode cX8_has 6 = .ok (.getfield 32, 3) := by decide +kernel
theorem dyX8_has_9 : decode cX8_has 9 = .ok (.if_icmp .ge 7, 3) := by decide +kernel
theorem dyX8_has_12 : decode cX8_has 12 = .ok (.iconst 1, 1) := by decide +kernel
theorem dyX8_has_13 : decode cX8_has 13 = .ok (.goto 4, 3) := by decide +kernel
theorem dyX8_has_16 : decode cX8_has 16 = .ok (.iconst 0, 1) := by decide +kernel
theorem dyX8_has_17 : decode cX8_has 17 = .ok (.ireturn, 1) := by decide +kernel
theorem zsg_yX8_has : yX8_has.cls = RX8 ∧ yX8_has.cls ≠ "java/lang/invoke/MethodHandle" ∧ yX8_has.cls ≠ "java/lang/invoke/VarHandle" ∧ (parseMethodDescriptor yX8_has.desc).map (fun d => d.parameters.length) = some 1 := by decide +kernel
set_option maxRecDepth 20000 in
theorem c_Tokens_has {l : Launch} {D : va_G} {B : Nat} {cA : Nat → ClassId} {ad : Nat → Nat} {S : List zC} (hS : zOkX S) {k : Nat} {a1 : Int32} {I : zI} {K : Int32 → Prop} (hk : zIsTokens S k) (h : w_Tokens_has k a1 I K) : Met l yX8_has (zws yX8_has cX8_has 2 (some .boolean)) (zrm 0 0) (zPc D B cA ad [.ref (B + k), .int a1] S I) (zQc D B cA (zpI S I K)) 0 0 (fun q => B ≤ q) := by
  refine zm_of (cc := cX8_has) (maxL := 2) (ret := (some .boolean)) (by decide +kernel) rfl (Nat.le_of_ble_eq_true rfl) trivial ?_
  intro p e s m args below meth c C _
  unfold w_Tokens_has at h
  show zX p l e (zrm 0 0) s m args below meth c (MQ below (zQc D B cA (zpI S I K)) args s 0 0 (fun q => B ≤ q)) D B cA 2 0 0 S I [(0, .ref (B + k)), (1, .int a1)] [] 0
  refine zr_iload_n C dyX8_has_0 rfl 1 rfl ?_
  refine zr_if_lt C dyX8_has_1 (tgt := 16) (by decide) (fun hc_2 => ?_) (fun hc_2 => ?_)
  · replace h := zif_pos hc_2 h
    refine zr_iconst C dyX8_has_16 zc_i_0 ?_
    exact zr_zret C rfl (zb.nar zb_0) dyX8_has_17 ⟨rfl, rfl, _, rfl, h⟩
  · replace h := zif_neg hc_2 h
    refine zr_iload_n C dyX8_has_4 rfl 1 rfl ?_
    refine zr_aload_n C dyX8_has_5 rfl 0 rfl ?_
    refine zg_8_32 C hk dyX8_has_6 ?_
    refine zr_icmp_ge C dyX8_has_9 (tgt := 16) (by decide) (fun hc_1 => ?_) (fun hc_1 => ?_)
    · replace h := zif_pos hc_1 h
      refine zr_iconst C dyX8_has_16 zc_i_0 ?_
      exact zr_zret C rfl (zb.nar zb_0) dyX8_has_17 ⟨rfl, rfl, _, rfl, h⟩
    · replace h := zif_neg hc_1 h
      refine zr_iconst C dyX8_has_12 zc_i_1 ?_
      refine zr_goto C dyX8_has_13 (tgt := 17) (by decide) ?_
      exact zr_zret C rfl (zb.nar zb_1) dyX8_has_17 ⟨rfl, rfl, _, rfl, h⟩
def w_Tokens_isBlank (a0 : Int32) (I : zI) (K : Int32 → Prop) : Prop :=
  (if a0 = 9 then K 1 else (if a0 = 10 then K 1 else (if a0 = 13 then K 1 else (if a0 = 32 then K 1 else K 0))))
theorem dyX8_isBlank_0 : decode cX8_isBlank 0 = .ok (.iload_n 0, 1) := by decide +kernel
theorem dyX8_isBlank_1 : decode cX8_isBlank 1 = .ok (.bipush 9, 2) := by decide +kernel
theorem dyX8_isBlank_3 : decode cX8_isBlank 3 = .ok (.if_icmp .eq 21, 3) := by decide +kernel
theorem dyX8_isBlank_6 : decode cX8_isBlank 6 = .ok (.iload_n 0, 1) := by decide +kernel
theorem dyX8_isBlank_7 : decode cX8_isBlank 7 = .ok (.bipush 10, 2) := by decide +kernel
theorem dyX8_isBlank_9 : decode cX8_isBlank 9 = .ok (.if_icmp .eq 15, 3) := by decide +kernel
theorem dyX8_isBlank_12 : decode cX8_isBlank 12 = .ok (.iload_n 0, 1) := by decide +kernel
theorem dyX8_isBlank_13 : decode cX8_isBlank 13 = .ok (.bipush 13, 2) := by decide +kernel
theorem dyX8_isBlank_15 : decode cX8_isBlank 15 = .ok (.if_icmp .eq 9, 3) := by decide +kernel
theorem dyX8_isBlank_18 : decode cX8_isBlank 18 = .ok (.iload_n 0, 1) := by decide +kernel
theorem dyX8_isBlank_19 : decode cX8_isBlank 19 = .ok (.bipush 32, 2) := by decide +kernel
theorem dyX8_isBlank_21 : decode cX8_isBlank 21 = .ok (.if_icmp .ne 7, 3) := by decide +kernel
theorem dyX8_isBlank_24 : decode cX8_isBlank 24 = .ok (.iconst 1, 1) := by decide +kernel
theorem dyX8_isBlank_25 : decode cX8_isBlank 25 = .ok (.goto 4, 3) := by decide +kernel
theorem dyX8_isBlank_28 : decode cX8_isBlank 28 = .ok (.iconst 0, 1) := by decide +kernel
theorem dyX8_isBlank_29 : decode cX8_isBlank 29 = .ok (.ireturn, 1) := by decide +kernel
theorem zsg_yX8_isBlank : yX8_isBlank.cls ≠ "java/lang/invoke/MethodHandle" ∧ yX8_isBlank.cls ≠ "java/lang/invoke/VarHandle" ∧ (parseMethodDescriptor yX8_isBlank.desc).map (fun d => d.parameters.length) = some 1 := by decide +kernel
set_option maxRecDepth 20000 in
theorem c_Tokens_isBlank {l : Launch} {D : va_G} {B : Nat} {cA : Nat → ClassId} {ad : Nat → Nat} {S : List zC} (hS : zOkX S) {a0 : Int32} {I : zI} {K : Int32 → Prop}  (h : w_Tokens_isBlank a0 I K) : Met l yX8_isBlank (zws yX8_isBlank cX8_isBlank 1 (some .boolean)) (zrm 0 0) (zPc D B cA ad [.int a0] S I) (zQc D B cA (zpI S I K)) 0 0 (fun q => B ≤ q) := by
  refine zm_of (cc := cX8_isBlank) (maxL := 1) (ret := (some .boolean)) (by decide +kernel) rfl (Nat.le_of_ble_eq_true rfl) trivial ?_
  intro p e s m args below meth c C _
  unfold w_Tokens_isBlank at h
  show zX p l e (zrm 0 0) s m args below meth c (MQ below (zQc D B cA (zpI S I K)) args s 0 0 (fun q => B ≤ q)) D B cA 1 0 0 S I [(0, .int a0)] [] 0
  refine zr_iload_n C dyX8_isBlank_0 rfl 0 rfl ?_
  refine zr_bipush C dyX8_isBlank_1 zc_b_9 ?_
  refine zr_icmp_eq C dyX8_isBlank_3 (tgt := 24) (by decide) (fun hc_4 => ?_) (fun hc_4 => ?_)
  · replace h := zif_pos hc_4 h
    refine zr_iconst C dyX8_isBlank_24 zc_i_1 ?_
    refine zr_goto C dyX8_isBlank_25 (tgt := 29) (by decide) ?_
    exact zr_zret C rfl (zb.nar zb_1) dyX8_isBlank_29 ⟨rfl, rfl, _, rfl, h⟩
  · replace h := zif_neg hc_4 h
    refine zr_iload_n C dyX8_isBlank_6 rfl 0 rfl ?_
    refine zr_bipush C dyX8_isBlank_7 zc_b_10 ?_
    refine zr_icmp_eq C dyX8_isBlank_9 (tgt := 24) (by decide) (fun hc_3 => ?_) (fun hc_3 => ?_)
    · replace h := zif_pos hc_3 h
      refine zr_iconst C dyX8_isBlank_24 zc_i_1 ?_
      refine zr_goto C dyX8_isBlank_25 (tgt := 29) (by decide) ?_
      exact zr_zret C rfl (zb.nar zb_1) dyX8_isBlank_29 ⟨rfl, rfl, _, rfl, h⟩
    · replace h := zif_neg hc_3 h
      refine zr_iload_n C dyX8_isBlank_12 rfl 0 rfl ?_
      refine zr_bipush C dyX8_isBlank_13 zc_b_13 ?_
      refine zr_icmp_eq C dyX8_isBlank_15 (tgt := 24) (by decide) (fun hc_2 => ?_) (fun hc_2 => ?_)
      · replace h := zif_pos hc_2 h
        refine zr_iconst C dyX8_isBlank_24 zc_i_1 ?_
        refine zr_goto C dyX8_isBlank_25 (tgt := 29) (by decide) ?_
        exact zr_zret C rfl (zb.nar zb_1) dyX8_isBlank_29 ⟨rfl, rfl, _, rfl, h⟩
      · replace h := zif_neg hc_2 h
        refine zr_iload_n C dyX8_isBlank_18 rfl 0 rfl ?_
        refine zr_bipush C dyX8_isBlank_19 zc_b_32 ?_
        refine zr_icmp_ne C dyX8_isBlank_21 (tgt := 28) (by decide) (fun hc_1 => ?_) (fun hc_1 => ?_)
        · replace h := zif_neg hc_1 h
          refine zr_iconst C dyX8_isBlank_28 zc_i_0 ?_
          exact zr_zret C rfl (zb.nar zb_0) dyX8_isBlank_29 ⟨rfl, rfl, _, rfl, h⟩
        · replace h := zif_pos hc_1 h
          refine zr_iconst C dyX8_isBlank_24 zc_i_1 ?_
          refine zr_goto C dyX8_isBlank_25 (tgt := 29) (by decide) ?_
          exact zr_zret C rfl (zb.nar zb_1) dyX8_isBlank_29 ⟨rfl, rfl, _, rfl, h⟩
def w_Tokens_signOf (a0 : Int32) (I : zI) (K : Int32 → Prop) : Prop :=
  (if a0 = 40 then K 6 else (if a0 = 41 then K 7 else (if a0 = 42 then K 5 else (if a0 = 43 then K 4 else (if a0 = 59 then K 3 else (if a0 = 61 then K 2 else (if a0 = 123 then K 8 else (if a0 = 125 then K 9 else K 11))))))))
theorem dyX8_signOf_0 : decode cX8_signOf 0 = .ok (.iload_n 0, 1) := by decide +kernel
theorem dyX8_signOf_1 : decode cX8_signOf 1 = .ok (.lookupswitch 95 #[(40, 83), (41, 86), (42, 81), (43, 79), (59, 77), (61, 75), (123, 89), (125, 92)], 75) := by decide +kernel
theorem dyX8_signOf_76 : decode cX8_signOf 76 = .ok (.iconst 2, 1) := by decide +kernel
theorem dyX8_signOf_77 : decode cX8_signOf 77 = .ok (.ireturn, 1) := by decide +kernel
theorem dyX8_signOf_78 : decode cX8_signOf 78 = .ok (.iconst 3, 1) := by decide +kernel
theorem dyX8_signOf_79 : decode cX8_signOf 79 = .ok (.ireturn, 1) := by decide +kernel
theorem dyX8_signOf_80 : decode cX8_signOf 80 = .ok (.iconst 4, 1) := by decide +kernel
theorem dyX8_signOf_81 : decode cX8_signOf 81 = .ok (.ireturn, 1) := by decide +kernel
theorem dyX8_signOf_82 : decode cX8_signOf 82 = .ok (.iconst 5, 1) := by decide +kernel
theorem dyX8_signOf_83 : decode cX8_signOf 83 = .ok (.ireturn, 1) := by decide +kernel
theorem dyX8_signOf_84 : decode cX8_signOf 84 = .ok (.bipush 6, 2) := by decide +kernel
theorem dyX8_signOf_86 : decode cX8_signOf 86 = .ok (.ireturn, 1) := by decide +kernel
theorem dyX8_signOf_87 : decode cX8_signOf 87 = .ok (.bipush 7, 2) := by decide +kernel
theorem dyX8_signOf_89 : decode cX8_signOf 89 = .ok (.ireturn, 1) := by decide +kernel
theorem dyX8_signOf_90 : decode cX8_signOf 90 = .ok (.bipush 8, 2) := by decide +kernel
theorem dyX8_signOf_92 : decode cX8_signOf 92 = .ok (.ireturn, 1) := by decide +kernel
theorem dyX8_signOf_93 : decode cX8_signOf 93 = .ok (.bipush 9, 2) := by decide +kernel
theorem dyX8_signOf_95 : decode cX8_signOf 95 = .ok (.ireturn, 1) := by decide +kernel
theorem dyX8_signOf_96 : decode cX8_signOf 96 = .ok (.bipush 11, 2) := by decide +kernel
theorem dyX8_signOf_98 : decode cX8_signOf 98 = .ok (.ireturn, 1) := by decide +kernel
theorem zsg_yX8_signOf : yX8_signOf.cls ≠ "java/lang/invoke/MethodHandle" ∧ yX8_signOf.cls ≠ "java/lang/invoke/VarHandle" ∧ (parseMethodDescriptor yX8_signOf.desc).map (fun d => d.parameters.length) = some 1 := by decide +kernel
set_option maxRecDepth 20000 in
theorem c_Tokens_signOf {l : Launch} {D : va_G} {B : Nat} {cA : Nat → ClassId} {ad : Nat → Nat} {S : List zC} (hS : zOkX S) {a0 : Int32} {I : zI} {K : Int32 → Prop}  (h : w_Tokens_signOf a0 I K) : Met l yX8_signOf (zws yX8_signOf cX8_signOf 1 (some .int)) (zrm 0 0) (zPc D B cA ad [.int a0] S I) (zQc D B cA (zpI S I K)) 0 0 (fun q => B ≤ q) := by
  refine zm_of (cc := cX8_signOf) (maxL := 1) (ret := (some .int)) (by decide +kernel) rfl (Nat.le_of_ble_eq_true rfl) trivial ?_
  intro p e s m args below meth c C _
  unfold w_Tokens_signOf at h
  show zX p l e (zrm 0 0) s m args below meth c (MQ below (zQc D B cA (zpI S I K)) args s 0 0 (fun q => B ≤ q)) D B cA 1 0 0 S I [(0, .int a0)] [] 0
  refine zr_iload_n C dyX8_signOf_0 rfl 0 rfl ?_
  by_cases hc_1 : a0 = 40
  · replace h := zif_pos hc_1 h
    refine zr_lookup C dyX8_signOf_1 (by decide) (off := 83) (by rw [hc_1]; decide) (tgt := 84) (by decide) ?_
    refine zr_bipush C dyX8_signOf_84 zc_b_6 ?_
    exact zr_iret C rfl dyX8_signOf_86 ⟨rfl, rfl, _, rfl, h⟩
  replace h := zif_neg hc_1 h
  by_cases hc_2 : a0 = 41
  · replace h := zif_pos hc_2 h
    refine zr_lookup C dyX8_signOf_1 (by decide) (off := 86) (by rw [hc_2]; decide) (tgt := 87) (by decide) ?_
    refine zr_bipush C dyX8_signOf_87 zc_b_7 ?_
    exact zr_iret C rfl dyX8_signOf_89 ⟨rfl, rfl, _, rfl, h⟩
  replace h := zif_neg hc_2 h
  by_cases hc_3 : a0 = 42
  · replace h := zif_pos hc_3 h
    refine zr_lookup C dyX8_signOf_1 (by decide) (off := 81) (by rw [hc_3]; decide) (tgt := 82) (by decide) ?_
    refine zr_iconst C dyX8_signOf_82 zc_i_5 ?_
    exact zr_iret C rfl dyX8_signOf_83 ⟨rfl, rfl, _, rfl, h⟩
  replace h := zif_neg hc_3 h
  by_cases hc_4 : a0 = 43
  · replace h := zif_pos hc_4 h
    refine zr_lookup C dyX8_signOf_1 (by decide) (off := 79) (by rw [hc_4]; decide) (tgt := 80) (by decide) ?_
    refine zr_iconst C dyX8_signOf_80 zc_i_4 ?_
    exact zr_iret C rfl dyX8_signOf_81 ⟨rfl, rfl, _, rfl, h⟩
  replace h := zif_neg hc_4 h
  by_cases hc_5 : a0 = 59
  · replace h := zif_pos hc_5 h
    refine zr_lookup C dyX8_signOf_1 (by decide) (off := 77) (by rw [hc_5]; decide) (tgt := 78) (by decide) ?_
    refine zr_iconst C dyX8_signOf_78 zc_i_3 ?_
    exact zr_iret C rfl dyX8_signOf_79 ⟨rfl, rfl, _, rfl, h⟩
  replace h := zif_neg hc_5 h
  by_cases hc_6 : a0 = 61
  · replace h := zif_pos hc_6 h
    refine zr_lookup C dyX8_signOf_1 (by decide) (off := 75) (by rw [hc_6]; decide) (tgt := 76) (by decide) ?_
    refine zr_iconst C dyX8_signOf_76 zc_i_2 ?_
    exact zr_iret C rfl dyX8_signOf_77 ⟨rfl, rfl, _, rfl, h⟩
  replace h := zif_neg hc_6 h
  by_cases hc_7 : a0 = 123
  · replace h := zif_pos hc_7 h
    refine zr_lookup C dyX8_signOf_1 (by decide) (off := 89) (by rw [hc_7]; decide) (tgt := 90) (by decide) ?_
    refine zr_bipush C dyX8_signOf_90 zc_b_8 ?_
    exact zr_iret C rfl dyX8_signOf_92 ⟨rfl, rfl, _, rfl, h⟩
  replace h := zif_neg hc_7 h
  by_cases hc_8 : a0 = 125
  · replace h := zif_pos hc_8 h
    refine zr_lookup C dyX8_signOf_1 (by decide) (off := 92) (by rw [hc_8]; decide) (tgt := 93) (by decide) ?_
    refine zr_bipush C dyX8_signOf_93 zc_b_9 ?_
    exact zr_iret C rfl dyX8_signOf_95 ⟨rfl, rfl, _, rfl, h⟩
  replace h := zif_neg hc_8 h
  refine zr_lookup C dyX8_signOf_1 (by decide) (off := 95) (by show Op.lookupswitch.offset [(40, 83), (41, 86), (42, 81), (43, 79), (59, 77), (61, 75), (123, 89), (125, 92)] 95 a0.toInt = _; rw [lv_osw hc_1 (by decide), lv_osw hc_2 (by decide), lv_osw hc_3 (by decide), lv_osw hc_4 (by decide), lv_osw hc_5 (by decide), lv_osw hc_6 (by decide), lv_osw hc_7 (by decide), lv_osw hc_8 (by decide)]; rfl) (tgt := 96) (by decide) ?_
  refine zr_bipush C dyX8_signOf_96 zc_b_11 ?_
  exact zr_iret C rfl dyX8_signOf_98 ⟨rfl, rfl, _, rfl, h⟩
def w_Tokens_isLetter (a0 : Int32) (I : zI) (K : Int32 → Prop) : Prop :=
  (if a0 < 97 then K 0 else (if 122 < a0 then K 0 else K 1))
theorem dyX8_isLetter_0 : decode cX8_isLetter 0 = .ok (.iload_n 0, 1) := by decide +kernel
theorem dyX8_isLetter_1 : decode cX8_isLetter 1 = .ok (.bipush 97, 2) := by decide +kernel
theorem dyX8_isLetter_3 : decode cX8_isLetter 3 = .ok (.if_icmp .lt 13, 3) := by decide +kernel
theorem dyX8_isLetter_6 : decode cX8_isLetter 6 = .ok (.iload_n 0, 1) := by decide +kernel
theorem dyX8_isLetter_7 : decode cX8_isLetter 7 = .ok (.bipush 122, 2) := by decide +kernel
theorem dyX8_isLetter_9 : decode cX8_isLetter 9 = .ok (.if_icmp .gt 7, 3) := by decide +kernel
theorem dyX8_isLetter_12 : decode cX8_isLetter 12 = .ok (.iconst 1, 1) := by decide +kernel
theorem dyX8_isLetter_13 : decode cX8_isLetter 13 = .ok (.goto 4, 3) := by decide +kernel
theorem dyX8_isLetter_16 : decode cX8_isLetter 16 = .ok (.iconst 0, 1) := by decide +kernel
theorem dyX8_isLetter_17 : decode cX8_isLetter 17 = .ok (.ireturn, 1) := by decide +kernel
theorem zsg_yX8_isLetter : yX8_isLetter.cls ≠ "java/lang/invoke/MethodHandle" ∧ yX8_isLetter.cls ≠ "java/lang/invoke/VarHandle" ∧ (parseMethodDescriptor yX8_isLetter.desc).map (fun d => d.parameters.length) = some 1 := by decide +kernel
set_option maxRecDepth 20000 in
theorem c_Tokens_isLetter {l : Launch} {D : va_G} {B : Nat} {cA : Nat → ClassId} {ad : Nat → Nat} {S : List zC} (hS : zOkX S) {a0 : Int32} {I : zI} {K : Int32 → Prop}  (h : w_Tokens_isLetter a0 I K) : Met l yX8_isLetter (zws yX8_isLetter cX8_isLetter 1 (some .boolean)) (zrm 0 0) (zPc D B cA ad [.int a0] S I) (zQc D B cA (zpI S I K)) 0 0 (fun q => B ≤ q) := by
  refine zm_of (cc := cX8_isLetter) (maxL := 1) (ret := (some .boolean)) (by decide +kernel) rfl (Nat.le_of_ble_eq_true rfl) trivial ?_
  intro p e s m args below meth c C _
  unfold w_Tokens_isLetter at h
  show zX p l e (zrm 0 0) s m args below meth c (MQ below (zQc D B cA (zpI S I K)) args s 0 0 (fun q => B ≤ q)) D B cA 1 0 0 S I [(0, .int a0)] [] 0
  refine zr_iload_n C dyX8_isLetter_0 rfl 0 rfl ?_
  refine zr_bipush C dyX8_isLetter_1 zc_b_97 ?_
  refine zr_icmp_lt C dyX8_isLetter_3 (tgt := 16) (by decide) (fun hc_2 => ?_) (fun hc_2 => ?_)
  · replace h := zif_pos hc_2 h
    refine zr_iconst C dyX8_isLetter_16 zc_i_0 ?_
    exact zr_zret C rfl (zb.nar zb_0) dyX8_isLetter_17 ⟨rfl, rfl, _, rfl, h⟩
  · replace h := zif_neg hc_2 h
    refine zr_iload_n C dyX8_isLetter_6 rfl 0 rfl ?_
    refine zr_bipush C dyX8_isLetter_7 zc_b_122 ?_
    refine zr_icmp_gt C dyX8_isLetter_9 (tgt := 16) (by decide) (fun hc_1 => ?_) (fun hc_1 => ?_)
    · replace h := zif_pos hc_1 h
      refine zr_iconst C dyX8_isLetter_16 zc_i_0 ?_
      exact zr_zret C rfl (zb.nar zb_0) dyX8_isLetter_17 ⟨rfl, rfl, _, rfl, h⟩
    · replace h := zif_neg hc_1 h
      refine zr_iconst C dyX8_isLetter_12 zc_i_1 ?_
      refine zr_goto C dyX8_isLetter_13 (tgt := 17) (by decide) ?_
      exact zr_zret C rfl (zb.nar zb_1) dyX8_isLetter_17 ⟨rfl, rfl, _, rfl, h⟩
def w_Tokens_isDigit (a0 : Int32) (I : zI) (K : Int32 → Prop) : Prop :=
  (if a0 < 48 then K 0 else (if 57 < a0 then K 0 else K 1))
theorem dyX8_isDigit_0 : decode cX8_isDigit 0 = .ok (.iload_n 0, 1) := by decide +kernel
theorem dyX8_isDigit_1 : decode cX8_isDigit 1 = .ok (.bipush 48, 2) := by decide +kernel
theorem dyX8_isDigit_3 : decode cX8_isDigit 3 = .ok (.if_icmp .lt 13, 3) := by decide +kernel
theorem dyX8_isDigit_6 : decode cX8_isDigit 6 = .ok (.iload_n 0, 1) := by decide +kernel
theorem dyX8_isDigit_7 : decode cX8_isDigit 7 = .ok (.bipush 57, 2) := by decide +kernel
theorem dyX8_isDigit_9 : decode cX8_isDigit 9 = .ok (.if_icmp .gt 7, 3) := by decide +kernel
theorem dyX8_isDigit_12 : decode cX8_isDigit 12 = .ok (.iconst 1, 1) := by decide +kernel
theorem dyX8_isDigit_13 : decode cX8_isDigit 13 = .ok (.goto 4, 3) := by decide +kernel
theorem dyX8_isDigit_16 : decode cX8_isDigit 16 = .ok (.iconst 0, 1) := by decide +kernel
theorem dyX8_isDigit_17 : decode cX8_isDigit 17 = .ok (.ireturn, 1) := by decide +kernel
theorem zsg_yX8_isDigit : yX8_isDigit.cls ≠ "java/lang/invoke/MethodHandle" ∧ yX8_isDigit.cls ≠ "java/lang/invoke/VarHandle" ∧ (parseMethodDescriptor yX8_isDigit.desc).map (fun d => d.parameters.length) = some 1 := by decide +kernel
set_option maxRecDepth 20000 in
theorem c_Tokens_isDigit {l : Launch} {D : va_G} {B : Nat} {cA : Nat → ClassId} {ad : Nat → Nat} {S : List zC} (hS : zOkX S) {a0 : Int32} {I : zI} {K : Int32 → Prop}  (h : w_Tokens_isDigit a0 I K) : Met l yX8_isDigit (zws yX8_isDigit cX8_isDigit 1 (some .boolean)) (zrm 0 0) (zPc D B cA ad [.int a0] S I) (zQc D B cA (zpI S I K)) 0 0 (fun q => B ≤ q) := by
  refine zm_of (cc := cX8_isDigit) (maxL := 1) (ret := (some .boolean)) (by decide +kernel) rfl (Nat.le_of_ble_eq_true rfl) trivial ?_
  intro p e s m args below meth c C _
  unfold w_Tokens_isDigit at h
  show zX p l e (zrm 0 0) s m args below meth c (MQ below (zQc D B cA (zpI S I K)) args s 0 0 (fun q => B ≤ q)) D B cA 1 0 0 S I [(0, .int a0)] [] 0
  refine zr_iload_n C dyX8_isDigit_0 rfl 0 rfl ?_
  refine zr_bipush C dyX8_isDigit_1 zc_b_48 ?_
  refine zr_icmp_lt C dyX8_isDigit_3 (tgt := 16) (by decide) (fun hc_2 => ?_) (fun hc_2 => ?_)
  · replace h := zif_pos hc_2 h
    refine zr_iconst C dyX8_isDigit_16 zc_i_0 ?_
    exact zr_zret C rfl (zb.nar zb_0) dyX8_isDigit_17 ⟨rfl, rfl, _, rfl, h⟩
  · replace h := zif_neg hc_2 h
    refine zr_iload_n C dyX8_isDigit_6 rfl 0 rfl ?_
    refine zr_bipush C dyX8_isDigit_7 zc_b_57 ?_
    refine zr_icmp_gt C dyX8_isDigit_9 (tgt := 16) (by decide) (fun hc_1 => ?_) (fun hc_1 => ?_)
    · replace h := zif_pos hc_1 h
      refine zr_iconst C dyX8_isDigit_16 zc_i_0 ?_
      exact zr_zret C rfl (zb.nar zb_0) dyX8_isDigit_17 ⟨rfl, rfl, _, rfl, h⟩
    · replace h := zif_neg hc_1 h
      refine zr_iconst C dyX8_isDigit_12 zc_i_1 ?_
      refine zr_goto C dyX8_isDigit_13 (tgt := 17) (by decide) ?_
      exact zr_zret C rfl (zb.nar zb_1) dyX8_isDigit_17 ⟨rfl, rfl, _, rfl, h⟩
theorem zv_8_36 {p : Program} {l : Launch} {e : Env} {R : Room} {s : State} {m : MethodId} {args : Array Value} {below : List Frame} {meth : Method} {c : Code} {Q : State → Prop} {D : va_G} {B : Nat} {cA : Nat → ClassId} {ad : Nat → Nat} {cc : ByteArray} {nL : Nat} {ret : Option FieldType} {S : List zC} {I : zI} {lv : List (Nat × Value)} {st : List Value} {pc : Nat} (C : zCx p s m args meth c cc nL RX8 ret D B cA ad) {K : Int32 → Prop} {xk : Nat} {xn : Nat} {xa1 : Int32} (hS : zOkX S) (xhk : zIsRow S xk xn) (h : w_Row_get xk xn xa1 I K) (hR : 0 + 1 ≤ R.frames ∧ 8 + (2 + 11) + (0) ≤ R.locals) (hw : (st.map fun v => v.category).sum ≤ 8) (hd : decode cc pc = .ok (.invokevirtual 36, 3)) (kk : ∀ v, K v → zX p l e R s m args below meth c Q D B cA nL 0 0 S I lv (.int v :: st) (pc + 3)) : zX p l e R s m args below meth c Q D B cA nL 0 0 S I lv (.int xa1 :: .ref (B + xk) :: st) pc :=
  have hf : 0 ≤ R.cells ∧ 0 ≤ R.slots := ⟨Nat.zero_le _, Nat.zero_le _⟩
  zc_VpI C (ci := 6) (q := (RX6, TX6, 1)) (k := xk) (fs := [some (some (xk + 1))]) (As := [.int xa1]) (st := st) rfl xhk.1 (c_Row_get hS xhk h) (zgV zk_ml_8_36 zk_im_yX6_get zk_se_yX6_get zk_in_6 zk_cd_yX6_get) zsg_yX6_get hR rfl rfl hw hd hf kk
theorem zv_8_61 {p : Program} {l : Launch} {e : Env} {R : Room} {s : State} {m : MethodId} {args : Array Value} {below : List Frame} {meth : Method} {c : Code} {Q : State → Prop} {D : va_G} {B : Nat} {cA : Nat → ClassId} {ad : Nat → Nat} {cc : ByteArray} {nL : Nat} {ret : Option FieldType} {S : List zC} {I : zI} {lv : List (Nat × Value)} {st : List Value} {pc : Nat} (C : zCx p s m args meth c cc nL RX8 ret D B cA ad) {K : Int32 → Prop} {xa0 : Int32} (hS : zOkX S)  (h : w_Tokens_isLetter xa0 I K) (hR : 0 + 1 ≤ R.frames ∧ 8 + (1 + 11) + (0) ≤ R.locals) (hw : (st.map fun v => v.category).sum ≤ 8) (hd : decode cc pc = .ok (.invokestatic 61, 3)) (kk : ∀ v, K v → zX p l e R s m args below meth c Q D B cA nL 0 0 S I lv (.int v :: st) (pc + 3)) : zX p l e R s m args below meth c Q D B cA nL 0 0 S I lv (.int xa0 :: st) pc :=
  have hf : 0 ≤ R.cells ∧ 0 ≤ R.slots := ⟨Nat.zero_le _, Nat.zero_le _⟩
  zc_SpI C (As := [.int xa0]) (st := st) (c_Tokens_isLetter hS h) (zgM zk_cd_yX8_isLetter) zk_ml_8_61 zk_st_yX8_isLetter zk_in_8 zsg_yX8_isLetter hR rfl rfl hw hd hf kk
theorem zv_8_64 {p : Program} {l : Launch} {e : Env} {R : Room} {s : State} {m : MethodId} {args : Array Value} {below : List Frame} {meth : Method} {c : Code} {Q : State → Prop} {D : va_G} {B : Nat} {cA : Nat → ClassId} {ad : Nat → Nat} {cc : ByteArray} {nL : Nat} {ret : Option FieldType} {S : List zC} {I : zI} {lv : List (Nat × Value)} {st : List Value} {pc : Nat} (C : zCx p s m args meth c cc nL RX8 ret D B cA ad) {K : Int32 → Prop} {xa0 : Int32} (hS : zOkX S)  (h : w_Tokens_isDigit xa0 I K) (hR : 0 + 1 ≤ R.frames ∧ 8 + (1 + 11) + (0) ≤ R.locals) (hw : (st.map fun v => v.category).sum ≤ 8) (hd : decode cc pc = .ok (.invokestatic 64, 3)) (kk : ∀ v, K v → zX p l e R s m args below meth c Q D B cA nL 0 0 S I lv (.int v :: st) (pc + 3)) : zX p l e R s m args below meth c Q D B cA nL 0 0 S I lv (.int xa0 :: st) pc :=
  have hf : 0 ≤ R.cells ∧ 0 ≤ R.slots := ⟨Nat.zero_le _, Nat.zero_le _⟩
  zc_SpI C (As := [.int xa0]) (st := st) (c_Tokens_isDigit hS h) (zgM zk_cd_yX8_isDigit) zk_ml_8_64 zk_st_yX8_isDigit zk_in_8 zsg_yX8_isDigit hR rfl rfl hw hd hf kk
def w_Tokens_runFrom (a0 : Nat) (a0n : Nat) (a1 : Int32) (a2 : Int32) (a3 : Int32) (I : zI) (K : Int32 → Prop) : Prop :=
  w_Row_get a0 a0n a2 I (fun r_1 => w_Tokens_isLetter r_1 I (fun r_2 => ∀ (P13 : Int32 → Prop), (∀ (v5_3 : Int32), ((if a3 ≤ v5_3 then K v5_3 else (if a1 ≤ (a2 + v5_3) then K v5_3 else (∀ (P63 : Prop), ((∀ v5_4, v5_4 = (v5_3 + 1) → P13 v5_4) → P63) → (if r_2 = 0 then (w_Row_get a0 a0n (a2 + v5_3) I (fun r_5 => w_Tokens_isDigit r_5 I (fun r_6 => (if r_6 = 0 then K v5_3 else P63)))) else (w_Row_get a0 a0n (a2 + v5_3) I (fun r_8 => w_Tokens_isLetter r_8 I (fun r_9 => (if r_9 = 0 then K v5_3 else P63))))))))) → P13 v5_3) → P13 1))
theorem dyX8_runFrom_0 : decode cX8_runFrom 0 = .ok (.aload_n 0, 1) := by decide +kernel
theorem dyX8_runFrom_1 : decode cX8_runFrom 1 = .ok (.iload_n 2, 1) := by decide +kernel
theorem dyX8_runFrom_2 : decode cX8_runFrom 2 = .ok (.invokevirtual 36, 3) := by decide +kernel
theorem dyX8_runFrom_5 : decode cX8_runFrom 5 = .ok (.invokestatic 61, 3) := by decide +kernel
theorem dyX8_runFrom_8 : decode cX8_runFrom 8 = .ok (.istore 4, 2) := by decide +kernel
theorem dyX8_runFrom_10 : decode cX8_runFrom 10 = .ok (.iconst 1, 1) := by decide +kernel
theorem dyX8_runFrom_11 : decode cX8_runFrom 11 = .ok (.istore 5, 2) := by decide +kernel
theorem dyX8_runFrom_13 : decode cX8_runFrom 13 = .ok (.iload 5, 2) := by decide +kernel
theorem dyX8_runFrom_15 : decode cX8_runFrom 15 = .ok (.iload_n 3, 1) := by decide +kernel
theorem dyX8_runFrom_16 : decode cX8_runFrom 16 = .ok (.if_icmp .ge 53, 3) := by decide +kernel
theorem dyX8_runFrom_19 : decode cX8_runFrom 19 = .ok (.iload_n 2, 1) := by decide +kernel
theorem dyX8_runFrom_20 : decode cX8_runFrom 20 = .ok (.iload 5, 2) := by decide +kernel
theorem dyX8_runFrom_22 : decode cX8_runFrom 22 = .ok (.iadd, 1) := by decide +kernel
theorem dyX8_runFrom_23 : decode cX8_runFrom 23 = .ok (.iload_n 1, 1) := by decide +kernel
theorem dyX8_runFrom_24 : decode cX8_runFrom 24 = .ok (.if_icmp .ge 45, 3) := by decide +kernel
theorem dyX8_runFrom_27 : decode cX8_runFrom 27 = .ok (.iload 4, 2) := by decide +kernel
theorem dyX8_runFrom_29 : decode cX8_runFrom 29 = .ok (.ifCond .eq 20, 3) := by decide +kernel
theorem dyX8_runFrom_32 : decode cX8_runFrom 32 = .ok (.aload_n 0, 1) := by decide +kernel
theorem dyX8_runFrom_33 : decode cX8_runFrom 33 = .ok (.iload_n 2, 1) := by decide +kernel
theorem dyX8_runFrom_34 : decode cX8_runFrom 34 = .ok (.iload 5, 2) := by decide +kernel
theorem dyX8_runFrom_36 : decode cX8_runFrom 36 = .ok (.iadd, 1) := by decide +kernel
theorem dyX8_runFrom_37 : decode cX8_runFrom 37 = .ok (.invokevirtual 36, 3) := by decide +kernel
theorem dyX8_runFrom_40 : decode cX8_runFrom 40 = .ok (.invokestatic 61, 3) := by decide +kernel
theorem dyX8_runFrom_43 : decode cX8_runFrom 43 = .ok (.ifCond .eq 26, 3) := by decide +kernel
theorem dyX8_runFrom_46 : decode cX8_runFrom 46 = .ok (.goto 17, 3) := by decide +kernel
theorem dyX8_runFrom_49 : decode cX8_runFrom 49 = .ok (.aload_n 0, 1) := by decide +kernel
theorem dyX8_runFrom_50 : decode cX8_runFrom 50 = .ok (.iload_n 2, 1) := by decide +kernel
theorem dyX8_runFrom_51 : decode cX8_runFrom 51 = .ok (.iload 5, 2) := by decide +kernel
theorem dyX8_runFrom_53 : decode cX8_runFrom 53 = .ok (.iadd, 1) := by decide +kernel
theorem dyX8_runFrom_54 : decode cX8_runFrom 54 = .ok (.invokevirtual 36, 3) := by decide +kernel
theorem dyX8_runFrom_57 : decode cX8_runFrom 57 = .ok (.invokestatic 64, 3) := by decide +kernel
theorem dyX8_runFrom_60 : decode cX8_runFrom 60 = .ok (.ifCond .eq 9, 3) := by decide +kernel
theorem dyX8_runFrom_63 : decode cX8_runFrom 63 = .ok (.iinc 5 1, 3) := by decide +kernel
theorem dyX8_runFrom_66 : decode cX8_runFrom 66 = .ok (.goto (-53), 3) := by decide +kernel
theorem dyX8_runFrom_69 : decode cX8_runFrom 69 = .ok (.iload 5, 2) := by decide +kernel
theorem dyX8_runFrom_71 : decode cX8_runFrom 71 = .ok (.ireturn, 1) := by decide +kernel
theorem zsg_yX8_runFrom : yX8_runFrom.cls ≠ "java/lang/invoke/MethodHandle" ∧ yX8_runFrom.cls ≠ "java/lang/invoke/VarHandle" ∧ (parseMethodDescriptor yX8_runFrom.desc).map (fun d => d.parameters.length) = some 4 := by decide +kernel
set_option maxRecDepth 20000 in
theorem c_Tokens_runFrom {l : Launch} {D : va_G} {B : Nat} {cA : Nat → ClassId} {ad : Nat → Nat} {S : List zC} (hS : zOkX S) {a0 : Nat} {a0n : Nat} {a1 : Int32} {a2 : Int32} {a3 : Int32} {I : zI} {K : Int32 → Prop} (ha0 : zIsRow S a0 a0n) (h : w_Tokens_runFrom a0 a0n a1 a2 a3 I K) : Met l yX8_runFrom (zws yX8_runFrom cX8_runFrom 6 (some .int)) (zrm 1 21) (zPc D B cA ad [.ref (B + a0), .int a1, .int a2, .int a3] S I) (zQc D B cA (zpI S I K)) 0 0 (fun q => B ≤ q) := by
  refine zm_of (cc := cX8_runFrom) (maxL := 6) (ret := (some .int)) (by decide +kernel) rfl (Nat.le_of_ble_eq_true rfl) trivial ?_
  intro p e s m args below meth c C _
  unfold w_Tokens_runFrom at h
  show zX p l e (zrm 1 21) s m args below meth c (MQ below (zQc D B cA (zpI S I K)) args s 0 0 (fun q => B ≤ q)) D B cA 6 0 0 S I [(0, .ref (B + a0)), (1, .int a1), (2, .int a2), (3, .int a3)] [] 0
  refine zr_aload_n C dyX8_runFrom_0 rfl 0 rfl ?_
  refine zr_iload_n C dyX8_runFrom_1 rfl 2 rfl ?_
  refine zv_8_36 C hS ha0 (st := []) h ⟨Nat.le_of_ble_eq_true rfl, Nat.le_of_ble_eq_true rfl⟩ (Nat.le_of_ble_eq_true rfl) dyX8_runFrom_2 (fun r_1 h => ?_)
  refine zv_8_61 C hS (st := []) h ⟨Nat.le_of_ble_eq_true rfl, Nat.le_of_ble_eq_true rfl⟩ (Nat.le_of_ble_eq_true rfl) dyX8_runFrom_5 (fun r_2 h => ?_)
  refine zr_istore C dyX8_runFrom_8 (Nat.le_of_ble_eq_true rfl) (lv2 := [(4, .int r_2), (0, .ref (B + a0)), (1, .int a1), (2, .int a2), (3, .int a3)]) rfl ?_
  refine zr_iconst C dyX8_runFrom_10 zc_i_1 ?_
  refine zr_istore C dyX8_runFrom_11 (Nat.le_of_ble_eq_true rfl) (lv2 := [(5, .int 1), (4, .int r_2), (0, .ref (B + a0)), (1, .int a1), (2, .int a2), (3, .int a3)]) rfl ?_
  refine zjn (h (fun (v5_3 : Int32) => zX p l e (zrm 1 21) s m args below meth c (MQ below (zQc D B cA (zpI S I K)) args s 0 0 (fun q => B ≤ q)) D B cA 6 0 0 S I [(5, .int v5_3), (4, .int r_2), (0, .ref (B + a0)), (1, .int a1), (2, .int a2), (3, .int a3)] [] 13) (fun v5_3 h => ?_)) (fun h => ?_)
  · refine zr_iload C dyX8_runFrom_13 0 rfl ?_
    refine zr_iload_n C dyX8_runFrom_15 rfl 5 rfl ?_
    refine zr_icmp_ge C dyX8_runFrom_16 (tgt := 69) (by decide) (fun hc_13 => ?_) (fun hc_13 => ?_)
    · replace h := zif_pos hc_13 h
      refine zr_iload C dyX8_runFrom_69 0 rfl ?_
      exact zr_iret C rfl dyX8_runFrom_71 ⟨rfl, rfl, _, rfl, h⟩
    · replace h := zif_neg hc_13 h
      refine zr_iload_n C dyX8_runFrom_19 rfl 4 rfl ?_
      refine zr_iload C dyX8_runFrom_20 0 rfl ?_
      refine zr_iadd C dyX8_runFrom_22 ?_
      refine zr_iload_n C dyX8_runFrom_23 rfl 3 rfl ?_
      refine zr_icmp_ge C dyX8_runFrom_24 (tgt := 69) (by decide) (fun hc_12 => ?_) (fun hc_12 => ?_)
      · replace h := zif_pos hc_12 h
        refine zr_iload C dyX8_runFrom_69 0 rfl ?_
        exact zr_iret C rfl dyX8_runFrom_71 ⟨rfl, rfl, _, rfl, h⟩
      · replace h := zif_neg hc_12 h
        refine zr_iload C dyX8_runFrom_27 1 rfl ?_
        refine zjn (h (zX p l e (zrm 1 21) s m args below meth c (MQ below (zQc D B cA (zpI S I K)) args s 0 0 (fun q => B ≤ q)) D B cA 6 0 0 S I [(5, .int v5_3), (4, .int r_2), (0, .ref (B + a0)), (1, .int a1), (2, .int a2), (3, .int a3)] [] 63) (fun  h => ?_)) (fun h => ?_)
        · refine zn_iinc C (fun v5_4 => [(5, .int v5_4), (4, .int r_2), (0, .ref (B + a0)), (1, .int a1), (2, .int a2), (3, .int a3)]) dyX8_runFrom_63 0 rfl zc_i_1 (Nat.le_of_ble_eq_true rfl) (fun _ => rfl) (fun v5_4 ev5_4 => ?_)
          replace h := h v5_4 ev5_4
          refine zr_goto C dyX8_runFrom_66 (tgt := 13) (by decide) ?_
          exact h
        refine zr_if_eq C dyX8_runFrom_29 (tgt := 49) (by decide) (fun hc_11 => ?_) (fun hc_11 => ?_)
        · replace h := zif_pos hc_11 h
          refine zr_aload_n C dyX8_runFrom_49 rfl 2 rfl ?_
          refine zr_iload_n C dyX8_runFrom_50 rfl 4 rfl ?_
          refine zr_iload C dyX8_runFrom_51 0 rfl ?_
          refine zr_iadd C dyX8_runFrom_53 ?_
          refine zv_8_36 C hS ha0 (st := []) h ⟨Nat.le_of_ble_eq_true rfl, Nat.le_of_ble_eq_true rfl⟩ (Nat.le_of_ble_eq_true rfl) dyX8_runFrom_54 (fun r_5 h => ?_)
          refine zv_8_64 C hS (st := []) h ⟨Nat.le_of_ble_eq_true rfl, Nat.le_of_ble_eq_true rfl⟩ (Nat.le_of_ble_eq_true rfl) dyX8_runFrom_57 (fun r_6 h => ?_)
          refine zr_if_eq C dyX8_runFrom_60 (tgt := 69) (by decide) (fun hc_7 => ?_) (fun hc_7 => ?_)
          · replace h := zif_pos hc_7 h
            refine zr_iload C dyX8_runFrom_69 0 rfl ?_
            exact zr_iret C rfl dyX8_runFrom_71 ⟨rfl, rfl, _, rfl, h⟩
          · replace h := zif_neg hc_7 h
            exact h
        · replace h := zif_neg hc_11 h
          refine zr_aload_n C dyX8_runFrom_32 rfl 2 rfl ?_
          refine zr_iload_n C dyX8_runFrom_33 rfl 4 rfl ?_
          refine zr_iload C dyX8_runFrom_34 0 rfl ?_
          refine zr_iadd C dyX8_runFrom_36 ?_
          refine zv_8_36 C hS ha0 (st := []) h ⟨Nat.le_of_ble_eq_true rfl, Nat.le_of_ble_eq_true rfl⟩ (Nat.le_of_ble_eq_true rfl) dyX8_runFrom_37 (fun r_8 h => ?_)
          refine zv_8_61 C hS (st := []) h ⟨Nat.le_of_ble_eq_true rfl, Nat.le_of_ble_eq_true rfl⟩ (Nat.le_of_ble_eq_true rfl) dyX8_runFrom_40 (fun r_9 h => ?_)
          refine zr_if_eq C dyX8_runFrom_43 (tgt := 69) (by decide) (fun hc_10 => ?_) (fun hc_10 => ?_)
          · replace h := zif_pos hc_10 h
            refine zr_iload C dyX8_runFrom_69 0 rfl ?_
            exact zr_iret C rfl dyX8_runFrom_71 ⟨rfl, rfl, _, rfl, h⟩
          · replace h := zif_neg hc_10 h
            refine zr_goto C dyX8_runFrom_46 (tgt := 63) (by decide) ?_
            exact h
  exact h
def w_Tokens_pack (a0 : Nat) (a0n : Nat) (a1 : Int32) (a2 : Int32) (I : zI) (K : Int32 → Prop) : Prop :=
  ∀ (P5 : Int32 → Int32 → Prop), (∀ (v3_1 : Int32) (v4_2 : Int32), ((if a2 ≤ v4_2 then K v3_1 else (w_Row_get a0 a0n (a1 + v4_2) I (fun r_3 => ∀ v3_4, v3_4 = (v3_1 ||| (r_3 <<< ((24 - (8 * v4_2)) &&& 31))) → ∀ v4_5, v4_5 = (v4_2 + 1) → P5 v3_4 v4_5)))) → P5 v3_1 v4_2) → P5 0 0
theorem dyX8_pack_0 : decode cX8_pack 0 = .ok (.iconst 0, 1) := by decide +kernel
theorem dyX8_pack_1 : decode cX8_pack 1 = .ok (.istore_n 3, 1) := by decide +kernel
theorem dyX8_pack_2 : decode cX8_pack 2 = .ok (.iconst 0, 1) := by decide +kernel
theorem dyX8_pack_3 : decode cX8_pack 3 = .ok (.istore 4, 2) := by decide +kernel
theorem dyX8_pack_5 : decode cX8_pack 5 = .ok (.iload 4, 2) := by decide +kernel
theorem dyX8_pack_7 : decode cX8_pack 7 = .ok (.iload_n 2, 1) := by decide +kernel
theorem dyX8_pack_8 : decode cX8_pack 8 = .ok (.if_icmp .ge 29, 3) := by decide +kernel
theorem dyX8_pack_11 : decode cX8_pack 11 = .ok (.iload_n 3, 1) := by decide +kernel
theorem dyX8_pack_12 : decode cX8_pack 12 = .ok (.aload_n 0, 1) := by decide +kernel
theorem dyX8_pack_13 : decode cX8_pack 13 = .ok (.iload_n 1, 1) := by decide +kernel
theorem dyX8_pack_14 : decode cX8_pack 14 = .ok (.iload 4, 2) := by decide +kernel
theorem dyX8_pack_16 : decode cX8_pack 16 = .ok (.iadd, 1) := by decide +kernel
theorem dyX8_pack_17 : decode cX8_pack 17 = .ok (.invokevirtual 36, 3) := by decide +kernel
theorem dyX8_pack_20 : decode cX8_pack 20 = .ok (.bipush 24, 2) := by decide +kernel
theorem dyX8_pack_22 : decode cX8_pack 22 = .ok (.bipush 8, 2) := by decide +kernel
theorem dyX8_pack_24 : decode cX8_pack 24 = .ok (.iload 4, 2) := by decide +kernel
theorem dyX8_pack_26 : decode cX8_pack 26 = .ok (.imul, 1) := by decide +kernel
theorem dyX8_pack_27 : decode cX8_pack 27 = .ok (.isub, 1) := by decide +kernel
theorem dyX8_pack_28 : decode cX8_pack 28 = .ok (.ishl, 1) := by decide +kernel
theorem dyX8_pack_29 : decode cX8_pack 29 = .ok (.ior, 1) := by decide +kernel
theorem dyX8_pack_30 : decode cX8_pack 30 = .ok (.istore_n 3, 1) := by decide +kernel
theorem dyX8_pack_31 : decode cX8_pack 31 = .ok (.iinc 4 1, 3) := by decide +kernel
theorem dyX8_pack_34 : decode cX8_pack 34 = .ok (.goto (-29), 3) := by decide +kernel
theorem dyX8_pack_37 : decode cX8_pack 37 = .ok (.iload_n 3, 1) := by decide +kernel
theorem dyX8_pack_38 : decode cX8_pack 38 = .ok (.ireturn, 1) := by decide +kernel
theorem zsg_yX8_pack : yX8_pack.cls ≠ "java/lang/invoke/MethodHandle" ∧ yX8_pack.cls ≠ "java/lang/invoke/VarHandle" ∧ (parseMethodDescriptor yX8_pack.desc).map (fun d => d.parameters.length) = some 3 := by decide +kernel
set_option maxRecDepth 20000 in
theorem c_Tokens_pack {l : Launch} {D : va_G} {B : Nat} {cA : Nat → ClassId} {ad : Nat → Nat} {S : List zC} (hS : zOkX S) {a0 : Nat} {a0n : Nat} {a1 : Int32} {a2 : Int32} {I : zI} {K : Int32 → Prop} (ha0 : zIsRow S a0 a0n) (h : w_Tokens_pack a0 a0n a1 a2 I K) : Met l yX8_pack (zws yX8_pack cX8_pack 5 (some .int)) (zrm 1 21) (zPc D B cA ad [.ref (B + a0), .int a1, .int a2] S I) (zQc D B cA (zpI S I K)) 0 0 (fun q => B ≤ q) := by
  refine zm_of (cc := cX8_pack) (maxL := 5) (ret := (some .int)) (by decide +kernel) rfl (Nat.le_of_ble_eq_true rfl) trivial ?_
  intro p e s m args below meth c C _
  unfold w_Tokens_pack at h
  show zX p l e (zrm 1 21) s m args below meth c (MQ below (zQc D B cA (zpI S I K)) args s 0 0 (fun q => B ≤ q)) D B cA 5 0 0 S I [(0, .ref (B + a0)), (1, .int a1), (2, .int a2)] [] 0
  refine zr_iconst C dyX8_pack_0 zc_i_0 ?_
  refine zr_istore_n C dyX8_pack_1 rfl (Nat.le_of_ble_eq_true rfl) (lv2 := [(3, .int 0), (0, .ref (B + a0)), (1, .int a1), (2, .int a2)]) rfl ?_
  refine zr_iconst C dyX8_pack_2 zc_i_0 ?_
  refine zr_istore C dyX8_pack_3 (Nat.le_of_ble_eq_true rfl) (lv2 := [(4, .int 0), (3, .int 0), (0, .ref (B + a0)), (1, .int a1), (2, .int a2)]) rfl ?_
  refine zjn (h (fun (v3_1 : Int32) (v4_2 : Int32) => zX p l e (zrm 1 21) s m args below meth c (MQ below (zQc D B cA (zpI S I K)) args s 0 0 (fun q => B ≤ q)) D B cA 5 0 0 S I [(4, .int v4_2), (3, .int v3_1), (0, .ref (B + a0)), (1, .int a1), (2, .int a2)] [] 5) (fun v3_1 v4_2 h => ?_)) (fun h => ?_)
  · refine zr_iload C dyX8_pack_5 0 rfl ?_
    refine zr_iload_n C dyX8_pack_7 rfl 4 rfl ?_
    refine zr_icmp_ge C dyX8_pack_8 (tgt := 37) (by decide) (fun hc_6 => ?_) (fun hc_6 => ?_)
    · replace h := zif_pos hc_6 h
      refine zr_iload_n C dyX8_pack_37 rfl 1 rfl ?_
      exact zr_iret C rfl dyX8_pack_38 ⟨rfl, rfl, _, rfl, h⟩
    · replace h := zif_neg hc_6 h
      refine zr_iload_n C dyX8_pack_11 rfl 1 rfl ?_
      refine zr_aload_n C dyX8_pack_12 rfl 2 rfl ?_
      refine zr_iload_n C dyX8_pack_13 rfl 3 rfl ?_
      refine zr_iload C dyX8_pack_14 0 rfl ?_
      refine zr_iadd C dyX8_pack_16 ?_
      refine zv_8_36 C hS ha0 (st := [.int v3_1]) h ⟨Nat.le_of_ble_eq_true rfl, Nat.le_of_ble_eq_true rfl⟩ (Nat.le_of_ble_eq_true rfl) dyX8_pack_17 (fun r_3 h => ?_)
      refine zr_bipush C dyX8_pack_20 zc_b_24 ?_
      refine zr_bipush C dyX8_pack_22 zc_b_8 ?_
      refine zr_iload C dyX8_pack_24 0 rfl ?_
      refine zr_imul C dyX8_pack_26 ?_
      refine zr_isub C dyX8_pack_27 ?_
      refine zr_ishl C dyX8_pack_28 ?_
      refine zr_ior C dyX8_pack_29 ?_
      refine zn_istore_n C (fun v3_4 => [(3, .int v3_4), (4, .int v4_2), (0, .ref (B + a0)), (1, .int a1), (2, .int a2)]) dyX8_pack_30 rfl (Nat.le_of_ble_eq_true rfl) (fun _ => rfl) (fun v3_4 ev3_4 => ?_)
      replace h := h v3_4 ev3_4
      refine zn_iinc C (fun v4_5 => [(4, .int v4_5), (3, .int v3_4), (0, .ref (B + a0)), (1, .int a1), (2, .int a2)]) dyX8_pack_31 1 rfl zc_i_1 (Nat.le_of_ble_eq_true rfl) (fun _ => rfl) (fun v4_5 ev4_5 => ?_)
      replace h := h v4_5 ev4_5
      refine zr_goto C dyX8_pack_34 (tgt := 5) (by decide) ?_
      exact h
  exact h
theorem zv_8_71 {p : Program} {l : Launch} {e : Env} {R : Room} {s : State} {m : MethodId} {args : Array Value} {below : List Frame} {meth : Method} {c : Code} {Q : State → Prop} {D : va_G} {B : Nat} {cA : Nat → ClassId} {ad : Nat → Nat} {cc : ByteArray} {nL : Nat} {ret : Option FieldType} {S : List zC} {I : zI} {lv : List (Nat × Value)} {st : List Value} {pc : Nat} (C : zCx p s m args meth c cc nL RX8 ret D B cA ad) {K : zI → Prop} {xk : Nat} {xn : Nat} {xa1 : Int32} {xa2 : Int32} (hS : zOkX S) (xhk : zIsRow S xk xn) (h : w_Row_set xk xn xa1 xa2 I K) (hR : 0 + 1 ≤ R.frames ∧ 8 + (3 + 11) + (0) ≤ R.locals) (hw : (st.map fun v => v.category).sum ≤ 8) (hd : decode cc pc = .ok (.invokevirtual 71, 3)) (kk : ∀ I2, K I2 → zX p l e R s m args below meth c Q D B cA nL 0 0 S I2 lv st (pc + 3)) : zX p l e R s m args below meth c Q D B cA nL 0 0 S I lv (.int xa2 :: .int xa1 :: .ref (B + xk) :: st) pc :=
  have hf : 0 ≤ R.cells ∧ 0 ≤ R.slots := ⟨Nat.zero_le _, Nat.zero_le _⟩
  zc_VqV C (ci := 6) (q := (RX6, TX6, 1)) (k := xk) (fs := [some (some (xk + 1))]) (As := [.int xa1, .int xa2]) (st := st) rfl xhk.1 (c_Row_set hS xhk h) (zgV zk_ml_8_71 zk_im_yX6_set zk_se_yX6_set zk_in_6 zk_cd_yX6_set) zsg_yX6_set hR rfl rfl hw hd hf kk
theorem zv_8_78 {p : Program} {l : Launch} {e : Env} {R : Room} {s : State} {m : MethodId} {args : Array Value} {below : List Frame} {meth : Method} {c : Code} {Q : State → Prop} {D : va_G} {B : Nat} {cA : Nat → ClassId} {ad : Nat → Nat} {cc : ByteArray} {nL : Nat} {ret : Option FieldType} {S : List zC} {I : zI} {lv : List (Nat × Value)} {st : List Value} {pc : Nat} (C : zCx p s m args meth c cc nL RX8 ret D B cA ad) {K : Int32 → Prop} {xa0 : Nat} {xa0n : Nat} {xa1 : Int32} {xa2 : Int32} (hS : zOkX S) (xha0 : zIsRow S xa0 xa0n) (h : w_Tokens_pack xa0 xa0n xa1 xa2 I K) (hR : 1 + 1 ≤ R.frames ∧ 8 + (5 + 11) + (21) ≤ R.locals) (hw : (st.map fun v => v.category).sum ≤ 8) (hd : decode cc pc = .ok (.invokestatic 78, 3)) (kk : ∀ v, K v → zX p l e R s m args below meth c Q D B cA nL 0 0 S I lv (.int v :: st) (pc + 3)) : zX p l e R s m args below meth c Q D B cA nL 0 0 S I lv (.int xa2 :: .int xa1 :: .ref (B + xa0) :: st) pc :=
  have hf : 0 ≤ R.cells ∧ 0 ≤ R.slots := ⟨Nat.zero_le _, Nat.zero_le _⟩
  zc_SpI C (As := [.ref (B + xa0), .int xa1, .int xa2]) (st := st) (c_Tokens_pack hS xha0 h) (zgM zk_cd_yX8_pack) zk_ml_8_78 zk_st_yX8_pack zk_in_8 zsg_yX8_pack hR rfl rfl hw hd hf kk
def w_Tokens_append (k : Nat) (a1 : Nat) (a1n : Nat) (a2 : Int32) (a3 : Int32) (a4 : Int32) (I : zI) (K : zI → Prop) : Prop :=
  w_Row_set (k + 1) 100 (I.1 k 5) a2 I (fun I_1 => w_Row_set (k + 3) 100 (I_1.1 k 5) a3 I_1 (fun I_2 => w_Row_set (k + 5) 100 (I_2.1 k 5) a4 I_2 (fun I_3 => w_Tokens_pack a1 a1n a3 (if a4 < 4 then a4 else 4) I_3 (fun r_4 => w_Row_set (k + 7) 100 (I_3.1 k 5) r_4 I_3 (fun I_5 => w_Tokens_pack a1 a1n (a3 + 4) (if (a4 - 4) < 4 then (a4 - 4) else 4) I_5 (fun r_6 => w_Row_set (k + 9) 100 (I_5.1 k 5) r_6 I_5 (fun I_7 => ∀ I_8, I_8 = (zu I_7 k 5 ((I_7.1 k 5) + 1)) → K I_8)))))))
theorem dyX8_append_0 : decode cX8_append 0 = .ok (.aload_n 0, 1) := by decide +kernel
theorem dyX8_append_1 : decode cX8_append 1 = .ok (.getfield 14, 3) := by decide +kernel
theorem dyX8_append_4 : decode cX8_append 4 = .ok (.aload_n 0, 1) := by decide +kernel
theorem dyX8_append_5 : decode cX8_append 5 = .ok (.getfield 32, 3) := by decide +kernel
theorem dyX8_append_8 : decode cX8_append 8 = .ok (.iload_n 2, 1) := by decide +kernel
theorem dyX8_append_9 : decode cX8_append 9 = .ok (.invokevirtual 71, 3) := by decide +kernel
theorem dyX8_append_12 : decode cX8_append 12 = .ok (.aload_n 0, 1) := by decide +kernel
theorem dyX8_append_13 : decode cX8_append 13 = .ok (.getfield 20, 3) := by decide +kernel
theorem dyX8_append_16 : decode cX8_append 16 = .ok (.aload_n 0, 1) := by decide +kernel
theorem dyX8_append_17 : decode cX8_append 17 = .ok (.getfield 32, 3) := by decide +kernel
theorem dyX8_append_20 : decode cX8_append 20 = .ok (.iload_n 3, 1) := by decide +kernel
theorem dyX8_append_21 : decode cX8_append 21 = .ok (.invokevirtual 71, 3) := by decide +kernel
theorem dyX8_append_24 : decode cX8_append 24 = .ok (.aload_n 0, 1) := by decide +kernel
theorem dyX8_append_25 : decode cX8_append 25 = .ok (.getfield 23, 3) := by decide +kernel
theorem dyX8_append_28 : decode cX8_append 28 = .ok (.aload_n 0, 1) := by decide +kernel
theorem dyX8_append_29 : decode cX8_append 29 = .ok (.getfield 32, 3) := by decide +kernel
theorem dyX8_append_32 : decode cX8_append 32 = .ok (.iload 4, 2) := by decide +kernel
theorem dyX8_append_34 : decode cX8_append 34 = .ok (.invokevirtual 71, 3) := by decide +kernel
theorem dyX8_append_37 : decode cX8_append 37 = .ok (.aload_n 0, 1) := by decide +kernel
theorem dyX8_append_38 : decode cX8_append 38 = .ok (.getfield 26, 3) := by decide +kernel
theorem dyX8_append_41 : decode cX8_append 41 = .ok (.aload_n 0, 1) := by decide +kernel
theorem dyX8_append_42 : decode cX8_append 42 = .ok (.getfield 32, 3) := by decide +kernel
theorem dyX8_append_45 : decode cX8_append 45 = .ok (.aload_n 1, 1) := by decide +kernel
theorem dyX8_append_46 : decode cX8_append 46 = .ok (.iload_n 3, 1) := by decide +kernel
theorem dyX8_append_47 : decode cX8_append 47 = .ok (.iconst 4, 1) := by decide +kernel
theorem dyX8_append_48 : decode cX8_append 48 = .ok (.iload 4, 2) := by decide +kernel
theorem dyX8_append_50 : decode cX8_append 50 = .ok (.invokestatic 75, 3) := by decide +kernel
theorem dyX8_append_53 : decode cX8_append 53 = .ok (.invokestatic 78, 3) := by decide +kernel
theorem dyX8_append_56 : decode cX8_append 56 = .ok (.invokevirtual 71, 3) := by decide +kernel
theorem dyX8_append_59 : decode cX8_append 59 = .ok (.aload_n 0, 1) := by decide +kernel
theorem dyX8_append_60 : decode cX8_append 60 = .ok (.getfield 29, 3) := by decide +kernel
theorem dyX8_append_63 : decode cX8_append 63 = .ok (.aload_n 0, 1) := by decide +kernel
theorem dyX8_append_64 : decode cX8_append 64 = .ok (.getfield 32, 3) := by decide +kernel
theorem dyX8_append_67 : decode cX8_append 67 = .ok (.aload_n 1, 1) := by decide +kernel
theorem dyX8_append_68 : decode cX8_append 68 = .ok (.iload_n 3, 1) := by decide +kernel
theorem dyX8_append_69 : decode cX8_append 69 = .ok (.iconst 4, 1) := by decide +kernel
theorem dyX8_append_70 : decode cX8_append 70 = .ok (.iadd, 1) := by decide +kernel
theorem dyX8_append_71 : decode cX8_append 71 = .ok (.iconst 4, 1) := by decide +kernel
theorem dyX8_append_72 : decode cX8_append 72 = .ok (.iload 4, 2) := by decide +kernel
theorem dyX8_append_74 : decode cX8_append 74 = .ok (.iconst 4, 1) := by decide +kernel
theorem dyX8_append_75 : decode cX8_append 75 = .ok (.isub, 1) := by decide +kernel
theorem dyX8_append_76 : decode cX8_append 76 = .ok (.invokestatic 75, 3) := by decide +kernel
theorem dyX8_append_79 : decode cX8_append 79 = .ok (.invokestatic 78, 3) := by decide +kernel
theorem dyX8_append_82 : decode cX8_append 82 = .ok (.invokevirtual 71, 3) := by decide +kernel
theorem dyX8_append_85 : decode cX8_append 85 = .ok (.aload_n 0, 1) := by decide +kernel
theorem dyX8_append_86 : decode cX8_append 86 = .ok (.dup, 1) := by decide +kernel
theorem dyX8_append_87 : decode cX8_append 87 = .ok (.getfield 32, 3) := by decide +kernel
theorem dyX8_append_90 : decode cX8_append 90 = .ok (.iconst 1, 1) := by decide +kernel
theorem dyX8_append_91 : decode cX8_append 91 = .ok (.iadd, 1) := by decide +kernel
theorem dyX8_append_92 : decode cX8_append 92 = .ok (.putfield 32, 3) := by decide +kernel
theorem dyX8_append_95 : decode cX8_append 95 = .ok (.return_, 1) := by decide +kernel
theorem zsg_yX8_append : yX8_append.cls = RX8 ∧ yX8_append.cls ≠ "java/lang/invoke/MethodHandle" ∧ yX8_append.cls ≠ "java/lang/invoke/VarHandle" ∧ (parseMethodDescriptor yX8_append.desc).map (fun d => d.parameters.length) = some 4 := by decide +kernel
set_option maxRecDepth 20000 in
theorem c_Tokens_append {l : Launch} {D : va_G} {B : Nat} {cA : Nat → ClassId} {ad : Nat → Nat} {S : List zC} (hS : zOkX S) {k : Nat} {a1 : Nat} {a1n : Nat} {a2 : Int32} {a3 : Int32} {a4 : Int32} {I : zI} {K : zI → Prop} (hk : zIsTokens S k) (ha1 : zIsRow S a1 a1n) (h : w_Tokens_append k a1 a1n a2 a3 a4 I K) : Met l yX8_append (zws yX8_append cX8_append 5 none) (zrm 2 45) (zPc D B cA ad [.ref (B + k), .ref (B + a1), .int a2, .int a3, .int a4] S I) (zQc D B cA (zqV S K)) 0 0 (fun q => B ≤ q) := by
  refine zm_of (cc := cX8_append) (maxL := 5) (ret := none) (by decide +kernel) rfl (Nat.le_of_ble_eq_true rfl) trivial ?_
  intro p e s m args below meth c C _
  unfold w_Tokens_append at h
  show zX p l e (zrm 2 45) s m args below meth c (MQ below (zQc D B cA (zqV S K)) args s 0 0 (fun q => B ≤ q)) D B cA 5 0 0 S I [(0, .ref (B + k)), (1, .ref (B + a1)), (2, .int a2), (3, .int a3), (4, .int a4)] [] 0
  refine zr_aload_n C dyX8_append_0 rfl 0 rfl ?_
  refine zg_8_14 C hk dyX8_append_1 ?_
  refine zr_aload_n C dyX8_append_4 rfl 0 rfl ?_
  refine zg_8_32 C hk dyX8_append_5 ?_
  refine zr_iload_n C dyX8_append_8 rfl 2 rfl ?_
  refine zv_8_71 C hS hk.2.1 (st := []) h ⟨Nat.le_of_ble_eq_true rfl, Nat.le_of_ble_eq_true rfl⟩ (Nat.le_of_ble_eq_true rfl) dyX8_append_9 (fun I_1 h => ?_)
  refine zr_aload_n C dyX8_append_12 rfl 0 rfl ?_
  refine zg_8_20 C hk dyX8_append_13 ?_
  refine zr_aload_n C dyX8_append_16 rfl 0 rfl ?_
  refine zg_8_32 C hk dyX8_append_17 ?_
  refine zr_iload_n C dyX8_append_20 rfl 3 rfl ?_
  refine zv_8_71 C hS hk.2.2.1 (st := []) h ⟨Nat.le_of_ble_eq_true rfl, Nat.le_of_ble_eq_true rfl⟩ (Nat.le_of_ble_eq_true rfl) dyX8_append_21 (fun I_2 h => ?_)
  refine zr_aload_n C dyX8_append_24 rfl 0 rfl ?_
  refine zg_8_23 C hk dyX8_append_25 ?_
  refine zr_aload_n C dyX8_append_28 rfl 0 rfl ?_
  refine zg_8_32 C hk dyX8_append_29 ?_
  refine zr_iload C dyX8_append_32 4 rfl ?_
  refine zv_8_71 C hS hk.2.2.2.1 (st := []) h ⟨Nat.le_of_ble_eq_true rfl, Nat.le_of_ble_eq_true rfl⟩ (Nat.le_of_ble_eq_true rfl) dyX8_append_34 (fun I_3 h => ?_)
  refine zr_aload_n C dyX8_append_37 rfl 0 rfl ?_
  refine zg_8_26 C hk dyX8_append_38 ?_
  refine zr_aload_n C dyX8_append_41 rfl 0 rfl ?_
  refine zg_8_32 C hk dyX8_append_42 ?_
  refine zr_aload_n C dyX8_append_45 rfl 1 rfl ?_
  refine zr_iload_n C dyX8_append_46 rfl 3 rfl ?_
  refine zr_iconst C dyX8_append_47 zc_i_4 ?_
  refine zr_iload C dyX8_append_48 4 rfl ?_
  refine zr_mmin C zk_ml_8_75 zk_st_J_min zk_in_Math zk_cd_J_min (Nat.le_of_ble_eq_true rfl) (Nat.le_of_ble_eq_true rfl) (Nat.le_of_ble_eq_true rfl) (Nat.zero_le _) (Nat.zero_le _) dyX8_append_50 ?_
  refine zv_8_78 C hS ha1 (st := [.int (I_3.1 k 5), .ref (B + (k + 7))]) h ⟨Nat.le_of_ble_eq_true rfl, Nat.le_of_ble_eq_true rfl⟩ (Nat.le_of_ble_eq_true rfl) dyX8_append_53 (fun r_4 h => ?_)
  refine zv_8_71 C hS hk.2.2.2.2.1 (st := []) h ⟨Nat.le_of_ble_eq_true rfl, Nat.le_of_ble_eq_true rfl⟩ (Nat.le_of_ble_eq_true rfl) dyX8_append_56 (fun I_5 h => ?_)
  refine zr_aload_n C dyX8_append_59 rfl 0 rfl ?_
  refine zg_8_29 C hk dyX8_append_60 ?_
  refine zr_aload_n C dyX8_append_63 rfl 0 rfl ?_
  refine zg_8_32 C hk dyX8_append_64 ?_
  refine zr_aload_n C dyX8_append_67 rfl 1 rfl ?_
  refine zr_iload_n C dyX8_append_68 rfl 3 rfl ?_
  refine zr_iconst C dyX8_append_69 zc_i_4 ?_
  refine zr_iadd C dyX8_append_70 ?_
  refine zr_iconst C dyX8_append_71 zc_i_4 ?_
  refine zr_iload C dyX8_append_72 4 rfl ?_
  refine zr_iconst C dyX8_append_74 zc_i_4 ?_
  refine zr_isub C dyX8_append_75 ?_
  refine zr_mmin C zk_ml_8_75 zk_st_J_min zk_in_Math zk_cd_J_min (Nat.le_of_ble_eq_true rfl) (Nat.le_of_ble_eq_true rfl) (Nat.le_of_ble_eq_true rfl) (Nat.zero_le _) (Nat.zero_le _) dyX8_append_76 ?_
  refine zv_8_78 C hS ha1 (st := [.int (I_5.1 k 5), .ref (B + (k + 9))]) h ⟨Nat.le_of_ble_eq_true rfl, Nat.le_of_ble_eq_true rfl⟩ (Nat.le_of_ble_eq_true rfl) dyX8_append_79 (fun r_6 h => ?_)
  refine zv_8_71 C hS hk.2.2.2.2.2 (st := []) h ⟨Nat.le_of_ble_eq_true rfl, Nat.le_of_ble_eq_true rfl⟩ (Nat.le_of_ble_eq_true rfl) dyX8_append_82 (fun I_7 h => ?_)
  refine zr_aload_n C dyX8_append_85 rfl 0 rfl ?_
  refine zr_dup C dyX8_append_86 rfl ?_
  refine zg_8_32 C hk dyX8_append_87 ?_
  refine zr_iconst C dyX8_append_90 zc_i_1 ?_
  refine zr_iadd C dyX8_append_91 ?_
  refine zp_8_32 C hk dyX8_append_92 ?_
  refine zn_mem C (fun I_8 eI_8 => ?_)
  replace h := h I_8 eI_8
  exact zr_vret C rfl dyX8_append_95 ⟨rfl, rfl, h⟩
theorem zv_8_58 {p : Program} {l : Launch} {e : Env} {R : Room} {s : State} {m : MethodId} {args : Array Value} {below : List Frame} {meth : Method} {c : Code} {Q : State → Prop} {D : va_G} {B : Nat} {cA : Nat → ClassId} {ad : Nat → Nat} {cc : ByteArray} {nL : Nat} {ret : Option FieldType} {S : List zC} {I : zI} {lv : List (Nat × Value)} {st : List Value} {pc : Nat} (C : zCx p s m args meth c cc nL RX8 ret D B cA ad) {K : Int32 → Prop} {xa0 : Int32} (hS : zOkX S)  (h : w_Tokens_signOf xa0 I K) (hR : 0 + 1 ≤ R.frames ∧ 8 + (1 + 11) + (0) ≤ R.locals) (hw : (st.map fun v => v.category).sum ≤ 8) (hd : decode cc pc = .ok (.invokestatic 58, 3)) (kk : ∀ v, K v → zX p l e R s m args below meth c Q D B cA nL 0 0 S I lv (.int v :: st) (pc + 3)) : zX p l e R s m args below meth c Q D B cA nL 0 0 S I lv (.int xa0 :: st) pc :=
  have hf : 0 ≤ R.cells ∧ 0 ≤ R.slots := ⟨Nat.zero_le _, Nat.zero_le _⟩
  zc_SpI C (As := [.int xa0]) (st := st) (c_Tokens_signOf hS h) (zgM zk_cd_yX8_signOf) zk_ml_8_58 zk_st_yX8_signOf zk_in_8 zsg_yX8_signOf hR rfl rfl hw hd hf kk
theorem zv_8_54 {p : Program} {l : Launch} {e : Env} {R : Room} {s : State} {m : MethodId} {args : Array Value} {below : List Frame} {meth : Method} {c : Code} {Q : State → Prop} {D : va_G} {B : Nat} {cA : Nat → ClassId} {ad : Nat → Nat} {cc : ByteArray} {nL : Nat} {ret : Option FieldType} {S : List zC} {I : zI} {lv : List (Nat × Value)} {st : List Value} {pc : Nat} (C : zCx p s m args meth c cc nL RX8 ret D B cA ad) {K : zI → Prop} {xk : Nat} {xa1 : Nat} {xa1n : Nat} {xa2 : Int32} {xa3 : Int32} {xa4 : Int32} (hS : zOkX S) (xhk : zIsTokens S xk) (xha1 : zIsRow S xa1 xa1n) (h : w_Tokens_append xk xa1 xa1n xa2 xa3 xa4 I K) (hR : 2 + 1 ≤ R.frames ∧ 8 + (5 + 11) + (45) ≤ R.locals) (hw : (st.map fun v => v.category).sum ≤ 8) (hd : decode cc pc = .ok (.invokevirtual 54, 3)) (kk : ∀ I2, K I2 → zX p l e R s m args below meth c Q D B cA nL 0 0 S I2 lv st (pc + 3)) : zX p l e R s m args below meth c Q D B cA nL 0 0 S I lv (.int xa4 :: .int xa3 :: .int xa2 :: .ref (B + xa1) :: .ref (B + xk) :: st) pc :=
  have hf : 0 ≤ R.cells ∧ 0 ≤ R.slots := ⟨Nat.zero_le _, Nat.zero_le _⟩
  zc_VqV C (ci := 8) (q := (RX8, TX8, 6)) (k := xk) (fs := [some (some (xk + 1)), some (some (xk + 3)), some (some (xk + 5)), some (some (xk + 7)), some (some (xk + 9)), none]) (As := [.ref (B + xa1), .int xa2, .int xa3, .int xa4]) (st := st) rfl xhk.1 (c_Tokens_append hS xhk xha1 h) (zgV zk_ml_8_54 zk_im_yX8_append zk_se_yX8_append zk_in_8 zk_cd_yX8_append) zsg_yX8_append hR rfl rfl hw hd hf kk
theorem zv_8_67 {p : Program} {l : Launch} {e : Env} {R : Room} {s : State} {m : MethodId} {args : Array Value} {below : List Frame} {meth : Method} {c : Code} {Q : State → Prop} {D : va_G} {B : Nat} {cA : Nat → ClassId} {ad : Nat → Nat} {cc : ByteArray} {nL : Nat} {ret : Option FieldType} {S : List zC} {I : zI} {lv : List (Nat × Value)} {st : List Value} {pc : Nat} (C : zCx p s m args meth c cc nL RX8 ret D B cA ad) {K : Int32 → Prop} {xa0 : Nat} {xa0n : Nat} {xa1 : Int32} {xa2 : Int32} {xa3 : Int32} (hS : zOkX S) (xha0 : zIsRow S xa0 xa0n) (h : w_Tokens_runFrom xa0 xa0n xa1 xa2 xa3 I K) (hR : 1 + 1 ≤ R.frames ∧ 8 + (6 + 11) + (21) ≤ R.locals) (hw : (st.map fun v => v.category).sum ≤ 8) (hd : decode cc pc = .ok (.invokestatic 67, 3)) (kk : ∀ v, K v → zX p l e R s m args below meth c Q D B cA nL 0 0 S I lv (.int v :: st) (pc + 3)) : zX p l e R s m args below meth c Q D B cA nL 0 0 S I lv (.int xa3 :: .int xa2 :: .int xa1 :: .ref (B + xa0) :: st) pc :=
  have hf : 0 ≤ R.cells ∧ 0 ≤ R.slots := ⟨Nat.zero_le _, Nat.zero_le _⟩
  zc_SpI C (As := [.ref (B + xa0), .int xa1, .int xa2, .int xa3]) (st := st) (c_Tokens_runFrom hS xha0 h) (zgM zk_cd_yX8_runFrom) zk_ml_8_67 zk_st_yX8_runFrom zk_in_8 zsg_yX8_runFrom hR rfl rfl hw hd hf kk
def w_Tokens_readOne (k : Nat) (a1 : Nat) (a1n : Nat) (a2 : Int32) (a3 : Int32) (I : zI) (K : Int32 → zI → Prop) : Prop :=
  w_Row_get a1 a1n a3 I (fun r_1 => w_Tokens_signOf r_1 I (fun r_2 => w_Tokens_isLetter r_1 I (fun r_3 => ∀ (P107 : Int32 → Int32 → Prop), (∀ (v5_4 : Int32) (v6_5 : Int32), (w_Tokens_append k a1 a1n v5_4 a3 v6_5 I (fun I_6 => K v6_5 I_6)) → P107 v5_4 v6_5) → ∀ (P33 : Prop), ((w_Tokens_isLetter r_1 I (fun r_7 => ∀ (P47 : Int32 → Prop), (∀ (t_8 : Int32), (w_Tokens_runFrom a1 a1n a2 a3 (t_8 + 1) I (fun r_9 => w_Tokens_isLetter r_1 I (fun r_10 => ∀ (P74 : Int32 → Prop), (∀ (t_11 : Int32), (∀ (P90 : Int32 → Prop), (∀ (t_12 : Int32), (∀ (P105 : Int32 → Prop), (∀ (t_13 : Int32), (P107 t_12 t_13) → P105 t_13) → (if r_9 ≤ t_8 then P105 r_9 else P105 1)) → P90 t_12) → (if r_9 ≤ t_8 then P90 t_11 else P90 11)) → P74 t_11) → (if r_10 = 0 then P74 1 else P74 0)))) → P47 t_8) → (if r_7 = 0 then P47 4 else P47 8))) → P33) → (if r_3 = 0 then (w_Tokens_isDigit r_1 I (fun r_18 => (if r_18 = 0 then P107 r_2 1 else P33))) else P33))))
theorem dyX8_readOne_0 : decode cX8_readOne 0 = .ok (.aload_n 1, 1) := by decide +kernel
theorem dyX8_readOne_1 : decode cX8_readOne 1 = .ok (.iload_n 3, 1) := by decide +kernel
theorem dyX8_readOne_2 : decode cX8_readOne 2 = .ok (.invokevirtual 36, 3) := by decide +kernel
theorem dyX8_readOne_5 : decode cX8_readOne 5 = .ok (.istore 4, 2) := by decide +kernel
theorem dyX8_readOne_7 : decode cX8_readOne 7 = .ok (.iload 4, 2) := by decide +kernel
theorem dyX8_readOne_9 : decode cX8_readOne 9 = .ok (.invokestatic 58, 3) := by decide +kernel
theorem dyX8_readOne_12 : decode cX8_readOne 12 = .ok (.istore 5, 2) := by decide +kernel
theorem dyX8_readOne_14 : decode cX8_readOne 14 = .ok (.iconst 1, 1) := by decide +kernel
theorem dyX8_readOne_15 : decode cX8_readOne 15 = .ok (.istore 6, 2) := by decide +kernel
theorem dyX8_readOne_17 : decode cX8_readOne 17 = .ok (.iload 4, 2) := by decide +kernel
theorem dyX8_readOne_19 : decode cX8_readOne 19 = .ok (.invokestatic 61, 3) := by decide +kernel
theorem dyX8_readOne_22 : decode cX8_readOne 22 = .ok (.ifCond .ne 11, 3) := by decide +kernel
theorem dyX8_readOne_25 : decode cX8_readOne 25 = .ok (.iload 4, 2) := by decide +kernel
theorem dyX8_readOne_27 : decode cX8_readOne 27 = .ok (.invokestatic 64, 3) := by decide +kernel
theorem dyX8_readOne_30 : decode cX8_readOne 30 = .ok (.ifCond .eq 77, 3) := by decide +kernel
theorem dyX8_readOne_33 : decode cX8_readOne 33 = .ok (.iload 4, 2) := by decide +kernel
theorem dyX8_readOne_35 : decode cX8_readOne 35 = .ok (.invokestatic 61, 3) := by decide +kernel
theorem dyX8_readOne_38 : decode cX8_readOne 38 = .ok (.ifCond .eq 8, 3) := by decide +kernel
theorem dyX8_readOne_41 : decode cX8_readOne 41 = .ok (.bipush 8, 2) := by decide +kernel
theorem dyX8_readOne_43 : decode cX8_readOne 43 = .ok (.goto 4, 3) := by decide +kernel
theorem dyX8_readOne_46 : decode cX8_readOne 46 = .ok (.iconst 4, 1) := by decide +kernel
theorem dyX8_readOne_47 : decode cX8_readOne 47 = .ok (.istore 7, 2) := by decide +kernel
theorem dyX8_readOne_49 : decode cX8_readOne 49 = .ok (.aload_n 1, 1) := by decide +kernel
theorem dyX8_readOne_50 : decode cX8_readOne 50 = .ok (.iload_n 2, 1) := by decide +kernel
theorem dyX8_readOne_51 : decode cX8_readOne 51 = .ok (.iload_n 3, 1) := by decide +kernel
theorem dyX8_readOne_52 : decode cX8_readOne 52 = .ok (.iload 7, 2) := by decide +kernel
theorem dyX8_readOne_54 : decode cX8_readOne 54 = .ok (.iconst 1, 1) := by decide +kernel
theorem dyX8_readOne_55 : decode cX8_readOne 55 = .ok (.iadd, 1) := by decide +kernel
theorem dyX8_readOne_56 : decode cX8_readOne 56 = .ok (.invokestatic 67, 3) := by decide +kernel
theorem dyX8_readOne_59 : decode cX8_readOne 59 = .ok (.istore 8, 2) := by decide +kernel
theorem dyX8_readOne_61 : decode cX8_readOne 61 = .ok (.iload 4, 2) := by decide +kernel
theorem dyX8_readOne_63 : decode cX8_readOne 63 = .ok (.invokestatic 61, 3) := by decide +kernel
theorem dyX8_readOne_66 : decode cX8_readOne 66 = .ok (.ifCond .eq 7, 3) := by decide +kernel
theorem dyX8_readOne_69 : decode cX8_readOne 69 = .ok (.iconst 0, 1) := by decide +kernel
theorem dyX8_readOne_70 : decode cX8_readOne 70 = .ok (.goto 4, 3) := by decide +kernel
theorem dyX8_readOne_73 : decode cX8_readOne 73 = .ok (.iconst 1, 1) := by decide +kernel
theorem dyX8_readOne_74 : decode cX8_readOne 74 = .ok (.istore 5, 2) := by decide +kernel
theorem dyX8_readOne_76 : decode cX8_readOne 76 = .ok (.iload 8, 2) := by decide +kernel
theorem dyX8_readOne_78 : decode cX8_readOne 78 = .ok (.iload 7, 2) := by decide +kernel
theorem dyX8_readOne_80 : decode cX8_readOne 80 = .ok (.if_icmp .le 8, 3) := by decide +kernel
theorem dyX8_readOne_83 : decode cX8_readOne 83 = .ok (.bipush 11, 2) := by decide +kernel
theorem dyX8_readOne_85 : decode cX8_readOne 85 = .ok (.goto 5, 3) := by decide +kernel
theorem dyX8_readOne_88 : decode cX8_readOne 88 = .ok (.iload 5, 2) := by decide +kernel
theorem dyX8_readOne_90 : decode cX8_readOne 90 = .ok (.istore 5, 2) := by decide +kernel
theorem dyX8_readOne_92 : decode cX8_readOne 92 = .ok (.iload 8, 2) := by decide +kernel
theorem dyX8_readOne_94 : decode cX8_readOne 94 = .ok (.iload 7, 2) := by decide +kernel
theorem dyX8_readOne_96 : decode cX8_readOne 96 = .ok (.if_icmp .le 7, 3) := by decide +kernel
theorem dyX8_readOne_99 : decode cX8_readOne 99 = .ok (.iconst 1, 1) := by decide +kernel
theorem dyX8_readOne_100 : decode cX8_readOne 100 = .ok (.goto 5, 3) := by decide +kernel
theorem dyX8_readOne_103 : decode cX8_readOne 103 = .ok (.iload 8, 2) := by decide +kernel
theorem dyX8_readOne_105 : decode cX8_readOne 105 = .ok (.istore 6, 2) := by decide +kernel
theorem dyX8_readOne_107 : decode cX8_readOne 107 = .ok (.aload_n 0, 1) := by decide +kernel
theorem dyX8_readOne_108 : decode cX8_readOne 108 = .ok (.aload_n 1, 1) := by decide +kernel
theorem dyX8_readOne_109 : decode cX8_readOne 109 = .ok (.iload 5, 2) := by decide +kernel
theorem dyX8_readOne_111 : decode cX8_readOne 111 = .ok (.iload_n 3, 1) := by decide +kernel
theorem dyX8_readOne_112 : decode cX8_readOne 112 = .ok (.iload 6, 2) := by decide +kernel
theorem dyX8_readOne_114 : decode cX8_readOne 114 = .ok (.invokevirtual 54, 3) := by decide +kernel
theorem dyX8_readOne_117 : decode cX8_readOne 117 = .ok (.iload 6, 2) := by decide +kernel
theorem dyX8_readOne_119 : decode cX8_readOne 119 = .ok (.ireturn, 1) := by decide +kernel
theorem zsg_yX8_readOne : yX8_readOne.cls = RX8 ∧ yX8_readOne.cls ≠ "java/lang/invoke/MethodHandle" ∧ yX8_readOne.cls ≠ "java/lang/invoke/VarHandle" ∧ (parseMethodDescriptor yX8_readOne.desc).map (fun d => d.parameters.length) = some 3 := by decide +kernel
set_option maxRecDepth 20000 in
theorem c_Tokens_readOne {l : Launch} {D : va_G} {B : Nat} {cA : Nat → ClassId} {ad : Nat → Nat} {S : List zC} (hS : zOkX S) {k : Nat} {a1 : Nat} {a1n : Nat} {a2 : Int32} {a3 : Int32} {I : zI} {K : Int32 → zI → Prop} (hk : zIsTokens S k) (ha1 : zIsRow S a1 a1n) (h : w_Tokens_readOne k a1 a1n a2 a3 I K) : Met l yX8_readOne (zws yX8_readOne cX8_readOne 9 (some .int)) (zrm 3 69) (zPc D B cA ad [.ref (B + k), .ref (B + a1), .int a2, .int a3] S I) (zQc D B cA (zqI S K)) 0 0 (fun q => B ≤ q) := by
  refine zm_of (cc := cX8_readOne) (maxL := 9) (ret := (some .int)) (by decide +kernel) rfl (Nat.le_of_ble_eq_true rfl) trivial ?_
  intro p e s m args below meth c C _
  unfold w_Tokens_readOne at h
  show zX p l e (zrm 3 69) s m args below meth c (MQ below (zQc D B cA (zqI S K)) args s 0 0 (fun q => B ≤ q)) D B cA 9 0 0 S I [(0, .ref (B + k)), (1, .ref (B + a1)), (2, .int a2), (3, .int a3)] [] 0
  refine zr_aload_n C dyX8_readOne_0 rfl 1 rfl ?_
  refine zr_iload_n C dyX8_readOne_1 rfl 3 rfl ?_
  refine zv_8_36 C hS ha1 (st := []) h ⟨Nat.le_of_ble_eq_true rfl, Nat.le_of_ble_eq_true rfl⟩ (Nat.le_of_ble_eq_true rfl) dyX8_readOne_2 (fun r_1 h => ?_)
  refine zr_istore C dyX8_readOne_5 (Nat.le_of_ble_eq_true rfl) (lv2 := [(4, .int r_1), (0, .ref (B + k)), (1, .ref (B + a1)), (2, .int a2), (3, .int a3)]) rfl ?_
  refine zr_iload C dyX8_readOne_7 0 rfl ?_
  refine zv_8_58 C hS (st := []) h ⟨Nat.le_of_ble_eq_true rfl, Nat.le_of_ble_eq_true rfl⟩ (Nat.le_of_ble_eq_true rfl) dyX8_readOne_9 (fun r_2 h => ?_)
  refine zr_istore C dyX8_readOne_12 (Nat.le_of_ble_eq_true rfl) (lv2 := [(5, .int r_2), (4, .int r_1), (0, .ref (B + k)), (1, .ref (B + a1)), (2, .int a2), (3, .int a3)]) rfl ?_
  refine zr_iconst C dyX8_readOne_14 zc_i_1 ?_
  refine zr_istore C dyX8_readOne_15 (Nat.le_of_ble_eq_true rfl) (lv2 := [(6, .int 1), (5, .int r_2), (4, .int r_1), (0, .ref (B + k)), (1, .ref (B + a1)), (2, .int a2), (3, .int a3)]) rfl ?_
  refine zr_iload C dyX8_readOne_17 2 rfl ?_
  refine zv_8_61 C hS (st := []) h ⟨Nat.le_of_ble_eq_true rfl, Nat.le_of_ble_eq_true rfl⟩ (Nat.le_of_ble_eq_true rfl) dyX8_readOne_19 (fun r_3 h => ?_)
  refine zjn (h (fun (v5_4 : Int32) (v6_5 : Int32) => zX p l e (zrm 3 69) s m args below meth c (MQ below (zQc D B cA (zqI S K)) args s 0 0 (fun q => B ≤ q)) D B cA 9 0 0 S I [(6, .int v6_5), (5, .int v5_4), (0, .ref (B + k)), (1, .ref (B + a1)), (3, .int a3)] [] 107) (fun v5_4 v6_5 h => ?_)) (fun h => ?_)
  · refine zr_aload_n C dyX8_readOne_107 rfl 2 rfl ?_
    refine zr_aload_n C dyX8_readOne_108 rfl 3 rfl ?_
    refine zr_iload C dyX8_readOne_109 1 rfl ?_
    refine zr_iload_n C dyX8_readOne_111 rfl 4 rfl ?_
    refine zr_iload C dyX8_readOne_112 0 rfl ?_
    refine zv_8_54 C hS hk ha1 (st := []) h ⟨Nat.le_of_ble_eq_true rfl, Nat.le_of_ble_eq_true rfl⟩ (Nat.le_of_ble_eq_true rfl) dyX8_readOne_114 (fun I_6 h => ?_)
    refine zr_iload C dyX8_readOne_117 0 rfl ?_
    exact zr_iret C rfl dyX8_readOne_119 ⟨rfl, _, rfl, h⟩
  refine zjn (h (zX p l e (zrm 3 69) s m args below meth c (MQ below (zQc D B cA (zqI S K)) args s 0 0 (fun q => B ≤ q)) D B cA 9 0 0 S I [(4, .int r_1), (0, .ref (B + k)), (1, .ref (B + a1)), (2, .int a2), (3, .int a3)] [] 33) (fun  h => ?_)) (fun h => ?_)
  · refine zr_iload C dyX8_readOne_33 0 rfl ?_
    refine zv_8_61 C hS (st := []) h ⟨Nat.le_of_ble_eq_true rfl, Nat.le_of_ble_eq_true rfl⟩ (Nat.le_of_ble_eq_true rfl) dyX8_readOne_35 (fun r_7 h => ?_)
    refine zjn (h (fun (t_8 : Int32) => zX p l e (zrm 3 69) s m args below meth c (MQ below (zQc D B cA (zqI S K)) args s 0 0 (fun q => B ≤ q)) D B cA 9 0 0 S I [(4, .int r_1), (0, .ref (B + k)), (1, .ref (B + a1)), (2, .int a2), (3, .int a3)] [.int t_8] 47) (fun t_8 h => ?_)) (fun h => ?_)
    · refine zr_istore C dyX8_readOne_47 (Nat.le_of_ble_eq_true rfl) (lv2 := [(7, .int t_8), (4, .int r_1), (0, .ref (B + k)), (1, .ref (B + a1)), (2, .int a2), (3, .int a3)]) rfl ?_
      refine zr_aload_n C dyX8_readOne_49 rfl 3 rfl ?_
      refine zr_iload_n C dyX8_readOne_50 rfl 4 rfl ?_
      refine zr_iload_n C dyX8_readOne_51 rfl 5 rfl ?_
      refine zr_iload C dyX8_readOne_52 0 rfl ?_
      refine zr_iconst C dyX8_readOne_54 zc_i_1 ?_
      refine zr_iadd C dyX8_readOne_55 ?_
      refine zv_8_67 C hS ha1 (st := []) h ⟨Nat.le_of_ble_eq_true rfl, Nat.le_of_ble_eq_true rfl⟩ (Nat.le_of_ble_eq_true rfl) dyX8_readOne_56 (fun r_9 h => ?_)
      refine zr_istore C dyX8_readOne_59 (Nat.le_of_ble_eq_true rfl) (lv2 := [(8, .int r_9), (7, .int t_8), (4, .int r_1), (0, .ref (B + k)), (1, .ref (B + a1)), (2, .int a2), (3, .int a3)]) rfl ?_
      refine zr_iload C dyX8_readOne_61 2 rfl ?_
      refine zv_8_61 C hS (st := []) h ⟨Nat.le_of_ble_eq_true rfl, Nat.le_of_ble_eq_true rfl⟩ (Nat.le_of_ble_eq_true rfl) dyX8_readOne_63 (fun r_10 h => ?_)
      refine zjn (h (fun (t_11 : Int32) => zX p l e (zrm 3 69) s m args below meth c (MQ below (zQc D B cA (zqI S K)) args s 0 0 (fun q => B ≤ q)) D B cA 9 0 0 S I [(8, .int r_9), (7, .int t_8), (0, .ref (B + k)), (1, .ref (B + a1)), (3, .int a3)] [.int t_11] 74) (fun t_11 h => ?_)) (fun h => ?_)
      · refine zr_istore C dyX8_readOne_74 (Nat.le_of_ble_eq_true rfl) (lv2 := [(5, .int t_11), (8, .int r_9), (7, .int t_8), (0, .ref (B + k)), (1, .ref (B + a1)), (3, .int a3)]) rfl ?_
        refine zr_iload C dyX8_readOne_76 1 rfl ?_
        refine zr_iload C dyX8_readOne_78 2 rfl ?_
        refine zjn (h (fun (t_12 : Int32) => zX p l e (zrm 3 69) s m args below meth c (MQ below (zQc D B cA (zqI S K)) args s 0 0 (fun q => B ≤ q)) D B cA 9 0 0 S I [(8, .int r_9), (7, .int t_8), (0, .ref (B + k)), (1, .ref (B + a1)), (3, .int a3)] [.int t_12] 90) (fun t_12 h => ?_)) (fun h => ?_)
        · refine zr_istore C dyX8_readOne_90 (Nat.le_of_ble_eq_true rfl) (lv2 := [(5, .int t_12), (8, .int r_9), (7, .int t_8), (0, .ref (B + k)), (1, .ref (B + a1)), (3, .int a3)]) rfl ?_
          refine zr_iload C dyX8_readOne_92 1 rfl ?_
          refine zr_iload C dyX8_readOne_94 2 rfl ?_
          refine zjn (h (fun (t_13 : Int32) => zX p l e (zrm 3 69) s m args below meth c (MQ below (zQc D B cA (zqI S K)) args s 0 0 (fun q => B ≤ q)) D B cA 9 0 0 S I [(5, .int t_12), (0, .ref (B + k)), (1, .ref (B + a1)), (3, .int a3)] [.int t_13] 105) (fun t_13 h => ?_)) (fun h => ?_)
          · refine zr_istore C dyX8_readOne_105 (Nat.le_of_ble_eq_true rfl) (lv2 := [(6, .int t_13), (5, .int t_12), (0, .ref (B + k)), (1, .ref (B + a1)), (3, .int a3)]) rfl ?_
            exact h
          refine zr_icmp_le C dyX8_readOne_96 (tgt := 103) (by decide) (fun hc_14 => ?_) (fun hc_14 => ?_)
          · replace h := zif_pos hc_14 h
            refine zr_iload C dyX8_readOne_103 1 rfl ?_
            refine zr_sub (lv2 := [(5, .int t_12), (0, .ref (B + k)), (1, .ref (B + a1)), (3, .int a3)]) [0, 3, 4, 5] rfl ?_
            exact h
          · replace h := zif_neg hc_14 h
            refine zr_iconst C dyX8_readOne_99 zc_i_1 ?_
            refine zr_goto C dyX8_readOne_100 (tgt := 105) (by decide) ?_
            refine zr_sub (lv2 := [(5, .int t_12), (0, .ref (B + k)), (1, .ref (B + a1)), (3, .int a3)]) [0, 3, 4, 5] rfl ?_
            exact h
        refine zr_icmp_le C dyX8_readOne_80 (tgt := 88) (by decide) (fun hc_15 => ?_) (fun hc_15 => ?_)
        · replace h := zif_pos hc_15 h
          refine zr_iload C dyX8_readOne_88 0 rfl ?_
          refine zr_sub (lv2 := [(8, .int r_9), (7, .int t_8), (0, .ref (B + k)), (1, .ref (B + a1)), (3, .int a3)]) [1, 2, 3, 4, 5] rfl ?_
          exact h
        · replace h := zif_neg hc_15 h
          refine zr_bipush C dyX8_readOne_83 zc_b_11 ?_
          refine zr_goto C dyX8_readOne_85 (tgt := 90) (by decide) ?_
          refine zr_sub (lv2 := [(8, .int r_9), (7, .int t_8), (0, .ref (B + k)), (1, .ref (B + a1)), (3, .int a3)]) [1, 2, 3, 4, 5] rfl ?_
          exact h
      refine zr_if_eq C dyX8_readOne_66 (tgt := 73) (by decide) (fun hc_16 => ?_) (fun hc_16 => ?_)
      · replace h := zif_pos hc_16 h
        refine zr_iconst C dyX8_readOne_73 zc_i_1 ?_
        refine zr_sub (lv2 := [(8, .int r_9), (7, .int t_8), (0, .ref (B + k)), (1, .ref (B + a1)), (3, .int a3)]) [0, 1, 3, 4, 6] rfl ?_
        exact h
      · replace h := zif_neg hc_16 h
        refine zr_iconst C dyX8_readOne_69 zc_i_0 ?_
        refine zr_goto C dyX8_readOne_70 (tgt := 74) (by decide) ?_
        refine zr_sub (lv2 := [(8, .int r_9), (7, .int t_8), (0, .ref (B + k)), (1, .ref (B + a1)), (3, .int a3)]) [0, 1, 3, 4, 6] rfl ?_
        exact h
    refine zr_if_eq C dyX8_readOne_38 (tgt := 46) (by decide) (fun hc_17 => ?_) (fun hc_17 => ?_)
    · replace h := zif_pos hc_17 h
      refine zr_iconst C dyX8_readOne_46 zc_i_4 ?_
      exact h
    · replace h := zif_neg hc_17 h
      refine zr_bipush C dyX8_readOne_41 zc_b_8 ?_
      refine zr_goto C dyX8_readOne_43 (tgt := 47) (by decide) ?_
      exact h
  refine zr_if_ne C dyX8_readOne_22 (tgt := 33) (by decide) (fun hc_20 => ?_) (fun hc_20 => ?_)
  · replace h := zif_neg hc_20 h
    refine zr_sub (lv2 := [(4, .int r_1), (0, .ref (B + k)), (1, .ref (B + a1)), (2, .int a2), (3, .int a3)]) [2, 3, 4, 5, 6] rfl ?_
    exact h
  · replace h := zif_pos hc_20 h
    refine zr_iload C dyX8_readOne_25 2 rfl ?_
    refine zv_8_64 C hS (st := []) h ⟨Nat.le_of_ble_eq_true rfl, Nat.le_of_ble_eq_true rfl⟩ (Nat.le_of_ble_eq_true rfl) dyX8_readOne_27 (fun r_18 h => ?_)
    refine zr_if_eq C dyX8_readOne_30 (tgt := 107) (by decide) (fun hc_19 => ?_) (fun hc_19 => ?_)
    · replace h := zif_pos hc_19 h
      refine zr_sub (lv2 := [(6, .int 1), (5, .int r_2), (0, .ref (B + k)), (1, .ref (B + a1)), (3, .int a3)]) [0, 1, 3, 4, 6] rfl ?_
      exact h
    · replace h := zif_neg hc_19 h
      refine zr_sub (lv2 := [(4, .int r_1), (0, .ref (B + k)), (1, .ref (B + a1)), (2, .int a2), (3, .int a3)]) [2, 3, 4, 5, 6] rfl ?_
      exact h
theorem zv_8_40 {p : Program} {l : Launch} {e : Env} {R : Room} {s : State} {m : MethodId} {args : Array Value} {below : List Frame} {meth : Method} {c : Code} {Q : State → Prop} {D : va_G} {B : Nat} {cA : Nat → ClassId} {ad : Nat → Nat} {cc : ByteArray} {nL : Nat} {ret : Option FieldType} {S : List zC} {I : zI} {lv : List (Nat × Value)} {st : List Value} {pc : Nat} (C : zCx p s m args meth c cc nL RX8 ret D B cA ad) {K : Int32 → Prop} {xa0 : Int32} (hS : zOkX S)  (h : w_Tokens_isBlank xa0 I K) (hR : 0 + 1 ≤ R.frames ∧ 8 + (1 + 11) + (0) ≤ R.locals) (hw : (st.map fun v => v.category).sum ≤ 8) (hd : decode cc pc = .ok (.invokestatic 40, 3)) (kk : ∀ v, K v → zX p l e R s m args below meth c Q D B cA nL 0 0 S I lv (.int v :: st) (pc + 3)) : zX p l e R s m args below meth c Q D B cA nL 0 0 S I lv (.int xa0 :: st) pc :=
  have hf : 0 ≤ R.cells ∧ 0 ≤ R.slots := ⟨Nat.zero_le _, Nat.zero_le _⟩
  zc_SpI C (As := [.int xa0]) (st := st) (c_Tokens_isBlank hS h) (zgM zk_cd_yX8_isBlank) zk_ml_8_40 zk_st_yX8_isBlank zk_in_8 zsg_yX8_isBlank hR rfl rfl hw hd hf kk
theorem zv_8_44 {p : Program} {l : Launch} {e : Env} {R : Room} {s : State} {m : MethodId} {args : Array Value} {below : List Frame} {meth : Method} {c : Code} {Q : State → Prop} {D : va_G} {B : Nat} {cA : Nat → ClassId} {ad : Nat → Nat} {cc : ByteArray} {nL : Nat} {ret : Option FieldType} {S : List zC} {I : zI} {lv : List (Nat × Value)} {st : List Value} {pc : Nat} (C : zCx p s m args meth c cc nL RX8 ret D B cA ad) {K : Int32 → zI → Prop} {xk : Nat} {xa1 : Nat} {xa1n : Nat} {xa2 : Int32} {xa3 : Int32} (hS : zOkX S) (xhk : zIsTokens S xk) (xha1 : zIsRow S xa1 xa1n) (h : w_Tokens_readOne xk xa1 xa1n xa2 xa3 I K) (hR : 3 + 1 ≤ R.frames ∧ 8 + (9 + 11) + (69) ≤ R.locals) (hw : (st.map fun v => v.category).sum ≤ 8) (hd : decode cc pc = .ok (.invokevirtual 44, 3)) (kk : ∀ v I2, K v I2 → zX p l e R s m args below meth c Q D B cA nL 0 0 S I2 lv (.int v :: st) (pc + 3)) : zX p l e R s m args below meth c Q D B cA nL 0 0 S I lv (.int xa3 :: .int xa2 :: .ref (B + xa1) :: .ref (B + xk) :: st) pc :=
  have hf : 0 ≤ R.cells ∧ 0 ≤ R.slots := ⟨Nat.zero_le _, Nat.zero_le _⟩
  zc_VqI C (ci := 8) (q := (RX8, TX8, 6)) (k := xk) (fs := [some (some (xk + 1)), some (some (xk + 3)), some (some (xk + 5)), some (some (xk + 7)), some (some (xk + 9)), none]) (As := [.ref (B + xa1), .int xa2, .int xa3]) (st := st) rfl xhk.1 (c_Tokens_readOne hS xhk xha1 h) (zgV zk_ml_8_44 zk_im_yX8_readOne zk_se_yX8_readOne zk_in_8 zk_cd_yX8_readOne) zsg_yX8_readOne hR rfl rfl hw hd hf kk
def w_Tokens_readAll (k : Nat) (a1 : Nat) (a1n : Nat) (a2 : Int32) (I : zI) (K : Int32 → zI → Prop) : Prop :=
  ∀ I_1, I_1 = (zu I k 5 0) → ∀ (P7 : Int32 → zI → Prop), (∀ (v3_2 : Int32) (I_3 : zI), ((if a2 ≤ v3_2 then (w_Tokens_append k a1 a1n 10 a2 0 I_3 (fun I_4 => K 1 I_4)) else (w_Row_get a1 a1n v3_2 I_3 (fun r_5 => w_Tokens_isBlank r_5 I_3 (fun r_6 => ∀ (P34 : Int32 → zI → Prop), (∀ (t_7 : Int32) (I_8 : zI), (∀ v3_9, v3_9 = (v3_2 + (if 1 < t_7 then t_7 else 1)) → (if (I_8.1 k 5) < 100 then P7 v3_9 I_8 else K 0 I_8)) → P34 t_7 I_8) → (if r_6 = 0 then (w_Tokens_readOne k a1 a1n a2 v3_2 I_3 (fun r_11 I_12 => P34 r_11 I_12)) else P34 1 I_3)))))) → P7 v3_2 I_3) → P7 0 I_1
theorem dyX8_readAll_0 : decode cX8_readAll 0 = .ok (.aload_n 0, 1) := by decide +kernel
theorem dyX8_readAll_1 : decode cX8_readAll 1 = .ok (.iconst 0, 1) := by decide +kernel
theorem dyX8_readAll_2 : decode cX8_readAll 2 = .ok (.putfield 32, 3) := by decide +kernel
theorem dyX8_readAll_5 : decode cX8_readAll 5 = .ok (.iconst 0, 1) := by decide +kernel
theorem dyX8_readAll_6 : decode cX8_readAll 6 = .ok (.istore_n 3, 1) := by decide +kernel
theorem dyX8_readAll_7 : decode cX8_readAll 7 = .ok (.iload_n 3, 1) := by decide +kernel
theorem dyX8_readAll_8 : decode cX8_readAll 8 = .ok (.iload_n 2, 1) := by decide +kernel
theorem dyX8_readAll_9 : decode cX8_readAll 9 = .ok (.if_icmp .ge 50, 3) := by decide +kernel
theorem dyX8_readAll_12 : decode cX8_readAll 12 = .ok (.aload_n 1, 1) := by decide +kernel
theorem dyX8_readAll_13 : decode cX8_readAll 13 = .ok (.iload_n 3, 1) := by decide +kernel
theorem dyX8_readAll_14 : decode cX8_readAll 14 = .ok (.invokevirtual 36, 3) := by decide +kernel
theorem dyX8_readAll_17 : decode cX8_readAll 17 = .ok (.invokestatic 40, 3) := by decide +kernel
theorem dyX8_readAll_20 : decode cX8_readAll 20 = .ok (.ifCond .eq 7, 3) := by decide +kernel
theorem dyX8_readAll_23 : decode cX8_readAll 23 = .ok (.iconst 1, 1) := by decide +kernel
theorem dyX8_readAll_24 : decode cX8_readAll 24 = .ok (.goto 10, 3) := by decide +kernel
theorem dyX8_readAll_27 : decode cX8_readAll 27 = .ok (.aload_n 0, 1) := by decide +kernel
theorem dyX8_readAll_28 : decode cX8_readAll 28 = .ok (.aload_n 1, 1) := by decide +kernel
theorem dyX8_readAll_29 : decode cX8_readAll 29 = .ok (.iload_n 2, 1) := by decide +kernel
theorem dyX8_readAll_30 : decode cX8_readAll 30 = .ok (.iload_n 3, 1) := by decide +kernel
theorem dyX8_readAll_31 : decode cX8_readAll 31 = .ok (.invokevirtual 44, 3) := by decide +kernel
theorem dyX8_readAll_34 : decode cX8_readAll 34 = .ok (.istore 4, 2) := by decide +kernel
theorem dyX8_readAll_36 : decode cX8_readAll 36 = .ok (.iload_n 3, 1) := by decide +kernel
theorem dyX8_readAll_37 : decode cX8_readAll 37 = .ok (.iconst 1, 1) := by decide +kernel
theorem dyX8_readAll_38 : decode cX8_readAll 38 = .ok (.iload 4, 2) := by decide +kernel
theorem dyX8_readAll_40 : decode cX8_readAll 40 = .ok (.invokestatic 48, 3) := by decide +kernel
theorem dyX8_readAll_43 : decode cX8_readAll 43 = .ok (.iadd, 1) := by decide +kernel
theorem dyX8_readAll_44 : decode cX8_readAll 44 = .ok (.istore_n 3, 1) := by decide +kernel
theorem dyX8_readAll_45 : decode cX8_readAll 45 = .ok (.aload_n 0, 1) := by decide +kernel
theorem dyX8_readAll_46 : decode cX8_readAll 46 = .ok (.getfield 32, 3) := by decide +kernel
theorem dyX8_readAll_49 : decode cX8_readAll 49 = .ok (.bipush 100, 2) := by decide +kernel
theorem dyX8_readAll_51 : decode cX8_readAll 51 = .ok (.if_icmp .lt 5, 3) := by decide +kernel
theorem dyX8_readAll_54 : decode cX8_readAll 54 = .ok (.iconst 0, 1) := by decide +kernel
theorem dyX8_readAll_55 : decode cX8_readAll 55 = .ok (.ireturn, 1) := by decide +kernel
theorem dyX8_readAll_56 : decode cX8_readAll 56 = .ok (.goto (-49), 3) := by decide +kernel
theorem dyX8_readAll_59 : decode cX8_readAll 59 = .ok (.aload_n 0, 1) := by decide +kernel
theorem dyX8_readAll_60 : decode cX8_readAll 60 = .ok (.aload_n 1, 1) := by decide +kernel
theorem dyX8_readAll_61 : decode cX8_readAll 61 = .ok (.bipush 10, 2) := by decide +kernel
theorem dyX8_readAll_63 : decode cX8_readAll 63 = .ok (.iload_n 2, 1) := by decide +kernel
theorem dyX8_readAll_64 : decode cX8_readAll 64 = .ok (.iconst 0, 1) := by decide +kernel
theorem dyX8_readAll_65 : decode cX8_readAll 65 = .ok (.invokevirtual 54, 3) := by decide +kernel
theorem dyX8_readAll_68 : decode cX8_readAll 68 = .ok (.iconst 1, 1) := by decide +kernel
theorem dyX8_readAll_69 : decode cX8_readAll 69 = .ok (.ireturn, 1) := by decide +kernel
theorem zsg_yX8_readAll : yX8_readAll.cls = RX8 ∧ yX8_readAll.cls ≠ "java/lang/invoke/MethodHandle" ∧ yX8_readAll.cls ≠ "java/lang/invoke/VarHandle" ∧ (parseMethodDescriptor yX8_readAll.desc).map (fun d => d.parameters.length) = some 2 := by decide +kernel
set_option maxRecDepth 20000 in
theorem c_Tokens_readAll {l : Launch} {D : va_G} {B : Nat} {cA : Nat → ClassId} {ad : Nat → Nat} {S : List zC} (hS : zOkX S) {k : Nat} {a1 : Nat} {a1n : Nat} {a2 : Int32} {I : zI} {K : Int32 → zI → Prop} (hk : zIsTokens S k) (ha1 : zIsRow S a1 a1n) (h : w_Tokens_readAll k a1 a1n a2 I K) : Met l yX8_readAll (zws yX8_readAll cX8_readAll 5 (some .boolean)) (zrm 4 97) (zPc D B cA ad [.ref (B + k), .ref (B + a1), .int a2] S I) (zQc D B cA (zqI S K)) 0 0 (fun q => B ≤ q) := by
  refine zm_of (cc := cX8_readAll) (maxL := 5) (ret := (some .boolean)) (by decide +kernel) rfl (Nat.le_of_ble_eq_true rfl) trivial ?_
  intro p e s m args below meth c C _
  unfold w_Tokens_readAll at h
  show zX p l e (zrm 4 97) s m args below meth c (MQ below (zQc D B cA (zqI S K)) args s 0 0 (fun q => B ≤ q)) D B cA 5 0 0 S I [(0, .ref (B + k)), (1, .ref (B + a1)), (2, .int a2)] [] 0
  refine zr_aload_n C dyX8_readAll_0 rfl 0 rfl ?_
  refine zr_iconst C dyX8_readAll_1 zc_i_0 ?_
  refine zp_8_32 C hk dyX8_readAll_2 ?_
  refine zn_mem C (fun I_1 eI_1 => ?_)
  replace h := h I_1 eI_1
  refine zr_iconst C dyX8_readAll_5 zc_i_0 ?_
  refine zr_istore_n C dyX8_readAll_6 rfl (Nat.le_of_ble_eq_true rfl) (lv2 := [(3, .int 0), (0, .ref (B + k)), (1, .ref (B + a1)), (2, .int a2)]) rfl ?_
  refine zjn (h (fun (v3_2 : Int32) (I_3 : zI) => zX p l e (zrm 4 97) s m args below meth c (MQ below (zQc D B cA (zqI S K)) args s 0 0 (fun q => B ≤ q)) D B cA 5 0 0 S I_3 [(3, .int v3_2), (0, .ref (B + k)), (1, .ref (B + a1)), (2, .int a2)] [] 7) (fun v3_2 I_3 h => ?_)) (fun h => ?_)
  · refine zr_iload_n C dyX8_readAll_7 rfl 0 rfl ?_
    refine zr_iload_n C dyX8_readAll_8 rfl 3 rfl ?_
    refine zr_icmp_ge C dyX8_readAll_9 (tgt := 59) (by decide) (fun hc_14 => ?_) (fun hc_14 => ?_)
    · replace h := zif_pos hc_14 h
      refine zr_aload_n C dyX8_readAll_59 rfl 1 rfl ?_
      refine zr_aload_n C dyX8_readAll_60 rfl 2 rfl ?_
      refine zr_bipush C dyX8_readAll_61 zc_b_10 ?_
      refine zr_iload_n C dyX8_readAll_63 rfl 3 rfl ?_
      refine zr_iconst C dyX8_readAll_64 zc_i_0 ?_
      refine zv_8_54 C hS hk ha1 (st := []) h ⟨Nat.le_of_ble_eq_true rfl, Nat.le_of_ble_eq_true rfl⟩ (Nat.le_of_ble_eq_true rfl) dyX8_readAll_65 (fun I_4 h => ?_)
      refine zr_iconst C dyX8_readAll_68 zc_i_1 ?_
      exact zr_zret C rfl (zb.nar zb_1) dyX8_readAll_69 ⟨rfl, _, rfl, h⟩
    · replace h := zif_neg hc_14 h
      refine zr_aload_n C dyX8_readAll_12 rfl 2 rfl ?_
      refine zr_iload_n C dyX8_readAll_13 rfl 0 rfl ?_
      refine zv_8_36 C hS ha1 (st := []) h ⟨Nat.le_of_ble_eq_true rfl, Nat.le_of_ble_eq_true rfl⟩ (Nat.le_of_ble_eq_true rfl) dyX8_readAll_14 (fun r_5 h => ?_)
      refine zv_8_40 C hS (st := []) h ⟨Nat.le_of_ble_eq_true rfl, Nat.le_of_ble_eq_true rfl⟩ (Nat.le_of_ble_eq_true rfl) dyX8_readAll_17 (fun r_6 h => ?_)
      refine zjn (h (fun (t_7 : Int32) (I_8 : zI) => zX p l e (zrm 4 97) s m args below meth c (MQ below (zQc D B cA (zqI S K)) args s 0 0 (fun q => B ≤ q)) D B cA 5 0 0 S I_8 [(3, .int v3_2), (0, .ref (B + k)), (1, .ref (B + a1)), (2, .int a2)] [.int t_7] 34) (fun t_7 I_8 h => ?_)) (fun h => ?_)
      · refine zr_istore C dyX8_readAll_34 (Nat.le_of_ble_eq_true rfl) (lv2 := [(4, .int t_7), (3, .int v3_2), (0, .ref (B + k)), (1, .ref (B + a1)), (2, .int a2)]) rfl ?_
        refine zr_iload_n C dyX8_readAll_36 rfl 1 rfl ?_
        refine zr_iconst C dyX8_readAll_37 zc_i_1 ?_
        refine zr_iload C dyX8_readAll_38 0 rfl ?_
        refine zr_mmax C zk_ml_8_48 zk_st_J_max zk_in_Math zk_cd_J_max (Nat.le_of_ble_eq_true rfl) (Nat.le_of_ble_eq_true rfl) (Nat.le_of_ble_eq_true rfl) (Nat.zero_le _) (Nat.zero_le _) dyX8_readAll_40 ?_
        refine zr_iadd C dyX8_readAll_43 ?_
        refine zn_istore_n C (fun v3_9 => [(3, .int v3_9), (4, .int t_7), (0, .ref (B + k)), (1, .ref (B + a1)), (2, .int a2)]) dyX8_readAll_44 rfl (Nat.le_of_ble_eq_true rfl) (fun _ => rfl) (fun v3_9 ev3_9 => ?_)
        replace h := h v3_9 ev3_9
        refine zr_aload_n C dyX8_readAll_45 rfl 2 rfl ?_
        refine zg_8_32 C hk dyX8_readAll_46 ?_
        refine zr_bipush C dyX8_readAll_49 zc_b_100 ?_
        refine zr_icmp_lt C dyX8_readAll_51 (tgt := 56) (by decide) (fun hc_10 => ?_) (fun hc_10 => ?_)
        · replace h := zif_pos hc_10 h
          refine zr_goto C dyX8_readAll_56 (tgt := 7) (by decide) ?_
          refine zr_sub (lv2 := [(3, .int v3_9), (0, .ref (B + k)), (1, .ref (B + a1)), (2, .int a2)]) [0, 2, 3, 4] rfl ?_
          exact h
        · replace h := zif_neg hc_10 h
          refine zr_iconst C dyX8_readAll_54 zc_i_0 ?_
          exact zr_zret C rfl (zb.nar zb_0) dyX8_readAll_55 ⟨rfl, _, rfl, h⟩
      refine zr_if_eq C dyX8_readAll_20 (tgt := 27) (by decide) (fun hc_13 => ?_) (fun hc_13 => ?_)
      · replace h := zif_pos hc_13 h
        refine zr_aload_n C dyX8_readAll_27 rfl 1 rfl ?_
        refine zr_aload_n C dyX8_readAll_28 rfl 2 rfl ?_
        refine zr_iload_n C dyX8_readAll_29 rfl 3 rfl ?_
        refine zr_iload_n C dyX8_readAll_30 rfl 0 rfl ?_
        refine zv_8_44 C hS hk ha1 (st := []) h ⟨Nat.le_of_ble_eq_true rfl, Nat.le_of_ble_eq_true rfl⟩ (Nat.le_of_ble_eq_true rfl) dyX8_readAll_31 (fun r_11 I_12 h => ?_)
        exact h
      · replace h := zif_neg hc_13 h
        refine zr_iconst C dyX8_readAll_23 zc_i_1 ?_
        refine zr_goto C dyX8_readAll_24 (tgt := 34) (by decide) ?_
        exact h
  exact h
