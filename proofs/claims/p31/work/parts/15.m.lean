def w_M_makesTokens  (I : zI) (K : Int32 → zI → Prop) : Prop :=
  ∀ (P4 : Int32 → Int32 → zI → Prop), (∀ (v1_1 : Int32) (v2_2 : Int32) (I_3 : zI), ((if (I_3.1 491 9) ≤ v2_2 then K v1_1 I_3 else (w_M_wasOf v2_2 I_3 (fun r_4 => ∀ (P83 : Int32 → zI → Prop), (∀ (v1_5 : Int32) (I_6 : zI), (∀ v2_7, v2_7 = (v2_2 + 1) → P4 v1_5 v2_7 I_6) → P83 v1_5 I_6) → (if r_4 < 0 then (w_M_newNode (-2) 1 I_3 (fun r_8 I_9 => vp_in v2_2 710 ∧ (vp_in r_8 3700 ∧ (∀ I_10, I_10 = (zu I_9 510 (Int32.toNatClampNeg r_8) (I_9.1 496 (Int32.toNatClampNeg v2_2))) → vp_in v2_2 710 ∧ (vp_in r_8 3700 ∧ (∀ I_11, I_11 = (zul I_10 511 (Int32.toNatClampNeg r_8) (I_10.2 499 (Int32.toNatClampNeg v2_2))) → vp_in v2_2 110 ∧ (∀ I_12, I_12 = (zu I_11 500 (Int32.toNatClampNeg v2_2) r_8) → ∀ v1_13, v1_13 = (v1_1 + 1) → P83 v1_13 I_12))))))) else (vp_in r_4 110 ∧ (vp_in v2_2 110 ∧ (∀ I_14, I_14 = (zu I_3 500 (Int32.toNatClampNeg v2_2) (I_3.1 508 (Int32.toNatClampNeg r_4))) → P83 v1_1 I_14)))))))) → P4 v1_1 v2_2 I_3) → P4 0 0 I
theorem dyX12_makesTokens_0 : decode cX12_makesTokens 0 = .ok (.iconst 0, 1) := by decide +kernel
theorem dyX12_makesTokens_1 : decode cX12_makesTokens 1 = .ok (.istore_n 1, 1) := by decide +kernel
theorem dyX12_makesTokens_2 : decode cX12_makesTokens 2 = .ok (.iconst 0, 1) := by decide +kernel
theorem dyX12_makesTokens_3 : decode cX12_makesTokens 3 = .ok (.istore_n 2, 1) := by decide +kernel
theorem dyX12_makesTokens_4 : decode cX12_makesTokens 4 = .ok (.iload_n 2, 1) := by decide +kernel
theorem dyX12_makesTokens_5 : decode cX12_makesTokens 5 = .ok (.aload_n 0, 1) := by decide +kernel
theorem dyX12_makesTokens_6 : decode cX12_makesTokens 6 = .ok (.getfield 212, 3) := by decide +kernel
theorem dyX12_makesTokens_9 : decode cX12_makesTokens 9 = .ok (.if_icmp .ge 80, 3) := by decide +kernel
theorem dyX12_makesTokens_12 : decode cX12_makesTokens 12 = .ok (.aload_n 0, 1) := by decide +kernel
theorem dyX12_makesTokens_13 : decode cX12_makesTokens 13 = .ok (.iload_n 2, 1) := by decide +kernel
theorem dyX12_makesTokens_14 : decode cX12_makesTokens 14 = .ok (.invokevirtual 347, 3) := by decide +kernel
theorem dyX12_makesTokens_17 : decode cX12_makesTokens 17 = .ok (.istore_n 3, 1) := by decide +kernel
theorem dyX12_makesTokens_18 : decode cX12_makesTokens 18 = .ok (.iload_n 3, 1) := by decide +kernel
theorem dyX12_makesTokens_19 : decode cX12_makesTokens 19 = .ok (.ifCond .lt 18, 3) := by decide +kernel
theorem dyX12_makesTokens_22 : decode cX12_makesTokens 22 = .ok (.aload_n 0, 1) := by decide +kernel
theorem dyX12_makesTokens_23 : decode cX12_makesTokens 23 = .ok (.getfield 35, 3) := by decide +kernel
theorem dyX12_makesTokens_26 : decode cX12_makesTokens 26 = .ok (.iload_n 2, 1) := by decide +kernel
theorem dyX12_makesTokens_27 : decode cX12_makesTokens 27 = .ok (.aload_n 0, 1) := by decide +kernel
theorem dyX12_makesTokens_28 : decode cX12_makesTokens 28 = .ok (.getfield 59, 3) := by decide +kernel
theorem dyX12_makesTokens_31 : decode cX12_makesTokens 31 = .ok (.iload_n 3, 1) := by decide +kernel
theorem dyX12_makesTokens_32 : decode cX12_makesTokens 32 = .ok (.iaload, 1) := by decide +kernel
theorem dyX12_makesTokens_33 : decode cX12_makesTokens 33 = .ok (.iastore, 1) := by decide +kernel
theorem dyX12_makesTokens_34 : decode cX12_makesTokens 34 = .ok (.goto 49, 3) := by decide +kernel
theorem dyX12_makesTokens_37 : decode cX12_makesTokens 37 = .ok (.aload_n 0, 1) := by decide +kernel
theorem dyX12_makesTokens_38 : decode cX12_makesTokens 38 = .ok (.bipush (-2), 2) := by decide +kernel
theorem dyX12_makesTokens_40 : decode cX12_makesTokens 40 = .ok (.iconst 1, 1) := by decide +kernel
theorem dyX12_makesTokens_41 : decode cX12_makesTokens 41 = .ok (.invokevirtual 174, 3) := by decide +kernel
theorem dyX12_makesTokens_44 : decode cX12_makesTokens 44 = .ok (.istore 4, 2) := by decide +kernel
theorem dyX12_makesTokens_46 : decode cX12_makesTokens 46 = .ok (.aload_n 0, 1) := by decide +kernel
theorem dyX12_makesTokens_47 : decode cX12_makesTokens 47 = .ok (.getfield 65, 3) := by decide +kernel
theorem dyX12_makesTokens_50 : decode cX12_makesTokens 50 = .ok (.iload 4, 2) := by decide +kernel
theorem dyX12_makesTokens_52 : decode cX12_makesTokens 52 = .ok (.aload_n 0, 1) := by decide +kernel
theorem dyX12_makesTokens_53 : decode cX12_makesTokens 53 = .ok (.getfield 22, 3) := by decide +kernel
theorem dyX12_makesTokens_56 : decode cX12_makesTokens 56 = .ok (.iload_n 2, 1) := by decide +kernel
theorem dyX12_makesTokens_57 : decode cX12_makesTokens 57 = .ok (.iaload, 1) := by decide +kernel
theorem dyX12_makesTokens_58 : decode cX12_makesTokens 58 = .ok (.iastore, 1) := by decide +kernel
theorem dyX12_makesTokens_59 : decode cX12_makesTokens 59 = .ok (.aload_n 0, 1) := by decide +kernel
theorem dyX12_makesTokens_60 : decode cX12_makesTokens 60 = .ok (.getfield 68, 3) := by decide +kernel
theorem dyX12_makesTokens_63 : decode cX12_makesTokens 63 = .ok (.iload 4, 2) := by decide +kernel
theorem dyX12_makesTokens_65 : decode cX12_makesTokens 65 = .ok (.aload_n 0, 1) := by decide +kernel
theorem dyX12_makesTokens_66 : decode cX12_makesTokens 66 = .ok (.getfield 31, 3) := by decide +kernel
theorem dyX12_makesTokens_69 : decode cX12_makesTokens 69 = .ok (.iload_n 2, 1) := by decide +kernel
theorem dyX12_makesTokens_70 : decode cX12_makesTokens 70 = .ok (.laload, 1) := by decide +kernel
theorem dyX12_makesTokens_71 : decode cX12_makesTokens 71 = .ok (.lastore, 1) := by decide +kernel
theorem dyX12_makesTokens_72 : decode cX12_makesTokens 72 = .ok (.aload_n 0, 1) := by decide +kernel
theorem dyX12_makesTokens_73 : decode cX12_makesTokens 73 = .ok (.getfield 35, 3) := by decide +kernel
theorem dyX12_makesTokens_76 : decode cX12_makesTokens 76 = .ok (.iload_n 2, 1) := by decide +kernel
theorem dyX12_makesTokens_77 : decode cX12_makesTokens 77 = .ok (.iload 4, 2) := by decide +kernel
theorem dyX12_makesTokens_79 : decode cX12_makesTokens 79 = .ok (.iastore, 1) := by decide +kernel
theorem dyX12_makesTokens_80 : decode cX12_makesTokens 80 = .ok (.iinc 1 1, 3) := by decide +kernel
theorem dyX12_makesTokens_83 : decode cX12_makesTokens 83 = .ok (.iinc 2 1, 3) := by decide +kernel
theorem dyX12_makesTokens_86 : decode cX12_makesTokens 86 = .ok (.goto (-82), 3) := by decide +kernel
theorem dyX12_makesTokens_89 : decode cX12_makesTokens 89 = .ok (.iload_n 1, 1) := by decide +kernel
theorem dyX12_makesTokens_90 : decode cX12_makesTokens 90 = .ok (.ireturn, 1) := by decide +kernel
theorem zsg_yX12_makesTokens : yX12_makesTokens.cls = RX12 ∧ yX12_makesTokens.cls ≠ "java/lang/invoke/MethodHandle" ∧ yX12_makesTokens.cls ≠ "java/lang/invoke/VarHandle" ∧ (parseMethodDescriptor yX12_makesTokens.desc).map (fun d => d.parameters.length) = some 0 := by decide +kernel
set_option maxRecDepth 20000 in
theorem c_M_makesTokens {l : Launch} {D : va_G} {B : Nat} {cA : Nat → ClassId} {ad : Nat → Nat} {S : List zC} (hS : zOkM S)  {I : zI} {K : Int32 → zI → Prop}  (h : w_M_makesTokens  I K) : Met l yX12_makesTokens (zws yX12_makesTokens cX12_makesTokens 5 (some .int)) (zrm 1 23) (zPc D B cA ad [.ref (B + 491)] S I) (zQc D B cA (zqI S K)) 0 0 (fun q => B ≤ q) := by
  refine zm_of (cc := cX12_makesTokens) (maxL := 5) (ret := (some .int)) (by decide +kernel) rfl (Nat.le_of_ble_eq_true rfl) trivial ?_
  intro p e s m args below meth c C _
  unfold w_M_makesTokens at h
  show zX p l e (zrm 1 23) s m args below meth c (MQ below (zQc D B cA (zqI S K)) args s 0 0 (fun q => B ≤ q)) D B cA 5 0 0 S I [(0, .ref (B + 491))] [] 0
  refine zr_iconst C dyX12_makesTokens_0 zc_i_0 ?_
  refine zr_istore_n C dyX12_makesTokens_1 rfl (Nat.le_of_ble_eq_true rfl) (lv2 := [(1, .int 0), (0, .ref (B + 491))]) rfl ?_
  refine zr_iconst C dyX12_makesTokens_2 zc_i_0 ?_
  refine zr_istore_n C dyX12_makesTokens_3 rfl (Nat.le_of_ble_eq_true rfl) (lv2 := [(2, .int 0), (1, .int 0), (0, .ref (B + 491))]) rfl ?_
  refine zjn (h (fun (v1_1 : Int32) (v2_2 : Int32) (I_3 : zI) => zX p l e (zrm 1 23) s m args below meth c (MQ below (zQc D B cA (zqI S K)) args s 0 0 (fun q => B ≤ q)) D B cA 5 0 0 S I_3 [(2, .int v2_2), (1, .int v1_1), (0, .ref (B + 491))] [] 4) (fun v1_1 v2_2 I_3 h => ?_)) (fun h => ?_)
  · refine zr_iload_n C dyX12_makesTokens_4 rfl 0 rfl ?_
    refine zr_aload_n C dyX12_makesTokens_5 rfl 2 rfl ?_
    refine zg_12_212 C hS dyX12_makesTokens_6 ?_
    refine zr_icmp_ge C dyX12_makesTokens_9 (tgt := 89) (by decide) (fun hc_16 => ?_) (fun hc_16 => ?_)
    · replace h := zif_pos hc_16 h
      refine zr_iload_n C dyX12_makesTokens_89 rfl 1 rfl ?_
      exact zr_iret C rfl dyX12_makesTokens_90 ⟨rfl, _, rfl, h⟩
    · replace h := zif_neg hc_16 h
      refine zr_aload_n C dyX12_makesTokens_12 rfl 2 rfl ?_
      refine zr_iload_n C dyX12_makesTokens_13 rfl 0 rfl ?_
      refine zv_12_347 C hS (st := []) h ⟨Nat.le_of_ble_eq_true rfl, Nat.le_of_ble_eq_true rfl⟩ (Nat.le_of_ble_eq_true rfl) dyX12_makesTokens_14 (fun r_4 h => ?_)
      refine zr_istore_n C dyX12_makesTokens_17 rfl (Nat.le_of_ble_eq_true rfl) (lv2 := [(3, .int r_4), (2, .int v2_2), (1, .int v1_1), (0, .ref (B + 491))]) rfl ?_
      refine zr_iload_n C dyX12_makesTokens_18 rfl 0 rfl ?_
      refine zjn (h (fun (v1_5 : Int32) (I_6 : zI) => zX p l e (zrm 1 23) s m args below meth c (MQ below (zQc D B cA (zqI S K)) args s 0 0 (fun q => B ≤ q)) D B cA 5 0 0 S I_6 [(2, .int v2_2), (1, .int v1_5), (0, .ref (B + 491))] [] 83) (fun v1_5 I_6 h => ?_)) (fun h => ?_)
      · refine zn_iinc C (fun v2_7 => [(2, .int v2_7), (1, .int v1_5), (0, .ref (B + 491))]) dyX12_makesTokens_83 0 rfl zc_i_1 (Nat.le_of_ble_eq_true rfl) (fun _ => rfl) (fun v2_7 ev2_7 => ?_)
        replace h := h v2_7 ev2_7
        refine zr_goto C dyX12_makesTokens_86 (tgt := 4) (by decide) ?_
        exact h
      refine zr_if_lt C dyX12_makesTokens_19 (tgt := 37) (by decide) (fun hc_15 => ?_) (fun hc_15 => ?_)
      · replace h := zif_pos hc_15 h
        refine zr_aload_n C dyX12_makesTokens_37 rfl 3 rfl ?_
        refine zr_bipush C dyX12_makesTokens_38 zc_b_m2 ?_
        refine zr_iconst C dyX12_makesTokens_40 zc_i_1 ?_
        refine zv_12_174 C hS (st := []) h ⟨Nat.le_of_ble_eq_true rfl, Nat.le_of_ble_eq_true rfl⟩ (Nat.le_of_ble_eq_true rfl) dyX12_makesTokens_41 (fun r_8 I_9 h => ?_)
        refine zr_istore C dyX12_makesTokens_44 (Nat.le_of_ble_eq_true rfl) (lv2 := [(4, .int r_8), (3, .int r_4), (2, .int v2_2), (1, .int v1_1), (0, .ref (B + 491))]) rfl ?_
        refine zr_aload_n C dyX12_makesTokens_46 rfl 4 rfl ?_
        refine zg_12_65 C hS dyX12_makesTokens_47 ?_
        refine zr_iload C dyX12_makesTokens_50 0 rfl ?_
        refine zr_aload_n C dyX12_makesTokens_52 rfl 4 rfl ?_
        refine zg_12_22 C hS dyX12_makesTokens_53 ?_
        refine zr_iload_n C dyX12_makesTokens_56 rfl 2 rfl ?_
        refine zr_iald C (hS _ _ zs_496) h.1 dyX12_makesTokens_57 ?_
        replace h := h.2
        refine zr_iast C (hS _ _ zs_510) h.1 dyX12_makesTokens_58 ?_
        replace h := h.2
        refine zn_mem C (fun I_10 eI_10 => ?_)
        replace h := h I_10 eI_10
        refine zr_aload_n C dyX12_makesTokens_59 rfl 4 rfl ?_
        refine zg_12_68 C hS dyX12_makesTokens_60 ?_
        refine zr_iload C dyX12_makesTokens_63 0 rfl ?_
        refine zr_aload_n C dyX12_makesTokens_65 rfl 4 rfl ?_
        refine zg_12_31 C hS dyX12_makesTokens_66 ?_
        refine zr_iload_n C dyX12_makesTokens_69 rfl 2 rfl ?_
        refine zr_lald C (hS _ _ zs_499) h.1 dyX12_makesTokens_70 ?_
        replace h := h.2
        refine zr_last C (hS _ _ zs_511) h.1 dyX12_makesTokens_71 ?_
        replace h := h.2
        refine zn_mem C (fun I_11 eI_11 => ?_)
        replace h := h I_11 eI_11
        refine zr_aload_n C dyX12_makesTokens_72 rfl 4 rfl ?_
        refine zg_12_35 C hS dyX12_makesTokens_73 ?_
        refine zr_iload_n C dyX12_makesTokens_76 rfl 2 rfl ?_
        refine zr_iload C dyX12_makesTokens_77 0 rfl ?_
        refine zr_iast C (hS _ _ zs_500) h.1 dyX12_makesTokens_79 ?_
        replace h := h.2
        refine zn_mem C (fun I_12 eI_12 => ?_)
        replace h := h I_12 eI_12
        refine zn_iinc C (fun v1_13 => [(1, .int v1_13), (4, .int r_8), (3, .int r_4), (2, .int v2_2), (0, .ref (B + 491))]) dyX12_makesTokens_80 3 rfl zc_i_1 (Nat.le_of_ble_eq_true rfl) (fun _ => rfl) (fun v1_13 ev1_13 => ?_)
        replace h := h v1_13 ev1_13
        refine zr_sub (lv2 := [(2, .int v2_2), (1, .int v1_13), (0, .ref (B + 491))]) [3, 0, 4] rfl ?_
        exact h
      · replace h := zif_neg hc_15 h
        refine zr_aload_n C dyX12_makesTokens_22 rfl 3 rfl ?_
        refine zg_12_35 C hS dyX12_makesTokens_23 ?_
        refine zr_iload_n C dyX12_makesTokens_26 rfl 1 rfl ?_
        refine zr_aload_n C dyX12_makesTokens_27 rfl 3 rfl ?_
        refine zg_12_59 C hS dyX12_makesTokens_28 ?_
        refine zr_iload_n C dyX12_makesTokens_31 rfl 0 rfl ?_
        refine zr_iald C (hS _ _ zs_508) h.1 dyX12_makesTokens_32 ?_
        replace h := h.2
        refine zr_iast C (hS _ _ zs_500) h.1 dyX12_makesTokens_33 ?_
        replace h := h.2
        refine zn_mem C (fun I_14 eI_14 => ?_)
        replace h := h I_14 eI_14
        refine zr_goto C dyX12_makesTokens_34 (tgt := 83) (by decide) ?_
        refine zr_sub (lv2 := [(2, .int v2_2), (1, .int v1_1), (0, .ref (B + 491))]) [1, 2, 3] rfl ?_
        exact h
  exact h
def w_M_ruleNodes  (I : zI) (K : Int32 → Prop) : Prop :=
  ∀ (P4 : Int32 → Int32 → Prop), (∀ (v1_1 : Int32) (v2_2 : Int32), ((if (I.1 491 43) ≤ v2_2 then K v1_1 else (vp_in v2_2 700 ∧ (vp_in (I.1 521 (Int32.toNatClampNeg v2_2)) 3700 ∧ (∀ (P29 : Int32 → Prop), (∀ (v1_3 : Int32), (∀ v2_4, v2_4 = (v2_2 + 1) → P4 v1_3 v2_4) → P29 v1_3) → (if (I.1 509 (Int32.toNatClampNeg (I.1 521 (Int32.toNatClampNeg v2_2)))) < 0 then P29 v1_1 else (∀ v1_5, v1_5 = (v1_1 + 1) → P29 v1_5))))))) → P4 v1_1 v2_2) → P4 0 0
theorem dyX12_ruleNodes_0 : decode cX12_ruleNodes 0 = .ok (.iconst 0, 1) := by decide +kernel
theorem dyX12_ruleNodes_1 : decode cX12_ruleNodes 1 = .ok (.istore_n 1, 1) := by decide +kernel
theorem dyX12_ruleNodes_2 : decode cX12_ruleNodes 2 = .ok (.iconst 0, 1) := by decide +kernel
theorem dyX12_ruleNodes_3 : decode cX12_ruleNodes 3 = .ok (.istore_n 2, 1) := by decide +kernel
theorem dyX12_ruleNodes_4 : decode cX12_ruleNodes 4 = .ok (.iload_n 2, 1) := by decide +kernel
theorem dyX12_ruleNodes_5 : decode cX12_ruleNodes 5 = .ok (.aload_n 0, 1) := by decide +kernel
theorem dyX12_ruleNodes_6 : decode cX12_ruleNodes 6 = .ok (.getfield 280, 3) := by decide +kernel
theorem dyX12_ruleNodes_9 : decode cX12_ruleNodes 9 = .ok (.if_icmp .ge 26, 3) := by decide +kernel
theorem dyX12_ruleNodes_12 : decode cX12_ruleNodes 12 = .ok (.aload_n 0, 1) := by decide +kernel
theorem dyX12_ruleNodes_13 : decode cX12_ruleNodes 13 = .ok (.getfield 62, 3) := by decide +kernel
theorem dyX12_ruleNodes_16 : decode cX12_ruleNodes 16 = .ok (.aload_n 0, 1) := by decide +kernel
theorem dyX12_ruleNodes_17 : decode cX12_ruleNodes 17 = .ok (.getfield 99, 3) := by decide +kernel
theorem dyX12_ruleNodes_20 : decode cX12_ruleNodes 20 = .ok (.iload_n 2, 1) := by decide +kernel
theorem dyX12_ruleNodes_21 : decode cX12_ruleNodes 21 = .ok (.iaload, 1) := by decide +kernel
theorem dyX12_ruleNodes_22 : decode cX12_ruleNodes 22 = .ok (.iaload, 1) := by decide +kernel
theorem dyX12_ruleNodes_23 : decode cX12_ruleNodes 23 = .ok (.ifCond .lt 6, 3) := by decide +kernel
theorem dyX12_ruleNodes_26 : decode cX12_ruleNodes 26 = .ok (.iinc 1 1, 3) := by decide +kernel
theorem dyX12_ruleNodes_29 : decode cX12_ruleNodes 29 = .ok (.iinc 2 1, 3) := by decide +kernel
theorem dyX12_ruleNodes_32 : decode cX12_ruleNodes 32 = .ok (.goto (-28), 3) := by decide +kernel
theorem dyX12_ruleNodes_35 : decode cX12_ruleNodes 35 = .ok (.iload_n 1, 1) := by decide +kernel
theorem dyX12_ruleNodes_36 : decode cX12_ruleNodes 36 = .ok (.ireturn, 1) := by decide +kernel
theorem zsg_yX12_ruleNodes : yX12_ruleNodes.cls = RX12 ∧ yX12_ruleNodes.cls ≠ "java/lang/invoke/MethodHandle" ∧ yX12_ruleNodes.cls ≠ "java/lang/invoke/VarHandle" ∧ (parseMethodDescriptor yX12_ruleNodes.desc).map (fun d => d.parameters.length) = some 0 := by decide +kernel
set_option maxRecDepth 20000 in
theorem c_M_ruleNodes {l : Launch} {D : va_G} {B : Nat} {cA : Nat → ClassId} {ad : Nat → Nat} {S : List zC} (hS : zOkM S)  {I : zI} {K : Int32 → Prop}  (h : w_M_ruleNodes  I K) : Met l yX12_ruleNodes (zws yX12_ruleNodes cX12_ruleNodes 3 (some .int)) (zrm 0 0) (zPc D B cA ad [.ref (B + 491)] S I) (zQc D B cA (zpI S I K)) 0 0 (fun q => B ≤ q) := by
  refine zm_of (cc := cX12_ruleNodes) (maxL := 3) (ret := (some .int)) (by decide +kernel) rfl (Nat.le_of_ble_eq_true rfl) trivial ?_
  intro p e s m args below meth c C _
  unfold w_M_ruleNodes at h
  show zX p l e (zrm 0 0) s m args below meth c (MQ below (zQc D B cA (zpI S I K)) args s 0 0 (fun q => B ≤ q)) D B cA 3 0 0 S I [(0, .ref (B + 491))] [] 0
  refine zr_iconst C dyX12_ruleNodes_0 zc_i_0 ?_
  refine zr_istore_n C dyX12_ruleNodes_1 rfl (Nat.le_of_ble_eq_true rfl) (lv2 := [(1, .int 0), (0, .ref (B + 491))]) rfl ?_
  refine zr_iconst C dyX12_ruleNodes_2 zc_i_0 ?_
  refine zr_istore_n C dyX12_ruleNodes_3 rfl (Nat.le_of_ble_eq_true rfl) (lv2 := [(2, .int 0), (1, .int 0), (0, .ref (B + 491))]) rfl ?_
  refine zjn (h (fun (v1_1 : Int32) (v2_2 : Int32) => zX p l e (zrm 0 0) s m args below meth c (MQ below (zQc D B cA (zpI S I K)) args s 0 0 (fun q => B ≤ q)) D B cA 3 0 0 S I [(2, .int v2_2), (1, .int v1_1), (0, .ref (B + 491))] [] 4) (fun v1_1 v2_2 h => ?_)) (fun h => ?_)
  · refine zr_iload_n C dyX12_ruleNodes_4 rfl 0 rfl ?_
    refine zr_aload_n C dyX12_ruleNodes_5 rfl 2 rfl ?_
    refine zg_12_280 C hS dyX12_ruleNodes_6 ?_
    refine zr_icmp_ge C dyX12_ruleNodes_9 (tgt := 35) (by decide) (fun hc_7 => ?_) (fun hc_7 => ?_)
    · replace h := zif_pos hc_7 h
      refine zr_iload_n C dyX12_ruleNodes_35 rfl 1 rfl ?_
      exact zr_iret C rfl dyX12_ruleNodes_36 ⟨rfl, rfl, _, rfl, h⟩
    · replace h := zif_neg hc_7 h
      refine zr_aload_n C dyX12_ruleNodes_12 rfl 2 rfl ?_
      refine zg_12_62 C hS dyX12_ruleNodes_13 ?_
      refine zr_aload_n C dyX12_ruleNodes_16 rfl 2 rfl ?_
      refine zg_12_99 C hS dyX12_ruleNodes_17 ?_
      refine zr_iload_n C dyX12_ruleNodes_20 rfl 0 rfl ?_
      refine zr_iald C (hS _ _ zs_521) h.1 dyX12_ruleNodes_21 ?_
      replace h := h.2
      refine zr_iald C (hS _ _ zs_509) h.1 dyX12_ruleNodes_22 ?_
      replace h := h.2
      refine zjn (h (fun (v1_3 : Int32) => zX p l e (zrm 0 0) s m args below meth c (MQ below (zQc D B cA (zpI S I K)) args s 0 0 (fun q => B ≤ q)) D B cA 3 0 0 S I [(2, .int v2_2), (1, .int v1_3), (0, .ref (B + 491))] [] 29) (fun v1_3 h => ?_)) (fun h => ?_)
      · refine zn_iinc C (fun v2_4 => [(2, .int v2_4), (1, .int v1_3), (0, .ref (B + 491))]) dyX12_ruleNodes_29 0 rfl zc_i_1 (Nat.le_of_ble_eq_true rfl) (fun _ => rfl) (fun v2_4 ev2_4 => ?_)
        replace h := h v2_4 ev2_4
        refine zr_goto C dyX12_ruleNodes_32 (tgt := 4) (by decide) ?_
        exact h
      refine zr_if_lt C dyX12_ruleNodes_23 (tgt := 29) (by decide) (fun hc_6 => ?_) (fun hc_6 => ?_)
      · replace h := zif_pos hc_6 h
        exact h
      · replace h := zif_neg hc_6 h
        refine zn_iinc C (fun v1_5 => [(1, .int v1_5), (2, .int v2_2), (0, .ref (B + 491))]) dyX12_ruleNodes_26 1 rfl zc_i_1 (Nat.le_of_ble_eq_true rfl) (fun _ => rfl) (fun v1_5 ev1_5 => ?_)
        replace h := h v1_5 ev1_5
        refine zr_sub (lv2 := [(2, .int v2_2), (1, .int v1_5), (0, .ref (B + 491))]) [1, 0, 2] rfl ?_
        exact h
  exact h
theorem zv_12_186 {p : Program} {l : Launch} {e : Env} {R : Room} {s : State} {m : MethodId} {args : Array Value} {below : List Frame} {meth : Method} {c : Code} {Q : State → Prop} {D : va_G} {B : Nat} {cA : Nat → ClassId} {ad : Nat → Nat} {cc : ByteArray} {nL : Nat} {ret : Option FieldType} {S : List zC} {I : zI} {lv : List (Nat × Value)} {st : List Value} {pc : Nat} (C : zCx p s m args meth c cc nL RX12 ret D B cA ad) {K : zI → Prop} {xa1 : Int32} (hS : zOkM S)  (h : w_M_cutsUp xa1 I K) (hR : 2 + 1 ≤ R.frames ∧ 8 + (4 + 11) + (48) ≤ R.locals) (hw : (st.map fun v => v.category).sum ≤ 8) (hd : decode cc pc = .ok (.invokevirtual 186, 3)) (kk : ∀ I2, K I2 → zX p l e R s m args below meth c Q D B cA nL 0 0 S I2 lv st (pc + 3)) : zX p l e R s m args below meth c Q D B cA nL 0 0 S I lv (.int xa1 :: .ref (B + 491) :: st) pc :=
  have hf : 0 ≤ R.cells ∧ 0 ≤ R.slots := ⟨Nat.zero_le _, Nat.zero_le _⟩
  zc_VqV C (ci := 12) (q := (RX12, TX12, 82)) (k := 491) (fs := [none, some (some 492), some (some 493), none, some (some 494), none, some (some 495), none, none, none, some (some 496), some (some 497), some (some 498), some (some 499), some (some 500), none, some (some 501), some (some 502), some (some 503), none, some (some 504), some (some 505), some (some 506), some (some 507), some (some 508), none, some (some 509), some (some 510), some (some 511), some (some 512), some (some 513), some (some 514), some (some 515), some (some 516), some (some 517), some (some 518), none, none, some (some 519), none, some (some 520), none, none, none, some (some 521), some (some 522), some (some 523), some (some 524), some (some 525), some (some 526), some (some 527), none, some (some 528), none, some (some 529), none, some (some 530), some (some 531), some (some 532), none, some (some 533), some (some 534), some (some 535), some (some 536), some (some 537), none, none, none, some (some 538), some (some 539), some (some 540), none, none, none, some (some 541), none, none, some (some 542), some (some 543), some (some 544), none, some (some 545)]) (As := [.int xa1]) (st := st) rfl (hS _ _ zs_491) (c_M_cutsUp hS h) (zgV zk_ml_12_186 zk_im_yX12_cutsUp zk_se_yX12_cutsUp zk_in_12 zk_cd_yX12_cutsUp) zsg_yX12_cutsUp hR rfl rfl hw hd hf kk
def w_M_isRefused (a1 : Int32) (I : zI) (K : Int32 → zI → Prop) : Prop :=
  (if 300 < a1 then K 1 I else (if 3000 ≤ (I.1 491 25) then K 1 I else (if (I.1 491 59) < 3900 then (w_M_cutsUp a1 I (fun I_1 => (if (I_1.1 491 9) ≤ 100 then K 0 I_1 else K 1 I_1))) else K 1 I)))
theorem dyX12_isRefused_0 : decode cX12_isRefused 0 = .ok (.iload_n 1, 1) := by decide +kernel
theorem dyX12_isRefused_1 : decode cX12_isRefused 1 = .ok (.sipush 300, 3) := by decide +kernel
theorem dyX12_isRefused_4 : decode cX12_isRefused 4 = .ok (.if_icmp .gt 23, 3) := by decide +kernel
theorem dyX12_isRefused_7 : decode cX12_isRefused 7 = .ok (.aload_n 0, 1) := by decide +kernel
theorem dyX12_isRefused_8 : decode cX12_isRefused 8 = .ok (.getfield 247, 3) := by decide +kernel
theorem dyX12_isRefused_11 : decode cX12_isRefused 11 = .ok (.sipush 3000, 3) := by decide +kernel
theorem dyX12_isRefused_14 : decode cX12_isRefused 14 = .ok (.if_icmp .ge 13, 3) := by decide +kernel
theorem dyX12_isRefused_17 : decode cX12_isRefused 17 = .ok (.aload_n 0, 1) := by decide +kernel
theorem dyX12_isRefused_18 : decode cX12_isRefused 18 = .ok (.getfield 312, 3) := by decide +kernel
theorem dyX12_isRefused_21 : decode cX12_isRefused 21 = .ok (.sipush 3900, 3) := by decide +kernel
theorem dyX12_isRefused_24 : decode cX12_isRefused 24 = .ok (.if_icmp .lt 5, 3) := by decide +kernel
theorem dyX12_isRefused_27 : decode cX12_isRefused 27 = .ok (.iconst 1, 1) := by decide +kernel
theorem dyX12_isRefused_28 : decode cX12_isRefused 28 = .ok (.ireturn, 1) := by decide +kernel
theorem dyX12_isRefused_29 : decode cX12_isRefused 29 = .ok (.aload_n 0, 1) := by decide +kernel
theorem dyX12_isRefused_30 : decode cX12_isRefused 30 = .ok (.iload_n 1, 1) := by decide +kernel
theorem dyX12_isRefused_31 : decode cX12_isRefused 31 = .ok (.invokevirtual 186, 3) := by decide +kernel
theorem dyX12_isRefused_34 : decode cX12_isRefused 34 = .ok (.aload_n 0, 1) := by decide +kernel
theorem dyX12_isRefused_35 : decode cX12_isRefused 35 = .ok (.getfield 212, 3) := by decide +kernel
theorem dyX12_isRefused_38 : decode cX12_isRefused 38 = .ok (.bipush 100, 2) := by decide +kernel
theorem dyX12_isRefused_40 : decode cX12_isRefused 40 = .ok (.if_icmp .le 7, 3) := by decide +kernel
theorem dyX12_isRefused_43 : decode cX12_isRefused 43 = .ok (.iconst 1, 1) := by decide +kernel
theorem dyX12_isRefused_44 : decode cX12_isRefused 44 = .ok (.goto 4, 3) := by decide +kernel
theorem dyX12_isRefused_47 : decode cX12_isRefused 47 = .ok (.iconst 0, 1) := by decide +kernel
theorem dyX12_isRefused_48 : decode cX12_isRefused 48 = .ok (.ireturn, 1) := by decide +kernel
theorem zsg_yX12_isRefused : yX12_isRefused.cls = RX12 ∧ yX12_isRefused.cls ≠ "java/lang/invoke/MethodHandle" ∧ yX12_isRefused.cls ≠ "java/lang/invoke/VarHandle" ∧ (parseMethodDescriptor yX12_isRefused.desc).map (fun d => d.parameters.length) = some 1 := by decide +kernel
set_option maxRecDepth 20000 in
theorem c_M_isRefused {l : Launch} {D : va_G} {B : Nat} {cA : Nat → ClassId} {ad : Nat → Nat} {S : List zC} (hS : zOkM S) {a1 : Int32} {I : zI} {K : Int32 → zI → Prop}  (h : w_M_isRefused a1 I K) : Met l yX12_isRefused (zws yX12_isRefused cX12_isRefused 2 (some .boolean)) (zrm 3 71) (zPc D B cA ad [.ref (B + 491), .int a1] S I) (zQc D B cA (zqI S K)) 0 0 (fun q => B ≤ q) := by
  refine zm_of (cc := cX12_isRefused) (maxL := 2) (ret := (some .boolean)) (by decide +kernel) rfl (Nat.le_of_ble_eq_true rfl) trivial ?_
  intro p e s m args below meth c C _
  unfold w_M_isRefused at h
  show zX p l e (zrm 3 71) s m args below meth c (MQ below (zQc D B cA (zqI S K)) args s 0 0 (fun q => B ≤ q)) D B cA 2 0 0 S I [(0, .ref (B + 491)), (1, .int a1)] [] 0
  refine zr_iload_n C dyX12_isRefused_0 rfl 1 rfl ?_
  refine zr_sipush C dyX12_isRefused_1 zc_s_300 ?_
  refine zr_icmp_gt C dyX12_isRefused_4 (tgt := 27) (by decide) (fun hc_5 => ?_) (fun hc_5 => ?_)
  · replace h := zif_pos hc_5 h
    refine zr_iconst C dyX12_isRefused_27 zc_i_1 ?_
    exact zr_zret C rfl (zb.nar zb_1) dyX12_isRefused_28 ⟨rfl, _, rfl, h⟩
  · replace h := zif_neg hc_5 h
    refine zr_aload_n C dyX12_isRefused_7 rfl 0 rfl ?_
    refine zg_12_247 C hS dyX12_isRefused_8 ?_
    refine zr_sipush C dyX12_isRefused_11 zc_s_3000 ?_
    refine zr_icmp_ge C dyX12_isRefused_14 (tgt := 27) (by decide) (fun hc_4 => ?_) (fun hc_4 => ?_)
    · replace h := zif_pos hc_4 h
      refine zr_iconst C dyX12_isRefused_27 zc_i_1 ?_
      exact zr_zret C rfl (zb.nar zb_1) dyX12_isRefused_28 ⟨rfl, _, rfl, h⟩
    · replace h := zif_neg hc_4 h
      refine zr_aload_n C dyX12_isRefused_17 rfl 0 rfl ?_
      refine zg_12_312 C hS dyX12_isRefused_18 ?_
      refine zr_sipush C dyX12_isRefused_21 zc_s_3900 ?_
      refine zr_icmp_lt C dyX12_isRefused_24 (tgt := 29) (by decide) (fun hc_3 => ?_) (fun hc_3 => ?_)
      · replace h := zif_pos hc_3 h
        refine zr_aload_n C dyX12_isRefused_29 rfl 0 rfl ?_
        refine zr_iload_n C dyX12_isRefused_30 rfl 1 rfl ?_
        refine zv_12_186 C hS (st := []) h ⟨Nat.le_of_ble_eq_true rfl, Nat.le_of_ble_eq_true rfl⟩ (Nat.le_of_ble_eq_true rfl) dyX12_isRefused_31 (fun I_1 h => ?_)
        refine zr_aload_n C dyX12_isRefused_34 rfl 0 rfl ?_
        refine zg_12_212 C hS dyX12_isRefused_35 ?_
        refine zr_bipush C dyX12_isRefused_38 zc_b_100 ?_
        refine zr_icmp_le C dyX12_isRefused_40 (tgt := 47) (by decide) (fun hc_2 => ?_) (fun hc_2 => ?_)
        · replace h := zif_pos hc_2 h
          refine zr_iconst C dyX12_isRefused_47 zc_i_0 ?_
          exact zr_zret C rfl (zb.nar zb_0) dyX12_isRefused_48 ⟨rfl, _, rfl, h⟩
        · replace h := zif_neg hc_2 h
          refine zr_iconst C dyX12_isRefused_43 zc_i_1 ?_
          refine zr_goto C dyX12_isRefused_44 (tgt := 48) (by decide) ?_
          exact zr_zret C rfl (zb.nar zb_1) dyX12_isRefused_48 ⟨rfl, _, rfl, h⟩
      · replace h := zif_neg hc_3 h
        refine zr_iconst C dyX12_isRefused_27 zc_i_1 ?_
        exact zr_zret C rfl (zb.nar zb_1) dyX12_isRefused_28 ⟨rfl, _, rfl, h⟩
theorem zg_12_162 {p : Program} {l : Launch} {e : Env} {R : Room} {s : State} {m : MethodId} {args : Array Value} {below : List Frame} {meth : Method} {c : Code} {Q : State → Prop} {D : va_G} {B : Nat} {cA : Nat → ClassId} {ad : Nat → Nat} {cc : ByteArray} {nL : Nat} {ret : Option FieldType} {S : List zC} {I : zI} {lv : List (Nat × Value)} {st : List Value} {pc : Nat} (C : zCx p s m args meth c cc nL RX12 ret D B cA ad) (hS : zOkM S) (hd : decode cc pc = .ok (.getfield 162, 3)) (kk : zX p l e R s m args below meth c Q D B cA nL 0 0 S I lv (.ref (B + 542) :: st) (pc + 3)) : zX p l e R s m args below meth c Q D B cA nL 0 0 S I lv (.ref (B + 491) :: st) pc :=
  zr_getr C (ci := 12) (Cn := RX12) (T := TX12) (N := 82) (k := 491) (j := 77) (fs := [none, some (some 492), some (some 493), none, some (some 494), none, some (some 495), none, none, none, some (some 496), some (some 497), some (some 498), some (some 499), some (some 500), none, some (some 501), some (some 502), some (some 503), none, some (some 504), some (some 505), some (some 506), some (some 507), some (some 508), none, some (some 509), some (some 510), some (some 511), some (some 512), some (some 513), some (some 514), some (some 515), some (some 516), some (some 517), some (some 518), none, none, some (some 519), none, some (some 520), none, none, none, some (some 521), some (some 522), some (some 523), some (some 524), some (some 525), some (some 526), some (some 527), none, some (some 528), none, some (some 529), none, some (some 530), some (some 531), some (some 532), none, some (some 533), some (some 534), some (some 535), some (some 536), some (some 537), none, none, none, some (some 538), some (some 539), some (some 540), none, none, none, some (some 541), none, none, some (some 542), some (some 543), some (some 544), none, some (some 545)]) rfl zin_12 (Nat.le_of_ble_eq_true rfl) rfl (hS _ _ zs_491) rfl zk_fl_12_162 hd kk
theorem zg_12_232 {p : Program} {l : Launch} {e : Env} {R : Room} {s : State} {m : MethodId} {args : Array Value} {below : List Frame} {meth : Method} {c : Code} {Q : State → Prop} {D : va_G} {B : Nat} {cA : Nat → ClassId} {ad : Nat → Nat} {cc : ByteArray} {nL : Nat} {ret : Option FieldType} {S : List zC} {I : zI} {lv : List (Nat × Value)} {st : List Value} {pc : Nat} (C : zCx p s m args meth c cc nL RX12 ret D B cA ad) (hS : zOkM S) (hd : decode cc pc = .ok (.getfield 232, 3)) (kk : zX p l e R s m args below meth c Q D B cA nL 0 0 S I lv (.int (I.1 491 5) :: st) (pc + 3)) : zX p l e R s m args below meth c Q D B cA nL 0 0 S I lv (.ref (B + 491) :: st) pc :=
  zr_geti C (ci := 12) (Cn := RX12) (T := TX12) (N := 82) (k := 491) (j := 5) (fs := [none, some (some 492), some (some 493), none, some (some 494), none, some (some 495), none, none, none, some (some 496), some (some 497), some (some 498), some (some 499), some (some 500), none, some (some 501), some (some 502), some (some 503), none, some (some 504), some (some 505), some (some 506), some (some 507), some (some 508), none, some (some 509), some (some 510), some (some 511), some (some 512), some (some 513), some (some 514), some (some 515), some (some 516), some (some 517), some (some 518), none, none, some (some 519), none, some (some 520), none, none, none, some (some 521), some (some 522), some (some 523), some (some 524), some (some 525), some (some 526), some (some 527), none, some (some 528), none, some (some 529), none, some (some 530), some (some 531), some (some 532), none, some (some 533), some (some 534), some (some 535), some (some 536), some (some 537), none, none, none, some (some 538), some (some 539), some (some 540), none, none, none, some (some 541), none, none, some (some 542), some (some 543), some (some 544), none, some (some 545)]) rfl zin_12 (Nat.le_of_ble_eq_true rfl) rfl (hS _ _ zs_491) rfl zk_fl_12_232 hd kk
theorem zg_12_241 {p : Program} {l : Launch} {e : Env} {R : Room} {s : State} {m : MethodId} {args : Array Value} {below : List Frame} {meth : Method} {c : Code} {Q : State → Prop} {D : va_G} {B : Nat} {cA : Nat → ClassId} {ad : Nat → Nat} {cc : ByteArray} {nL : Nat} {ret : Option FieldType} {S : List zC} {I : zI} {lv : List (Nat × Value)} {st : List Value} {pc : Nat} (C : zCx p s m args meth c cc nL RX12 ret D B cA ad) (hS : zOkM S) (hd : decode cc pc = .ok (.getfield 241, 3)) (kk : zX p l e R s m args below meth c Q D B cA nL 0 0 S I lv (.int (I.1 491 7) :: st) (pc + 3)) : zX p l e R s m args below meth c Q D B cA nL 0 0 S I lv (.ref (B + 491) :: st) pc :=
  zr_geti C (ci := 12) (Cn := RX12) (T := TX12) (N := 82) (k := 491) (j := 7) (fs := [none, some (some 492), some (some 493), none, some (some 494), none, some (some 495), none, none, none, some (some 496), some (some 497), some (some 498), some (some 499), some (some 500), none, some (some 501), some (some 502), some (some 503), none, some (some 504), some (some 505), some (some 506), some (some 507), some (some 508), none, some (some 509), some (some 510), some (some 511), some (some 512), some (some 513), some (some 514), some (some 515), some (some 516), some (some 517), some (some 518), none, none, some (some 519), none, some (some 520), none, none, none, some (some 521), some (some 522), some (some 523), some (some 524), some (some 525), some (some 526), some (some 527), none, some (some 528), none, some (some 529), none, some (some 530), some (some 531), some (some 532), none, some (some 533), some (some 534), some (some 535), some (some 536), some (some 537), none, none, none, some (some 538), some (some 539), some (some 540), none, none, none, some (some 541), none, none, some (some 542), some (some 543), some (some 544), none, some (some 545)]) rfl zin_12 (Nat.le_of_ble_eq_true rfl) rfl (hS _ _ zs_491) rfl zk_fl_12_241 hd kk
def w_M_keeps (a1 : Int32) (I : zI) (K : zI → Prop) : Prop :=
  ∀ v2_1, v2_1 = (720 * a1) → ∀ (P8 : Int32 → zI → Prop), (∀ (v3_2 : Int32) (I_3 : zI), ((if 300 ≤ v3_2 then (∀ (P55 : Int32 → zI → Prop), (∀ (v3_4 : Int32) (I_5 : zI), ((if 110 ≤ v3_4 then (vp_in (v2_1 + 710) 15120 ∧ (∀ I_6, I_6 = (zu I_5 542 (Int32.toNatClampNeg (v2_1 + 710)) (I_5.1 491 5)) → vp_in (v2_1 + 711) 15120 ∧ (∀ I_7, I_7 = (zu I_6 542 (Int32.toNatClampNeg (v2_1 + 711)) (I_6.1 491 7)) → ∀ (P134 : Int32 → Prop), (∀ (t_8 : Int32), (vp_in (v2_1 + 712) 15120 ∧ (∀ I_9, I_9 = (zu I_7 542 (Int32.toNatClampNeg (v2_1 + 712)) t_8) → vp_in (v2_1 + 713) 15120 ∧ (∀ I_10, I_10 = (zu I_9 542 (Int32.toNatClampNeg (v2_1 + 713)) (I_9.1 491 37)) → K I_10))) → P134 t_8) → (if (I_7.1 491 8) = 0 then P134 0 else P134 1)))) else (vp_in v3_4 110 ∧ (vp_in ((v2_1 + 600) + v3_4) 15120 ∧ (∀ I_12, I_12 = (zu I_5 542 (Int32.toNatClampNeg ((v2_1 + 600) + v3_4)) (I_5.1 508 (Int32.toNatClampNeg v3_4))) → ∀ v3_13, v3_13 = (v3_4 + 1) → P55 v3_13 I_12))))) → P55 v3_4 I_5) → P55 0 I_3) else (vp_in v3_2 300 ∧ (vp_in (v2_1 + v3_2) 15120 ∧ (∀ I_15, I_15 = (zu I_3 542 (Int32.toNatClampNeg (v2_1 + v3_2)) (I_3.1 494 (Int32.toNatClampNeg v3_2))) → vp_in v3_2 300 ∧ (vp_in ((v2_1 + 300) + v3_2) 15120 ∧ (∀ I_16, I_16 = (zu I_15 542 (Int32.toNatClampNeg ((v2_1 + 300) + v3_2)) (I_15.1 495 (Int32.toNatClampNeg v3_2))) → ∀ v3_17, v3_17 = (v3_2 + 1) → P8 v3_17 I_16))))))) → P8 v3_2 I_3) → P8 0 I
theorem dyX12_keeps_0 : decode cX12_keeps 0 = .ok (.sipush 720, 3) := by decide +kernel
theorem dyX12_keeps_3 : decode cX12_keeps 3 = .ok (.iload_n 1, 1) := by decide +kernel
theorem dyX12_keeps_4 : decode cX12_keeps 4 = .ok (.imul, 1) := by decide +kernel
theorem dyX12_keeps_5 : decode cX12_keeps 5 = .ok (.istore_n 2, 1) := by decide +kernel
theorem dyX12_keeps_6 : decode cX12_keeps 6 = .ok (.iconst 0, 1) := by decide +kernel
theorem dyX12_keeps_7 : decode cX12_keeps 7 = .ok (.istore_n 3, 1) := by decide +kernel
theorem dyX12_keeps_8 : decode cX12_keeps 8 = .ok (.iload_n 3, 1) := by decide +kernel
theorem dyX12_keeps_9 : decode cX12_keeps 9 = .ok (.sipush 300, 3) := by decide +kernel
theorem dyX12_keeps_12 : decode cX12_keeps 12 = .ok (.if_icmp .ge 41, 3) := by decide +kernel
theorem dyX12_keeps_15 : decode cX12_keeps 15 = .ok (.aload_n 0, 1) := by decide +kernel
theorem dyX12_keeps_16 : decode cX12_keeps 16 = .ok (.getfield 162, 3) := by decide +kernel
theorem dyX12_keeps_19 : decode cX12_keeps 19 = .ok (.iload_n 2, 1) := by decide +kernel
theorem dyX12_keeps_20 : decode cX12_keeps 20 = .ok (.iload_n 3, 1) := by decide +kernel
theorem dyX12_keeps_21 : decode cX12_keeps 21 = .ok (.iadd, 1) := by decide +kernel
theorem dyX12_keeps_22 : decode cX12_keeps 22 = .ok (.aload_n 0, 1) := by decide +kernel
theorem dyX12_keeps_23 : decode cX12_keeps 23 = .ok (.getfield 16, 3) := by decide +kernel
theorem dyX12_keeps_26 : decode cX12_keeps 26 = .ok (.iload_n 3, 1) := by decide +kernel
theorem dyX12_keeps_27 : decode cX12_keeps 27 = .ok (.iaload, 1) := by decide +kernel
theorem dyX12_keeps_28 : decode cX12_keeps 28 = .ok (.iastore, 1) := by decide +kernel
theorem dyX12_keeps_29 : decode cX12_keeps 29 = .ok (.aload_n 0, 1) := by decide +kernel
theorem dyX12_keeps_30 : decode cX12_keeps 30 = .ok (.getfield 162, 3) := by decide +kernel
theorem dyX12_keeps_33 : decode cX12_keeps 33 = .ok (.iload_n 2, 1) := by decide +kernel
theorem dyX12_keeps_34 : decode cX12_keeps 34 = .ok (.sipush 300, 3) := by decide +kernel
theorem dyX12_keeps_37 : decode cX12_keeps 37 = .ok (.iadd, 1) := by decide +kernel
theorem dyX12_keeps_38 : decode cX12_keeps 38 = .ok (.iload_n 3, 1) := by decide +kernel
theorem dyX12_keeps_39 : decode cX12_keeps 39 = .ok (.iadd, 1) := by decide +kernel
theorem dyX12_keeps_40 : decode cX12_keeps 40 = .ok (.aload_n 0, 1) := by decide +kernel
theorem dyX12_keeps_41 : decode cX12_keeps 41 = .ok (.getfield 19, 3) := by decide +kernel
theorem dyX12_keeps_44 : decode cX12_keeps 44 = .ok (.iload_n 3, 1) := by decide +kernel
theorem dyX12_keeps_45 : decode cX12_keeps 45 = .ok (.iaload, 1) := by decide +kernel
theorem dyX12_keeps_46 : decode cX12_keeps 46 = .ok (.iastore, 1) := by decide +kernel
theorem dyX12_keeps_47 : decode cX12_keeps 47 = .ok (.iinc 3 1, 3) := by decide +kernel
theorem dyX12_keeps_50 : decode cX12_keeps 50 = .ok (.goto (-42), 3) := by decide +kernel
theorem dyX12_keeps_53 : decode cX12_keeps 53 = .ok (.iconst 0, 1) := by decide +kernel
theorem dyX12_keeps_54 : decode cX12_keeps 54 = .ok (.istore_n 3, 1) := by decide +kernel
theorem dyX12_keeps_55 : decode cX12_keeps 55 = .ok (.iload_n 3, 1) := by decide +kernel
theorem dyX12_keeps_56 : decode cX12_keeps 56 = .ok (.bipush 110, 2) := by decide +kernel
theorem dyX12_keeps_58 : decode cX12_keeps 58 = .ok (.if_icmp .ge 27, 3) := by decide +kernel
theorem dyX12_keeps_61 : decode cX12_keeps 61 = .ok (.aload_n 0, 1) := by decide +kernel
theorem dyX12_keeps_62 : decode cX12_keeps 62 = .ok (.getfield 162, 3) := by decide +kernel
theorem dyX12_keeps_65 : decode cX12_keeps 65 = .ok (.iload_n 2, 1) := by decide +kernel
theorem dyX12_keeps_66 : decode cX12_keeps 66 = .ok (.sipush 600, 3) := by decide +kernel
theorem dyX12_keeps_69 : decode cX12_keeps 69 = .ok (.iadd, 1) := by decide +kernel
theorem dyX12_keeps_70 : decode cX12_keeps 70 = .ok (.iload_n 3, 1) := by decide +kernel
theorem dyX12_keeps_71 : decode cX12_keeps 71 = .ok (.iadd, 1) := by decide +kernel
theorem dyX12_keeps_72 : decode cX12_keeps 72 = .ok (.aload_n 0, 1) := by decide +kernel
theorem dyX12_keeps_73 : decode cX12_keeps 73 = .ok (.getfield 59, 3) := by decide +kernel
theorem dyX12_keeps_76 : decode cX12_keeps 76 = .ok (.iload_n 3, 1) := by decide +kernel
theorem dyX12_keeps_77 : decode cX12_keeps 77 = .ok (.iaload, 1) := by decide +kernel
theorem dyX12_keeps_78 : decode cX12_keeps 78 = .ok (.iastore, 1) := by decide +kernel
theorem dyX12_keeps_79 : decode cX12_keeps 79 = .ok (.iinc 3 1, 3) := by decide +kernel
theorem dyX12_keeps_82 : decode cX12_keeps 82 = .ok (.goto (-27), 3) := by decide +kernel
theorem dyX12_keeps_85 : decode cX12_keeps 85 = .ok (.aload_n 0, 1) := by decide +kernel
theorem dyX12_keeps_86 : decode cX12_keeps 86 = .ok (.getfield 162, 3) := by decide +kernel
theorem dyX12_keeps_89 : decode cX12_keeps 89 = .ok (.iload_n 2, 1) := by decide +kernel
theorem dyX12_keeps_90 : decode cX12_keeps 90 = .ok (.sipush 710, 3) := by decide +kernel
theorem dyX12_keeps_93 : decode cX12_keeps 93 = .ok (.iadd, 1) := by decide +kernel
theorem dyX12_keeps_94 : decode cX12_keeps 94 = .ok (.aload_n 0, 1) := by decide +kernel
theorem dyX12_keeps_95 : decode cX12_keeps 95 = .ok (.getfield 232, 3) := by decide +kernel
theorem dyX12_keeps_98 : decode cX12_keeps 98 = .ok (.iastore, 1) := by decide +kernel
theorem dyX12_keeps_99 : decode cX12_keeps 99 = .ok (.aload_n 0, 1) := by decide +kernel
theorem dyX12_keeps_100 : decode cX12_keeps 100 = .ok (.getfield 162, 3) := by decide +kernel
theorem dyX12_keeps_103 : decode cX12_keeps 103 = .ok (.iload_n 2, 1) := by decide +kernel
theorem dyX12_keeps_104 : decode cX12_keeps 104 = .ok (.sipush 711, 3) := by decide +kernel
theorem dyX12_keeps_107 : decode cX12_keeps 107 = .ok (.iadd, 1) := by decide +kernel
theorem dyX12_keeps_108 : decode cX12_keeps 108 = .ok (.aload_n 0, 1) := by decide +kernel
theorem dyX12_keeps_109 : decode cX12_keeps 109 = .ok (.getfield 241, 3) := by decide +kernel
theorem dyX12_keeps_112 : decode cX12_keeps 112 = .ok (.iastore, 1) := by decide +kernel
theorem dyX12_keeps_113 : decode cX12_keeps 113 = .ok (.aload_n 0, 1) := by decide +kernel
theorem dyX12_keeps_114 : decode cX12_keeps 114 = .ok (.getfield 162, 3) := by decide +kernel
theorem dyX12_keeps_117 : decode cX12_keeps 117 = .ok (.iload_n 2, 1) := by decide +kernel
theorem dyX12_keeps_118 : decode cX12_keeps 118 = .ok (.sipush 712, 3) := by decide +kernel
theorem dyX12_keeps_121 : decode cX12_keeps 121 = .ok (.iadd, 1) := by decide +kernel
theorem dyX12_keeps_122 : decode cX12_keeps 122 = .ok (.aload_n 0, 1) := by decide +kernel
theorem dyX12_keeps_123 : decode cX12_keeps 123 = .ok (.getfield 182, 3) := by decide +kernel
theorem dyX12_keeps_126 : decode cX12_keeps 126 = .ok (.ifCond .eq 7, 3) := by decide +kernel
theorem dyX12_keeps_129 : decode cX12_keeps 129 = .ok (.iconst 1, 1) := by decide +kernel
theorem dyX12_keeps_130 : decode cX12_keeps 130 = .ok (.goto 4, 3) := by decide +kernel
theorem dyX12_keeps_133 : decode cX12_keeps 133 = .ok (.iconst 0, 1) := by decide +kernel
theorem dyX12_keeps_134 : decode cX12_keeps 134 = .ok (.iastore, 1) := by decide +kernel
theorem dyX12_keeps_135 : decode cX12_keeps 135 = .ok (.aload_n 0, 1) := by decide +kernel
theorem dyX12_keeps_136 : decode cX12_keeps 136 = .ok (.getfield 162, 3) := by decide +kernel
theorem dyX12_keeps_139 : decode cX12_keeps 139 = .ok (.iload_n 2, 1) := by decide +kernel
theorem dyX12_keeps_140 : decode cX12_keeps 140 = .ok (.sipush 713, 3) := by decide +kernel
theorem dyX12_keeps_143 : decode cX12_keeps 143 = .ok (.iadd, 1) := by decide +kernel
theorem dyX12_keeps_144 : decode cX12_keeps 144 = .ok (.aload_n 0, 1) := by decide +kernel
theorem dyX12_keeps_145 : decode cX12_keeps 145 = .ok (.getfield 178, 3) := by decide +kernel
theorem dyX12_keeps_148 : decode cX12_keeps 148 = .ok (.iastore, 1) := by decide +kernel
theorem dyX12_keeps_149 : decode cX12_keeps 149 = .ok (.return_, 1) := by decide +kernel
theorem zsg_yX12_keeps : yX12_keeps.cls = RX12 ∧ yX12_keeps.cls ≠ "java/lang/invoke/MethodHandle" ∧ yX12_keeps.cls ≠ "java/lang/invoke/VarHandle" ∧ (parseMethodDescriptor yX12_keeps.desc).map (fun d => d.parameters.length) = some 1 := by decide +kernel
set_option maxRecDepth 20000 in
theorem c_M_keeps {l : Launch} {D : va_G} {B : Nat} {cA : Nat → ClassId} {ad : Nat → Nat} {S : List zC} (hS : zOkM S) {a1 : Int32} {I : zI} {K : zI → Prop}  (h : w_M_keeps a1 I K) : Met l yX12_keeps (zws yX12_keeps cX12_keeps 4 none) (zrm 0 0) (zPc D B cA ad [.ref (B + 491), .int a1] S I) (zQc D B cA (zqV S K)) 0 0 (fun q => B ≤ q) := by
  refine zm_of (cc := cX12_keeps) (maxL := 4) (ret := none) (by decide +kernel) rfl (Nat.le_of_ble_eq_true rfl) trivial ?_
  intro p e s m args below meth c C _
  unfold w_M_keeps at h
  show zX p l e (zrm 0 0) s m args below meth c (MQ below (zQc D B cA (zqV S K)) args s 0 0 (fun q => B ≤ q)) D B cA 4 0 0 S I [(0, .ref (B + 491)), (1, .int a1)] [] 0
  refine zr_sipush C dyX12_keeps_0 zc_s_720 ?_
  refine zr_iload_n C dyX12_keeps_3 rfl 1 rfl ?_
  refine zr_imul C dyX12_keeps_4 ?_
  refine zn_istore_n C (fun v2_1 => [(2, .int v2_1), (0, .ref (B + 491)), (1, .int a1)]) dyX12_keeps_5 rfl (Nat.le_of_ble_eq_true rfl) (fun _ => rfl) (fun v2_1 ev2_1 => ?_)
  replace h := h v2_1 ev2_1
  refine zr_iconst C dyX12_keeps_6 zc_i_0 ?_
  refine zr_istore_n C dyX12_keeps_7 rfl (Nat.le_of_ble_eq_true rfl) (lv2 := [(3, .int 0), (2, .int v2_1), (0, .ref (B + 491)), (1, .int a1)]) rfl ?_
  refine zjn (h (fun (v3_2 : Int32) (I_3 : zI) => zX p l e (zrm 0 0) s m args below meth c (MQ below (zQc D B cA (zqV S K)) args s 0 0 (fun q => B ≤ q)) D B cA 4 0 0 S I_3 [(3, .int v3_2), (2, .int v2_1), (0, .ref (B + 491))] [] 8) (fun v3_2 I_3 h => ?_)) (fun h => ?_)
  · refine zr_iload_n C dyX12_keeps_8 rfl 0 rfl ?_
    refine zr_sipush C dyX12_keeps_9 zc_s_300 ?_
    refine zr_icmp_ge C dyX12_keeps_12 (tgt := 53) (by decide) (fun hc_18 => ?_) (fun hc_18 => ?_)
    · replace h := zif_pos hc_18 h
      refine zr_iconst C dyX12_keeps_53 zc_i_0 ?_
      refine zr_istore_n C dyX12_keeps_54 rfl (Nat.le_of_ble_eq_true rfl) (lv2 := [(3, .int 0), (2, .int v2_1), (0, .ref (B + 491))]) rfl ?_
      refine zjn (h (fun (v3_4 : Int32) (I_5 : zI) => zX p l e (zrm 0 0) s m args below meth c (MQ below (zQc D B cA (zqV S K)) args s 0 0 (fun q => B ≤ q)) D B cA 4 0 0 S I_5 [(3, .int v3_4), (2, .int v2_1), (0, .ref (B + 491))] [] 55) (fun v3_4 I_5 h => ?_)) (fun h => ?_)
      · refine zr_iload_n C dyX12_keeps_55 rfl 0 rfl ?_
        refine zr_bipush C dyX12_keeps_56 zc_b_110 ?_
        refine zr_icmp_ge C dyX12_keeps_58 (tgt := 85) (by decide) (fun hc_14 => ?_) (fun hc_14 => ?_)
        · replace h := zif_pos hc_14 h
          refine zr_aload_n C dyX12_keeps_85 rfl 2 rfl ?_
          refine zg_12_162 C hS dyX12_keeps_86 ?_
          refine zr_iload_n C dyX12_keeps_89 rfl 1 rfl ?_
          refine zr_sipush C dyX12_keeps_90 zc_s_710 ?_
          refine zr_iadd C dyX12_keeps_93 ?_
          refine zr_aload_n C dyX12_keeps_94 rfl 2 rfl ?_
          refine zg_12_232 C hS dyX12_keeps_95 ?_
          refine zr_iast C (hS _ _ zs_542) h.1 dyX12_keeps_98 ?_
          replace h := h.2
          refine zn_mem C (fun I_6 eI_6 => ?_)
          replace h := h I_6 eI_6
          refine zr_aload_n C dyX12_keeps_99 rfl 2 rfl ?_
          refine zg_12_162 C hS dyX12_keeps_100 ?_
          refine zr_iload_n C dyX12_keeps_103 rfl 1 rfl ?_
          refine zr_sipush C dyX12_keeps_104 zc_s_711 ?_
          refine zr_iadd C dyX12_keeps_107 ?_
          refine zr_aload_n C dyX12_keeps_108 rfl 2 rfl ?_
          refine zg_12_241 C hS dyX12_keeps_109 ?_
          refine zr_iast C (hS _ _ zs_542) h.1 dyX12_keeps_112 ?_
          replace h := h.2
          refine zn_mem C (fun I_7 eI_7 => ?_)
          replace h := h I_7 eI_7
          refine zr_aload_n C dyX12_keeps_113 rfl 2 rfl ?_
          refine zg_12_162 C hS dyX12_keeps_114 ?_
          refine zr_iload_n C dyX12_keeps_117 rfl 1 rfl ?_
          refine zr_sipush C dyX12_keeps_118 zc_s_712 ?_
          refine zr_iadd C dyX12_keeps_121 ?_
          refine zr_aload_n C dyX12_keeps_122 rfl 2 rfl ?_
          refine zg_12_182 C hS dyX12_keeps_123 ?_
          refine zjn (h (fun (t_8 : Int32) => zX p l e (zrm 0 0) s m args below meth c (MQ below (zQc D B cA (zqV S K)) args s 0 0 (fun q => B ≤ q)) D B cA 4 0 0 S I_7 [(2, .int v2_1), (0, .ref (B + 491))] [.int t_8, .int (v2_1 + 712), .ref (B + 542)] 134) (fun t_8 h => ?_)) (fun h => ?_)
          · refine zr_iast C (hS _ _ zs_542) h.1 dyX12_keeps_134 ?_
            replace h := h.2
            refine zn_mem C (fun I_9 eI_9 => ?_)
            replace h := h I_9 eI_9
            refine zr_aload_n C dyX12_keeps_135 rfl 1 rfl ?_
            refine zg_12_162 C hS dyX12_keeps_136 ?_
            refine zr_iload_n C dyX12_keeps_139 rfl 0 rfl ?_
            refine zr_sipush C dyX12_keeps_140 zc_s_713 ?_
            refine zr_iadd C dyX12_keeps_143 ?_
            refine zr_aload_n C dyX12_keeps_144 rfl 1 rfl ?_
            refine zg_12_178 C hS dyX12_keeps_145 ?_
            refine zr_iast C (hS _ _ zs_542) h.1 dyX12_keeps_148 ?_
            replace h := h.2
            refine zn_mem C (fun I_10 eI_10 => ?_)
            replace h := h I_10 eI_10
            exact zr_vret C rfl dyX12_keeps_149 ⟨rfl, rfl, h⟩
          refine zr_if_eq C dyX12_keeps_126 (tgt := 133) (by decide) (fun hc_11 => ?_) (fun hc_11 => ?_)
          · replace h := zif_pos hc_11 h
            refine zr_iconst C dyX12_keeps_133 zc_i_0 ?_
            refine zr_sub (lv2 := [(2, .int v2_1), (0, .ref (B + 491))]) [1, 2] rfl ?_
            exact h
          · replace h := zif_neg hc_11 h
            refine zr_iconst C dyX12_keeps_129 zc_i_1 ?_
            refine zr_goto C dyX12_keeps_130 (tgt := 134) (by decide) ?_
            refine zr_sub (lv2 := [(2, .int v2_1), (0, .ref (B + 491))]) [1, 2] rfl ?_
            exact h
        · replace h := zif_neg hc_14 h
          refine zr_aload_n C dyX12_keeps_61 rfl 2 rfl ?_
          refine zg_12_162 C hS dyX12_keeps_62 ?_
          refine zr_iload_n C dyX12_keeps_65 rfl 1 rfl ?_
          refine zr_sipush C dyX12_keeps_66 zc_s_600 ?_
          refine zr_iadd C dyX12_keeps_69 ?_
          refine zr_iload_n C dyX12_keeps_70 rfl 0 rfl ?_
          refine zr_iadd C dyX12_keeps_71 ?_
          refine zr_aload_n C dyX12_keeps_72 rfl 2 rfl ?_
          refine zg_12_59 C hS dyX12_keeps_73 ?_
          refine zr_iload_n C dyX12_keeps_76 rfl 0 rfl ?_
          refine zr_iald C (hS _ _ zs_508) h.1 dyX12_keeps_77 ?_
          replace h := h.2
          refine zr_iast C (hS _ _ zs_542) h.1 dyX12_keeps_78 ?_
          replace h := h.2
          refine zn_mem C (fun I_12 eI_12 => ?_)
          replace h := h I_12 eI_12
          refine zn_iinc C (fun v3_13 => [(3, .int v3_13), (2, .int v2_1), (0, .ref (B + 491))]) dyX12_keeps_79 0 rfl zc_i_1 (Nat.le_of_ble_eq_true rfl) (fun _ => rfl) (fun v3_13 ev3_13 => ?_)
          replace h := h v3_13 ev3_13
          refine zr_goto C dyX12_keeps_82 (tgt := 55) (by decide) ?_
          exact h
      exact h
    · replace h := zif_neg hc_18 h
      refine zr_aload_n C dyX12_keeps_15 rfl 2 rfl ?_
      refine zg_12_162 C hS dyX12_keeps_16 ?_
      refine zr_iload_n C dyX12_keeps_19 rfl 1 rfl ?_
      refine zr_iload_n C dyX12_keeps_20 rfl 0 rfl ?_
      refine zr_iadd C dyX12_keeps_21 ?_
      refine zr_aload_n C dyX12_keeps_22 rfl 2 rfl ?_
      refine zg_12_16 C hS dyX12_keeps_23 ?_
      refine zr_iload_n C dyX12_keeps_26 rfl 0 rfl ?_
      refine zr_iald C (hS _ _ zs_494) h.1 dyX12_keeps_27 ?_
      replace h := h.2
      refine zr_iast C (hS _ _ zs_542) h.1 dyX12_keeps_28 ?_
      replace h := h.2
      refine zn_mem C (fun I_15 eI_15 => ?_)
      replace h := h I_15 eI_15
      refine zr_aload_n C dyX12_keeps_29 rfl 2 rfl ?_
      refine zg_12_162 C hS dyX12_keeps_30 ?_
      refine zr_iload_n C dyX12_keeps_33 rfl 1 rfl ?_
      refine zr_sipush C dyX12_keeps_34 zc_s_300 ?_
      refine zr_iadd C dyX12_keeps_37 ?_
      refine zr_iload_n C dyX12_keeps_38 rfl 0 rfl ?_
      refine zr_iadd C dyX12_keeps_39 ?_
      refine zr_aload_n C dyX12_keeps_40 rfl 2 rfl ?_
      refine zg_12_19 C hS dyX12_keeps_41 ?_
      refine zr_iload_n C dyX12_keeps_44 rfl 0 rfl ?_
      refine zr_iald C (hS _ _ zs_495) h.1 dyX12_keeps_45 ?_
      replace h := h.2
      refine zr_iast C (hS _ _ zs_542) h.1 dyX12_keeps_46 ?_
      replace h := h.2
      refine zn_mem C (fun I_16 eI_16 => ?_)
      replace h := h I_16 eI_16
      refine zn_iinc C (fun v3_17 => [(3, .int v3_17), (2, .int v2_1), (0, .ref (B + 491))]) dyX12_keeps_47 0 rfl zc_i_1 (Nat.le_of_ble_eq_true rfl) (fun _ => rfl) (fun v3_17 ev3_17 => ?_)
      replace h := h v3_17 ev3_17
      refine zr_goto C dyX12_keeps_50 (tgt := 8) (by decide) ?_
      exact h
  refine zr_sub (lv2 := [(3, .int 0), (2, .int v2_1), (0, .ref (B + 491))]) [0, 1, 2] rfl ?_
  exact h
theorem zg_12_379 {p : Program} {l : Launch} {e : Env} {R : Room} {s : State} {m : MethodId} {args : Array Value} {below : List Frame} {meth : Method} {c : Code} {Q : State → Prop} {D : va_G} {B : Nat} {cA : Nat → ClassId} {ad : Nat → Nat} {cc : ByteArray} {nL : Nat} {ret : Option FieldType} {S : List zC} {I : zI} {lv : List (Nat × Value)} {st : List Value} {pc : Nat} (C : zCx p s m args meth c cc nL RX12 ret D B cA ad) (hS : zOkM S) (hd : decode cc pc = .ok (.getfield 379, 3)) (kk : zX p l e R s m args below meth c Q D B cA nL 0 0 S I lv (.int (I.1 491 75) :: st) (pc + 3)) : zX p l e R s m args below meth c Q D B cA nL 0 0 S I lv (.ref (B + 491) :: st) pc :=
  zr_geti C (ci := 12) (Cn := RX12) (T := TX12) (N := 82) (k := 491) (j := 75) (fs := [none, some (some 492), some (some 493), none, some (some 494), none, some (some 495), none, none, none, some (some 496), some (some 497), some (some 498), some (some 499), some (some 500), none, some (some 501), some (some 502), some (some 503), none, some (some 504), some (some 505), some (some 506), some (some 507), some (some 508), none, some (some 509), some (some 510), some (some 511), some (some 512), some (some 513), some (some 514), some (some 515), some (some 516), some (some 517), some (some 518), none, none, some (some 519), none, some (some 520), none, none, none, some (some 521), some (some 522), some (some 523), some (some 524), some (some 525), some (some 526), some (some 527), none, some (some 528), none, some (some 529), none, some (some 530), some (some 531), some (some 532), none, some (some 533), some (some 534), some (some 535), some (some 536), some (some 537), none, none, none, some (some 538), some (some 539), some (some 540), none, none, none, some (some 541), none, none, some (some 542), some (some 543), some (some 544), none, some (some 545)]) rfl zin_12 (Nat.le_of_ble_eq_true rfl) rfl (hS _ _ zs_491) rfl zk_fl_12_379 hd kk
theorem zp_12_379 {p : Program} {l : Launch} {e : Env} {R : Room} {s : State} {m : MethodId} {args : Array Value} {below : List Frame} {meth : Method} {c : Code} {Q : State → Prop} {D : va_G} {B : Nat} {cA : Nat → ClassId} {ad : Nat → Nat} {cc : ByteArray} {nL : Nat} {ret : Option FieldType} {S : List zC} {I : zI} {lv : List (Nat × Value)} {st : List Value} {pc : Nat} (C : zCx p s m args meth c cc nL RX12 ret D B cA ad) (hS : zOkM S) {v : Int32} (hd : decode cc pc = .ok (.putfield 379, 3)) (kk : zX p l e R s m args below meth c Q D B cA nL 0 0 S (zu I 491 75 v) lv st (pc + 3)) : zX p l e R s m args below meth c Q D B cA nL 0 0 S I lv (.int v :: .ref (B + 491) :: st) pc :=
  zr_puti C (ci := 12) (Cn := RX12) (T := TX12) (N := 82) (k := 491) (j := 75) (fs := [none, some (some 492), some (some 493), none, some (some 494), none, some (some 495), none, none, none, some (some 496), some (some 497), some (some 498), some (some 499), some (some 500), none, some (some 501), some (some 502), some (some 503), none, some (some 504), some (some 505), some (some 506), some (some 507), some (some 508), none, some (some 509), some (some 510), some (some 511), some (some 512), some (some 513), some (some 514), some (some 515), some (some 516), some (some 517), some (some 518), none, none, some (some 519), none, some (some 520), none, none, none, some (some 521), some (some 522), some (some 523), some (some 524), some (some 525), some (some 526), some (some 527), none, some (some 528), none, some (some 529), none, some (some 530), some (some 531), some (some 532), none, some (some 533), some (some 534), some (some 535), some (some 536), some (some 537), none, none, none, some (some 538), some (some 539), some (some 540), none, none, none, some (some 541), none, none, some (some 542), some (some 543), some (some 544), none, some (some 545)]) rfl zin_12 (Nat.le_of_ble_eq_true rfl) rfl (hS _ _ zs_491) rfl tyX12 tyX12_ok nmX12 (ty := .int) zpd_I rfl rfl rfl zk_fl_12_379 hd kk
theorem zp_12_382 {p : Program} {l : Launch} {e : Env} {R : Room} {s : State} {m : MethodId} {args : Array Value} {below : List Frame} {meth : Method} {c : Code} {Q : State → Prop} {D : va_G} {B : Nat} {cA : Nat → ClassId} {ad : Nat → Nat} {cc : ByteArray} {nL : Nat} {ret : Option FieldType} {S : List zC} {I : zI} {lv : List (Nat × Value)} {st : List Value} {pc : Nat} (C : zCx p s m args meth c cc nL RX12 ret D B cA ad) (hS : zOkM S) {v : Int32} (hd : decode cc pc = .ok (.putfield 382, 3)) (kk : zX p l e R s m args below meth c Q D B cA nL 0 0 S (zu I 491 76 v) lv st (pc + 3)) : zX p l e R s m args below meth c Q D B cA nL 0 0 S I lv (.int v :: .ref (B + 491) :: st) pc :=
  zr_puti C (ci := 12) (Cn := RX12) (T := TX12) (N := 82) (k := 491) (j := 76) (fs := [none, some (some 492), some (some 493), none, some (some 494), none, some (some 495), none, none, none, some (some 496), some (some 497), some (some 498), some (some 499), some (some 500), none, some (some 501), some (some 502), some (some 503), none, some (some 504), some (some 505), some (some 506), some (some 507), some (some 508), none, some (some 509), some (some 510), some (some 511), some (some 512), some (some 513), some (some 514), some (some 515), some (some 516), some (some 517), some (some 518), none, none, some (some 519), none, some (some 520), none, none, none, some (some 521), some (some 522), some (some 523), some (some 524), some (some 525), some (some 526), some (some 527), none, some (some 528), none, some (some 529), none, some (some 530), some (some 531), some (some 532), none, some (some 533), some (some 534), some (some 535), some (some 536), some (some 537), none, none, none, some (some 538), some (some 539), some (some 540), none, none, none, some (some 541), none, none, some (some 542), some (some 543), some (some 544), none, some (some 545)]) rfl zin_12 (Nat.le_of_ble_eq_true rfl) rfl (hS _ _ zs_491) rfl tyX12 tyX12_ok nmX12 (ty := .int) zpd_I rfl rfl rfl zk_fl_12_382 hd kk
theorem zv_12_196 {p : Program} {l : Launch} {e : Env} {R : Room} {s : State} {m : MethodId} {args : Array Value} {below : List Frame} {meth : Method} {c : Code} {Q : State → Prop} {D : va_G} {B : Nat} {cA : Nat → ClassId} {ad : Nat → Nat} {cc : ByteArray} {nL : Nat} {ret : Option FieldType} {S : List zC} {I : zI} {lv : List (Nat × Value)} {st : List Value} {pc : Nat} (C : zCx p s m args meth c cc nL RX12 ret D B cA ad) {K : zI → Prop} {xa1 : Int32} (hS : zOkM S)  (h : w_M_keeps xa1 I K) (hR : 0 + 1 ≤ R.frames ∧ 8 + (4 + 11) + (0) ≤ R.locals) (hw : (st.map fun v => v.category).sum ≤ 8) (hd : decode cc pc = .ok (.invokevirtual 196, 3)) (kk : ∀ I2, K I2 → zX p l e R s m args below meth c Q D B cA nL 0 0 S I2 lv st (pc + 3)) : zX p l e R s m args below meth c Q D B cA nL 0 0 S I lv (.int xa1 :: .ref (B + 491) :: st) pc :=
  have hf : 0 ≤ R.cells ∧ 0 ≤ R.slots := ⟨Nat.zero_le _, Nat.zero_le _⟩
  zc_VqV C (ci := 12) (q := (RX12, TX12, 82)) (k := 491) (fs := [none, some (some 492), some (some 493), none, some (some 494), none, some (some 495), none, none, none, some (some 496), some (some 497), some (some 498), some (some 499), some (some 500), none, some (some 501), some (some 502), some (some 503), none, some (some 504), some (some 505), some (some 506), some (some 507), some (some 508), none, some (some 509), some (some 510), some (some 511), some (some 512), some (some 513), some (some 514), some (some 515), some (some 516), some (some 517), some (some 518), none, none, some (some 519), none, some (some 520), none, none, none, some (some 521), some (some 522), some (some 523), some (some 524), some (some 525), some (some 526), some (some 527), none, some (some 528), none, some (some 529), none, some (some 530), some (some 531), some (some 532), none, some (some 533), some (some 534), some (some 535), some (some 536), some (some 537), none, none, none, some (some 538), some (some 539), some (some 540), none, none, none, some (some 541), none, none, some (some 542), some (some 543), some (some 544), none, some (some 545)]) (As := [.int xa1]) (st := st) rfl (hS _ _ zs_491) (c_M_keeps hS h) (zgV zk_ml_12_196 zk_im_yX12_keeps zk_se_yX12_keeps zk_in_12 zk_cd_yX12_keeps) zsg_yX12_keeps hR rfl rfl hw hd hf kk
def w_M_remembers  (I : zI) (K : zI → Prop) : Prop :=
  ∀ (P50 : zI → Prop), (∀ (I_1 : zI), (∀ I_2, I_2 = (zu I_1 491 75 ((I_1.1 491 75) + 1)) → ∀ I_3, I_3 = (zu I_2 491 76 (I_2.1 491 75)) → w_M_keeps (I_3.1 491 75) I_3 (fun I_4 => K I_4)) → P50 I_1) → (if (I.1 491 75) = 20 then (∀ (P11 : Int32 → zI → Prop), (∀ (v1_5 : Int32) (I_6 : zI), ((if 14400 ≤ v1_5 then (∀ I_7, I_7 = (zu I_6 491 75 ((I_6.1 491 75) - 1)) → P50 I_7) else (vp_in (v1_5 + 720) 15120 ∧ (vp_in v1_5 15120 ∧ (∀ I_8, I_8 = (zu I_6 542 (Int32.toNatClampNeg v1_5) (I_6.1 542 (Int32.toNatClampNeg (v1_5 + 720)))) → ∀ v1_9, v1_9 = (v1_5 + 1) → P11 v1_9 I_8))))) → P11 v1_5 I_6) → P11 0 I) else P50 I)
theorem dyX12_remembers_0 : decode cX12_remembers 0 = .ok (.aload_n 0, 1) := by decide +kernel
theorem dyX12_remembers_1 : decode cX12_remembers 1 = .ok (.getfield 379, 3) := by decide +kernel
theorem dyX12_remembers_4 : decode cX12_remembers 4 = .ok (.bipush 20, 2) := by decide +kernel
theorem dyX12_remembers_6 : decode cX12_remembers 6 = .ok (.if_icmp .ne 44, 3) := by decide +kernel
theorem dyX12_remembers_9 : decode cX12_remembers 9 = .ok (.iconst 0, 1) := by decide +kernel
theorem dyX12_remembers_10 : decode cX12_remembers 10 = .ok (.istore_n 1, 1) := by decide +kernel
theorem dyX12_remembers_11 : decode cX12_remembers 11 = .ok (.iload_n 1, 1) := by decide +kernel
theorem dyX12_remembers_12 : decode cX12_remembers 12 = .ok (.sipush 14400, 3) := by decide +kernel
theorem dyX12_remembers_15 : decode cX12_remembers 15 = .ok (.if_icmp .ge 25, 3) := by decide +kernel
theorem dyX12_remembers_18 : decode cX12_remembers 18 = .ok (.aload_n 0, 1) := by decide +kernel
theorem dyX12_remembers_19 : decode cX12_remembers 19 = .ok (.getfield 162, 3) := by decide +kernel
theorem dyX12_remembers_22 : decode cX12_remembers 22 = .ok (.iload_n 1, 1) := by decide +kernel
theorem dyX12_remembers_23 : decode cX12_remembers 23 = .ok (.aload_n 0, 1) := by decide +kernel
theorem dyX12_remembers_24 : decode cX12_remembers 24 = .ok (.getfield 162, 3) := by decide +kernel
theorem dyX12_remembers_27 : decode cX12_remembers 27 = .ok (.iload_n 1, 1) := by decide +kernel
theorem dyX12_remembers_28 : decode cX12_remembers 28 = .ok (.sipush 720, 3) := by decide +kernel
theorem dyX12_remembers_31 : decode cX12_remembers 31 = .ok (.iadd, 1) := by decide +kernel
theorem dyX12_remembers_32 : decode cX12_remembers 32 = .ok (.iaload, 1) := by decide +kernel
theorem dyX12_remembers_33 : decode cX12_remembers 33 = .ok (.iastore, 1) := by decide +kernel
theorem dyX12_remembers_34 : decode cX12_remembers 34 = .ok (.iinc 1 1, 3) := by decide +kernel
theorem dyX12_remembers_37 : decode cX12_remembers 37 = .ok (.goto (-26), 3) := by decide +kernel
theorem dyX12_remembers_40 : decode cX12_remembers 40 = .ok (.aload_n 0, 1) := by decide +kernel
theorem dyX12_remembers_41 : decode cX12_remembers 41 = .ok (.dup, 1) := by decide +kernel
theorem dyX12_remembers_42 : decode cX12_remembers 42 = .ok (.getfield 379, 3) := by decide +kernel
theorem dyX12_remembers_45 : decode cX12_remembers 45 = .ok (.iconst 1, 1) := by decide +kernel
theorem dyX12_remembers_46 : decode cX12_remembers 46 = .ok (.isub, 1) := by decide +kernel
theorem dyX12_remembers_47 : decode cX12_remembers 47 = .ok (.putfield 379, 3) := by decide +kernel
theorem dyX12_remembers_50 : decode cX12_remembers 50 = .ok (.aload_n 0, 1) := by decide +kernel
theorem dyX12_remembers_51 : decode cX12_remembers 51 = .ok (.dup, 1) := by decide +kernel
theorem dyX12_remembers_52 : decode cX12_remembers 52 = .ok (.getfield 379, 3) := by decide +kernel
theorem dyX12_remembers_55 : decode cX12_remembers 55 = .ok (.iconst 1, 1) := by decide +kernel
theorem dyX12_remembers_56 : decode cX12_remembers 56 = .ok (.iadd, 1) := by decide +kernel
theorem dyX12_remembers_57 : decode cX12_remembers 57 = .ok (.putfield 379, 3) := by decide +kernel
theorem dyX12_remembers_60 : decode cX12_remembers 60 = .ok (.aload_n 0, 1) := by decide +kernel
theorem dyX12_remembers_61 : decode cX12_remembers 61 = .ok (.aload_n 0, 1) := by decide +kernel
theorem dyX12_remembers_62 : decode cX12_remembers 62 = .ok (.getfield 379, 3) := by decide +kernel
theorem dyX12_remembers_65 : decode cX12_remembers 65 = .ok (.putfield 382, 3) := by decide +kernel
theorem dyX12_remembers_68 : decode cX12_remembers 68 = .ok (.aload_n 0, 1) := by decide +kernel
theorem dyX12_remembers_69 : decode cX12_remembers 69 = .ok (.aload_n 0, 1) := by decide +kernel
theorem dyX12_remembers_70 : decode cX12_remembers 70 = .ok (.getfield 379, 3) := by decide +kernel
theorem dyX12_remembers_73 : decode cX12_remembers 73 = .ok (.invokevirtual 196, 3) := by decide +kernel
theorem dyX12_remembers_76 : decode cX12_remembers 76 = .ok (.return_, 1) := by decide +kernel
theorem zsg_yX12_remembers : yX12_remembers.cls = RX12 ∧ yX12_remembers.cls ≠ "java/lang/invoke/MethodHandle" ∧ yX12_remembers.cls ≠ "java/lang/invoke/VarHandle" ∧ (parseMethodDescriptor yX12_remembers.desc).map (fun d => d.parameters.length) = some 0 := by decide +kernel
set_option maxRecDepth 20000 in
theorem c_M_remembers {l : Launch} {D : va_G} {B : Nat} {cA : Nat → ClassId} {ad : Nat → Nat} {S : List zC} (hS : zOkM S)  {I : zI} {K : zI → Prop}  (h : w_M_remembers  I K) : Met l yX12_remembers (zws yX12_remembers cX12_remembers 2 none) (zrm 1 23) (zPc D B cA ad [.ref (B + 491)] S I) (zQc D B cA (zqV S K)) 0 0 (fun q => B ≤ q) := by
  refine zm_of (cc := cX12_remembers) (maxL := 2) (ret := none) (by decide +kernel) rfl (Nat.le_of_ble_eq_true rfl) trivial ?_
  intro p e s m args below meth c C _
  unfold w_M_remembers at h
  show zX p l e (zrm 1 23) s m args below meth c (MQ below (zQc D B cA (zqV S K)) args s 0 0 (fun q => B ≤ q)) D B cA 2 0 0 S I [(0, .ref (B + 491))] [] 0
  refine zr_aload_n C dyX12_remembers_0 rfl 0 rfl ?_
  refine zg_12_379 C hS dyX12_remembers_1 ?_
  refine zr_bipush C dyX12_remembers_4 zc_b_20 ?_
  refine zjn (h (fun (I_1 : zI) => zX p l e (zrm 1 23) s m args below meth c (MQ below (zQc D B cA (zqV S K)) args s 0 0 (fun q => B ≤ q)) D B cA 2 0 0 S I_1 [(0, .ref (B + 491))] [] 50) (fun I_1 h => ?_)) (fun h => ?_)
  · refine zr_aload_n C dyX12_remembers_50 rfl 0 rfl ?_
    refine zr_dup C dyX12_remembers_51 rfl ?_
    refine zg_12_379 C hS dyX12_remembers_52 ?_
    refine zr_iconst C dyX12_remembers_55 zc_i_1 ?_
    refine zr_iadd C dyX12_remembers_56 ?_
    refine zp_12_379 C hS dyX12_remembers_57 ?_
    refine zn_mem C (fun I_2 eI_2 => ?_)
    replace h := h I_2 eI_2
    refine zr_aload_n C dyX12_remembers_60 rfl 0 rfl ?_
    refine zr_aload_n C dyX12_remembers_61 rfl 0 rfl ?_
    refine zg_12_379 C hS dyX12_remembers_62 ?_
    refine zp_12_382 C hS dyX12_remembers_65 ?_
    refine zn_mem C (fun I_3 eI_3 => ?_)
    replace h := h I_3 eI_3
    refine zr_aload_n C dyX12_remembers_68 rfl 0 rfl ?_
    refine zr_aload_n C dyX12_remembers_69 rfl 0 rfl ?_
    refine zg_12_379 C hS dyX12_remembers_70 ?_
    refine zv_12_196 C hS (st := []) h ⟨Nat.le_of_ble_eq_true rfl, Nat.le_of_ble_eq_true rfl⟩ (Nat.le_of_ble_eq_true rfl) dyX12_remembers_73 (fun I_4 h => ?_)
    exact zr_vret C rfl dyX12_remembers_76 ⟨rfl, rfl, h⟩
  refine zr_icmp_ne C dyX12_remembers_6 (tgt := 50) (by decide) (fun hc_11 => ?_) (fun hc_11 => ?_)
  · replace h := zif_neg hc_11 h
    exact h
  · replace h := zif_pos hc_11 h
    refine zr_iconst C dyX12_remembers_9 zc_i_0 ?_
    refine zr_istore_n C dyX12_remembers_10 rfl (Nat.le_of_ble_eq_true rfl) (lv2 := [(1, .int 0), (0, .ref (B + 491))]) rfl ?_
    refine zjn (h (fun (v1_5 : Int32) (I_6 : zI) => zX p l e (zrm 1 23) s m args below meth c (MQ below (zQc D B cA (zqV S K)) args s 0 0 (fun q => B ≤ q)) D B cA 2 0 0 S I_6 [(1, .int v1_5), (0, .ref (B + 491))] [] 11) (fun v1_5 I_6 h => ?_)) (fun h => ?_)
    · refine zr_iload_n C dyX12_remembers_11 rfl 0 rfl ?_
      refine zr_sipush C dyX12_remembers_12 zc_s_14400 ?_
      refine zr_icmp_ge C dyX12_remembers_15 (tgt := 40) (by decide) (fun hc_10 => ?_) (fun hc_10 => ?_)
      · replace h := zif_pos hc_10 h
        refine zr_aload_n C dyX12_remembers_40 rfl 1 rfl ?_
        refine zr_dup C dyX12_remembers_41 rfl ?_
        refine zg_12_379 C hS dyX12_remembers_42 ?_
        refine zr_iconst C dyX12_remembers_45 zc_i_1 ?_
        refine zr_isub C dyX12_remembers_46 ?_
        refine zp_12_379 C hS dyX12_remembers_47 ?_
        refine zn_mem C (fun I_7 eI_7 => ?_)
        replace h := h I_7 eI_7
        refine zr_sub (lv2 := [(0, .ref (B + 491))]) [1] rfl ?_
        exact h
      · replace h := zif_neg hc_10 h
        refine zr_aload_n C dyX12_remembers_18 rfl 1 rfl ?_
        refine zg_12_162 C hS dyX12_remembers_19 ?_
        refine zr_iload_n C dyX12_remembers_22 rfl 0 rfl ?_
        refine zr_aload_n C dyX12_remembers_23 rfl 1 rfl ?_
        refine zg_12_162 C hS dyX12_remembers_24 ?_
        refine zr_iload_n C dyX12_remembers_27 rfl 0 rfl ?_
        refine zr_sipush C dyX12_remembers_28 zc_s_720 ?_
        refine zr_iadd C dyX12_remembers_31 ?_
        refine zr_iald C (hS _ _ zs_542) h.1 dyX12_remembers_32 ?_
        replace h := h.2
        refine zr_iast C (hS _ _ zs_542) h.1 dyX12_remembers_33 ?_
        replace h := h.2
        refine zn_mem C (fun I_8 eI_8 => ?_)
        replace h := h I_8 eI_8
        refine zn_iinc C (fun v1_9 => [(1, .int v1_9), (0, .ref (B + 491))]) dyX12_remembers_34 0 rfl zc_i_1 (Nat.le_of_ble_eq_true rfl) (fun _ => rfl) (fun v1_9 ev1_9 => ?_)
        replace h := h v1_9 ev1_9
        refine zr_goto C dyX12_remembers_37 (tgt := 11) (by decide) ?_
        exact h
    exact h
theorem zv_12_356 {p : Program} {l : Launch} {e : Env} {R : Room} {s : State} {m : MethodId} {args : Array Value} {below : List Frame} {meth : Method} {c : Code} {Q : State → Prop} {D : va_G} {B : Nat} {cA : Nat → ClassId} {ad : Nat → Nat} {cc : ByteArray} {nL : Nat} {ret : Option FieldType} {S : List zC} {I : zI} {lv : List (Nat × Value)} {st : List Value} {pc : Nat} (C : zCx p s m args meth c cc nL RX12 ret D B cA ad) {K : Int32 → Prop}  (hS : zOkM S)  (h : w_M_ruleNodes I K) (hR : 0 + 1 ≤ R.frames ∧ 8 + (3 + 11) + (0) ≤ R.locals) (hw : (st.map fun v => v.category).sum ≤ 8) (hd : decode cc pc = .ok (.invokevirtual 356, 3)) (kk : ∀ v, K v → zX p l e R s m args below meth c Q D B cA nL 0 0 S I lv (.int v :: st) (pc + 3)) : zX p l e R s m args below meth c Q D B cA nL 0 0 S I lv (.ref (B + 491) :: st) pc :=
  have hf : 0 ≤ R.cells ∧ 0 ≤ R.slots := ⟨Nat.zero_le _, Nat.zero_le _⟩
  zc_VpI C (ci := 12) (q := (RX12, TX12, 82)) (k := 491) (fs := [none, some (some 492), some (some 493), none, some (some 494), none, some (some 495), none, none, none, some (some 496), some (some 497), some (some 498), some (some 499), some (some 500), none, some (some 501), some (some 502), some (some 503), none, some (some 504), some (some 505), some (some 506), some (some 507), some (some 508), none, some (some 509), some (some 510), some (some 511), some (some 512), some (some 513), some (some 514), some (some 515), some (some 516), some (some 517), some (some 518), none, none, some (some 519), none, some (some 520), none, none, none, some (some 521), some (some 522), some (some 523), some (some 524), some (some 525), some (some 526), some (some 527), none, some (some 528), none, some (some 529), none, some (some 530), some (some 531), some (some 532), none, some (some 533), some (some 534), some (some 535), some (some 536), some (some 537), none, none, none, some (some 538), some (some 539), some (some 540), none, none, none, some (some 541), none, none, some (some 542), some (some 543), some (some 544), none, some (some 545)]) (As := []) (st := st) rfl (hS _ _ zs_491) (c_M_ruleNodes hS h) (zgV zk_ml_12_356 zk_im_yX12_ruleNodes zk_se_yX12_ruleNodes zk_in_12 zk_cd_yX12_ruleNodes) zsg_yX12_ruleNodes hR rfl rfl hw hd hf kk
theorem zp_12_250 {p : Program} {l : Launch} {e : Env} {R : Room} {s : State} {m : MethodId} {args : Array Value} {below : List Frame} {meth : Method} {c : Code} {Q : State → Prop} {D : va_G} {B : Nat} {cA : Nat → ClassId} {ad : Nat → Nat} {cc : ByteArray} {nL : Nat} {ret : Option FieldType} {S : List zC} {I : zI} {lv : List (Nat × Value)} {st : List Value} {pc : Nat} (C : zCx p s m args meth c cc nL RX12 ret D B cA ad) (hS : zOkM S) {v : Int32} (hd : decode cc pc = .ok (.putfield 250, 3)) (kk : zX p l e R s m args below meth c Q D B cA nL 0 0 S (zu I 491 36 v) lv st (pc + 3)) : zX p l e R s m args below meth c Q D B cA nL 0 0 S I lv (.int v :: .ref (B + 491) :: st) pc :=
  zr_puti C (ci := 12) (Cn := RX12) (T := TX12) (N := 82) (k := 491) (j := 36) (fs := [none, some (some 492), some (some 493), none, some (some 494), none, some (some 495), none, none, none, some (some 496), some (some 497), some (some 498), some (some 499), some (some 500), none, some (some 501), some (some 502), some (some 503), none, some (some 504), some (some 505), some (some 506), some (some 507), some (some 508), none, some (some 509), some (some 510), some (some 511), some (some 512), some (some 513), some (some 514), some (some 515), some (some 516), some (some 517), some (some 518), none, none, some (some 519), none, some (some 520), none, none, none, some (some 521), some (some 522), some (some 523), some (some 524), some (some 525), some (some 526), some (some 527), none, some (some 528), none, some (some 529), none, some (some 530), some (some 531), some (some 532), none, some (some 533), some (some 534), some (some 535), some (some 536), some (some 537), none, none, none, some (some 538), some (some 539), some (some 540), none, none, none, some (some 541), none, none, some (some 542), some (some 543), some (some 544), none, some (some 545)]) rfl zin_12 (Nat.le_of_ble_eq_true rfl) rfl (hS _ _ zs_491) rfl tyX12 tyX12_ok nmX12 (ty := .int) zpd_I rfl rfl rfl zk_fl_12_250 hd kk
theorem zv_12_360 {p : Program} {l : Launch} {e : Env} {R : Room} {s : State} {m : MethodId} {args : Array Value} {below : List Frame} {meth : Method} {c : Code} {Q : State → Prop} {D : va_G} {B : Nat} {cA : Nat → ClassId} {ad : Nat → Nat} {cc : ByteArray} {nL : Nat} {ret : Option FieldType} {S : List zC} {I : zI} {lv : List (Nat × Value)} {st : List Value} {pc : Nat} (C : zCx p s m args meth c cc nL RX12 ret D B cA ad) {K : zI → Prop}  (hS : zOkM S)  (h : w_M_fillsKept I K) (hR : 1 + 1 ≤ R.frames ∧ 8 + (4 + 11) + (22) ≤ R.locals) (hw : (st.map fun v => v.category).sum ≤ 8) (hd : decode cc pc = .ok (.invokevirtual 360, 3)) (kk : ∀ I2, K I2 → zX p l e R s m args below meth c Q D B cA nL 0 0 S I2 lv st (pc + 3)) : zX p l e R s m args below meth c Q D B cA nL 0 0 S I lv (.ref (B + 491) :: st) pc :=
  have hf : 0 ≤ R.cells ∧ 0 ≤ R.slots := ⟨Nat.zero_le _, Nat.zero_le _⟩
  zc_VqV C (ci := 12) (q := (RX12, TX12, 82)) (k := 491) (fs := [none, some (some 492), some (some 493), none, some (some 494), none, some (some 495), none, none, none, some (some 496), some (some 497), some (some 498), some (some 499), some (some 500), none, some (some 501), some (some 502), some (some 503), none, some (some 504), some (some 505), some (some 506), some (some 507), some (some 508), none, some (some 509), some (some 510), some (some 511), some (some 512), some (some 513), some (some 514), some (some 515), some (some 516), some (some 517), some (some 518), none, none, some (some 519), none, some (some 520), none, none, none, some (some 521), some (some 522), some (some 523), some (some 524), some (some 525), some (some 526), some (some 527), none, some (some 528), none, some (some 529), none, some (some 530), some (some 531), some (some 532), none, some (some 533), some (some 534), some (some 535), some (some 536), some (some 537), none, none, none, some (some 538), some (some 539), some (some 540), none, none, none, some (some 541), none, none, some (some 542), some (some 543), some (some 544), none, some (some 545)]) (As := []) (st := st) rfl (hS _ _ zs_491) (c_M_fillsKept hS h) (zgV zk_ml_12_360 zk_im_yX12_fillsKept zk_se_yX12_fillsKept zk_in_12 zk_cd_yX12_fillsKept) zsg_yX12_fillsKept hR rfl rfl hw hd hf kk
theorem zv_12_363 {p : Program} {l : Launch} {e : Env} {R : Room} {s : State} {m : MethodId} {args : Array Value} {below : List Frame} {meth : Method} {c : Code} {Q : State → Prop} {D : va_G} {B : Nat} {cA : Nat → ClassId} {ad : Nat → Nat} {cc : ByteArray} {nL : Nat} {ret : Option FieldType} {S : List zC} {I : zI} {lv : List (Nat × Value)} {st : List Value} {pc : Nat} (C : zCx p s m args meth c cc nL RX12 ret D B cA ad) {K : Int32 → zI → Prop}  (hS : zOkM S)  (h : w_M_makesTokens I K) (hR : 1 + 1 ≤ R.frames ∧ 8 + (5 + 11) + (23) ≤ R.locals) (hw : (st.map fun v => v.category).sum ≤ 8) (hd : decode cc pc = .ok (.invokevirtual 363, 3)) (kk : ∀ v I2, K v I2 → zX p l e R s m args below meth c Q D B cA nL 0 0 S I2 lv (.int v :: st) (pc + 3)) : zX p l e R s m args below meth c Q D B cA nL 0 0 S I lv (.ref (B + 491) :: st) pc :=
  have hf : 0 ≤ R.cells ∧ 0 ≤ R.slots := ⟨Nat.zero_le _, Nat.zero_le _⟩
  zc_VqI C (ci := 12) (q := (RX12, TX12, 82)) (k := 491) (fs := [none, some (some 492), some (some 493), none, some (some 494), none, some (some 495), none, none, none, some (some 496), some (some 497), some (some 498), some (some 499), some (some 500), none, some (some 501), some (some 502), some (some 503), none, some (some 504), some (some 505), some (some 506), some (some 507), some (some 508), none, some (some 509), some (some 510), some (some 511), some (some 512), some (some 513), some (some 514), some (some 515), some (some 516), some (some 517), some (some 518), none, none, some (some 519), none, some (some 520), none, none, none, some (some 521), some (some 522), some (some 523), some (some 524), some (some 525), some (some 526), some (some 527), none, some (some 528), none, some (some 529), none, some (some 530), some (some 531), some (some 532), none, some (some 533), some (some 534), some (some 535), some (some 536), some (some 537), none, none, none, some (some 538), some (some 539), some (some 540), none, none, none, some (some 541), none, none, some (some 542), some (some 543), some (some 544), none, some (some 545)]) (As := []) (st := st) rfl (hS _ _ zs_491) (c_M_makesTokens hS h) (zgV zk_ml_12_363 zk_im_yX12_makesTokens zk_se_yX12_makesTokens zk_in_12 zk_cd_yX12_makesTokens) zsg_yX12_makesTokens hR rfl rfl hw hd hf kk
theorem zv_12_366 {p : Program} {l : Launch} {e : Env} {R : Room} {s : State} {m : MethodId} {args : Array Value} {below : List Frame} {meth : Method} {c : Code} {Q : State → Prop} {D : va_G} {B : Nat} {cA : Nat → ClassId} {ad : Nat → Nat} {cc : ByteArray} {nL : Nat} {ret : Option FieldType} {S : List zC} {I : zI} {lv : List (Nat × Value)} {st : List Value} {pc : Nat} (C : zCx p s m args meth c cc nL RX12 ret D B cA ad) {K : Int32 → zI → Prop}  (hS : zOkM S)  (h : w_M_grows I K) (hR : 2 + 1 ≤ R.frames ∧ 8 + (8 + 11) + (48) ≤ R.locals) (hw : (st.map fun v => v.category).sum ≤ 8) (hd : decode cc pc = .ok (.invokevirtual 366, 3)) (kk : ∀ v I2, K v I2 → zX p l e R s m args below meth c Q D B cA nL 0 0 S I2 lv (.int v :: st) (pc + 3)) : zX p l e R s m args below meth c Q D B cA nL 0 0 S I lv (.ref (B + 491) :: st) pc :=
  have hf : 0 ≤ R.cells ∧ 0 ≤ R.slots := ⟨Nat.zero_le _, Nat.zero_le _⟩
  zc_VqI C (ci := 12) (q := (RX12, TX12, 82)) (k := 491) (fs := [none, some (some 492), some (some 493), none, some (some 494), none, some (some 495), none, none, none, some (some 496), some (some 497), some (some 498), some (some 499), some (some 500), none, some (some 501), some (some 502), some (some 503), none, some (some 504), some (some 505), some (some 506), some (some 507), some (some 508), none, some (some 509), some (some 510), some (some 511), some (some 512), some (some 513), some (some 514), some (some 515), some (some 516), some (some 517), some (some 518), none, none, some (some 519), none, some (some 520), none, none, none, some (some 521), some (some 522), some (some 523), some (some 524), some (some 525), some (some 526), some (some 527), none, some (some 528), none, some (some 529), none, some (some 530), some (some 531), some (some 532), none, some (some 533), some (some 534), some (some 535), some (some 536), some (some 537), none, none, none, some (some 538), some (some 539), some (some 540), none, none, none, some (some 541), none, none, some (some 542), some (some 543), some (some 544), none, some (some 545)]) (As := []) (st := st) rfl (hS _ _ zs_491) (c_M_grows hS h) (zgV zk_ml_12_366 zk_im_yX12_grows zk_se_yX12_grows zk_in_12 zk_cd_yX12_grows) zsg_yX12_grows hR rfl rfl hw hd hf kk
theorem zp_12_182 {p : Program} {l : Launch} {e : Env} {R : Room} {s : State} {m : MethodId} {args : Array Value} {below : List Frame} {meth : Method} {c : Code} {Q : State → Prop} {D : va_G} {B : Nat} {cA : Nat → ClassId} {ad : Nat → Nat} {cc : ByteArray} {nL : Nat} {ret : Option FieldType} {S : List zC} {I : zI} {lv : List (Nat × Value)} {st : List Value} {pc : Nat} (C : zCx p s m args meth c cc nL RX12 ret D B cA ad) (hS : zOkM S) {v : Int32} (hz : zb v) (hd : decode cc pc = .ok (.putfield 182, 3)) (kk : zX p l e R s m args below meth c Q D B cA nL 0 0 S (zu I 491 8 v) lv st (pc + 3)) : zX p l e R s m args below meth c Q D B cA nL 0 0 S I lv (.int v :: .ref (B + 491) :: st) pc :=
  zr_puti C (ci := 12) (Cn := RX12) (T := TX12) (N := 82) (k := 491) (j := 8) (fs := [none, some (some 492), some (some 493), none, some (some 494), none, some (some 495), none, none, none, some (some 496), some (some 497), some (some 498), some (some 499), some (some 500), none, some (some 501), some (some 502), some (some 503), none, some (some 504), some (some 505), some (some 506), some (some 507), some (some 508), none, some (some 509), some (some 510), some (some 511), some (some 512), some (some 513), some (some 514), some (some 515), some (some 516), some (some 517), some (some 518), none, none, some (some 519), none, some (some 520), none, none, none, some (some 521), some (some 522), some (some 523), some (some 524), some (some 525), some (some 526), some (some 527), none, some (some 528), none, some (some 529), none, some (some 530), some (some 531), some (some 532), none, some (some 533), some (some 534), some (some 535), some (some 536), some (some 537), none, none, none, some (some 538), some (some 539), some (some 540), none, none, none, some (some 541), none, none, some (some 542), some (some 543), some (some 544), none, some (some 545)]) rfl zin_12 (Nat.le_of_ble_eq_true rfl) rfl (hS _ _ zs_491) rfl tyX12 tyX12_ok nmX12 (ty := .boolean) zpd_Z (zb.nar hz) (zb.fit hz) rfl zk_fl_12_182 hd kk
theorem zg_12_150 {p : Program} {l : Launch} {e : Env} {R : Room} {s : State} {m : MethodId} {args : Array Value} {below : List Frame} {meth : Method} {c : Code} {Q : State → Prop} {D : va_G} {B : Nat} {cA : Nat → ClassId} {ad : Nat → Nat} {cc : ByteArray} {nL : Nat} {ret : Option FieldType} {S : List zC} {I : zI} {lv : List (Nat × Value)} {st : List Value} {pc : Nat} (C : zCx p s m args meth c cc nL RX12 ret D B cA ad) (hS : zOkM S) (hd : decode cc pc = .ok (.getfield 150, 3)) (kk : zX p l e R s m args below meth c Q D B cA nL 0 0 S I lv (.ref (B + 538) :: st) (pc + 3)) : zX p l e R s m args below meth c Q D B cA nL 0 0 S I lv (.ref (B + 491) :: st) pc :=
  zr_getr C (ci := 12) (Cn := RX12) (T := TX12) (N := 82) (k := 491) (j := 68) (fs := [none, some (some 492), some (some 493), none, some (some 494), none, some (some 495), none, none, none, some (some 496), some (some 497), some (some 498), some (some 499), some (some 500), none, some (some 501), some (some 502), some (some 503), none, some (some 504), some (some 505), some (some 506), some (some 507), some (some 508), none, some (some 509), some (some 510), some (some 511), some (some 512), some (some 513), some (some 514), some (some 515), some (some 516), some (some 517), some (some 518), none, none, some (some 519), none, some (some 520), none, none, none, some (some 521), some (some 522), some (some 523), some (some 524), some (some 525), some (some 526), some (some 527), none, some (some 528), none, some (some 529), none, some (some 530), some (some 531), some (some 532), none, some (some 533), some (some 534), some (some 535), some (some 536), some (some 537), none, none, none, some (some 538), some (some 539), some (some 540), none, none, none, some (some 541), none, none, some (some 542), some (some 543), some (some 544), none, some (some 545)]) rfl zin_12 (Nat.le_of_ble_eq_true rfl) rfl (hS _ _ zs_491) rfl zk_fl_12_150 hd kk
theorem zv_12_376 {p : Program} {l : Launch} {e : Env} {R : Room} {s : State} {m : MethodId} {args : Array Value} {below : List Frame} {meth : Method} {c : Code} {Q : State → Prop} {D : va_G} {B : Nat} {cA : Nat → ClassId} {ad : Nat → Nat} {cc : ByteArray} {nL : Nat} {ret : Option FieldType} {S : List zC} {I : zI} {lv : List (Nat × Value)} {st : List Value} {pc : Nat} (C : zCx p s m args meth c cc nL RX12 ret D B cA ad) {K : zI → Prop}  (hS : zOkM S)  (h : w_M_remembers I K) (hR : 1 + 1 ≤ R.frames ∧ 8 + (2 + 11) + (23) ≤ R.locals) (hw : (st.map fun v => v.category).sum ≤ 8) (hd : decode cc pc = .ok (.invokevirtual 376, 3)) (kk : ∀ I2, K I2 → zX p l e R s m args below meth c Q D B cA nL 0 0 S I2 lv st (pc + 3)) : zX p l e R s m args below meth c Q D B cA nL 0 0 S I lv (.ref (B + 491) :: st) pc :=
  have hf : 0 ≤ R.cells ∧ 0 ≤ R.slots := ⟨Nat.zero_le _, Nat.zero_le _⟩
  zc_VqV C (ci := 12) (q := (RX12, TX12, 82)) (k := 491) (fs := [none, some (some 492), some (some 493), none, some (some 494), none, some (some 495), none, none, none, some (some 496), some (some 497), some (some 498), some (some 499), some (some 500), none, some (some 501), some (some 502), some (some 503), none, some (some 504), some (some 505), some (some 506), some (some 507), some (some 508), none, some (some 509), some (some 510), some (some 511), some (some 512), some (some 513), some (some 514), some (some 515), some (some 516), some (some 517), some (some 518), none, none, some (some 519), none, some (some 520), none, none, none, some (some 521), some (some 522), some (some 523), some (some 524), some (some 525), some (some 526), some (some 527), none, some (some 528), none, some (some 529), none, some (some 530), some (some 531), some (some 532), none, some (some 533), some (some 534), some (some 535), some (some 536), some (some 537), none, none, none, some (some 538), some (some 539), some (some 540), none, none, none, some (some 541), none, none, some (some 542), some (some 543), some (some 544), none, some (some 545)]) (As := []) (st := st) rfl (hS _ _ zs_491) (c_M_remembers hS h) (zgV zk_ml_12_376 zk_im_yX12_remembers zk_se_yX12_remembers zk_in_12 zk_cd_yX12_remembers) zsg_yX12_remembers hR rfl rfl hw hd hf kk
theorem zv_12_190 {p : Program} {l : Launch} {e : Env} {R : Room} {s : State} {m : MethodId} {args : Array Value} {below : List Frame} {meth : Method} {c : Code} {Q : State → Prop} {D : va_G} {B : Nat} {cA : Nat → ClassId} {ad : Nat → Nat} {cc : ByteArray} {nL : Nat} {ret : Option FieldType} {S : List zC} {I : zI} {lv : List (Nat × Value)} {st : List Value} {pc : Nat} (C : zCx p s m args meth c cc nL RX12 ret D B cA ad) {K : zI → Prop}  (hS : zOkM S)  (h : w_M_keepsTokens I K) (hR : 1 + 1 ≤ R.frames ∧ 8 + (2 + 11) + (21) ≤ R.locals) (hw : (st.map fun v => v.category).sum ≤ 8) (hd : decode cc pc = .ok (.invokevirtual 190, 3)) (kk : ∀ I2, K I2 → zX p l e R s m args below meth c Q D B cA nL 0 0 S I2 lv st (pc + 3)) : zX p l e R s m args below meth c Q D B cA nL 0 0 S I lv (.ref (B + 491) :: st) pc :=
  have hf : 0 ≤ R.cells ∧ 0 ≤ R.slots := ⟨Nat.zero_le _, Nat.zero_le _⟩
  zc_VqV C (ci := 12) (q := (RX12, TX12, 82)) (k := 491) (fs := [none, some (some 492), some (some 493), none, some (some 494), none, some (some 495), none, none, none, some (some 496), some (some 497), some (some 498), some (some 499), some (some 500), none, some (some 501), some (some 502), some (some 503), none, some (some 504), some (some 505), some (some 506), some (some 507), some (some 508), none, some (some 509), some (some 510), some (some 511), some (some 512), some (some 513), some (some 514), some (some 515), some (some 516), some (some 517), some (some 518), none, none, some (some 519), none, some (some 520), none, none, none, some (some 521), some (some 522), some (some 523), some (some 524), some (some 525), some (some 526), some (some 527), none, some (some 528), none, some (some 529), none, some (some 530), some (some 531), some (some 532), none, some (some 533), some (some 534), some (some 535), some (some 536), some (some 537), none, none, none, some (some 538), some (some 539), some (some 540), none, none, none, some (some 541), none, none, some (some 542), some (some 543), some (some 544), none, some (some 545)]) (As := []) (st := st) rfl (hS _ _ zs_491) (c_M_keepsTokens hS h) (zgV zk_ml_12_190 zk_im_yX12_keepsTokens zk_se_yX12_keepsTokens zk_in_12 zk_cd_yX12_keepsTokens) zsg_yX12_keepsTokens hR rfl rfl hw hd hf kk
theorem zp_12_178 {p : Program} {l : Launch} {e : Env} {R : Room} {s : State} {m : MethodId} {args : Array Value} {below : List Frame} {meth : Method} {c : Code} {Q : State → Prop} {D : va_G} {B : Nat} {cA : Nat → ClassId} {ad : Nat → Nat} {cc : ByteArray} {nL : Nat} {ret : Option FieldType} {S : List zC} {I : zI} {lv : List (Nat × Value)} {st : List Value} {pc : Nat} (C : zCx p s m args meth c cc nL RX12 ret D B cA ad) (hS : zOkM S) {v : Int32} (hd : decode cc pc = .ok (.putfield 178, 3)) (kk : zX p l e R s m args below meth c Q D B cA nL 0 0 S (zu I 491 37 v) lv st (pc + 3)) : zX p l e R s m args below meth c Q D B cA nL 0 0 S I lv (.int v :: .ref (B + 491) :: st) pc :=
  zr_puti C (ci := 12) (Cn := RX12) (T := TX12) (N := 82) (k := 491) (j := 37) (fs := [none, some (some 492), some (some 493), none, some (some 494), none, some (some 495), none, none, none, some (some 496), some (some 497), some (some 498), some (some 499), some (some 500), none, some (some 501), some (some 502), some (some 503), none, some (some 504), some (some 505), some (some 506), some (some 507), some (some 508), none, some (some 509), some (some 510), some (some 511), some (some 512), some (some 513), some (some 514), some (some 515), some (some 516), some (some 517), some (some 518), none, none, some (some 519), none, some (some 520), none, none, none, some (some 521), some (some 522), some (some 523), some (some 524), some (some 525), some (some 526), some (some 527), none, some (some 528), none, some (some 529), none, some (some 530), some (some 531), some (some 532), none, some (some 533), some (some 534), some (some 535), some (some 536), some (some 537), none, none, none, some (some 538), some (some 539), some (some 540), none, none, none, some (some 541), none, none, some (some 542), some (some 543), some (some 544), none, some (some 545)]) rfl zin_12 (Nat.le_of_ble_eq_true rfl) rfl (hS _ _ zs_491) rfl tyX12 tyX12_ok nmX12 (ty := .int) zpd_I rfl rfl rfl zk_fl_12_178 hd kk
theorem zv_12_193 {p : Program} {l : Launch} {e : Env} {R : Room} {s : State} {m : MethodId} {args : Array Value} {below : List Frame} {meth : Method} {c : Code} {Q : State → Prop} {D : va_G} {B : Nat} {cA : Nat → ClassId} {ad : Nat → Nat} {cc : ByteArray} {nL : Nat} {ret : Option FieldType} {S : List zC} {I : zI} {lv : List (Nat × Value)} {st : List Value} {pc : Nat} (C : zCx p s m args meth c cc nL RX12 ret D B cA ad) {K : zI → Prop}  (hS : zOkM S)  (h : w_M_fillsTree I K) (hR : 1 + 1 ≤ R.frames ∧ 8 + (6 + 11) + (23) ≤ R.locals) (hw : (st.map fun v => v.category).sum ≤ 8) (hd : decode cc pc = .ok (.invokevirtual 193, 3)) (kk : ∀ I2, K I2 → zX p l e R s m args below meth c Q D B cA nL 0 0 S I2 lv st (pc + 3)) : zX p l e R s m args below meth c Q D B cA nL 0 0 S I lv (.ref (B + 491) :: st) pc :=
  have hf : 0 ≤ R.cells ∧ 0 ≤ R.slots := ⟨Nat.zero_le _, Nat.zero_le _⟩
  zc_VqV C (ci := 12) (q := (RX12, TX12, 82)) (k := 491) (fs := [none, some (some 492), some (some 493), none, some (some 494), none, some (some 495), none, none, none, some (some 496), some (some 497), some (some 498), some (some 499), some (some 500), none, some (some 501), some (some 502), some (some 503), none, some (some 504), some (some 505), some (some 506), some (some 507), some (some 508), none, some (some 509), some (some 510), some (some 511), some (some 512), some (some 513), some (some 514), some (some 515), some (some 516), some (some 517), some (some 518), none, none, some (some 519), none, some (some 520), none, none, none, some (some 521), some (some 522), some (some 523), some (some 524), some (some 525), some (some 526), some (some 527), none, some (some 528), none, some (some 529), none, some (some 530), some (some 531), some (some 532), none, some (some 533), some (some 534), some (some 535), some (some 536), some (some 537), none, none, none, some (some 538), some (some 539), some (some 540), none, none, none, some (some 541), none, none, some (some 542), some (some 543), some (some 544), none, some (some 545)]) (As := []) (st := st) rfl (hS _ _ zs_491) (c_M_fillsTree hS h) (zgV zk_ml_12_193 zk_im_yX12_fillsTree zk_se_yX12_fillsTree zk_in_12 zk_cd_yX12_fillsTree) zsg_yX12_fillsTree hR rfl rfl hw hd hf kk
theorem zv_12_369 {p : Program} {l : Launch} {e : Env} {R : Room} {s : State} {m : MethodId} {args : Array Value} {below : List Frame} {meth : Method} {c : Code} {Q : State → Prop} {D : va_G} {B : Nat} {cA : Nat → ClassId} {ad : Nat → Nat} {cc : ByteArray} {nL : Nat} {ret : Option FieldType} {S : List zC} {I : zI} {lv : List (Nat × Value)} {st : List Value} {pc : Nat} (C : zCx p s m args meth c cc nL RX12 ret D B cA ad) {K : Int32 → zI → Prop}  (hS : zOkM S)  (h : w_M_rowNow I K) (hR : 1 + 1 ≤ R.frames ∧ 8 + (7 + 11) + (23) ≤ R.locals) (hw : (st.map fun v => v.category).sum ≤ 8) (hd : decode cc pc = .ok (.invokevirtual 369, 3)) (kk : ∀ v I2, K v I2 → zX p l e R s m args below meth c Q D B cA nL 0 0 S I2 lv (.int v :: st) (pc + 3)) : zX p l e R s m args below meth c Q D B cA nL 0 0 S I lv (.ref (B + 491) :: st) pc :=
  have hf : 0 ≤ R.cells ∧ 0 ≤ R.slots := ⟨Nat.zero_le _, Nat.zero_le _⟩
  zc_VqI C (ci := 12) (q := (RX12, TX12, 82)) (k := 491) (fs := [none, some (some 492), some (some 493), none, some (some 494), none, some (some 495), none, none, none, some (some 496), some (some 497), some (some 498), some (some 499), some (some 500), none, some (some 501), some (some 502), some (some 503), none, some (some 504), some (some 505), some (some 506), some (some 507), some (some 508), none, some (some 509), some (some 510), some (some 511), some (some 512), some (some 513), some (some 514), some (some 515), some (some 516), some (some 517), some (some 518), none, none, some (some 519), none, some (some 520), none, none, none, some (some 521), some (some 522), some (some 523), some (some 524), some (some 525), some (some 526), some (some 527), none, some (some 528), none, some (some 529), none, some (some 530), some (some 531), some (some 532), none, some (some 533), some (some 534), some (some 535), some (some 536), some (some 537), none, none, none, some (some 538), some (some 539), some (some 540), none, none, none, some (some 541), none, none, some (some 542), some (some 543), some (some 544), none, some (some 545)]) (As := []) (st := st) rfl (hS _ _ zs_491) (c_M_rowNow hS h) (zgV zk_ml_12_369 zk_im_yX12_rowNow zk_se_yX12_rowNow zk_in_12 zk_cd_yX12_rowNow) zsg_yX12_rowNow hR rfl rfl hw hd hf kk
theorem zv_12_372 {p : Program} {l : Launch} {e : Env} {R : Room} {s : State} {m : MethodId} {args : Array Value} {below : List Frame} {meth : Method} {c : Code} {Q : State → Prop} {D : va_G} {B : Nat} {cA : Nat → ClassId} {ad : Nat → Nat} {cc : ByteArray} {nL : Nat} {ret : Option FieldType} {S : List zC} {I : zI} {lv : List (Nat × Value)} {st : List Value} {pc : Nat} (C : zCx p s m args meth c cc nL RX12 ret D B cA ad) {K : Int32 → zI → Prop} {xa1 : Int32} (hS : zOkM S)  (h : w_M_runsAll xa1 I K) (hR : 2 + 1 ≤ R.frames ∧ 8 + (7 + 11) + (50) ≤ R.locals) (hw : (st.map fun v => v.category).sum ≤ 8) (hd : decode cc pc = .ok (.invokevirtual 372, 3)) (kk : ∀ v I2, K v I2 → zX p l e R s m args below meth c Q D B cA nL 0 0 S I2 lv (.int v :: st) (pc + 3)) : zX p l e R s m args below meth c Q D B cA nL 0 0 S I lv (.int xa1 :: .ref (B + 491) :: st) pc :=
  have hf : 0 ≤ R.cells ∧ 0 ≤ R.slots := ⟨Nat.zero_le _, Nat.zero_le _⟩
  zc_VqI C (ci := 12) (q := (RX12, TX12, 82)) (k := 491) (fs := [none, some (some 492), some (some 493), none, some (some 494), none, some (some 495), none, none, none, some (some 496), some (some 497), some (some 498), some (some 499), some (some 500), none, some (some 501), some (some 502), some (some 503), none, some (some 504), some (some 505), some (some 506), some (some 507), some (some 508), none, some (some 509), some (some 510), some (some 511), some (some 512), some (some 513), some (some 514), some (some 515), some (some 516), some (some 517), some (some 518), none, none, some (some 519), none, some (some 520), none, none, none, some (some 521), some (some 522), some (some 523), some (some 524), some (some 525), some (some 526), some (some 527), none, some (some 528), none, some (some 529), none, some (some 530), some (some 531), some (some 532), none, some (some 533), some (some 534), some (some 535), some (some 536), some (some 537), none, none, none, some (some 538), some (some 539), some (some 540), none, none, none, some (some 541), none, none, some (some 542), some (some 543), some (some 544), none, some (some 545)]) (As := [.int xa1]) (st := st) rfl (hS _ _ zs_491) (c_M_runsAll hS h) (zgV zk_ml_12_372 zk_im_yX12_runsAll zk_se_yX12_runsAll zk_in_12 zk_cd_yX12_runsAll) zsg_yX12_runsAll hR rfl rfl hw hd hf kk
theorem zg_12_159 {p : Program} {l : Launch} {e : Env} {R : Room} {s : State} {m : MethodId} {args : Array Value} {below : List Frame} {meth : Method} {c : Code} {Q : State → Prop} {D : va_G} {B : Nat} {cA : Nat → ClassId} {ad : Nat → Nat} {cc : ByteArray} {nL : Nat} {ret : Option FieldType} {S : List zC} {I : zI} {lv : List (Nat × Value)} {st : List Value} {pc : Nat} (C : zCx p s m args meth c cc nL RX12 ret D B cA ad) (hS : zOkM S) (hd : decode cc pc = .ok (.getfield 159, 3)) (kk : zX p l e R s m args below meth c Q D B cA nL 0 0 S I lv (.ref (B + 541) :: st) (pc + 3)) : zX p l e R s m args below meth c Q D B cA nL 0 0 S I lv (.ref (B + 491) :: st) pc :=
  zr_getr C (ci := 12) (Cn := RX12) (T := TX12) (N := 82) (k := 491) (j := 74) (fs := [none, some (some 492), some (some 493), none, some (some 494), none, some (some 495), none, none, none, some (some 496), some (some 497), some (some 498), some (some 499), some (some 500), none, some (some 501), some (some 502), some (some 503), none, some (some 504), some (some 505), some (some 506), some (some 507), some (some 508), none, some (some 509), some (some 510), some (some 511), some (some 512), some (some 513), some (some 514), some (some 515), some (some 516), some (some 517), some (some 518), none, none, some (some 519), none, some (some 520), none, none, none, some (some 521), some (some 522), some (some 523), some (some 524), some (some 525), some (some 526), some (some 527), none, some (some 528), none, some (some 529), none, some (some 530), some (some 531), some (some 532), none, some (some 533), some (some 534), some (some 535), some (some 536), some (some 537), none, none, none, some (some 538), some (some 539), some (some 540), none, none, none, some (some 541), none, none, some (some 542), some (some 543), some (some 544), none, some (some 545)]) rfl zin_12 (Nat.le_of_ble_eq_true rfl) rfl (hS _ _ zs_491) rfl zk_fl_12_159 hd kk
def w_M_edited  (I : zI) (K : Int32 → zI → Prop) : Prop :=
  ∀ v1_1, v1_1 = (I.1 491 25) → ∀ v2_2, v2_2 = (I.1 491 59) → w_M_ruleNodes I (fun r_3 => ∀ I_4, I_4 = (zu I 491 36 ((I.1 491 36) + 1)) → w_M_fillsKept I_4 (fun I_5 => w_M_makesTokens I_5 (fun r_6 I_7 => w_M_grows I_7 (fun r_8 I_9 => ∀ (P52 : Int32 → Prop), (∀ (t_10 : Int32), (zb t_10 ∧ (∀ I_11, I_11 = (zu I_9 491 8 t_10) → vp_in 0 10 ∧ (∀ I_12, I_12 = (zu I_11 538 0 (I_11.1 491 66)) → vp_in 1 10 ∧ (∀ I_13, I_13 = (zu I_12 538 1 (I_12.1 491 67)) → vp_in 2 10 ∧ (∀ I_14, I_14 = (zu I_13 538 2 (I_13.1 491 73)) → vp_in 5 10 ∧ (∀ I_15, I_15 = (zu I_14 538 5 (I_14.1 491 72)) → ∀ (P113 : Int32 → Prop), (∀ (t_16 : Int32), (vp_in 6 10 ∧ (∀ I_17, I_17 = (zu I_15 538 6 t_16) → vp_in 7 10 ∧ (∀ I_18, I_18 = (zu I_17 538 7 r_6) → ∀ (P346 : zI → Prop), (∀ (I_19 : zI), (vp_in 9 10 ∧ (∀ I_20, I_20 = (zu I_19 538 9 ((I_19.1 491 59) - v2_2)) → w_M_remembers I_20 (fun I_21 => (if (I_21.1 491 8) = 0 then K 1 I_21 else K 0 I_21)))) → P346 I_19) → (if (I_18.1 491 8) = 0 then (∀ I_23, I_23 = (zu I_18 491 25 v1_1) → w_M_keepsTokens I_23 (fun I_24 => vp_in 3 10 ∧ (∀ I_25, I_25 = (zu I_24 538 3 0) → vp_in 4 10 ∧ (∀ I_26, I_26 = (zu I_25 538 4 0) → vp_in 8 10 ∧ (∀ I_27, I_27 = (zu I_26 538 8 0) → P346 I_27))))) else (∀ (P133 : Int32 → zI → Prop), (∀ (v6_28 : Int32) (I_29 : zI), ((if (I_29.1 491 9) ≤ v6_28 then (vp_in ((I_29.1 491 71) - 1) 400 ∧ (∀ I_30, I_30 = (zu I_29 491 37 (I_29.1 540 (Int32.toNatClampNeg ((I_29.1 491 71) - 1)))) → ∀ (P180 : Int32 → zI → Prop), (∀ (v6_31 : Int32) (I_32 : zI), ((if (I_32.1 491 43) ≤ v6_31 then (∀ v6_33, v6_33 = (I_32.1 491 43) → w_M_keepsTokens I_32 (fun I_34 => w_M_fillsTree I_34 (fun I_35 => ∀ (P229 : Int32 → Int32 → Prop), (∀ (v7_36 : Int32) (v8_37 : Int32), ((if v6_33 ≤ v8_37 then (w_M_rowNow I_35 (fun r_38 I_39 => vp_in 3 10 ∧ (∀ I_40, I_40 = (zu I_39 538 3 ((I_39.1 491 25) - v1_1)) → vp_in 4 10 ∧ (∀ I_41, I_41 = (zu I_40 538 4 v7_36) → w_M_runsAll 1 I_41 (fun r_42 I_43 => vp_in 8 10 ∧ (∀ I_44, I_44 = (zu I_43 538 8 r_42) → P346 I_44)))))) else (vp_in v8_37 700 ∧ (vp_in (I_35.1 541 (Int32.toNatClampNeg v8_37)) 3700 ∧ (∀ (P269 : Int32 → Prop), (∀ (v7_45 : Int32), (∀ v8_46, v8_46 = (v8_37 + 1) → P229 v7_45 v8_46) → P269 v7_45) → (if (I_35.1 509 (Int32.toNatClampNeg (I_35.1 541 (Int32.toNatClampNeg v8_37)))) < 0 then P269 v7_36 else (vp_in v8_37 700 ∧ (vp_in (I_35.1 541 (Int32.toNatClampNeg v8_37)) 3700 ∧ (if 0 ≤ (I_35.1 523 (Int32.toNatClampNeg (I_35.1 541 (Int32.toNatClampNeg v8_37)))) then P269 v7_36 else (∀ v7_47, v7_47 = (v7_36 + 1) → P269 v7_47)))))))))) → P229 v7_36 v8_37) → P229 0 0))) else (vp_in v6_31 700 ∧ (vp_in v6_31 700 ∧ (∀ I_51, I_51 = (zu I_32 541 (Int32.toNatClampNeg v6_31) (I_32.1 521 (Int32.toNatClampNeg v6_31))) → ∀ v6_52, v6_52 = (v6_31 + 1) → P180 v6_52 I_51))))) → P180 v6_31 I_32) → P180 0 I_30)) else (vp_in v6_28 110 ∧ (vp_in v6_28 110 ∧ (∀ I_54, I_54 = (zu I_29 508 (Int32.toNatClampNeg v6_28) (I_29.1 500 (Int32.toNatClampNeg v6_28))) → ∀ v6_55, v6_55 = (v6_28 + 1) → P133 v6_55 I_54))))) → P133 v6_28 I_29) → P133 0 I_18))))) → P113 t_16) → (if 0 ≤ r_8 then P113 r_8 else (P113 (-2))))))))) → P52 t_10) → (if 0 ≤ r_8 then P52 0 else P52 1)))))
theorem dyX12_edited_0 : decode cX12_edited 0 = .ok (.aload_n 0, 1) := by decide +kernel
theorem dyX12_edited_1 : decode cX12_edited 1 = .ok (.getfield 247, 3) := by decide +kernel
theorem dyX12_edited_4 : decode cX12_edited 4 = .ok (.istore_n 1, 1) := by decide +kernel
theorem dyX12_edited_5 : decode cX12_edited 5 = .ok (.aload_n 0, 1) := by decide +kernel
theorem dyX12_edited_6 : decode cX12_edited 6 = .ok (.getfield 312, 3) := by decide +kernel
theorem dyX12_edited_9 : decode cX12_edited 9 = .ok (.istore_n 2, 1) := by decide +kernel
theorem dyX12_edited_10 : decode cX12_edited 10 = .ok (.aload_n 0, 1) := by decide +kernel
theorem dyX12_edited_11 : decode cX12_edited 11 = .ok (.invokevirtual 356, 3) := by decide +kernel
theorem dyX12_edited_14 : decode cX12_edited 14 = .ok (.istore_n 3, 1) := by decide +kernel
theorem dyX12_edited_15 : decode cX12_edited 15 = .ok (.aload_n 0, 1) := by decide +kernel
theorem dyX12_edited_16 : decode cX12_edited 16 = .ok (.dup, 1) := by decide +kernel
theorem dyX12_edited_17 : decode cX12_edited 17 = .ok (.getfield 250, 3) := by decide +kernel
theorem dyX12_edited_20 : decode cX12_edited 20 = .ok (.iconst 1, 1) := by decide +kernel
theorem dyX12_edited_21 : decode cX12_edited 21 = .ok (.iadd, 1) := by decide +kernel
theorem dyX12_edited_22 : decode cX12_edited 22 = .ok (.putfield 250, 3) := by decide +kernel
theorem dyX12_edited_25 : decode cX12_edited 25 = .ok (.aload_n 0, 1) := by decide +kernel
theorem dyX12_edited_26 : decode cX12_edited 26 = .ok (.invokevirtual 360, 3) := by decide +kernel
theorem dyX12_edited_29 : decode cX12_edited 29 = .ok (.aload_n 0, 1) := by decide +kernel
theorem dyX12_edited_30 : decode cX12_edited 30 = .ok (.invokevirtual 363, 3) := by decide +kernel
theorem dyX12_edited_33 : decode cX12_edited 33 = .ok (.istore 4, 2) := by decide +kernel
theorem dyX12_edited_35 : decode cX12_edited 35 = .ok (.aload_n 0, 1) := by decide +kernel
theorem dyX12_edited_36 : decode cX12_edited 36 = .ok (.invokevirtual 366, 3) := by decide +kernel
theorem dyX12_edited_39 : decode cX12_edited 39 = .ok (.istore 5, 2) := by decide +kernel
theorem dyX12_edited_41 : decode cX12_edited 41 = .ok (.aload_n 0, 1) := by decide +kernel
theorem dyX12_edited_42 : decode cX12_edited 42 = .ok (.iload 5, 2) := by decide +kernel
theorem dyX12_edited_44 : decode cX12_edited 44 = .ok (.ifCond .ge 7, 3) := by decide +kernel
theorem dyX12_edited_47 : decode cX12_edited 47 = .ok (.iconst 1, 1) := by decide +kernel
theorem dyX12_edited_48 : decode cX12_edited 48 = .ok (.goto 4, 3) := by decide +kernel
theorem dyX12_edited_51 : decode cX12_edited 51 = .ok (.iconst 0, 1) := by decide +kernel
theorem dyX12_edited_52 : decode cX12_edited 52 = .ok (.putfield 182, 3) := by decide +kernel
theorem dyX12_edited_55 : decode cX12_edited 55 = .ok (.aload_n 0, 1) := by decide +kernel
theorem dyX12_edited_56 : decode cX12_edited 56 = .ok (.getfield 150, 3) := by decide +kernel
theorem dyX12_edited_59 : decode cX12_edited 59 = .ok (.iconst 0, 1) := by decide +kernel
theorem dyX12_edited_60 : decode cX12_edited 60 = .ok (.aload_n 0, 1) := by decide +kernel
theorem dyX12_edited_61 : decode cX12_edited 61 = .ok (.getfield 325, 3) := by decide +kernel
theorem dyX12_edited_64 : decode cX12_edited 64 = .ok (.iastore, 1) := by decide +kernel
theorem dyX12_edited_65 : decode cX12_edited 65 = .ok (.aload_n 0, 1) := by decide +kernel
theorem dyX12_edited_66 : decode cX12_edited 66 = .ok (.getfield 150, 3) := by decide +kernel
theorem dyX12_edited_69 : decode cX12_edited 69 = .ok (.iconst 1, 1) := by decide +kernel
theorem dyX12_edited_70 : decode cX12_edited 70 = .ok (.aload_n 0, 1) := by decide +kernel
theorem dyX12_edited_71 : decode cX12_edited 71 = .ok (.getfield 328, 3) := by decide +kernel
theorem dyX12_edited_74 : decode cX12_edited 74 = .ok (.iastore, 1) := by decide +kernel
theorem dyX12_edited_75 : decode cX12_edited 75 = .ok (.aload_n 0, 1) := by decide +kernel
theorem dyX12_edited_76 : decode cX12_edited 76 = .ok (.getfield 150, 3) := by decide +kernel
theorem dyX12_edited_79 : decode cX12_edited 79 = .ok (.iconst 2, 1) := by decide +kernel
theorem dyX12_edited_80 : decode cX12_edited 80 = .ok (.aload_n 0, 1) := by decide +kernel
theorem dyX12_edited_81 : decode cX12_edited 81 = .ok (.getfield 344, 3) := by decide +kernel
theorem dyX12_edited_84 : decode cX12_edited 84 = .ok (.iastore, 1) := by decide +kernel
theorem dyX12_edited_85 : decode cX12_edited 85 = .ok (.aload_n 0, 1) := by decide +kernel
theorem dyX12_edited_86 : decode cX12_edited 86 = .ok (.getfield 150, 3) := by decide +kernel
theorem dyX12_edited_89 : decode cX12_edited 89 = .ok (.iconst 5, 1) := by decide +kernel
theorem dyX12_edited_90 : decode cX12_edited 90 = .ok (.aload_n 0, 1) := by decide +kernel
theorem dyX12_edited_91 : decode cX12_edited 91 = .ok (.getfield 337, 3) := by decide +kernel
theorem dyX12_edited_94 : decode cX12_edited 94 = .ok (.iastore, 1) := by decide +kernel
theorem dyX12_edited_95 : decode cX12_edited 95 = .ok (.aload_n 0, 1) := by decide +kernel
theorem dyX12_edited_96 : decode cX12_edited 96 = .ok (.getfield 150, 3) := by decide +kernel
theorem dyX12_edited_99 : decode cX12_edited 99 = .ok (.bipush 6, 2) := by decide +kernel
theorem dyX12_edited_101 : decode cX12_edited 101 = .ok (.iload 5, 2) := by decide +kernel
theorem dyX12_edited_103 : decode cX12_edited 103 = .ok (.ifCond .ge 8, 3) := by decide +kernel
theorem dyX12_edited_106 : decode cX12_edited 106 = .ok (.bipush (-2), 2) := by decide +kernel
theorem dyX12_edited_108 : decode cX12_edited 108 = .ok (.goto 5, 3) := by decide +kernel
theorem dyX12_edited_111 : decode cX12_edited 111 = .ok (.iload 5, 2) := by decide +kernel
theorem dyX12_edited_113 : decode cX12_edited 113 = .ok (.iastore, 1) := by decide +kernel
theorem dyX12_edited_114 : decode cX12_edited 114 = .ok (.aload_n 0, 1) := by decide +kernel
theorem dyX12_edited_115 : decode cX12_edited 115 = .ok (.getfield 150, 3) := by decide +kernel
theorem dyX12_edited_118 : decode cX12_edited 118 = .ok (.bipush 7, 2) := by decide +kernel
theorem dyX12_edited_120 : decode cX12_edited 120 = .ok (.iload 4, 2) := by decide +kernel
theorem dyX12_edited_122 : decode cX12_edited 122 = .ok (.iastore, 1) := by decide +kernel
theorem dyX12_edited_123 : decode cX12_edited 123 = .ok (.aload_n 0, 1) := by decide +kernel
theorem dyX12_edited_124 : decode cX12_edited 124 = .ok (.getfield 182, 3) := by decide +kernel
theorem dyX12_edited_127 : decode cX12_edited 127 = .ok (.ifCond .eq 188, 3) := by decide +kernel
theorem dyX12_edited_130 : decode cX12_edited 130 = .ok (.iconst 0, 1) := by decide +kernel
theorem dyX12_edited_131 : decode cX12_edited 131 = .ok (.istore 6, 2) := by decide +kernel
theorem dyX12_edited_133 : decode cX12_edited 133 = .ok (.iload 6, 2) := by decide +kernel
theorem dyX12_edited_135 : decode cX12_edited 135 = .ok (.aload_n 0, 1) := by decide +kernel
theorem dyX12_edited_136 : decode cX12_edited 136 = .ok (.getfield 212, 3) := by decide +kernel
theorem dyX12_edited_139 : decode cX12_edited 139 = .ok (.if_icmp .ge 23, 3) := by decide +kernel
theorem dyX12_edited_142 : decode cX12_edited 142 = .ok (.aload_n 0, 1) := by decide +kernel
theorem dyX12_edited_143 : decode cX12_edited 143 = .ok (.getfield 59, 3) := by decide +kernel
theorem dyX12_edited_146 : decode cX12_edited 146 = .ok (.iload 6, 2) := by decide +kernel
theorem dyX12_edited_148 : decode cX12_edited 148 = .ok (.aload_n 0, 1) := by decide +kernel
theorem dyX12_edited_149 : decode cX12_edited 149 = .ok (.getfield 35, 3) := by decide +kernel
theorem dyX12_edited_152 : decode cX12_edited 152 = .ok (.iload 6, 2) := by decide +kernel
theorem dyX12_edited_154 : decode cX12_edited 154 = .ok (.iaload, 1) := by decide +kernel
theorem dyX12_edited_155 : decode cX12_edited 155 = .ok (.iastore, 1) := by decide +kernel
theorem dyX12_edited_156 : decode cX12_edited 156 = .ok (.iinc 6 1, 3) := by decide +kernel
theorem dyX12_edited_159 : decode cX12_edited 159 = .ok (.goto (-26), 3) := by decide +kernel
theorem dyX12_edited_162 : decode cX12_edited 162 = .ok (.aload_n 0, 1) := by decide +kernel
theorem dyX12_edited_163 : decode cX12_edited 163 = .ok (.aload_n 0, 1) := by decide +kernel
theorem dyX12_edited_164 : decode cX12_edited 164 = .ok (.getfield 156, 3) := by decide +kernel
theorem dyX12_edited_167 : decode cX12_edited 167 = .ok (.aload_n 0, 1) := by decide +kernel
theorem dyX12_edited_168 : decode cX12_edited 168 = .ok (.getfield 334, 3) := by decide +kernel
theorem dyX12_edited_171 : decode cX12_edited 171 = .ok (.iconst 1, 1) := by decide +kernel
theorem dyX12_edited_172 : decode cX12_edited 172 = .ok (.isub, 1) := by decide +kernel
theorem dyX12_edited_173 : decode cX12_edited 173 = .ok (.iaload, 1) := by decide +kernel
theorem dyX12_edited_174 : decode cX12_edited 174 = .ok (.putfield 178, 3) := by decide +kernel
theorem dyX12_edited_177 : decode cX12_edited 177 = .ok (.iconst 0, 1) := by decide +kernel
theorem dyX12_edited_178 : decode cX12_edited 178 = .ok (.istore 6, 2) := by decide +kernel
theorem dyX12_edited_180 : decode cX12_edited 180 = .ok (.iload 6, 2) := by decide +kernel
theorem dyX12_edited_182 : decode cX12_edited 182 = .ok (.aload_n 0, 1) := by decide +kernel
theorem dyX12_edited_183 : decode cX12_edited 183 = .ok (.getfield 280, 3) := by decide +kernel
theorem dyX12_edited_186 : decode cX12_edited 186 = .ok (.if_icmp .ge 23, 3) := by decide +kernel
theorem dyX12_edited_189 : decode cX12_edited 189 = .ok (.aload_n 0, 1) := by decide +kernel
theorem dyX12_edited_190 : decode cX12_edited 190 = .ok (.getfield 159, 3) := by decide +kernel
theorem dyX12_edited_193 : decode cX12_edited 193 = .ok (.iload 6, 2) := by decide +kernel
theorem dyX12_edited_195 : decode cX12_edited 195 = .ok (.aload_n 0, 1) := by decide +kernel
theorem dyX12_edited_196 : decode cX12_edited 196 = .ok (.getfield 99, 3) := by decide +kernel
theorem dyX12_edited_199 : decode cX12_edited 199 = .ok (.iload 6, 2) := by decide +kernel
theorem dyX12_edited_201 : decode cX12_edited 201 = .ok (.iaload, 1) := by decide +kernel
theorem dyX12_edited_202 : decode cX12_edited 202 = .ok (.iastore, 1) := by decide +kernel
theorem dyX12_edited_203 : decode cX12_edited 203 = .ok (.iinc 6 1, 3) := by decide +kernel
theorem dyX12_edited_206 : decode cX12_edited 206 = .ok (.goto (-26), 3) := by decide +kernel
theorem dyX12_edited_209 : decode cX12_edited 209 = .ok (.aload_n 0, 1) := by decide +kernel
theorem dyX12_edited_210 : decode cX12_edited 210 = .ok (.getfield 280, 3) := by decide +kernel
theorem dyX12_edited_213 : decode cX12_edited 213 = .ok (.istore 6, 2) := by decide +kernel
theorem dyX12_edited_215 : decode cX12_edited 215 = .ok (.aload_n 0, 1) := by decide +kernel
theorem dyX12_edited_216 : decode cX12_edited 216 = .ok (.invokevirtual 190, 3) := by decide +kernel
theorem dyX12_edited_219 : decode cX12_edited 219 = .ok (.aload_n 0, 1) := by decide +kernel
theorem dyX12_edited_220 : decode cX12_edited 220 = .ok (.invokevirtual 193, 3) := by decide +kernel
theorem dyX12_edited_223 : decode cX12_edited 223 = .ok (.iconst 0, 1) := by decide +kernel
theorem dyX12_edited_224 : decode cX12_edited 224 = .ok (.istore 7, 2) := by decide +kernel
theorem dyX12_edited_226 : decode cX12_edited 226 = .ok (.iconst 0, 1) := by decide +kernel
theorem dyX12_edited_227 : decode cX12_edited 227 = .ok (.istore 8, 2) := by decide +kernel
theorem dyX12_edited_229 : decode cX12_edited 229 = .ok (.iload 8, 2) := by decide +kernel
theorem dyX12_edited_231 : decode cX12_edited 231 = .ok (.iload 6, 2) := by decide +kernel
theorem dyX12_edited_233 : decode cX12_edited 233 = .ok (.if_icmp .ge 42, 3) := by decide +kernel
theorem dyX12_edited_236 : decode cX12_edited 236 = .ok (.aload_n 0, 1) := by decide +kernel
theorem dyX12_edited_237 : decode cX12_edited 237 = .ok (.getfield 62, 3) := by decide +kernel
theorem dyX12_edited_240 : decode cX12_edited 240 = .ok (.aload_n 0, 1) := by decide +kernel
theorem dyX12_edited_241 : decode cX12_edited 241 = .ok (.getfield 159, 3) := by decide +kernel
theorem dyX12_edited_244 : decode cX12_edited 244 = .ok (.iload 8, 2) := by decide +kernel
theorem dyX12_edited_246 : decode cX12_edited 246 = .ok (.iaload, 1) := by decide +kernel
theorem dyX12_edited_247 : decode cX12_edited 247 = .ok (.iaload, 1) := by decide +kernel
theorem dyX12_edited_248 : decode cX12_edited 248 = .ok (.ifCond .lt 21, 3) := by decide +kernel
theorem dyX12_edited_251 : decode cX12_edited 251 = .ok (.aload_n 0, 1) := by decide +kernel
theorem dyX12_edited_252 : decode cX12_edited 252 = .ok (.getfield 105, 3) := by decide +kernel
theorem dyX12_edited_255 : decode cX12_edited 255 = .ok (.aload_n 0, 1) := by decide +kernel
theorem dyX12_edited_256 : decode cX12_edited 256 = .ok (.getfield 159, 3) := by decide +kernel
theorem dyX12_edited_259 : decode cX12_edited 259 = .ok (.iload 8, 2) := by decide +kernel
theorem dyX12_edited_261 : decode cX12_edited 261 = .ok (.iaload, 1) := by decide +kernel
theorem dyX12_edited_262 : decode cX12_edited 262 = .ok (.iaload, 1) := by decide +kernel
theorem dyX12_edited_263 : decode cX12_edited 263 = .ok (.ifCond .ge 6, 3) := by decide +kernel
theorem dyX12_edited_266 : decode cX12_edited 266 = .ok (.iinc 7 1, 3) := by decide +kernel
theorem dyX12_edited_269 : decode cX12_edited 269 = .ok (.iinc 8 1, 3) := by decide +kernel
theorem dyX12_edited_272 : decode cX12_edited 272 = .ok (.goto (-43), 3) := by decide +kernel
theorem dyX12_edited_275 : decode cX12_edited 275 = .ok (.aload_n 0, 1) := by decide +kernel
theorem dyX12_edited_276 : decode cX12_edited 276 = .ok (.invokevirtual 369, 3) := by decide +kernel
theorem dyX12_edited_279 : decode cX12_edited 279 = .ok (.pop, 1) := by decide +kernel
theorem dyX12_edited_280 : decode cX12_edited 280 = .ok (.aload_n 0, 1) := by decide +kernel
theorem dyX12_edited_281 : decode cX12_edited 281 = .ok (.getfield 150, 3) := by decide +kernel
theorem dyX12_edited_284 : decode cX12_edited 284 = .ok (.iconst 3, 1) := by decide +kernel
theorem dyX12_edited_285 : decode cX12_edited 285 = .ok (.aload_n 0, 1) := by decide +kernel
theorem dyX12_edited_286 : decode cX12_edited 286 = .ok (.getfield 247, 3) := by decide +kernel
theorem dyX12_edited_289 : decode cX12_edited 289 = .ok (.iload_n 1, 1) := by decide +kernel
theorem dyX12_edited_290 : decode cX12_edited 290 = .ok (.isub, 1) := by decide +kernel
theorem dyX12_edited_291 : decode cX12_edited 291 = .ok (.iastore, 1) := by decide +kernel
theorem dyX12_edited_292 : decode cX12_edited 292 = .ok (.aload_n 0, 1) := by decide +kernel
theorem dyX12_edited_293 : decode cX12_edited 293 = .ok (.getfield 150, 3) := by decide +kernel
theorem dyX12_edited_296 : decode cX12_edited 296 = .ok (.iconst 4, 1) := by decide +kernel
theorem dyX12_edited_297 : decode cX12_edited 297 = .ok (.iload 7, 2) := by decide +kernel
theorem dyX12_edited_299 : decode cX12_edited 299 = .ok (.iastore, 1) := by decide +kernel
theorem dyX12_edited_300 : decode cX12_edited 300 = .ok (.aload_n 0, 1) := by decide +kernel
theorem dyX12_edited_301 : decode cX12_edited 301 = .ok (.getfield 150, 3) := by decide +kernel
theorem dyX12_edited_304 : decode cX12_edited 304 = .ok (.bipush 8, 2) := by decide +kernel
theorem dyX12_edited_306 : decode cX12_edited 306 = .ok (.aload_n 0, 1) := by decide +kernel
theorem dyX12_edited_307 : decode cX12_edited 307 = .ok (.iconst 1, 1) := by decide +kernel
theorem dyX12_edited_308 : decode cX12_edited 308 = .ok (.invokevirtual 372, 3) := by decide +kernel
theorem dyX12_edited_311 : decode cX12_edited 311 = .ok (.iastore, 1) := by decide +kernel
theorem dyX12_edited_312 : decode cX12_edited 312 = .ok (.goto 34, 3) := by decide +kernel
theorem dyX12_edited_315 : decode cX12_edited 315 = .ok (.aload_n 0, 1) := by decide +kernel
theorem dyX12_edited_316 : decode cX12_edited 316 = .ok (.iload_n 1, 1) := by decide +kernel
theorem dyX12_edited_317 : decode cX12_edited 317 = .ok (.putfield 247, 3) := by decide +kernel
theorem dyX12_edited_320 : decode cX12_edited 320 = .ok (.aload_n 0, 1) := by decide +kernel
theorem dyX12_edited_321 : decode cX12_edited 321 = .ok (.invokevirtual 190, 3) := by decide +kernel
theorem dyX12_edited_324 : decode cX12_edited 324 = .ok (.aload_n 0, 1) := by decide +kernel
theorem dyX12_edited_325 : decode cX12_edited 325 = .ok (.getfield 150, 3) := by decide +kernel
theorem dyX12_edited_328 : decode cX12_edited 328 = .ok (.iconst 3, 1) := by decide +kernel
theorem dyX12_edited_329 : decode cX12_edited 329 = .ok (.iconst 0, 1) := by decide +kernel
theorem dyX12_edited_330 : decode cX12_edited 330 = .ok (.iastore, 1) := by decide +kernel
theorem dyX12_edited_331 : decode cX12_edited 331 = .ok (.aload_n 0, 1) := by decide +kernel
theorem dyX12_edited_332 : decode cX12_edited 332 = .ok (.getfield 150, 3) := by decide +kernel
theorem dyX12_edited_335 : decode cX12_edited 335 = .ok (.iconst 4, 1) := by decide +kernel
theorem dyX12_edited_336 : decode cX12_edited 336 = .ok (.iconst 0, 1) := by decide +kernel
theorem dyX12_edited_337 : decode cX12_edited 337 = .ok (.iastore, 1) := by decide +kernel
theorem dyX12_edited_338 : decode cX12_edited 338 = .ok (.aload_n 0, 1) := by decide +kernel
theorem dyX12_edited_339 : decode cX12_edited 339 = .ok (.getfield 150, 3) := by decide +kernel
theorem dyX12_edited_342 : decode cX12_edited 342 = .ok (.bipush 8, 2) := by decide +kernel
theorem dyX12_edited_344 : decode cX12_edited 344 = .ok (.iconst 0, 1) := by decide +kernel
theorem dyX12_edited_345 : decode cX12_edited 345 = .ok (.iastore, 1) := by decide +kernel
theorem dyX12_edited_346 : decode cX12_edited 346 = .ok (.aload_n 0, 1) := by decide +kernel
theorem dyX12_edited_347 : decode cX12_edited 347 = .ok (.getfield 150, 3) := by decide +kernel
theorem dyX12_edited_350 : decode cX12_edited 350 = .ok (.bipush 9, 2) := by decide +kernel
theorem dyX12_edited_352 : decode cX12_edited 352 = .ok (.aload_n 0, 1) := by decide +kernel
theorem dyX12_edited_353 : decode cX12_edited 353 = .ok (.getfield 312, 3) := by decide +kernel
theorem dyX12_edited_356 : decode cX12_edited 356 = .ok (.iload_n 2, 1) := by decide +kernel
theorem dyX12_edited_357 : decode cX12_edited 357 = .ok (.isub, 1) := by decide +kernel
theorem dyX12_edited_358 : decode cX12_edited 358 = .ok (.iastore, 1) := by decide +kernel
theorem dyX12_edited_359 : decode cX12_edited 359 = .ok (.aload_n 0, 1) := by decide +kernel
theorem dyX12_edited_360 : decode cX12_edited 360 = .ok (.invokevirtual 376, 3) := by decide +kernel
theorem dyX12_edited_363 : decode cX12_edited 363 = .ok (.aload_n 0, 1) := by decide +kernel
theorem dyX12_edited_364 : decode cX12_edited 364 = .ok (.getfield 182, 3) := by decide +kernel
theorem dyX12_edited_367 : decode cX12_edited 367 = .ok (.ifCond .eq 7, 3) := by decide +kernel
theorem dyX12_edited_370 : decode cX12_edited 370 = .ok (.iconst 0, 1) := by decide +kernel
theorem dyX12_edited_371 : decode cX12_edited 371 = .ok (.goto 4, 3) := by decide +kernel
theorem dyX12_edited_374 : decode cX12_edited 374 = .ok (.iconst 1, 1) := by decide +kernel
theorem dyX12_edited_375 : decode cX12_edited 375 = .ok (.ireturn, 1) := by decide +kernel
theorem zsg_yX12_edited : yX12_edited.cls = RX12 ∧ yX12_edited.cls ≠ "java/lang/invoke/MethodHandle" ∧ yX12_edited.cls ≠ "java/lang/invoke/VarHandle" ∧ (parseMethodDescriptor yX12_edited.desc).map (fun d => d.parameters.length) = some 0 := by decide +kernel
set_option maxRecDepth 20000 in
theorem c_M_edited {l : Launch} {D : va_G} {B : Nat} {cA : Nat → ClassId} {ad : Nat → Nat} {S : List zC} (hS : zOkM S)  {I : zI} {K : Int32 → zI → Prop}  (h : w_M_edited  I K) : Met l yX12_edited (zws yX12_edited cX12_edited 9 (some .int)) (zrm 3 76) (zPc D B cA ad [.ref (B + 491)] S I) (zQc D B cA (zqI S K)) 0 0 (fun q => B ≤ q) := by
  refine zm_of (cc := cX12_edited) (maxL := 9) (ret := (some .int)) (by decide +kernel) rfl (Nat.le_of_ble_eq_true rfl) trivial ?_
  intro p e s m args below meth c C _
  unfold w_M_edited at h
  show zX p l e (zrm 3 76) s m args below meth c (MQ below (zQc D B cA (zqI S K)) args s 0 0 (fun q => B ≤ q)) D B cA 9 0 0 S I [(0, .ref (B + 491))] [] 0
  refine zr_aload_n C dyX12_edited_0 rfl 0 rfl ?_
  refine zg_12_247 C hS dyX12_edited_1 ?_
  refine zn_istore_n C (fun v1_1 => [(1, .int v1_1), (0, .ref (B + 491))]) dyX12_edited_4 rfl (Nat.le_of_ble_eq_true rfl) (fun _ => rfl) (fun v1_1 ev1_1 => ?_)
  replace h := h v1_1 ev1_1
  refine zr_aload_n C dyX12_edited_5 rfl 1 rfl ?_
  refine zg_12_312 C hS dyX12_edited_6 ?_
  refine zn_istore_n C (fun v2_2 => [(2, .int v2_2), (1, .int v1_1), (0, .ref (B + 491))]) dyX12_edited_9 rfl (Nat.le_of_ble_eq_true rfl) (fun _ => rfl) (fun v2_2 ev2_2 => ?_)
  replace h := h v2_2 ev2_2
  refine zr_aload_n C dyX12_edited_10 rfl 2 rfl ?_
  refine zv_12_356 C hS (st := []) h ⟨Nat.le_of_ble_eq_true rfl, Nat.le_of_ble_eq_true rfl⟩ (Nat.le_of_ble_eq_true rfl) dyX12_edited_11 (fun r_3 h => ?_)
  refine zr_istore_n C dyX12_edited_14 rfl (Nat.le_of_ble_eq_true rfl) (lv2 := [(3, .int r_3), (2, .int v2_2), (1, .int v1_1), (0, .ref (B + 491))]) rfl ?_
  refine zr_aload_n C dyX12_edited_15 rfl 3 rfl ?_
  refine zr_dup C dyX12_edited_16 rfl ?_
  refine zg_12_250 C hS dyX12_edited_17 ?_
  refine zr_iconst C dyX12_edited_20 zc_i_1 ?_
  refine zr_iadd C dyX12_edited_21 ?_
  refine zp_12_250 C hS dyX12_edited_22 ?_
  refine zn_mem C (fun I_4 eI_4 => ?_)
  replace h := h I_4 eI_4
  refine zr_aload_n C dyX12_edited_25 rfl 3 rfl ?_
  refine zv_12_360 C hS (st := []) h ⟨Nat.le_of_ble_eq_true rfl, Nat.le_of_ble_eq_true rfl⟩ (Nat.le_of_ble_eq_true rfl) dyX12_edited_26 (fun I_5 h => ?_)
  refine zr_aload_n C dyX12_edited_29 rfl 3 rfl ?_
  refine zv_12_363 C hS (st := []) h ⟨Nat.le_of_ble_eq_true rfl, Nat.le_of_ble_eq_true rfl⟩ (Nat.le_of_ble_eq_true rfl) dyX12_edited_30 (fun r_6 I_7 h => ?_)
  refine zr_istore C dyX12_edited_33 (Nat.le_of_ble_eq_true rfl) (lv2 := [(4, .int r_6), (3, .int r_3), (2, .int v2_2), (1, .int v1_1), (0, .ref (B + 491))]) rfl ?_
  refine zr_aload_n C dyX12_edited_35 rfl 4 rfl ?_
  refine zv_12_366 C hS (st := []) h ⟨Nat.le_of_ble_eq_true rfl, Nat.le_of_ble_eq_true rfl⟩ (Nat.le_of_ble_eq_true rfl) dyX12_edited_36 (fun r_8 I_9 h => ?_)
  refine zr_istore C dyX12_edited_39 (Nat.le_of_ble_eq_true rfl) (lv2 := [(5, .int r_8), (4, .int r_6), (3, .int r_3), (2, .int v2_2), (1, .int v1_1), (0, .ref (B + 491))]) rfl ?_
  refine zr_aload_n C dyX12_edited_41 rfl 5 rfl ?_
  refine zr_iload C dyX12_edited_42 0 rfl ?_
  refine zjn (h (fun (t_10 : Int32) => zX p l e (zrm 3 76) s m args below meth c (MQ below (zQc D B cA (zqI S K)) args s 0 0 (fun q => B ≤ q)) D B cA 9 0 0 S I_9 [(5, .int r_8), (4, .int r_6), (2, .int v2_2), (1, .int v1_1), (0, .ref (B + 491))] [.int t_10, .ref (B + 491)] 52) (fun t_10 h => ?_)) (fun h => ?_)
  · refine zp_12_182 C hS h.1 dyX12_edited_52 ?_
    replace h := h.2
    refine zn_mem C (fun I_11 eI_11 => ?_)
    replace h := h I_11 eI_11
    refine zr_aload_n C dyX12_edited_55 rfl 4 rfl ?_
    refine zg_12_150 C hS dyX12_edited_56 ?_
    refine zr_iconst C dyX12_edited_59 zc_i_0 ?_
    refine zr_aload_n C dyX12_edited_60 rfl 4 rfl ?_
    refine zg_12_325 C hS dyX12_edited_61 ?_
    refine zr_iast C (hS _ _ zs_538) h.1 dyX12_edited_64 ?_
    replace h := h.2
    refine zn_mem C (fun I_12 eI_12 => ?_)
    replace h := h I_12 eI_12
    refine zr_aload_n C dyX12_edited_65 rfl 4 rfl ?_
    refine zg_12_150 C hS dyX12_edited_66 ?_
    refine zr_iconst C dyX12_edited_69 zc_i_1 ?_
    refine zr_aload_n C dyX12_edited_70 rfl 4 rfl ?_
    refine zg_12_328 C hS dyX12_edited_71 ?_
    refine zr_iast C (hS _ _ zs_538) h.1 dyX12_edited_74 ?_
    replace h := h.2
    refine zn_mem C (fun I_13 eI_13 => ?_)
    replace h := h I_13 eI_13
    refine zr_aload_n C dyX12_edited_75 rfl 4 rfl ?_
    refine zg_12_150 C hS dyX12_edited_76 ?_
    refine zr_iconst C dyX12_edited_79 zc_i_2 ?_
    refine zr_aload_n C dyX12_edited_80 rfl 4 rfl ?_
    refine zg_12_344 C hS dyX12_edited_81 ?_
    refine zr_iast C (hS _ _ zs_538) h.1 dyX12_edited_84 ?_
    replace h := h.2
    refine zn_mem C (fun I_14 eI_14 => ?_)
    replace h := h I_14 eI_14
    refine zr_aload_n C dyX12_edited_85 rfl 4 rfl ?_
    refine zg_12_150 C hS dyX12_edited_86 ?_
    refine zr_iconst C dyX12_edited_89 zc_i_5 ?_
    refine zr_aload_n C dyX12_edited_90 rfl 4 rfl ?_
    refine zg_12_337 C hS dyX12_edited_91 ?_
    refine zr_iast C (hS _ _ zs_538) h.1 dyX12_edited_94 ?_
    replace h := h.2
    refine zn_mem C (fun I_15 eI_15 => ?_)
    replace h := h I_15 eI_15
    refine zr_aload_n C dyX12_edited_95 rfl 4 rfl ?_
    refine zg_12_150 C hS dyX12_edited_96 ?_
    refine zr_bipush C dyX12_edited_99 zc_b_6 ?_
    refine zr_iload C dyX12_edited_101 0 rfl ?_
    refine zjn (h (fun (t_16 : Int32) => zX p l e (zrm 3 76) s m args below meth c (MQ below (zQc D B cA (zqI S K)) args s 0 0 (fun q => B ≤ q)) D B cA 9 0 0 S I_15 [(4, .int r_6), (2, .int v2_2), (1, .int v1_1), (0, .ref (B + 491))] [.int t_16, .int 6, .ref (B + 538)] 113) (fun t_16 h => ?_)) (fun h => ?_)
    · refine zr_iast C (hS _ _ zs_538) h.1 dyX12_edited_113 ?_
      replace h := h.2
      refine zn_mem C (fun I_17 eI_17 => ?_)
      replace h := h I_17 eI_17
      refine zr_aload_n C dyX12_edited_114 rfl 3 rfl ?_
      refine zg_12_150 C hS dyX12_edited_115 ?_
      refine zr_bipush C dyX12_edited_118 zc_b_7 ?_
      refine zr_iload C dyX12_edited_120 0 rfl ?_
      refine zr_iast C (hS _ _ zs_538) h.1 dyX12_edited_122 ?_
      replace h := h.2
      refine zn_mem C (fun I_18 eI_18 => ?_)
      replace h := h I_18 eI_18
      refine zr_aload_n C dyX12_edited_123 rfl 3 rfl ?_
      refine zg_12_182 C hS dyX12_edited_124 ?_
      refine zjn (h (fun (I_19 : zI) => zX p l e (zrm 3 76) s m args below meth c (MQ below (zQc D B cA (zqI S K)) args s 0 0 (fun q => B ≤ q)) D B cA 9 0 0 S I_19 [(2, .int v2_2), (0, .ref (B + 491))] [] 346) (fun I_19 h => ?_)) (fun h => ?_)
      · refine zr_aload_n C dyX12_edited_346 rfl 1 rfl ?_
        refine zg_12_150 C hS dyX12_edited_347 ?_
        refine zr_bipush C dyX12_edited_350 zc_b_9 ?_
        refine zr_aload_n C dyX12_edited_352 rfl 1 rfl ?_
        refine zg_12_312 C hS dyX12_edited_353 ?_
        refine zr_iload_n C dyX12_edited_356 rfl 0 rfl ?_
        refine zr_isub C dyX12_edited_357 ?_
        refine zr_iast C (hS _ _ zs_538) h.1 dyX12_edited_358 ?_
        replace h := h.2
        refine zn_mem C (fun I_20 eI_20 => ?_)
        replace h := h I_20 eI_20
        refine zr_aload_n C dyX12_edited_359 rfl 1 rfl ?_
        refine zv_12_376 C hS (st := []) h ⟨Nat.le_of_ble_eq_true rfl, Nat.le_of_ble_eq_true rfl⟩ (Nat.le_of_ble_eq_true rfl) dyX12_edited_360 (fun I_21 h => ?_)
        refine zr_aload_n C dyX12_edited_363 rfl 1 rfl ?_
        refine zg_12_182 C hS dyX12_edited_364 ?_
        refine zr_if_eq C dyX12_edited_367 (tgt := 374) (by decide) (fun hc_22 => ?_) (fun hc_22 => ?_)
        · replace h := zif_pos hc_22 h
          refine zr_iconst C dyX12_edited_374 zc_i_1 ?_
          exact zr_iret C rfl dyX12_edited_375 ⟨rfl, _, rfl, h⟩
        · replace h := zif_neg hc_22 h
          refine zr_iconst C dyX12_edited_370 zc_i_0 ?_
          refine zr_goto C dyX12_edited_371 (tgt := 375) (by decide) ?_
          exact zr_iret C rfl dyX12_edited_375 ⟨rfl, _, rfl, h⟩
      refine zr_if_eq C dyX12_edited_127 (tgt := 315) (by decide) (fun hc_57 => ?_) (fun hc_57 => ?_)
      · replace h := zif_pos hc_57 h
        refine zr_aload_n C dyX12_edited_315 rfl 3 rfl ?_
        refine zr_iload_n C dyX12_edited_316 rfl 2 rfl ?_
        refine zp_12_247 C hS dyX12_edited_317 ?_
        refine zn_mem C (fun I_23 eI_23 => ?_)
        replace h := h I_23 eI_23
        refine zr_aload_n C dyX12_edited_320 rfl 3 rfl ?_
        refine zv_12_190 C hS (st := []) h ⟨Nat.le_of_ble_eq_true rfl, Nat.le_of_ble_eq_true rfl⟩ (Nat.le_of_ble_eq_true rfl) dyX12_edited_321 (fun I_24 h => ?_)
        refine zr_aload_n C dyX12_edited_324 rfl 3 rfl ?_
        refine zg_12_150 C hS dyX12_edited_325 ?_
        refine zr_iconst C dyX12_edited_328 zc_i_3 ?_
        refine zr_iconst C dyX12_edited_329 zc_i_0 ?_
        refine zr_iast C (hS _ _ zs_538) h.1 dyX12_edited_330 ?_
        replace h := h.2
        refine zn_mem C (fun I_25 eI_25 => ?_)
        replace h := h I_25 eI_25
        refine zr_aload_n C dyX12_edited_331 rfl 3 rfl ?_
        refine zg_12_150 C hS dyX12_edited_332 ?_
        refine zr_iconst C dyX12_edited_335 zc_i_4 ?_
        refine zr_iconst C dyX12_edited_336 zc_i_0 ?_
        refine zr_iast C (hS _ _ zs_538) h.1 dyX12_edited_337 ?_
        replace h := h.2
        refine zn_mem C (fun I_26 eI_26 => ?_)
        replace h := h I_26 eI_26
        refine zr_aload_n C dyX12_edited_338 rfl 3 rfl ?_
        refine zg_12_150 C hS dyX12_edited_339 ?_
        refine zr_bipush C dyX12_edited_342 zc_b_8 ?_
        refine zr_iconst C dyX12_edited_344 zc_i_0 ?_
        refine zr_iast C (hS _ _ zs_538) h.1 dyX12_edited_345 ?_
        replace h := h.2
        refine zn_mem C (fun I_27 eI_27 => ?_)
        replace h := h I_27 eI_27
        refine zr_sub (lv2 := [(2, .int v2_2), (0, .ref (B + 491))]) [1, 3] rfl ?_
        exact h
      · replace h := zif_neg hc_57 h
        refine zr_iconst C dyX12_edited_130 zc_i_0 ?_
        refine zr_istore C dyX12_edited_131 (Nat.le_of_ble_eq_true rfl) (lv2 := [(6, .int 0), (4, .int r_6), (2, .int v2_2), (1, .int v1_1), (0, .ref (B + 491))]) rfl ?_
        refine zjn (h (fun (v6_28 : Int32) (I_29 : zI) => zX p l e (zrm 3 76) s m args below meth c (MQ below (zQc D B cA (zqI S K)) args s 0 0 (fun q => B ≤ q)) D B cA 9 0 0 S I_29 [(6, .int v6_28), (2, .int v2_2), (1, .int v1_1), (0, .ref (B + 491))] [] 133) (fun v6_28 I_29 h => ?_)) (fun h => ?_)
        · refine zr_iload C dyX12_edited_133 0 rfl ?_
          refine zr_aload_n C dyX12_edited_135 rfl 3 rfl ?_
          refine zg_12_212 C hS dyX12_edited_136 ?_
          refine zr_icmp_ge C dyX12_edited_139 (tgt := 162) (by decide) (fun hc_56 => ?_) (fun hc_56 => ?_)
          · replace h := zif_pos hc_56 h
            refine zr_aload_n C dyX12_edited_162 rfl 3 rfl ?_
            refine zr_aload_n C dyX12_edited_163 rfl 3 rfl ?_
            refine zg_12_156 C hS dyX12_edited_164 ?_
            refine zr_aload_n C dyX12_edited_167 rfl 3 rfl ?_
            refine zg_12_334 C hS dyX12_edited_168 ?_
            refine zr_iconst C dyX12_edited_171 zc_i_1 ?_
            refine zr_isub C dyX12_edited_172 ?_
            refine zr_iald C (hS _ _ zs_540) h.1 dyX12_edited_173 ?_
            replace h := h.2
            refine zp_12_178 C hS dyX12_edited_174 ?_
            refine zn_mem C (fun I_30 eI_30 => ?_)
            replace h := h I_30 eI_30
            refine zr_iconst C dyX12_edited_177 zc_i_0 ?_
            refine zr_istore C dyX12_edited_178 (Nat.le_of_ble_eq_true rfl) (lv2 := [(6, .int 0), (2, .int v2_2), (1, .int v1_1), (0, .ref (B + 491))]) rfl ?_
            refine zjn (h (fun (v6_31 : Int32) (I_32 : zI) => zX p l e (zrm 3 76) s m args below meth c (MQ below (zQc D B cA (zqI S K)) args s 0 0 (fun q => B ≤ q)) D B cA 9 0 0 S I_32 [(6, .int v6_31), (2, .int v2_2), (1, .int v1_1), (0, .ref (B + 491))] [] 180) (fun v6_31 I_32 h => ?_)) (fun h => ?_)
            · refine zr_iload C dyX12_edited_180 0 rfl ?_
              refine zr_aload_n C dyX12_edited_182 rfl 3 rfl ?_
              refine zg_12_280 C hS dyX12_edited_183 ?_
              refine zr_icmp_ge C dyX12_edited_186 (tgt := 209) (by decide) (fun hc_53 => ?_) (fun hc_53 => ?_)
              · replace h := zif_pos hc_53 h
                refine zr_aload_n C dyX12_edited_209 rfl 3 rfl ?_
                refine zg_12_280 C hS dyX12_edited_210 ?_
                refine zn_istore C (fun v6_33 => [(6, .int v6_33), (2, .int v2_2), (1, .int v1_1), (0, .ref (B + 491))]) dyX12_edited_213 (Nat.le_of_ble_eq_true rfl) (fun _ => rfl) (fun v6_33 ev6_33 => ?_)
                replace h := h v6_33 ev6_33
                refine zr_aload_n C dyX12_edited_215 rfl 3 rfl ?_
                refine zv_12_190 C hS (st := []) h ⟨Nat.le_of_ble_eq_true rfl, Nat.le_of_ble_eq_true rfl⟩ (Nat.le_of_ble_eq_true rfl) dyX12_edited_216 (fun I_34 h => ?_)
                refine zr_aload_n C dyX12_edited_219 rfl 3 rfl ?_
                refine zv_12_193 C hS (st := []) h ⟨Nat.le_of_ble_eq_true rfl, Nat.le_of_ble_eq_true rfl⟩ (Nat.le_of_ble_eq_true rfl) dyX12_edited_220 (fun I_35 h => ?_)
                refine zr_iconst C dyX12_edited_223 zc_i_0 ?_
                refine zr_istore C dyX12_edited_224 (Nat.le_of_ble_eq_true rfl) (lv2 := [(7, .int 0), (6, .int v6_33), (2, .int v2_2), (1, .int v1_1), (0, .ref (B + 491))]) rfl ?_
                refine zr_iconst C dyX12_edited_226 zc_i_0 ?_
                refine zr_istore C dyX12_edited_227 (Nat.le_of_ble_eq_true rfl) (lv2 := [(8, .int 0), (7, .int 0), (6, .int v6_33), (2, .int v2_2), (1, .int v1_1), (0, .ref (B + 491))]) rfl ?_
                refine zjn (h (fun (v7_36 : Int32) (v8_37 : Int32) => zX p l e (zrm 3 76) s m args below meth c (MQ below (zQc D B cA (zqI S K)) args s 0 0 (fun q => B ≤ q)) D B cA 9 0 0 S I_35 [(8, .int v8_37), (7, .int v7_36), (6, .int v6_33), (2, .int v2_2), (1, .int v1_1), (0, .ref (B + 491))] [] 229) (fun v7_36 v8_37 h => ?_)) (fun h => ?_)
                · refine zr_iload C dyX12_edited_229 0 rfl ?_
                  refine zr_iload C dyX12_edited_231 2 rfl ?_
                  refine zr_icmp_ge C dyX12_edited_233 (tgt := 275) (by decide) (fun hc_50 => ?_) (fun hc_50 => ?_)
                  · replace h := zif_pos hc_50 h
                    refine zr_aload_n C dyX12_edited_275 rfl 5 rfl ?_
                    refine zv_12_369 C hS (st := []) h ⟨Nat.le_of_ble_eq_true rfl, Nat.le_of_ble_eq_true rfl⟩ (Nat.le_of_ble_eq_true rfl) dyX12_edited_276 (fun r_38 I_39 h => ?_)
                    refine zr_pop C dyX12_edited_279 rfl ?_
                    refine zr_aload_n C dyX12_edited_280 rfl 5 rfl ?_
                    refine zg_12_150 C hS dyX12_edited_281 ?_
                    refine zr_iconst C dyX12_edited_284 zc_i_3 ?_
                    refine zr_aload_n C dyX12_edited_285 rfl 5 rfl ?_
                    refine zg_12_247 C hS dyX12_edited_286 ?_
                    refine zr_iload_n C dyX12_edited_289 rfl 4 rfl ?_
                    refine zr_isub C dyX12_edited_290 ?_
                    refine zr_iast C (hS _ _ zs_538) h.1 dyX12_edited_291 ?_
                    replace h := h.2
                    refine zn_mem C (fun I_40 eI_40 => ?_)
                    replace h := h I_40 eI_40
                    refine zr_aload_n C dyX12_edited_292 rfl 5 rfl ?_
                    refine zg_12_150 C hS dyX12_edited_293 ?_
                    refine zr_iconst C dyX12_edited_296 zc_i_4 ?_
                    refine zr_iload C dyX12_edited_297 1 rfl ?_
                    refine zr_iast C (hS _ _ zs_538) h.1 dyX12_edited_299 ?_
                    replace h := h.2
                    refine zn_mem C (fun I_41 eI_41 => ?_)
                    replace h := h I_41 eI_41
                    refine zr_aload_n C dyX12_edited_300 rfl 5 rfl ?_
                    refine zg_12_150 C hS dyX12_edited_301 ?_
                    refine zr_bipush C dyX12_edited_304 zc_b_8 ?_
                    refine zr_aload_n C dyX12_edited_306 rfl 5 rfl ?_
                    refine zr_iconst C dyX12_edited_307 zc_i_1 ?_
                    refine zv_12_372 C hS (st := [.int 8, .ref (B + 538)]) h ⟨Nat.le_of_ble_eq_true rfl, Nat.le_of_ble_eq_true rfl⟩ (Nat.le_of_ble_eq_true rfl) dyX12_edited_308 (fun r_42 I_43 h => ?_)
                    refine zr_iast C (hS _ _ zs_538) h.1 dyX12_edited_311 ?_
                    replace h := h.2
                    refine zn_mem C (fun I_44 eI_44 => ?_)
                    replace h := h I_44 eI_44
                    refine zr_goto C dyX12_edited_312 (tgt := 346) (by decide) ?_
                    refine zr_sub (lv2 := [(2, .int v2_2), (0, .ref (B + 491))]) [3, 5] rfl ?_
                    exact h
                  · replace h := zif_neg hc_50 h
                    refine zr_aload_n C dyX12_edited_236 rfl 5 rfl ?_
                    refine zg_12_62 C hS dyX12_edited_237 ?_
                    refine zr_aload_n C dyX12_edited_240 rfl 5 rfl ?_
                    refine zg_12_159 C hS dyX12_edited_241 ?_
                    refine zr_iload C dyX12_edited_244 0 rfl ?_
                    refine zr_iald C (hS _ _ zs_541) h.1 dyX12_edited_246 ?_
                    replace h := h.2
                    refine zr_iald C (hS _ _ zs_509) h.1 dyX12_edited_247 ?_
                    replace h := h.2
                    refine zjn (h (fun (v7_45 : Int32) => zX p l e (zrm 3 76) s m args below meth c (MQ below (zQc D B cA (zqI S K)) args s 0 0 (fun q => B ≤ q)) D B cA 9 0 0 S I_35 [(8, .int v8_37), (7, .int v7_45), (6, .int v6_33), (2, .int v2_2), (1, .int v1_1), (0, .ref (B + 491))] [] 269) (fun v7_45 h => ?_)) (fun h => ?_)
                    · refine zn_iinc C (fun v8_46 => [(8, .int v8_46), (7, .int v7_45), (6, .int v6_33), (2, .int v2_2), (1, .int v1_1), (0, .ref (B + 491))]) dyX12_edited_269 0 rfl zc_i_1 (Nat.le_of_ble_eq_true rfl) (fun _ => rfl) (fun v8_46 ev8_46 => ?_)
                      replace h := h v8_46 ev8_46
                      refine zr_goto C dyX12_edited_272 (tgt := 229) (by decide) ?_
                      exact h
                    refine zr_if_lt C dyX12_edited_248 (tgt := 269) (by decide) (fun hc_49 => ?_) (fun hc_49 => ?_)
                    · replace h := zif_pos hc_49 h
                      exact h
                    · replace h := zif_neg hc_49 h
                      refine zr_aload_n C dyX12_edited_251 rfl 5 rfl ?_
                      refine zg_12_105 C hS dyX12_edited_252 ?_
                      refine zr_aload_n C dyX12_edited_255 rfl 5 rfl ?_
                      refine zg_12_159 C hS dyX12_edited_256 ?_
                      refine zr_iload C dyX12_edited_259 0 rfl ?_
                      refine zr_iald C (hS _ _ zs_541) h.1 dyX12_edited_261 ?_
                      replace h := h.2
                      refine zr_iald C (hS _ _ zs_523) h.1 dyX12_edited_262 ?_
                      replace h := h.2
                      refine zr_if_ge C dyX12_edited_263 (tgt := 269) (by decide) (fun hc_48 => ?_) (fun hc_48 => ?_)
                      · replace h := zif_pos hc_48 h
                        exact h
                      · replace h := zif_neg hc_48 h
                        refine zn_iinc C (fun v7_47 => [(7, .int v7_47), (8, .int v8_37), (6, .int v6_33), (2, .int v2_2), (1, .int v1_1), (0, .ref (B + 491))]) dyX12_edited_266 1 rfl zc_i_1 (Nat.le_of_ble_eq_true rfl) (fun _ => rfl) (fun v7_47 ev7_47 => ?_)
                        replace h := h v7_47 ev7_47
                        refine zr_sub (lv2 := [(8, .int v8_37), (7, .int v7_47), (6, .int v6_33), (2, .int v2_2), (1, .int v1_1), (0, .ref (B + 491))]) [1, 0, 2, 3, 4, 5] rfl ?_
                        exact h
                exact h
              · replace h := zif_neg hc_53 h
                refine zr_aload_n C dyX12_edited_189 rfl 3 rfl ?_
                refine zg_12_159 C hS dyX12_edited_190 ?_
                refine zr_iload C dyX12_edited_193 0 rfl ?_
                refine zr_aload_n C dyX12_edited_195 rfl 3 rfl ?_
                refine zg_12_99 C hS dyX12_edited_196 ?_
                refine zr_iload C dyX12_edited_199 0 rfl ?_
                refine zr_iald C (hS _ _ zs_521) h.1 dyX12_edited_201 ?_
                replace h := h.2
                refine zr_iast C (hS _ _ zs_541) h.1 dyX12_edited_202 ?_
                replace h := h.2
                refine zn_mem C (fun I_51 eI_51 => ?_)
                replace h := h I_51 eI_51
                refine zn_iinc C (fun v6_52 => [(6, .int v6_52), (2, .int v2_2), (1, .int v1_1), (0, .ref (B + 491))]) dyX12_edited_203 0 rfl zc_i_1 (Nat.le_of_ble_eq_true rfl) (fun _ => rfl) (fun v6_52 ev6_52 => ?_)
                replace h := h v6_52 ev6_52
                refine zr_goto C dyX12_edited_206 (tgt := 180) (by decide) ?_
                exact h
            exact h
          · replace h := zif_neg hc_56 h
            refine zr_aload_n C dyX12_edited_142 rfl 3 rfl ?_
            refine zg_12_59 C hS dyX12_edited_143 ?_
            refine zr_iload C dyX12_edited_146 0 rfl ?_
            refine zr_aload_n C dyX12_edited_148 rfl 3 rfl ?_
            refine zg_12_35 C hS dyX12_edited_149 ?_
            refine zr_iload C dyX12_edited_152 0 rfl ?_
            refine zr_iald C (hS _ _ zs_500) h.1 dyX12_edited_154 ?_
            replace h := h.2
            refine zr_iast C (hS _ _ zs_508) h.1 dyX12_edited_155 ?_
            replace h := h.2
            refine zn_mem C (fun I_54 eI_54 => ?_)
            replace h := h I_54 eI_54
            refine zn_iinc C (fun v6_55 => [(6, .int v6_55), (2, .int v2_2), (1, .int v1_1), (0, .ref (B + 491))]) dyX12_edited_156 0 rfl zc_i_1 (Nat.le_of_ble_eq_true rfl) (fun _ => rfl) (fun v6_55 ev6_55 => ?_)
            replace h := h v6_55 ev6_55
            refine zr_goto C dyX12_edited_159 (tgt := 133) (by decide) ?_
            exact h
        refine zr_sub (lv2 := [(6, .int 0), (2, .int v2_2), (1, .int v1_1), (0, .ref (B + 491))]) [0, 2, 3, 4] rfl ?_
        exact h
    refine zr_if_ge C dyX12_edited_103 (tgt := 111) (by decide) (fun hc_58 => ?_) (fun hc_58 => ?_)
    · replace h := zif_pos hc_58 h
      refine zr_iload C dyX12_edited_111 0 rfl ?_
      refine zr_sub (lv2 := [(4, .int r_6), (2, .int v2_2), (1, .int v1_1), (0, .ref (B + 491))]) [1, 2, 3, 4] rfl ?_
      exact h
    · replace h := zif_neg hc_58 h
      refine zr_bipush C dyX12_edited_106 zc_b_m2 ?_
      refine zr_goto C dyX12_edited_108 (tgt := 113) (by decide) ?_
      refine zr_sub (lv2 := [(4, .int r_6), (2, .int v2_2), (1, .int v1_1), (0, .ref (B + 491))]) [1, 2, 3, 4] rfl ?_
      exact h
  refine zr_if_ge C dyX12_edited_44 (tgt := 51) (by decide) (fun hc_59 => ?_) (fun hc_59 => ?_)
  · replace h := zif_pos hc_59 h
    refine zr_iconst C dyX12_edited_51 zc_i_0 ?_
    refine zr_sub (lv2 := [(5, .int r_8), (4, .int r_6), (2, .int v2_2), (1, .int v1_1), (0, .ref (B + 491))]) [0, 1, 3, 4, 5] rfl ?_
    exact h
  · replace h := zif_neg hc_59 h
    refine zr_iconst C dyX12_edited_47 zc_i_1 ?_
    refine zr_goto C dyX12_edited_48 (tgt := 52) (by decide) ?_
    refine zr_sub (lv2 := [(5, .int r_8), (4, .int r_6), (2, .int v2_2), (1, .int v1_1), (0, .ref (B + 491))]) [0, 1, 3, 4, 5] rfl ?_
    exact h
def w_M_goesTo (a1 : Int32) (I : zI) (K : zI → Prop) : Prop :=
  ∀ v2_1, v2_1 = (720 * a1) → ∀ I_2, I_2 = (zu I 491 75 a1) → ∀ (P13 : Int32 → zI → Prop), (∀ (v3_3 : Int32) (I_4 : zI), ((if 300 ≤ v3_3 then (∀ I_5, I_5 = (zu I_4 491 8 1) → vp_in (v2_1 + 711) 15120 ∧ (w_M_cutsUp (I_5.1 542 (Int32.toNatClampNeg (v2_1 + 711))) I_5 (fun I_6 => w_M_keepsTokens I_6 (fun I_7 => ∀ (P69 : Int32 → zI → Prop), (∀ (v3_8 : Int32) (I_9 : zI), ((if 110 ≤ v3_8 then (vp_in (v2_1 + 713) 15120 ∧ (∀ I_10, I_10 = (zu I_9 491 37 (I_9.1 542 (Int32.toNatClampNeg (v2_1 + 713)))) → w_M_fillsTree I_10 (fun I_11 => vp_in (v2_1 + 712) 15120 ∧ (∀ (P137 : Int32 → Prop), (∀ (t_12 : Int32), (zb t_12 ∧ (∀ I_13, I_13 = (zu I_11 491 8 t_12) → (if (I_13.1 491 8) = 0 then (∀ (P150 : Int32 → zI → Prop), (∀ (v3_14 : Int32) (I_15 : zI), ((if 300 ≤ v3_14 then (vp_in (v2_1 + 710) 15120 ∧ (w_M_cutsUp (I_15.1 542 (Int32.toNatClampNeg (v2_1 + 710))) I_15 (fun I_16 => w_M_keepsTokens I_16 (fun I_17 => K I_17)))) else (vp_in (v2_1 + v3_14) 15120 ∧ (vp_in v3_14 700 ∧ (∀ I_18, I_18 = (zu I_15 493 (Int32.toNatClampNeg v3_14) (I_15.1 542 (Int32.toNatClampNeg (v2_1 + v3_14)))) → ∀ v3_19, v3_19 = (v3_14 + 1) → P150 v3_19 I_18))))) → P150 v3_14 I_15) → P150 0 I_13) else K I_13))) → P137 t_12) → (if (I_11.1 542 (Int32.toNatClampNeg (v2_1 + 712))) = 1 then P137 1 else P137 0))))) else (vp_in ((v2_1 + 600) + v3_8) 15120 ∧ (vp_in v3_8 110 ∧ (∀ I_23, I_23 = (zu I_9 508 (Int32.toNatClampNeg v3_8) (I_9.1 542 (Int32.toNatClampNeg ((v2_1 + 600) + v3_8)))) → ∀ v3_24, v3_24 = (v3_8 + 1) → P69 v3_24 I_23))))) → P69 v3_8 I_9) → P69 0 I_7)))) else (vp_in ((v2_1 + 300) + v3_3) 15120 ∧ (vp_in v3_3 700 ∧ (∀ I_26, I_26 = (zu I_4 493 (Int32.toNatClampNeg v3_3) (I_4.1 542 (Int32.toNatClampNeg ((v2_1 + 300) + v3_3)))) → ∀ v3_27, v3_27 = (v3_3 + 1) → P13 v3_27 I_26))))) → P13 v3_3 I_4) → P13 0 I_2
theorem dyX12_goesTo_0 : decode cX12_goesTo 0 = .ok (.sipush 720, 3) := by decide +kernel
theorem dyX12_goesTo_3 : decode cX12_goesTo 3 = .ok (.iload_n 1, 1) := by decide +kernel
theorem dyX12_goesTo_4 : decode cX12_goesTo 4 = .ok (.imul, 1) := by decide +kernel
theorem dyX12_goesTo_5 : decode cX12_goesTo 5 = .ok (.istore_n 2, 1) := by decide +kernel
theorem dyX12_goesTo_6 : decode cX12_goesTo 6 = .ok (.aload_n 0, 1) := by decide +kernel
theorem dyX12_goesTo_7 : decode cX12_goesTo 7 = .ok (.iload_n 1, 1) := by decide +kernel
theorem dyX12_goesTo_8 : decode cX12_goesTo 8 = .ok (.putfield 379, 3) := by decide +kernel
theorem dyX12_goesTo_11 : decode cX12_goesTo 11 = .ok (.iconst 0, 1) := by decide +kernel
theorem dyX12_goesTo_12 : decode cX12_goesTo 12 = .ok (.istore_n 3, 1) := by decide +kernel
theorem dyX12_goesTo_13 : decode cX12_goesTo 13 = .ok (.iload_n 3, 1) := by decide +kernel
theorem dyX12_goesTo_14 : decode cX12_goesTo 14 = .ok (.sipush 300, 3) := by decide +kernel
theorem dyX12_goesTo_17 : decode cX12_goesTo 17 = .ok (.if_icmp .ge 27, 3) := by decide +kernel
theorem dyX12_goesTo_20 : decode cX12_goesTo 20 = .ok (.aload_n 0, 1) := by decide +kernel
theorem dyX12_goesTo_21 : decode cX12_goesTo 21 = .ok (.getfield 13, 3) := by decide +kernel
theorem dyX12_goesTo_24 : decode cX12_goesTo 24 = .ok (.iload_n 3, 1) := by decide +kernel
theorem dyX12_goesTo_25 : decode cX12_goesTo 25 = .ok (.aload_n 0, 1) := by decide +kernel
theorem dyX12_goesTo_26 : decode cX12_goesTo 26 = .ok (.getfield 162, 3) := by decide +kernel
theorem dyX12_goesTo_29 : decode cX12_goesTo 29 = .ok (.iload_n 2, 1) := by decide +kernel
theorem dyX12_goesTo_30 : decode cX12_goesTo 30 = .ok (.sipush 300, 3) := by decide +kernel
theorem dyX12_goesTo_33 : decode cX12_goesTo 33 = .ok (.iadd, 1) := by decide +kernel
theorem dyX12_goesTo_34 : decode cX12_goesTo 34 = .ok (.iload_n 3, 1) := by decide +kernel
theorem dyX12_goesTo_35 : decode cX12_goesTo 35 = .ok (.iadd, 1) := by decide +kernel
theorem dyX12_goesTo_36 : decode cX12_goesTo 36 = .ok (.iaload, 1) := by decide +kernel
theorem dyX12_goesTo_37 : decode cX12_goesTo 37 = .ok (.iastore, 1) := by decide +kernel
theorem dyX12_goesTo_38 : decode cX12_goesTo 38 = .ok (.iinc 3 1, 3) := by decide +kernel
theorem dyX12_goesTo_41 : decode cX12_goesTo 41 = .ok (.goto (-28), 3) := by decide +kernel
theorem dyX12_goesTo_44 : decode cX12_goesTo 44 = .ok (.aload_n 0, 1) := by decide +kernel
theorem dyX12_goesTo_45 : decode cX12_goesTo 45 = .ok (.iconst 1, 1) := by decide +kernel
theorem dyX12_goesTo_46 : decode cX12_goesTo 46 = .ok (.putfield 182, 3) := by decide +kernel
theorem dyX12_goesTo_49 : decode cX12_goesTo 49 = .ok (.aload_n 0, 1) := by decide +kernel
theorem dyX12_goesTo_50 : decode cX12_goesTo 50 = .ok (.aload_n 0, 1) := by decide +kernel
theorem dyX12_goesTo_51 : decode cX12_goesTo 51 = .ok (.getfield 162, 3) := by decide +kernel
theorem dyX12_goesTo_54 : decode cX12_goesTo 54 = .ok (.iload_n 2, 1) := by decide +kernel
theorem dyX12_goesTo_55 : decode cX12_goesTo 55 = .ok (.sipush 711, 3) := by decide +kernel
theorem dyX12_goesTo_58 : decode cX12_goesTo 58 = .ok (.iadd, 1) := by decide +kernel
theorem dyX12_goesTo_59 : decode cX12_goesTo 59 = .ok (.iaload, 1) := by decide +kernel
theorem dyX12_goesTo_60 : decode cX12_goesTo 60 = .ok (.invokevirtual 186, 3) := by decide +kernel
theorem dyX12_goesTo_63 : decode cX12_goesTo 63 = .ok (.aload_n 0, 1) := by decide +kernel
theorem dyX12_goesTo_64 : decode cX12_goesTo 64 = .ok (.invokevirtual 190, 3) := by decide +kernel
theorem dyX12_goesTo_67 : decode cX12_goesTo 67 = .ok (.iconst 0, 1) := by decide +kernel
theorem dyX12_goesTo_68 : decode cX12_goesTo 68 = .ok (.istore_n 3, 1) := by decide +kernel
theorem dyX12_goesTo_69 : decode cX12_goesTo 69 = .ok (.iload_n 3, 1) := by decide +kernel
theorem dyX12_goesTo_70 : decode cX12_goesTo 70 = .ok (.bipush 110, 2) := by decide +kernel
theorem dyX12_goesTo_72 : decode cX12_goesTo 72 = .ok (.if_icmp .ge 27, 3) := by decide +kernel
theorem dyX12_goesTo_75 : decode cX12_goesTo 75 = .ok (.aload_n 0, 1) := by decide +kernel
theorem dyX12_goesTo_76 : decode cX12_goesTo 76 = .ok (.getfield 59, 3) := by decide +kernel
theorem dyX12_goesTo_79 : decode cX12_goesTo 79 = .ok (.iload_n 3, 1) := by decide +kernel
theorem dyX12_goesTo_80 : decode cX12_goesTo 80 = .ok (.aload_n 0, 1) := by decide +kernel
theorem dyX12_goesTo_81 : decode cX12_goesTo 81 = .ok (.getfield 162, 3) := by decide +kernel
theorem dyX12_goesTo_84 : decode cX12_goesTo 84 = .ok (.iload_n 2, 1) := by decide +kernel
theorem dyX12_goesTo_85 : decode cX12_goesTo 85 = .ok (.sipush 600, 3) := by decide +kernel
theorem dyX12_goesTo_88 : decode cX12_goesTo 88 = .ok (.iadd, 1) := by decide +kernel
theorem dyX12_goesTo_89 : decode cX12_goesTo 89 = .ok (.iload_n 3, 1) := by decide +kernel
theorem dyX12_goesTo_90 : decode cX12_goesTo 90 = .ok (.iadd, 1) := by decide +kernel
theorem dyX12_goesTo_91 : decode cX12_goesTo 91 = .ok (.iaload, 1) := by decide +kernel
theorem dyX12_goesTo_92 : decode cX12_goesTo 92 = .ok (.iastore, 1) := by decide +kernel
theorem dyX12_goesTo_93 : decode cX12_goesTo 93 = .ok (.iinc 3 1, 3) := by decide +kernel
theorem dyX12_goesTo_96 : decode cX12_goesTo 96 = .ok (.goto (-27), 3) := by decide +kernel
theorem dyX12_goesTo_99 : decode cX12_goesTo 99 = .ok (.aload_n 0, 1) := by decide +kernel
theorem dyX12_goesTo_100 : decode cX12_goesTo 100 = .ok (.aload_n 0, 1) := by decide +kernel
theorem dyX12_goesTo_101 : decode cX12_goesTo 101 = .ok (.getfield 162, 3) := by decide +kernel
theorem dyX12_goesTo_104 : decode cX12_goesTo 104 = .ok (.iload_n 2, 1) := by decide +kernel
theorem dyX12_goesTo_105 : decode cX12_goesTo 105 = .ok (.sipush 713, 3) := by decide +kernel
theorem dyX12_goesTo_108 : decode cX12_goesTo 108 = .ok (.iadd, 1) := by decide +kernel
theorem dyX12_goesTo_109 : decode cX12_goesTo 109 = .ok (.iaload, 1) := by decide +kernel
theorem dyX12_goesTo_110 : decode cX12_goesTo 110 = .ok (.putfield 178, 3) := by decide +kernel
theorem dyX12_goesTo_113 : decode cX12_goesTo 113 = .ok (.aload_n 0, 1) := by decide +kernel
theorem dyX12_goesTo_114 : decode cX12_goesTo 114 = .ok (.invokevirtual 193, 3) := by decide +kernel
theorem dyX12_goesTo_117 : decode cX12_goesTo 117 = .ok (.aload_n 0, 1) := by decide +kernel
theorem dyX12_goesTo_118 : decode cX12_goesTo 118 = .ok (.aload_n 0, 1) := by decide +kernel
theorem dyX12_goesTo_119 : decode cX12_goesTo 119 = .ok (.getfield 162, 3) := by decide +kernel
theorem dyX12_goesTo_122 : decode cX12_goesTo 122 = .ok (.iload_n 2, 1) := by decide +kernel
theorem dyX12_goesTo_123 : decode cX12_goesTo 123 = .ok (.sipush 712, 3) := by decide +kernel
theorem dyX12_goesTo_126 : decode cX12_goesTo 126 = .ok (.iadd, 1) := by decide +kernel
theorem dyX12_goesTo_127 : decode cX12_goesTo 127 = .ok (.iaload, 1) := by decide +kernel
theorem dyX12_goesTo_128 : decode cX12_goesTo 128 = .ok (.iconst 1, 1) := by decide +kernel
theorem dyX12_goesTo_129 : decode cX12_goesTo 129 = .ok (.if_icmp .ne 7, 3) := by decide +kernel
theorem dyX12_goesTo_132 : decode cX12_goesTo 132 = .ok (.iconst 1, 1) := by decide +kernel
theorem dyX12_goesTo_133 : decode cX12_goesTo 133 = .ok (.goto 4, 3) := by decide +kernel
theorem dyX12_goesTo_136 : decode cX12_goesTo 136 = .ok (.iconst 0, 1) := by decide +kernel
theorem dyX12_goesTo_137 : decode cX12_goesTo 137 = .ok (.putfield 182, 3) := by decide +kernel
theorem dyX12_goesTo_140 : decode cX12_goesTo 140 = .ok (.aload_n 0, 1) := by decide +kernel
theorem dyX12_goesTo_141 : decode cX12_goesTo 141 = .ok (.getfield 182, 3) := by decide +kernel
theorem dyX12_goesTo_144 : decode cX12_goesTo 144 = .ok (.ifCond .eq 4, 3) := by decide +kernel
theorem dyX12_goesTo_147 : decode cX12_goesTo 147 = .ok (.return_, 1) := by decide +kernel
theorem dyX12_goesTo_148 : decode cX12_goesTo 148 = .ok (.iconst 0, 1) := by decide +kernel
theorem dyX12_goesTo_149 : decode cX12_goesTo 149 = .ok (.istore_n 3, 1) := by decide +kernel
theorem dyX12_goesTo_150 : decode cX12_goesTo 150 = .ok (.iload_n 3, 1) := by decide +kernel
theorem dyX12_goesTo_151 : decode cX12_goesTo 151 = .ok (.sipush 300, 3) := by decide +kernel
theorem dyX12_goesTo_154 : decode cX12_goesTo 154 = .ok (.if_icmp .ge 23, 3) := by decide +kernel
theorem dyX12_goesTo_157 : decode cX12_goesTo 157 = .ok (.aload_n 0, 1) := by decide +kernel
theorem dyX12_goesTo_158 : decode cX12_goesTo 158 = .ok (.getfield 13, 3) := by decide +kernel
theorem dyX12_goesTo_161 : decode cX12_goesTo 161 = .ok (.iload_n 3, 1) := by decide +kernel
theorem dyX12_goesTo_162 : decode cX12_goesTo 162 = .ok (.aload_n 0, 1) := by decide +kernel
theorem dyX12_goesTo_163 : decode cX12_goesTo 163 = .ok (.getfield 162, 3) := by decide +kernel
theorem dyX12_goesTo_166 : decode cX12_goesTo 166 = .ok (.iload_n 2, 1) := by decide +kernel
theorem dyX12_goesTo_167 : decode cX12_goesTo 167 = .ok (.iload_n 3, 1) := by decide +kernel
theorem dyX12_goesTo_168 : decode cX12_goesTo 168 = .ok (.iadd, 1) := by decide +kernel
theorem dyX12_goesTo_169 : decode cX12_goesTo 169 = .ok (.iaload, 1) := by decide +kernel
theorem dyX12_goesTo_170 : decode cX12_goesTo 170 = .ok (.iastore, 1) := by decide +kernel
theorem dyX12_goesTo_171 : decode cX12_goesTo 171 = .ok (.iinc 3 1, 3) := by decide +kernel
theorem dyX12_goesTo_174 : decode cX12_goesTo 174 = .ok (.goto (-24), 3) := by decide +kernel
theorem dyX12_goesTo_177 : decode cX12_goesTo 177 = .ok (.aload_n 0, 1) := by decide +kernel
theorem dyX12_goesTo_178 : decode cX12_goesTo 178 = .ok (.aload_n 0, 1) := by decide +kernel
theorem dyX12_goesTo_179 : decode cX12_goesTo 179 = .ok (.getfield 162, 3) := by decide +kernel
theorem dyX12_goesTo_182 : decode cX12_goesTo 182 = .ok (.iload_n 2, 1) := by decide +kernel
theorem dyX12_goesTo_183 : decode cX12_goesTo 183 = .ok (.sipush 710, 3) := by decide +kernel
theorem dyX12_goesTo_186 : decode cX12_goesTo 186 = .ok (.iadd, 1) := by decide +kernel
theorem dyX12_goesTo_187 : decode cX12_goesTo 187 = .ok (.iaload, 1) := by decide +kernel
theorem dyX12_goesTo_188 : decode cX12_goesTo 188 = .ok (.invokevirtual 186, 3) := by decide +kernel
theorem dyX12_goesTo_191 : decode cX12_goesTo 191 = .ok (.aload_n 0, 1) := by decide +kernel
theorem dyX12_goesTo_192 : decode cX12_goesTo 192 = .ok (.invokevirtual 190, 3) := by decide +kernel
theorem dyX12_goesTo_195 : decode cX12_goesTo 195 = .ok (.return_, 1) := by decide +kernel
theorem zsg_yX12_goesTo : yX12_goesTo.cls = RX12 ∧ yX12_goesTo.cls ≠ "java/lang/invoke/MethodHandle" ∧ yX12_goesTo.cls ≠ "java/lang/invoke/VarHandle" ∧ (parseMethodDescriptor yX12_goesTo.desc).map (fun d => d.parameters.length) = some 1 := by decide +kernel
set_option maxRecDepth 20000 in
theorem c_M_goesTo {l : Launch} {D : va_G} {B : Nat} {cA : Nat → ClassId} {ad : Nat → Nat} {S : List zC} (hS : zOkM S) {a1 : Int32} {I : zI} {K : zI → Prop}  (h : w_M_goesTo a1 I K) : Met l yX12_goesTo (zws yX12_goesTo cX12_goesTo 4 none) (zrm 3 71) (zPc D B cA ad [.ref (B + 491), .int a1] S I) (zQc D B cA (zqV S K)) 0 0 (fun q => B ≤ q) := by
  refine zm_of (cc := cX12_goesTo) (maxL := 4) (ret := none) (by decide +kernel) rfl (Nat.le_of_ble_eq_true rfl) trivial ?_
  intro p e s m args below meth c C _
  unfold w_M_goesTo at h
  show zX p l e (zrm 3 71) s m args below meth c (MQ below (zQc D B cA (zqV S K)) args s 0 0 (fun q => B ≤ q)) D B cA 4 0 0 S I [(0, .ref (B + 491)), (1, .int a1)] [] 0
  refine zr_sipush C dyX12_goesTo_0 zc_s_720 ?_
  refine zr_iload_n C dyX12_goesTo_3 rfl 1 rfl ?_
  refine zr_imul C dyX12_goesTo_4 ?_
  refine zn_istore_n C (fun v2_1 => [(2, .int v2_1), (0, .ref (B + 491)), (1, .int a1)]) dyX12_goesTo_5 rfl (Nat.le_of_ble_eq_true rfl) (fun _ => rfl) (fun v2_1 ev2_1 => ?_)
  replace h := h v2_1 ev2_1
  refine zr_aload_n C dyX12_goesTo_6 rfl 1 rfl ?_
  refine zr_iload_n C dyX12_goesTo_7 rfl 2 rfl ?_
  refine zp_12_379 C hS dyX12_goesTo_8 ?_
  refine zn_mem C (fun I_2 eI_2 => ?_)
  replace h := h I_2 eI_2
  refine zr_iconst C dyX12_goesTo_11 zc_i_0 ?_
  refine zr_istore_n C dyX12_goesTo_12 rfl (Nat.le_of_ble_eq_true rfl) (lv2 := [(3, .int 0), (2, .int v2_1), (0, .ref (B + 491)), (1, .int a1)]) rfl ?_
  refine zjn (h (fun (v3_3 : Int32) (I_4 : zI) => zX p l e (zrm 3 71) s m args below meth c (MQ below (zQc D B cA (zqV S K)) args s 0 0 (fun q => B ≤ q)) D B cA 4 0 0 S I_4 [(3, .int v3_3), (2, .int v2_1), (0, .ref (B + 491))] [] 13) (fun v3_3 I_4 h => ?_)) (fun h => ?_)
  · refine zr_iload_n C dyX12_goesTo_13 rfl 0 rfl ?_
    refine zr_sipush C dyX12_goesTo_14 zc_s_300 ?_
    refine zr_icmp_ge C dyX12_goesTo_17 (tgt := 44) (by decide) (fun hc_28 => ?_) (fun hc_28 => ?_)
    · replace h := zif_pos hc_28 h
      refine zr_aload_n C dyX12_goesTo_44 rfl 2 rfl ?_
      refine zr_iconst C dyX12_goesTo_45 zc_i_1 ?_
      refine zp_12_182 C hS zb_1 dyX12_goesTo_46 ?_
      refine zn_mem C (fun I_5 eI_5 => ?_)
      replace h := h I_5 eI_5
      refine zr_aload_n C dyX12_goesTo_49 rfl 2 rfl ?_
      refine zr_aload_n C dyX12_goesTo_50 rfl 2 rfl ?_
      refine zg_12_162 C hS dyX12_goesTo_51 ?_
      refine zr_iload_n C dyX12_goesTo_54 rfl 1 rfl ?_
      refine zr_sipush C dyX12_goesTo_55 zc_s_711 ?_
      refine zr_iadd C dyX12_goesTo_58 ?_
      refine zr_iald C (hS _ _ zs_542) h.1 dyX12_goesTo_59 ?_
      replace h := h.2
      refine zv_12_186 C hS (st := []) h ⟨Nat.le_of_ble_eq_true rfl, Nat.le_of_ble_eq_true rfl⟩ (Nat.le_of_ble_eq_true rfl) dyX12_goesTo_60 (fun I_6 h => ?_)
      refine zr_aload_n C dyX12_goesTo_63 rfl 2 rfl ?_
      refine zv_12_190 C hS (st := []) h ⟨Nat.le_of_ble_eq_true rfl, Nat.le_of_ble_eq_true rfl⟩ (Nat.le_of_ble_eq_true rfl) dyX12_goesTo_64 (fun I_7 h => ?_)
      refine zr_iconst C dyX12_goesTo_67 zc_i_0 ?_
      refine zr_istore_n C dyX12_goesTo_68 rfl (Nat.le_of_ble_eq_true rfl) (lv2 := [(3, .int 0), (2, .int v2_1), (0, .ref (B + 491))]) rfl ?_
      refine zjn (h (fun (v3_8 : Int32) (I_9 : zI) => zX p l e (zrm 3 71) s m args below meth c (MQ below (zQc D B cA (zqV S K)) args s 0 0 (fun q => B ≤ q)) D B cA 4 0 0 S I_9 [(3, .int v3_8), (2, .int v2_1), (0, .ref (B + 491))] [] 69) (fun v3_8 I_9 h => ?_)) (fun h => ?_)
      · refine zr_iload_n C dyX12_goesTo_69 rfl 0 rfl ?_
        refine zr_bipush C dyX12_goesTo_70 zc_b_110 ?_
        refine zr_icmp_ge C dyX12_goesTo_72 (tgt := 99) (by decide) (fun hc_25 => ?_) (fun hc_25 => ?_)
        · replace h := zif_pos hc_25 h
          refine zr_aload_n C dyX12_goesTo_99 rfl 2 rfl ?_
          refine zr_aload_n C dyX12_goesTo_100 rfl 2 rfl ?_
          refine zg_12_162 C hS dyX12_goesTo_101 ?_
          refine zr_iload_n C dyX12_goesTo_104 rfl 1 rfl ?_
          refine zr_sipush C dyX12_goesTo_105 zc_s_713 ?_
          refine zr_iadd C dyX12_goesTo_108 ?_
          refine zr_iald C (hS _ _ zs_542) h.1 dyX12_goesTo_109 ?_
          replace h := h.2
          refine zp_12_178 C hS dyX12_goesTo_110 ?_
          refine zn_mem C (fun I_10 eI_10 => ?_)
          replace h := h I_10 eI_10
          refine zr_aload_n C dyX12_goesTo_113 rfl 2 rfl ?_
          refine zv_12_193 C hS (st := []) h ⟨Nat.le_of_ble_eq_true rfl, Nat.le_of_ble_eq_true rfl⟩ (Nat.le_of_ble_eq_true rfl) dyX12_goesTo_114 (fun I_11 h => ?_)
          refine zr_aload_n C dyX12_goesTo_117 rfl 2 rfl ?_
          refine zr_aload_n C dyX12_goesTo_118 rfl 2 rfl ?_
          refine zg_12_162 C hS dyX12_goesTo_119 ?_
          refine zr_iload_n C dyX12_goesTo_122 rfl 1 rfl ?_
          refine zr_sipush C dyX12_goesTo_123 zc_s_712 ?_
          refine zr_iadd C dyX12_goesTo_126 ?_
          refine zr_iald C (hS _ _ zs_542) h.1 dyX12_goesTo_127 ?_
          replace h := h.2
          refine zr_iconst C dyX12_goesTo_128 zc_i_1 ?_
          refine zjn (h (fun (t_12 : Int32) => zX p l e (zrm 3 71) s m args below meth c (MQ below (zQc D B cA (zqV S K)) args s 0 0 (fun q => B ≤ q)) D B cA 4 0 0 S I_11 [(2, .int v2_1), (0, .ref (B + 491))] [.int t_12, .ref (B + 491)] 137) (fun t_12 h => ?_)) (fun h => ?_)
          · refine zp_12_182 C hS h.1 dyX12_goesTo_137 ?_
            replace h := h.2
            refine zn_mem C (fun I_13 eI_13 => ?_)
            replace h := h I_13 eI_13
            refine zr_aload_n C dyX12_goesTo_140 rfl 1 rfl ?_
            refine zg_12_182 C hS dyX12_goesTo_141 ?_
            refine zr_if_eq C dyX12_goesTo_144 (tgt := 148) (by decide) (fun hc_21 => ?_) (fun hc_21 => ?_)
            · replace h := zif_pos hc_21 h
              refine zr_iconst C dyX12_goesTo_148 zc_i_0 ?_
              refine zr_istore_n C dyX12_goesTo_149 rfl (Nat.le_of_ble_eq_true rfl) (lv2 := [(3, .int 0), (2, .int v2_1), (0, .ref (B + 491))]) rfl ?_
              refine zjn (h (fun (v3_14 : Int32) (I_15 : zI) => zX p l e (zrm 3 71) s m args below meth c (MQ below (zQc D B cA (zqV S K)) args s 0 0 (fun q => B ≤ q)) D B cA 4 0 0 S I_15 [(3, .int v3_14), (2, .int v2_1), (0, .ref (B + 491))] [] 150) (fun v3_14 I_15 h => ?_)) (fun h => ?_)
              · refine zr_iload_n C dyX12_goesTo_150 rfl 0 rfl ?_
                refine zr_sipush C dyX12_goesTo_151 zc_s_300 ?_
                refine zr_icmp_ge C dyX12_goesTo_154 (tgt := 177) (by decide) (fun hc_20 => ?_) (fun hc_20 => ?_)
                · replace h := zif_pos hc_20 h
                  refine zr_aload_n C dyX12_goesTo_177 rfl 2 rfl ?_
                  refine zr_aload_n C dyX12_goesTo_178 rfl 2 rfl ?_
                  refine zg_12_162 C hS dyX12_goesTo_179 ?_
                  refine zr_iload_n C dyX12_goesTo_182 rfl 1 rfl ?_
                  refine zr_sipush C dyX12_goesTo_183 zc_s_710 ?_
                  refine zr_iadd C dyX12_goesTo_186 ?_
                  refine zr_iald C (hS _ _ zs_542) h.1 dyX12_goesTo_187 ?_
                  replace h := h.2
                  refine zv_12_186 C hS (st := []) h ⟨Nat.le_of_ble_eq_true rfl, Nat.le_of_ble_eq_true rfl⟩ (Nat.le_of_ble_eq_true rfl) dyX12_goesTo_188 (fun I_16 h => ?_)
                  refine zr_aload_n C dyX12_goesTo_191 rfl 2 rfl ?_
                  refine zv_12_190 C hS (st := []) h ⟨Nat.le_of_ble_eq_true rfl, Nat.le_of_ble_eq_true rfl⟩ (Nat.le_of_ble_eq_true rfl) dyX12_goesTo_192 (fun I_17 h => ?_)
                  exact zr_vret C rfl dyX12_goesTo_195 ⟨rfl, rfl, h⟩
                · replace h := zif_neg hc_20 h
                  refine zr_aload_n C dyX12_goesTo_157 rfl 2 rfl ?_
                  refine zg_12_13 C hS dyX12_goesTo_158 ?_
                  refine zr_iload_n C dyX12_goesTo_161 rfl 0 rfl ?_
                  refine zr_aload_n C dyX12_goesTo_162 rfl 2 rfl ?_
                  refine zg_12_162 C hS dyX12_goesTo_163 ?_
                  refine zr_iload_n C dyX12_goesTo_166 rfl 1 rfl ?_
                  refine zr_iload_n C dyX12_goesTo_167 rfl 0 rfl ?_
                  refine zr_iadd C dyX12_goesTo_168 ?_
                  refine zr_iald C (hS _ _ zs_542) h.1 dyX12_goesTo_169 ?_
                  replace h := h.2
                  refine zr_iast C (hS _ _ zs_493) h.1 dyX12_goesTo_170 ?_
                  replace h := h.2
                  refine zn_mem C (fun I_18 eI_18 => ?_)
                  replace h := h I_18 eI_18
                  refine zn_iinc C (fun v3_19 => [(3, .int v3_19), (2, .int v2_1), (0, .ref (B + 491))]) dyX12_goesTo_171 0 rfl zc_i_1 (Nat.le_of_ble_eq_true rfl) (fun _ => rfl) (fun v3_19 ev3_19 => ?_)
                  replace h := h v3_19 ev3_19
                  refine zr_goto C dyX12_goesTo_174 (tgt := 150) (by decide) ?_
                  exact h
              exact h
            · replace h := zif_neg hc_21 h
              exact zr_vret C rfl dyX12_goesTo_147 ⟨rfl, rfl, h⟩
          refine zr_icmp_ne C dyX12_goesTo_129 (tgt := 136) (by decide) (fun hc_22 => ?_) (fun hc_22 => ?_)
          · replace h := zif_neg hc_22 h
            refine zr_iconst C dyX12_goesTo_136 zc_i_0 ?_
            refine zr_sub (lv2 := [(2, .int v2_1), (0, .ref (B + 491))]) [1, 2] rfl ?_
            exact h
          · replace h := zif_pos hc_22 h
            refine zr_iconst C dyX12_goesTo_132 zc_i_1 ?_
            refine zr_goto C dyX12_goesTo_133 (tgt := 137) (by decide) ?_
            refine zr_sub (lv2 := [(2, .int v2_1), (0, .ref (B + 491))]) [1, 2] rfl ?_
            exact h
        · replace h := zif_neg hc_25 h
          refine zr_aload_n C dyX12_goesTo_75 rfl 2 rfl ?_
          refine zg_12_59 C hS dyX12_goesTo_76 ?_
          refine zr_iload_n C dyX12_goesTo_79 rfl 0 rfl ?_
          refine zr_aload_n C dyX12_goesTo_80 rfl 2 rfl ?_
          refine zg_12_162 C hS dyX12_goesTo_81 ?_
          refine zr_iload_n C dyX12_goesTo_84 rfl 1 rfl ?_
          refine zr_sipush C dyX12_goesTo_85 zc_s_600 ?_
          refine zr_iadd C dyX12_goesTo_88 ?_
          refine zr_iload_n C dyX12_goesTo_89 rfl 0 rfl ?_
          refine zr_iadd C dyX12_goesTo_90 ?_
          refine zr_iald C (hS _ _ zs_542) h.1 dyX12_goesTo_91 ?_
          replace h := h.2
          refine zr_iast C (hS _ _ zs_508) h.1 dyX12_goesTo_92 ?_
          replace h := h.2
          refine zn_mem C (fun I_23 eI_23 => ?_)
          replace h := h I_23 eI_23
          refine zn_iinc C (fun v3_24 => [(3, .int v3_24), (2, .int v2_1), (0, .ref (B + 491))]) dyX12_goesTo_93 0 rfl zc_i_1 (Nat.le_of_ble_eq_true rfl) (fun _ => rfl) (fun v3_24 ev3_24 => ?_)
          replace h := h v3_24 ev3_24
          refine zr_goto C dyX12_goesTo_96 (tgt := 69) (by decide) ?_
          exact h
      exact h
    · replace h := zif_neg hc_28 h
      refine zr_aload_n C dyX12_goesTo_20 rfl 2 rfl ?_
      refine zg_12_13 C hS dyX12_goesTo_21 ?_
      refine zr_iload_n C dyX12_goesTo_24 rfl 0 rfl ?_
      refine zr_aload_n C dyX12_goesTo_25 rfl 2 rfl ?_
      refine zg_12_162 C hS dyX12_goesTo_26 ?_
      refine zr_iload_n C dyX12_goesTo_29 rfl 1 rfl ?_
      refine zr_sipush C dyX12_goesTo_30 zc_s_300 ?_
      refine zr_iadd C dyX12_goesTo_33 ?_
      refine zr_iload_n C dyX12_goesTo_34 rfl 0 rfl ?_
      refine zr_iadd C dyX12_goesTo_35 ?_
      refine zr_iald C (hS _ _ zs_542) h.1 dyX12_goesTo_36 ?_
      replace h := h.2
      refine zr_iast C (hS _ _ zs_493) h.1 dyX12_goesTo_37 ?_
      replace h := h.2
      refine zn_mem C (fun I_26 eI_26 => ?_)
      replace h := h I_26 eI_26
      refine zn_iinc C (fun v3_27 => [(3, .int v3_27), (2, .int v2_1), (0, .ref (B + 491))]) dyX12_goesTo_38 0 rfl zc_i_1 (Nat.le_of_ble_eq_true rfl) (fun _ => rfl) (fun v3_27 ev3_27 => ?_)
      replace h := h v3_27 ev3_27
      refine zr_goto C dyX12_goesTo_41 (tgt := 13) (by decide) ?_
      exact h
  refine zr_sub (lv2 := [(3, .int 0), (2, .int v2_1), (0, .ref (B + 491))]) [0, 1, 2] rfl ?_
  exact h
theorem zv_12_385 {p : Program} {l : Launch} {e : Env} {R : Room} {s : State} {m : MethodId} {args : Array Value} {below : List Frame} {meth : Method} {c : Code} {Q : State → Prop} {D : va_G} {B : Nat} {cA : Nat → ClassId} {ad : Nat → Nat} {cc : ByteArray} {nL : Nat} {ret : Option FieldType} {S : List zC} {I : zI} {lv : List (Nat × Value)} {st : List Value} {pc : Nat} (C : zCx p s m args meth c cc nL RX12 ret D B cA ad) {K : zI → Prop} {xa1 : Int32} (hS : zOkM S)  (h : w_M_goesTo xa1 I K) (hR : 3 + 1 ≤ R.frames ∧ 8 + (4 + 11) + (71) ≤ R.locals) (hw : (st.map fun v => v.category).sum ≤ 8) (hd : decode cc pc = .ok (.invokevirtual 385, 3)) (kk : ∀ I2, K I2 → zX p l e R s m args below meth c Q D B cA nL 0 0 S I2 lv st (pc + 3)) : zX p l e R s m args below meth c Q D B cA nL 0 0 S I lv (.int xa1 :: .ref (B + 491) :: st) pc :=
  have hf : 0 ≤ R.cells ∧ 0 ≤ R.slots := ⟨Nat.zero_le _, Nat.zero_le _⟩
  zc_VqV C (ci := 12) (q := (RX12, TX12, 82)) (k := 491) (fs := [none, some (some 492), some (some 493), none, some (some 494), none, some (some 495), none, none, none, some (some 496), some (some 497), some (some 498), some (some 499), some (some 500), none, some (some 501), some (some 502), some (some 503), none, some (some 504), some (some 505), some (some 506), some (some 507), some (some 508), none, some (some 509), some (some 510), some (some 511), some (some 512), some (some 513), some (some 514), some (some 515), some (some 516), some (some 517), some (some 518), none, none, some (some 519), none, some (some 520), none, none, none, some (some 521), some (some 522), some (some 523), some (some 524), some (some 525), some (some 526), some (some 527), none, some (some 528), none, some (some 529), none, some (some 530), some (some 531), some (some 532), none, some (some 533), some (some 534), some (some 535), some (some 536), some (some 537), none, none, none, some (some 538), some (some 539), some (some 540), none, none, none, some (some 541), none, none, some (some 542), some (some 543), some (some 544), none, some (some 545)]) (As := [.int xa1]) (st := st) rfl (hS _ _ zs_491) (c_M_goesTo hS h) (zgV zk_ml_12_385 zk_im_yX12_goesTo zk_se_yX12_goesTo zk_in_12 zk_cd_yX12_goesTo) zsg_yX12_goesTo hR rfl rfl hw hd hf kk
def w_M_undo  (I : zI) (K : Int32 → zI → Prop) : Prop :=
  (if (I.1 491 75) = 0 then K 0 I else (w_M_goesTo ((I.1 491 75) - 1) I (fun I_1 => K 1 I_1)))
theorem dyX12_undo_0 : decode cX12_undo 0 = .ok (.aload_n 0, 1) := by decide +kernel
theorem dyX12_undo_1 : decode cX12_undo 1 = .ok (.getfield 379, 3) := by decide +kernel
theorem dyX12_undo_4 : decode cX12_undo 4 = .ok (.ifCond .ne 5, 3) := by decide +kernel
theorem dyX12_undo_7 : decode cX12_undo 7 = .ok (.iconst 0, 1) := by decide +kernel
theorem dyX12_undo_8 : decode cX12_undo 8 = .ok (.ireturn, 1) := by decide +kernel
theorem dyX12_undo_9 : decode cX12_undo 9 = .ok (.aload_n 0, 1) := by decide +kernel
theorem dyX12_undo_10 : decode cX12_undo 10 = .ok (.aload_n 0, 1) := by decide +kernel
theorem dyX12_undo_11 : decode cX12_undo 11 = .ok (.getfield 379, 3) := by decide +kernel
theorem dyX12_undo_14 : decode cX12_undo 14 = .ok (.iconst 1, 1) := by decide +kernel
theorem dyX12_undo_15 : decode cX12_undo 15 = .ok (.isub, 1) := by decide +kernel
theorem dyX12_undo_16 : decode cX12_undo 16 = .ok (.invokevirtual 385, 3) := by decide +kernel
theorem dyX12_undo_19 : decode cX12_undo 19 = .ok (.iconst 1, 1) := by decide +kernel
theorem dyX12_undo_20 : decode cX12_undo 20 = .ok (.ireturn, 1) := by decide +kernel
theorem zsg_yX12_undo : yX12_undo.cls = RX12 ∧ yX12_undo.cls ≠ "java/lang/invoke/MethodHandle" ∧ yX12_undo.cls ≠ "java/lang/invoke/VarHandle" ∧ (parseMethodDescriptor yX12_undo.desc).map (fun d => d.parameters.length) = some 0 := by decide +kernel
set_option maxRecDepth 20000 in
theorem c_M_undo {l : Launch} {D : va_G} {B : Nat} {cA : Nat → ClassId} {ad : Nat → Nat} {S : List zC} (hS : zOkM S)  {I : zI} {K : Int32 → zI → Prop}  (h : w_M_undo  I K) : Met l yX12_undo (zws yX12_undo cX12_undo 1 (some .boolean)) (zrm 4 94) (zPc D B cA ad [.ref (B + 491)] S I) (zQc D B cA (zqI S K)) 0 0 (fun q => B ≤ q) := by
  refine zm_of (cc := cX12_undo) (maxL := 1) (ret := (some .boolean)) (by decide +kernel) rfl (Nat.le_of_ble_eq_true rfl) trivial ?_
  intro p e s m args below meth c C _
  unfold w_M_undo at h
  show zX p l e (zrm 4 94) s m args below meth c (MQ below (zQc D B cA (zqI S K)) args s 0 0 (fun q => B ≤ q)) D B cA 1 0 0 S I [(0, .ref (B + 491))] [] 0
  refine zr_aload_n C dyX12_undo_0 rfl 0 rfl ?_
  refine zg_12_379 C hS dyX12_undo_1 ?_
  refine zr_if_ne C dyX12_undo_4 (tgt := 9) (by decide) (fun hc_2 => ?_) (fun hc_2 => ?_)
  · replace h := zif_neg hc_2 h
    refine zr_aload_n C dyX12_undo_9 rfl 0 rfl ?_
    refine zr_aload_n C dyX12_undo_10 rfl 0 rfl ?_
    refine zg_12_379 C hS dyX12_undo_11 ?_
    refine zr_iconst C dyX12_undo_14 zc_i_1 ?_
    refine zr_isub C dyX12_undo_15 ?_
    refine zv_12_385 C hS (st := []) h ⟨Nat.le_of_ble_eq_true rfl, Nat.le_of_ble_eq_true rfl⟩ (Nat.le_of_ble_eq_true rfl) dyX12_undo_16 (fun I_1 h => ?_)
    refine zr_iconst C dyX12_undo_19 zc_i_1 ?_
    exact zr_zret C rfl (zb.nar zb_1) dyX12_undo_20 ⟨rfl, _, rfl, h⟩
  · replace h := zif_pos hc_2 h
    refine zr_iconst C dyX12_undo_7 zc_i_0 ?_
    exact zr_zret C rfl (zb.nar zb_0) dyX12_undo_8 ⟨rfl, _, rfl, h⟩
theorem zg_12_382 {p : Program} {l : Launch} {e : Env} {R : Room} {s : State} {m : MethodId} {args : Array Value} {below : List Frame} {meth : Method} {c : Code} {Q : State → Prop} {D : va_G} {B : Nat} {cA : Nat → ClassId} {ad : Nat → Nat} {cc : ByteArray} {nL : Nat} {ret : Option FieldType} {S : List zC} {I : zI} {lv : List (Nat × Value)} {st : List Value} {pc : Nat} (C : zCx p s m args meth c cc nL RX12 ret D B cA ad) (hS : zOkM S) (hd : decode cc pc = .ok (.getfield 382, 3)) (kk : zX p l e R s m args below meth c Q D B cA nL 0 0 S I lv (.int (I.1 491 76) :: st) (pc + 3)) : zX p l e R s m args below meth c Q D B cA nL 0 0 S I lv (.ref (B + 491) :: st) pc :=
  zr_geti C (ci := 12) (Cn := RX12) (T := TX12) (N := 82) (k := 491) (j := 76) (fs := [none, some (some 492), some (some 493), none, some (some 494), none, some (some 495), none, none, none, some (some 496), some (some 497), some (some 498), some (some 499), some (some 500), none, some (some 501), some (some 502), some (some 503), none, some (some 504), some (some 505), some (some 506), some (some 507), some (some 508), none, some (some 509), some (some 510), some (some 511), some (some 512), some (some 513), some (some 514), some (some 515), some (some 516), some (some 517), some (some 518), none, none, some (some 519), none, some (some 520), none, none, none, some (some 521), some (some 522), some (some 523), some (some 524), some (some 525), some (some 526), some (some 527), none, some (some 528), none, some (some 529), none, some (some 530), some (some 531), some (some 532), none, some (some 533), some (some 534), some (some 535), some (some 536), some (some 537), none, none, none, some (some 538), some (some 539), some (some 540), none, none, none, some (some 541), none, none, some (some 542), some (some 543), some (some 544), none, some (some 545)]) rfl zin_12 (Nat.le_of_ble_eq_true rfl) rfl (hS _ _ zs_491) rfl zk_fl_12_382 hd kk
def w_M_redo  (I : zI) (K : Int32 → zI → Prop) : Prop :=
  (if (I.1 491 75) = (I.1 491 76) then K 0 I else (w_M_goesTo ((I.1 491 75) + 1) I (fun I_1 => K 1 I_1)))
theorem dyX12_redo_0 : decode cX12_redo 0 = .ok (.aload_n 0, 1) := by decide +kernel
theorem dyX12_redo_1 : decode cX12_redo 1 = .ok (.getfield 379, 3) := by decide +kernel
theorem dyX12_redo_4 : decode cX12_redo 4 = .ok (.aload_n 0, 1) := by decide +kernel
theorem dyX12_redo_5 : decode cX12_redo 5 = .ok (.getfield 382, 3) := by decide +kernel
theorem dyX12_redo_8 : decode cX12_redo 8 = .ok (.if_icmp .ne 5, 3) := by decide +kernel
theorem dyX12_redo_11 : decode cX12_redo 11 = .ok (.iconst 0, 1) := by decide +kernel
theorem dyX12_redo_12 : decode cX12_redo 12 = .ok (.ireturn, 1) := by decide +kernel
theorem dyX12_redo_13 : decode cX12_redo 13 = .ok (.aload_n 0, 1) := by decide +kernel
theorem dyX12_redo_14 : decode cX12_redo 14 = .ok (.aload_n 0, 1) := by decide +kernel
theorem dyX12_redo_15 : decode cX12_redo 15 = .ok (.getfield 379, 3) := by decide +kernel
theorem dyX12_redo_18 : decode cX12_redo 18 = .ok (.iconst 1, 1) := by decide +kernel
theorem dyX12_redo_19 : decode cX12_redo 19 = .ok (.iadd, 1) := by decide +kernel
theorem dyX12_redo_20 : decode cX12_redo 20 = .ok (.invokevirtual 385, 3) := by decide +kernel
theorem dyX12_redo_23 : decode cX12_redo 23 = .ok (.iconst 1, 1) := by decide +kernel
theorem dyX12_redo_24 : decode cX12_redo 24 = .ok (.ireturn, 1) := by decide +kernel
theorem zsg_yX12_redo : yX12_redo.cls = RX12 ∧ yX12_redo.cls ≠ "java/lang/invoke/MethodHandle" ∧ yX12_redo.cls ≠ "java/lang/invoke/VarHandle" ∧ (parseMethodDescriptor yX12_redo.desc).map (fun d => d.parameters.length) = some 0 := by decide +kernel
set_option maxRecDepth 20000 in
theorem c_M_redo {l : Launch} {D : va_G} {B : Nat} {cA : Nat → ClassId} {ad : Nat → Nat} {S : List zC} (hS : zOkM S)  {I : zI} {K : Int32 → zI → Prop}  (h : w_M_redo  I K) : Met l yX12_redo (zws yX12_redo cX12_redo 1 (some .boolean)) (zrm 4 94) (zPc D B cA ad [.ref (B + 491)] S I) (zQc D B cA (zqI S K)) 0 0 (fun q => B ≤ q) := by
  refine zm_of (cc := cX12_redo) (maxL := 1) (ret := (some .boolean)) (by decide +kernel) rfl (Nat.le_of_ble_eq_true rfl) trivial ?_
  intro p e s m args below meth c C _
  unfold w_M_redo at h
  show zX p l e (zrm 4 94) s m args below meth c (MQ below (zQc D B cA (zqI S K)) args s 0 0 (fun q => B ≤ q)) D B cA 1 0 0 S I [(0, .ref (B + 491))] [] 0
  refine zr_aload_n C dyX12_redo_0 rfl 0 rfl ?_
  refine zg_12_379 C hS dyX12_redo_1 ?_
  refine zr_aload_n C dyX12_redo_4 rfl 0 rfl ?_
  refine zg_12_382 C hS dyX12_redo_5 ?_
  refine zr_icmp_ne C dyX12_redo_8 (tgt := 13) (by decide) (fun hc_2 => ?_) (fun hc_2 => ?_)
  · replace h := zif_neg hc_2 h
    refine zr_aload_n C dyX12_redo_13 rfl 0 rfl ?_
    refine zr_aload_n C dyX12_redo_14 rfl 0 rfl ?_
    refine zg_12_379 C hS dyX12_redo_15 ?_
    refine zr_iconst C dyX12_redo_18 zc_i_1 ?_
    refine zr_iadd C dyX12_redo_19 ?_
    refine zv_12_385 C hS (st := []) h ⟨Nat.le_of_ble_eq_true rfl, Nat.le_of_ble_eq_true rfl⟩ (Nat.le_of_ble_eq_true rfl) dyX12_redo_20 (fun I_1 h => ?_)
    refine zr_iconst C dyX12_redo_23 zc_i_1 ?_
    exact zr_zret C rfl (zb.nar zb_1) dyX12_redo_24 ⟨rfl, _, rfl, h⟩
  · replace h := zif_pos hc_2 h
    refine zr_iconst C dyX12_redo_11 zc_i_0 ?_
    exact zr_zret C rfl (zb.nar zb_0) dyX12_redo_12 ⟨rfl, _, rfl, h⟩
theorem zv_12_388 {p : Program} {l : Launch} {e : Env} {R : Room} {s : State} {m : MethodId} {args : Array Value} {below : List Frame} {meth : Method} {c : Code} {Q : State → Prop} {D : va_G} {B : Nat} {cA : Nat → ClassId} {ad : Nat → Nat} {cc : ByteArray} {nL : Nat} {ret : Option FieldType} {S : List zC} {I : zI} {lv : List (Nat × Value)} {st : List Value} {pc : Nat} (C : zCx p s m args meth c cc nL RX12 ret D B cA ad) {K : Int32 → zI → Prop} {xa1 : Int32} (hS : zOkM S)  (h : w_M_isRefused xa1 I K) (hR : 3 + 1 ≤ R.frames ∧ 8 + (2 + 11) + (71) ≤ R.locals) (hw : (st.map fun v => v.category).sum ≤ 8) (hd : decode cc pc = .ok (.invokevirtual 388, 3)) (kk : ∀ v I2, K v I2 → zX p l e R s m args below meth c Q D B cA nL 0 0 S I2 lv (.int v :: st) (pc + 3)) : zX p l e R s m args below meth c Q D B cA nL 0 0 S I lv (.int xa1 :: .ref (B + 491) :: st) pc :=
  have hf : 0 ≤ R.cells ∧ 0 ≤ R.slots := ⟨Nat.zero_le _, Nat.zero_le _⟩
  zc_VqI C (ci := 12) (q := (RX12, TX12, 82)) (k := 491) (fs := [none, some (some 492), some (some 493), none, some (some 494), none, some (some 495), none, none, none, some (some 496), some (some 497), some (some 498), some (some 499), some (some 500), none, some (some 501), some (some 502), some (some 503), none, some (some 504), some (some 505), some (some 506), some (some 507), some (some 508), none, some (some 509), some (some 510), some (some 511), some (some 512), some (some 513), some (some 514), some (some 515), some (some 516), some (some 517), some (some 518), none, none, some (some 519), none, some (some 520), none, none, none, some (some 521), some (some 522), some (some 523), some (some 524), some (some 525), some (some 526), some (some 527), none, some (some 528), none, some (some 529), none, some (some 530), some (some 531), some (some 532), none, some (some 533), some (some 534), some (some 535), some (some 536), some (some 537), none, none, none, some (some 538), some (some 539), some (some 540), none, none, none, some (some 541), none, none, some (some 542), some (some 543), some (some 544), none, some (some 545)]) (As := [.int xa1]) (st := st) rfl (hS _ _ zs_491) (c_M_isRefused hS h) (zgV zk_ml_12_388 zk_im_yX12_isRefused zk_se_yX12_isRefused zk_in_12 zk_cd_yX12_isRefused) zsg_yX12_isRefused hR rfl rfl hw hd hf kk
theorem zv_12_391 {p : Program} {l : Launch} {e : Env} {R : Room} {s : State} {m : MethodId} {args : Array Value} {below : List Frame} {meth : Method} {c : Code} {Q : State → Prop} {D : va_G} {B : Nat} {cA : Nat → ClassId} {ad : Nat → Nat} {cc : ByteArray} {nL : Nat} {ret : Option FieldType} {S : List zC} {I : zI} {lv : List (Nat × Value)} {st : List Value} {pc : Nat} (C : zCx p s m args meth c cc nL RX12 ret D B cA ad) {K : Int32 → zI → Prop}  (hS : zOkM S)  (h : w_M_edited I K) (hR : 3 + 1 ≤ R.frames ∧ 8 + (9 + 11) + (76) ≤ R.locals) (hw : (st.map fun v => v.category).sum ≤ 8) (hd : decode cc pc = .ok (.invokevirtual 391, 3)) (kk : ∀ v I2, K v I2 → zX p l e R s m args below meth c Q D B cA nL 0 0 S I2 lv (.int v :: st) (pc + 3)) : zX p l e R s m args below meth c Q D B cA nL 0 0 S I lv (.ref (B + 491) :: st) pc :=
  have hf : 0 ≤ R.cells ∧ 0 ≤ R.slots := ⟨Nat.zero_le _, Nat.zero_le _⟩
  zc_VqI C (ci := 12) (q := (RX12, TX12, 82)) (k := 491) (fs := [none, some (some 492), some (some 493), none, some (some 494), none, some (some 495), none, none, none, some (some 496), some (some 497), some (some 498), some (some 499), some (some 500), none, some (some 501), some (some 502), some (some 503), none, some (some 504), some (some 505), some (some 506), some (some 507), some (some 508), none, some (some 509), some (some 510), some (some 511), some (some 512), some (some 513), some (some 514), some (some 515), some (some 516), some (some 517), some (some 518), none, none, some (some 519), none, some (some 520), none, none, none, some (some 521), some (some 522), some (some 523), some (some 524), some (some 525), some (some 526), some (some 527), none, some (some 528), none, some (some 529), none, some (some 530), some (some 531), some (some 532), none, some (some 533), some (some 534), some (some 535), some (some 536), some (some 537), none, none, none, some (some 538), some (some 539), some (some 540), none, none, none, some (some 541), none, none, some (some 542), some (some 543), some (some 544), none, some (some 545)]) (As := []) (st := st) rfl (hS _ _ zs_491) (c_M_edited hS h) (zgV zk_ml_12_391 zk_im_yX12_edited zk_se_yX12_edited zk_in_12 zk_cd_yX12_edited) zsg_yX12_edited hR rfl rfl hw hd hf kk
def w_M_edit (a1 : Int32) (a2 : Int32) (I : zI) (K : Int32 → zI → Prop) : Prop :=
  w_M_in a1 0 (I.1 491 5) I (fun r_1 => (if r_1 = 0 then (K (-1) I) else (w_M_in a2 0 ((I.1 491 5) - a1) I (fun r_2 => (if r_2 = 0 then (K (-1) I) else (∀ v3_3, v3_3 = (((I.1 491 5) - a2) + (I.1 491 0)) → ∀ (P43 : Int32 → zI → Prop), (∀ (v4_4 : Int32) (I_5 : zI), ((if a1 ≤ v4_4 then (∀ (P72 : Int32 → zI → Prop), (∀ (v4_6 : Int32) (I_7 : zI), ((if (I_7.1 491 0) ≤ v4_6 then (∀ v4_8, v4_8 = (a1 + a2) → ∀ (P108 : Int32 → zI → Prop), (∀ (v4_9 : Int32) (I_10 : zI), ((if (I_10.1 491 5) ≤ v4_9 then (w_M_isRefused v3_3 I_10 (fun r_11 I_12 => (if r_11 = 0 then (∀ I_13, I_13 = (zu I_12 491 0 0) → w_M_edited I_13 (fun r_14 I_15 => K r_14 I_15)) else (K (-1) I_12)))) else (vp_in v4_9 300 ∧ (vp_in ((v4_9 - a2) + (I_10.1 491 0)) 700 ∧ (∀ I_17, I_17 = (zu I_10 493 (Int32.toNatClampNeg ((v4_9 - a2) + (I_10.1 491 0))) (I_10.1 494 (Int32.toNatClampNeg v4_9))) → ∀ v4_18, v4_18 = (v4_9 + 1) → P108 v4_18 I_17))))) → P108 v4_9 I_10) → P108 v4_8 I_7) else (vp_in v4_6 220 ∧ (vp_in (a1 + v4_6) 700 ∧ (∀ I_20, I_20 = (zu I_7 493 (Int32.toNatClampNeg (a1 + v4_6)) (I_7.1 492 (Int32.toNatClampNeg v4_6))) → ∀ v4_21, v4_21 = (v4_6 + 1) → P72 v4_21 I_20))))) → P72 v4_6 I_7) → P72 0 I_5) else (vp_in v4_4 300 ∧ (vp_in v4_4 700 ∧ (∀ I_23, I_23 = (zu I_5 493 (Int32.toNatClampNeg v4_4) (I_5.1 494 (Int32.toNatClampNeg v4_4))) → ∀ v4_24, v4_24 = (v4_4 + 1) → P43 v4_24 I_23))))) → P43 v4_4 I_5) → P43 0 I))))))
theorem dyX12_edit_0 : decode cX12_edit 0 = .ok (.iload_n 1, 1) := by decide +kernel
theorem dyX12_edit_1 : decode cX12_edit 1 = .ok (.iconst 0, 1) := by decide +kernel
theorem dyX12_edit_2 : decode cX12_edit 2 = .ok (.aload_n 0, 1) := by decide +kernel
theorem dyX12_edit_3 : decode cX12_edit 3 = .ok (.getfield 232, 3) := by decide +kernel
theorem dyX12_edit_6 : decode cX12_edit 6 = .ok (.invokestatic 286, 3) := by decide +kernel
theorem dyX12_edit_9 : decode cX12_edit 9 = .ok (.ifCond .eq 17, 3) := by decide +kernel
theorem dyX12_edit_12 : decode cX12_edit 12 = .ok (.iload_n 2, 1) := by decide +kernel
theorem dyX12_edit_13 : decode cX12_edit 13 = .ok (.iconst 0, 1) := by decide +kernel
theorem dyX12_edit_14 : decode cX12_edit 14 = .ok (.aload_n 0, 1) := by decide +kernel
theorem dyX12_edit_15 : decode cX12_edit 15 = .ok (.getfield 232, 3) := by decide +kernel
theorem dyX12_edit_18 : decode cX12_edit 18 = .ok (.iload_n 1, 1) := by decide +kernel
theorem dyX12_edit_19 : decode cX12_edit 19 = .ok (.isub, 1) := by decide +kernel
theorem dyX12_edit_20 : decode cX12_edit 20 = .ok (.invokestatic 286, 3) := by decide +kernel
theorem dyX12_edit_23 : decode cX12_edit 23 = .ok (.ifCond .ne 5, 3) := by decide +kernel
theorem dyX12_edit_26 : decode cX12_edit 26 = .ok (.iconst (-1), 1) := by decide +kernel
theorem dyX12_edit_27 : decode cX12_edit 27 = .ok (.ireturn, 1) := by decide +kernel
theorem dyX12_edit_28 : decode cX12_edit 28 = .ok (.aload_n 0, 1) := by decide +kernel
theorem dyX12_edit_29 : decode cX12_edit 29 = .ok (.getfield 232, 3) := by decide +kernel
theorem dyX12_edit_32 : decode cX12_edit 32 = .ok (.iload_n 2, 1) := by decide +kernel
theorem dyX12_edit_33 : decode cX12_edit 33 = .ok (.isub, 1) := by decide +kernel
theorem dyX12_edit_34 : decode cX12_edit 34 = .ok (.aload_n 0, 1) := by decide +kernel
theorem dyX12_edit_35 : decode cX12_edit 35 = .ok (.getfield 199, 3) := by decide +kernel
theorem dyX12_edit_38 : decode cX12_edit 38 = .ok (.iadd, 1) := by decide +kernel
theorem dyX12_edit_39 : decode cX12_edit 39 = .ok (.istore_n 3, 1) := by decide +kernel
theorem dyX12_edit_40 : decode cX12_edit 40 = .ok (.iconst 0, 1) := by decide +kernel
theorem dyX12_edit_41 : decode cX12_edit 41 = .ok (.istore 4, 2) := by decide +kernel
theorem dyX12_edit_43 : decode cX12_edit 43 = .ok (.iload 4, 2) := by decide +kernel
theorem dyX12_edit_45 : decode cX12_edit 45 = .ok (.iload_n 1, 1) := by decide +kernel
theorem dyX12_edit_46 : decode cX12_edit 46 = .ok (.if_icmp .ge 23, 3) := by decide +kernel
theorem dyX12_edit_49 : decode cX12_edit 49 = .ok (.aload_n 0, 1) := by decide +kernel
theorem dyX12_edit_50 : decode cX12_edit 50 = .ok (.getfield 13, 3) := by decide +kernel
theorem dyX12_edit_53 : decode cX12_edit 53 = .ok (.iload 4, 2) := by decide +kernel
theorem dyX12_edit_55 : decode cX12_edit 55 = .ok (.aload_n 0, 1) := by decide +kernel
theorem dyX12_edit_56 : decode cX12_edit 56 = .ok (.getfield 16, 3) := by decide +kernel
theorem dyX12_edit_59 : decode cX12_edit 59 = .ok (.iload 4, 2) := by decide +kernel
theorem dyX12_edit_61 : decode cX12_edit 61 = .ok (.iaload, 1) := by decide +kernel
theorem dyX12_edit_62 : decode cX12_edit 62 = .ok (.iastore, 1) := by decide +kernel
theorem dyX12_edit_63 : decode cX12_edit 63 = .ok (.iinc 4 1, 3) := by decide +kernel
theorem dyX12_edit_66 : decode cX12_edit 66 = .ok (.goto (-23), 3) := by decide +kernel
theorem dyX12_edit_69 : decode cX12_edit 69 = .ok (.iconst 0, 1) := by decide +kernel
theorem dyX12_edit_70 : decode cX12_edit 70 = .ok (.istore 4, 2) := by decide +kernel
theorem dyX12_edit_72 : decode cX12_edit 72 = .ok (.iload 4, 2) := by decide +kernel
theorem dyX12_edit_74 : decode cX12_edit 74 = .ok (.aload_n 0, 1) := by decide +kernel
theorem dyX12_edit_75 : decode cX12_edit 75 = .ok (.getfield 199, 3) := by decide +kernel
theorem dyX12_edit_78 : decode cX12_edit 78 = .ok (.if_icmp .ge 25, 3) := by decide +kernel
theorem dyX12_edit_81 : decode cX12_edit 81 = .ok (.aload_n 0, 1) := by decide +kernel
theorem dyX12_edit_82 : decode cX12_edit 82 = .ok (.getfield 13, 3) := by decide +kernel
theorem dyX12_edit_85 : decode cX12_edit 85 = .ok (.iload_n 1, 1) := by decide +kernel
theorem dyX12_edit_86 : decode cX12_edit 86 = .ok (.iload 4, 2) := by decide +kernel
theorem dyX12_edit_88 : decode cX12_edit 88 = .ok (.iadd, 1) := by decide +kernel
theorem dyX12_edit_89 : decode cX12_edit 89 = .ok (.aload_n 0, 1) := by decide +kernel
theorem dyX12_edit_90 : decode cX12_edit 90 = .ok (.getfield 7, 3) := by decide +kernel
theorem dyX12_edit_93 : decode cX12_edit 93 = .ok (.iload 4, 2) := by decide +kernel
theorem dyX12_edit_95 : decode cX12_edit 95 = .ok (.iaload, 1) := by decide +kernel
theorem dyX12_edit_96 : decode cX12_edit 96 = .ok (.iastore, 1) := by decide +kernel
theorem dyX12_edit_97 : decode cX12_edit 97 = .ok (.iinc 4 1, 3) := by decide +kernel
theorem dyX12_edit_100 : decode cX12_edit 100 = .ok (.goto (-28), 3) := by decide +kernel
theorem dyX12_edit_103 : decode cX12_edit 103 = .ok (.iload_n 1, 1) := by decide +kernel
theorem dyX12_edit_104 : decode cX12_edit 104 = .ok (.iload_n 2, 1) := by decide +kernel
theorem dyX12_edit_105 : decode cX12_edit 105 = .ok (.iadd, 1) := by decide +kernel
theorem dyX12_edit_106 : decode cX12_edit 106 = .ok (.istore 4, 2) := by decide +kernel
theorem dyX12_edit_108 : decode cX12_edit 108 = .ok (.iload 4, 2) := by decide +kernel
theorem dyX12_edit_110 : decode cX12_edit 110 = .ok (.aload_n 0, 1) := by decide +kernel
theorem dyX12_edit_111 : decode cX12_edit 111 = .ok (.getfield 232, 3) := by decide +kernel
theorem dyX12_edit_114 : decode cX12_edit 114 = .ok (.if_icmp .ge 30, 3) := by decide +kernel
theorem dyX12_edit_117 : decode cX12_edit 117 = .ok (.aload_n 0, 1) := by decide +kernel
theorem dyX12_edit_118 : decode cX12_edit 118 = .ok (.getfield 13, 3) := by decide +kernel
theorem dyX12_edit_121 : decode cX12_edit 121 = .ok (.iload 4, 2) := by decide +kernel
theorem dyX12_edit_123 : decode cX12_edit 123 = .ok (.iload_n 2, 1) := by decide +kernel
theorem dyX12_edit_124 : decode cX12_edit 124 = .ok (.isub, 1) := by decide +kernel
theorem dyX12_edit_125 : decode cX12_edit 125 = .ok (.aload_n 0, 1) := by decide +kernel
theorem dyX12_edit_126 : decode cX12_edit 126 = .ok (.getfield 199, 3) := by decide +kernel
theorem dyX12_edit_129 : decode cX12_edit 129 = .ok (.iadd, 1) := by decide +kernel
theorem dyX12_edit_130 : decode cX12_edit 130 = .ok (.aload_n 0, 1) := by decide +kernel
theorem dyX12_edit_131 : decode cX12_edit 131 = .ok (.getfield 16, 3) := by decide +kernel
theorem dyX12_edit_134 : decode cX12_edit 134 = .ok (.iload 4, 2) := by decide +kernel
theorem dyX12_edit_136 : decode cX12_edit 136 = .ok (.iaload, 1) := by decide +kernel
theorem dyX12_edit_137 : decode cX12_edit 137 = .ok (.iastore, 1) := by decide +kernel
theorem dyX12_edit_138 : decode cX12_edit 138 = .ok (.iinc 4 1, 3) := by decide +kernel
theorem dyX12_edit_141 : decode cX12_edit 141 = .ok (.goto (-33), 3) := by decide +kernel
theorem dyX12_edit_144 : decode cX12_edit 144 = .ok (.aload_n 0, 1) := by decide +kernel
theorem dyX12_edit_145 : decode cX12_edit 145 = .ok (.iload_n 3, 1) := by decide +kernel
theorem dyX12_edit_146 : decode cX12_edit 146 = .ok (.invokevirtual 388, 3) := by decide +kernel
theorem dyX12_edit_149 : decode cX12_edit 149 = .ok (.ifCond .eq 5, 3) := by decide +kernel
theorem dyX12_edit_152 : decode cX12_edit 152 = .ok (.iconst (-1), 1) := by decide +kernel
theorem dyX12_edit_153 : decode cX12_edit 153 = .ok (.ireturn, 1) := by decide +kernel
theorem dyX12_edit_154 : decode cX12_edit 154 = .ok (.aload_n 0, 1) := by decide +kernel
theorem dyX12_edit_155 : decode cX12_edit 155 = .ok (.iconst 0, 1) := by decide +kernel
theorem dyX12_edit_156 : decode cX12_edit 156 = .ok (.putfield 199, 3) := by decide +kernel
theorem dyX12_edit_159 : decode cX12_edit 159 = .ok (.aload_n 0, 1) := by decide +kernel
theorem dyX12_edit_160 : decode cX12_edit 160 = .ok (.invokevirtual 391, 3) := by decide +kernel
theorem dyX12_edit_163 : decode cX12_edit 163 = .ok (.ireturn, 1) := by decide +kernel
theorem zsg_yX12_edit : yX12_edit.cls = RX12 ∧ yX12_edit.cls ≠ "java/lang/invoke/MethodHandle" ∧ yX12_edit.cls ≠ "java/lang/invoke/VarHandle" ∧ (parseMethodDescriptor yX12_edit.desc).map (fun d => d.parameters.length) = some 2 := by decide +kernel
set_option maxRecDepth 20000 in
theorem c_M_edit {l : Launch} {D : va_G} {B : Nat} {cA : Nat → ClassId} {ad : Nat → Nat} {S : List zC} (hS : zOkM S) {a1 : Int32} {a2 : Int32} {I : zI} {K : Int32 → zI → Prop}  (h : w_M_edit a1 a2 I K) : Met l yX12_edit (zws yX12_edit cX12_edit 5 (some .int)) (zrm 4 104) (zPc D B cA ad [.ref (B + 491), .int a1, .int a2] S I) (zQc D B cA (zqI S K)) 0 0 (fun q => B ≤ q) := by
  refine zm_of (cc := cX12_edit) (maxL := 5) (ret := (some .int)) (by decide +kernel) rfl (Nat.le_of_ble_eq_true rfl) trivial ?_
  intro p e s m args below meth c C _
  unfold w_M_edit at h
  show zX p l e (zrm 4 104) s m args below meth c (MQ below (zQc D B cA (zqI S K)) args s 0 0 (fun q => B ≤ q)) D B cA 5 0 0 S I [(0, .ref (B + 491)), (1, .int a1), (2, .int a2)] [] 0
  refine zr_iload_n C dyX12_edit_0 rfl 1 rfl ?_
  refine zr_iconst C dyX12_edit_1 zc_i_0 ?_
  refine zr_aload_n C dyX12_edit_2 rfl 0 rfl ?_
  refine zg_12_232 C hS dyX12_edit_3 ?_
  refine zv_12_286 C hS (st := []) h ⟨Nat.le_of_ble_eq_true rfl, Nat.le_of_ble_eq_true rfl⟩ (Nat.le_of_ble_eq_true rfl) dyX12_edit_6 (fun r_1 h => ?_)
  refine zr_if_eq C dyX12_edit_9 (tgt := 26) (by decide) (fun hc_27 => ?_) (fun hc_27 => ?_)
  · replace h := zif_pos hc_27 h
    refine zr_iconst C dyX12_edit_26 zc_i_m1 ?_
    exact zr_iret C rfl dyX12_edit_27 ⟨rfl, _, rfl, h⟩
  · replace h := zif_neg hc_27 h
    refine zr_iload_n C dyX12_edit_12 rfl 2 rfl ?_
    refine zr_iconst C dyX12_edit_13 zc_i_0 ?_
    refine zr_aload_n C dyX12_edit_14 rfl 0 rfl ?_
    refine zg_12_232 C hS dyX12_edit_15 ?_
    refine zr_iload_n C dyX12_edit_18 rfl 1 rfl ?_
    refine zr_isub C dyX12_edit_19 ?_
    refine zv_12_286 C hS (st := []) h ⟨Nat.le_of_ble_eq_true rfl, Nat.le_of_ble_eq_true rfl⟩ (Nat.le_of_ble_eq_true rfl) dyX12_edit_20 (fun r_2 h => ?_)
    refine zr_if_ne C dyX12_edit_23 (tgt := 28) (by decide) (fun hc_26 => ?_) (fun hc_26 => ?_)
    · replace h := zif_neg hc_26 h
      refine zr_aload_n C dyX12_edit_28 rfl 0 rfl ?_
      refine zg_12_232 C hS dyX12_edit_29 ?_
      refine zr_iload_n C dyX12_edit_32 rfl 2 rfl ?_
      refine zr_isub C dyX12_edit_33 ?_
      refine zr_aload_n C dyX12_edit_34 rfl 0 rfl ?_
      refine zg_12_199 C hS dyX12_edit_35 ?_
      refine zr_iadd C dyX12_edit_38 ?_
      refine zn_istore_n C (fun v3_3 => [(3, .int v3_3), (0, .ref (B + 491)), (1, .int a1), (2, .int a2)]) dyX12_edit_39 rfl (Nat.le_of_ble_eq_true rfl) (fun _ => rfl) (fun v3_3 ev3_3 => ?_)
      replace h := h v3_3 ev3_3
      refine zr_iconst C dyX12_edit_40 zc_i_0 ?_
      refine zr_istore C dyX12_edit_41 (Nat.le_of_ble_eq_true rfl) (lv2 := [(4, .int 0), (3, .int v3_3), (0, .ref (B + 491)), (1, .int a1), (2, .int a2)]) rfl ?_
      refine zjn (h (fun (v4_4 : Int32) (I_5 : zI) => zX p l e (zrm 4 104) s m args below meth c (MQ below (zQc D B cA (zqI S K)) args s 0 0 (fun q => B ≤ q)) D B cA 5 0 0 S I_5 [(4, .int v4_4), (3, .int v3_3), (0, .ref (B + 491)), (1, .int a1), (2, .int a2)] [] 43) (fun v4_4 I_5 h => ?_)) (fun h => ?_)
      · refine zr_iload C dyX12_edit_43 0 rfl ?_
        refine zr_iload_n C dyX12_edit_45 rfl 3 rfl ?_
        refine zr_icmp_ge C dyX12_edit_46 (tgt := 69) (by decide) (fun hc_25 => ?_) (fun hc_25 => ?_)
        · replace h := zif_pos hc_25 h
          refine zr_iconst C dyX12_edit_69 zc_i_0 ?_
          refine zr_istore C dyX12_edit_70 (Nat.le_of_ble_eq_true rfl) (lv2 := [(4, .int 0), (3, .int v3_3), (0, .ref (B + 491)), (1, .int a1), (2, .int a2)]) rfl ?_
          refine zjn (h (fun (v4_6 : Int32) (I_7 : zI) => zX p l e (zrm 4 104) s m args below meth c (MQ below (zQc D B cA (zqI S K)) args s 0 0 (fun q => B ≤ q)) D B cA 5 0 0 S I_7 [(4, .int v4_6), (3, .int v3_3), (0, .ref (B + 491)), (1, .int a1), (2, .int a2)] [] 72) (fun v4_6 I_7 h => ?_)) (fun h => ?_)
          · refine zr_iload C dyX12_edit_72 0 rfl ?_
            refine zr_aload_n C dyX12_edit_74 rfl 2 rfl ?_
            refine zg_12_199 C hS dyX12_edit_75 ?_
            refine zr_icmp_ge C dyX12_edit_78 (tgt := 103) (by decide) (fun hc_22 => ?_) (fun hc_22 => ?_)
            · replace h := zif_pos hc_22 h
              refine zr_iload_n C dyX12_edit_103 rfl 3 rfl ?_
              refine zr_iload_n C dyX12_edit_104 rfl 4 rfl ?_
              refine zr_iadd C dyX12_edit_105 ?_
              refine zn_istore C (fun v4_8 => [(4, .int v4_8), (3, .int v3_3), (0, .ref (B + 491)), (1, .int a1), (2, .int a2)]) dyX12_edit_106 (Nat.le_of_ble_eq_true rfl) (fun _ => rfl) (fun v4_8 ev4_8 => ?_)
              replace h := h v4_8 ev4_8
              refine zjn (h (fun (v4_9 : Int32) (I_10 : zI) => zX p l e (zrm 4 104) s m args below meth c (MQ below (zQc D B cA (zqI S K)) args s 0 0 (fun q => B ≤ q)) D B cA 5 0 0 S I_10 [(4, .int v4_9), (3, .int v3_3), (0, .ref (B + 491)), (2, .int a2)] [] 108) (fun v4_9 I_10 h => ?_)) (fun h => ?_)
              · refine zr_iload C dyX12_edit_108 0 rfl ?_
                refine zr_aload_n C dyX12_edit_110 rfl 2 rfl ?_
                refine zg_12_232 C hS dyX12_edit_111 ?_
                refine zr_icmp_ge C dyX12_edit_114 (tgt := 144) (by decide) (fun hc_19 => ?_) (fun hc_19 => ?_)
                · replace h := zif_pos hc_19 h
                  refine zr_aload_n C dyX12_edit_144 rfl 2 rfl ?_
                  refine zr_iload_n C dyX12_edit_145 rfl 1 rfl ?_
                  refine zv_12_388 C hS (st := []) h ⟨Nat.le_of_ble_eq_true rfl, Nat.le_of_ble_eq_true rfl⟩ (Nat.le_of_ble_eq_true rfl) dyX12_edit_146 (fun r_11 I_12 h => ?_)
                  refine zr_if_eq C dyX12_edit_149 (tgt := 154) (by decide) (fun hc_16 => ?_) (fun hc_16 => ?_)
                  · replace h := zif_pos hc_16 h
                    refine zr_aload_n C dyX12_edit_154 rfl 2 rfl ?_
                    refine zr_iconst C dyX12_edit_155 zc_i_0 ?_
                    refine zp_12_199 C hS dyX12_edit_156 ?_
                    refine zn_mem C (fun I_13 eI_13 => ?_)
                    replace h := h I_13 eI_13
                    refine zr_aload_n C dyX12_edit_159 rfl 2 rfl ?_
                    refine zv_12_391 C hS (st := []) h ⟨Nat.le_of_ble_eq_true rfl, Nat.le_of_ble_eq_true rfl⟩ (Nat.le_of_ble_eq_true rfl) dyX12_edit_160 (fun r_14 I_15 h => ?_)
                    exact zr_iret C rfl dyX12_edit_163 ⟨rfl, _, rfl, h⟩
                  · replace h := zif_neg hc_16 h
                    refine zr_iconst C dyX12_edit_152 zc_i_m1 ?_
                    exact zr_iret C rfl dyX12_edit_153 ⟨rfl, _, rfl, h⟩
                · replace h := zif_neg hc_19 h
                  refine zr_aload_n C dyX12_edit_117 rfl 2 rfl ?_
                  refine zg_12_13 C hS dyX12_edit_118 ?_
                  refine zr_iload C dyX12_edit_121 0 rfl ?_
                  refine zr_iload_n C dyX12_edit_123 rfl 3 rfl ?_
                  refine zr_isub C dyX12_edit_124 ?_
                  refine zr_aload_n C dyX12_edit_125 rfl 2 rfl ?_
                  refine zg_12_199 C hS dyX12_edit_126 ?_
                  refine zr_iadd C dyX12_edit_129 ?_
                  refine zr_aload_n C dyX12_edit_130 rfl 2 rfl ?_
                  refine zg_12_16 C hS dyX12_edit_131 ?_
                  refine zr_iload C dyX12_edit_134 0 rfl ?_
                  refine zr_iald C (hS _ _ zs_494) h.1 dyX12_edit_136 ?_
                  replace h := h.2
                  refine zr_iast C (hS _ _ zs_493) h.1 dyX12_edit_137 ?_
                  replace h := h.2
                  refine zn_mem C (fun I_17 eI_17 => ?_)
                  replace h := h I_17 eI_17
                  refine zn_iinc C (fun v4_18 => [(4, .int v4_18), (3, .int v3_3), (0, .ref (B + 491)), (2, .int a2)]) dyX12_edit_138 0 rfl zc_i_1 (Nat.le_of_ble_eq_true rfl) (fun _ => rfl) (fun v4_18 ev4_18 => ?_)
                  replace h := h v4_18 ev4_18
                  refine zr_goto C dyX12_edit_141 (tgt := 108) (by decide) ?_
                  exact h
              refine zr_sub (lv2 := [(4, .int v4_8), (3, .int v3_3), (0, .ref (B + 491)), (2, .int a2)]) [0, 1, 2, 4] rfl ?_
              exact h
            · replace h := zif_neg hc_22 h
              refine zr_aload_n C dyX12_edit_81 rfl 2 rfl ?_
              refine zg_12_13 C hS dyX12_edit_82 ?_
              refine zr_iload_n C dyX12_edit_85 rfl 3 rfl ?_
              refine zr_iload C dyX12_edit_86 0 rfl ?_
              refine zr_iadd C dyX12_edit_88 ?_
              refine zr_aload_n C dyX12_edit_89 rfl 2 rfl ?_
              refine zg_12_7 C hS dyX12_edit_90 ?_
              refine zr_iload C dyX12_edit_93 0 rfl ?_
              refine zr_iald C (hS _ _ zs_492) h.1 dyX12_edit_95 ?_
              replace h := h.2
              refine zr_iast C (hS _ _ zs_493) h.1 dyX12_edit_96 ?_
              replace h := h.2
              refine zn_mem C (fun I_20 eI_20 => ?_)
              replace h := h I_20 eI_20
              refine zn_iinc C (fun v4_21 => [(4, .int v4_21), (3, .int v3_3), (0, .ref (B + 491)), (1, .int a1), (2, .int a2)]) dyX12_edit_97 0 rfl zc_i_1 (Nat.le_of_ble_eq_true rfl) (fun _ => rfl) (fun v4_21 ev4_21 => ?_)
              replace h := h v4_21 ev4_21
              refine zr_goto C dyX12_edit_100 (tgt := 72) (by decide) ?_
              exact h
          exact h
        · replace h := zif_neg hc_25 h
          refine zr_aload_n C dyX12_edit_49 rfl 2 rfl ?_
          refine zg_12_13 C hS dyX12_edit_50 ?_
          refine zr_iload C dyX12_edit_53 0 rfl ?_
          refine zr_aload_n C dyX12_edit_55 rfl 2 rfl ?_
          refine zg_12_16 C hS dyX12_edit_56 ?_
          refine zr_iload C dyX12_edit_59 0 rfl ?_
          refine zr_iald C (hS _ _ zs_494) h.1 dyX12_edit_61 ?_
          replace h := h.2
          refine zr_iast C (hS _ _ zs_493) h.1 dyX12_edit_62 ?_
          replace h := h.2
          refine zn_mem C (fun I_23 eI_23 => ?_)
          replace h := h I_23 eI_23
          refine zn_iinc C (fun v4_24 => [(4, .int v4_24), (3, .int v3_3), (0, .ref (B + 491)), (1, .int a1), (2, .int a2)]) dyX12_edit_63 0 rfl zc_i_1 (Nat.le_of_ble_eq_true rfl) (fun _ => rfl) (fun v4_24 ev4_24 => ?_)
          replace h := h v4_24 ev4_24
          refine zr_goto C dyX12_edit_66 (tgt := 43) (by decide) ?_
          exact h
      exact h
    · replace h := zif_pos hc_26 h
      refine zr_iconst C dyX12_edit_26 zc_i_m1 ?_
      exact zr_iret C rfl dyX12_edit_27 ⟨rfl, _, rfl, h⟩
def w_M_isName  (I : zI) (K : Int32 → Prop) : Prop :=
  w_M_in (I.1 491 0) 1 8 I (fun r_1 => (if r_1 = 0 then K 0 else (∀ (P17 : Int32 → Prop), (∀ (v1_2 : Int32), ((if (I.1 491 0) ≤ v1_2 then K 1 else (vp_in v1_2 220 ∧ (w_M_isLetter (I.1 492 (Int32.toNatClampNeg v1_2)) I (fun r_3 => (if r_3 = 0 then K 0 else (∀ v1_4, v1_4 = (v1_2 + 1) → P17 v1_4))))))) → P17 v1_2) → P17 0)))
theorem dyX12_isName_0 : decode cX12_isName 0 = .ok (.aload_n 0, 1) := by decide +kernel
theorem dyX12_isName_1 : decode cX12_isName 1 = .ok (.getfield 199, 3) := by decide +kernel
theorem dyX12_isName_4 : decode cX12_isName 4 = .ok (.iconst 1, 1) := by decide +kernel
theorem dyX12_isName_5 : decode cX12_isName 5 = .ok (.bipush 8, 2) := by decide +kernel
theorem dyX12_isName_7 : decode cX12_isName 7 = .ok (.invokestatic 286, 3) := by decide +kernel
theorem dyX12_isName_10 : decode cX12_isName 10 = .ok (.ifCond .ne 5, 3) := by decide +kernel
theorem dyX12_isName_13 : decode cX12_isName 13 = .ok (.iconst 0, 1) := by decide +kernel
theorem dyX12_isName_14 : decode cX12_isName 14 = .ok (.ireturn, 1) := by decide +kernel
theorem dyX12_isName_15 : decode cX12_isName 15 = .ok (.iconst 0, 1) := by decide +kernel
theorem dyX12_isName_16 : decode cX12_isName 16 = .ok (.istore_n 1, 1) := by decide +kernel
theorem dyX12_isName_17 : decode cX12_isName 17 = .ok (.iload_n 1, 1) := by decide +kernel
theorem dyX12_isName_18 : decode cX12_isName 18 = .ok (.aload_n 0, 1) := by decide +kernel
theorem dyX12_isName_19 : decode cX12_isName 19 = .ok (.getfield 199, 3) := by decide +kernel
theorem dyX12_isName_22 : decode cX12_isName 22 = .ok (.if_icmp .ge 23, 3) := by decide +kernel
theorem dyX12_isName_25 : decode cX12_isName 25 = .ok (.aload_n 0, 1) := by decide +kernel
theorem dyX12_isName_26 : decode cX12_isName 26 = .ok (.getfield 7, 3) := by decide +kernel
theorem dyX12_isName_29 : decode cX12_isName 29 = .ok (.iload_n 1, 1) := by decide +kernel
theorem dyX12_isName_30 : decode cX12_isName 30 = .ok (.iaload, 1) := by decide +kernel
theorem dyX12_isName_31 : decode cX12_isName 31 = .ok (.invokestatic 215, 3) := by decide +kernel
theorem dyX12_isName_34 : decode cX12_isName 34 = .ok (.ifCond .ne 5, 3) := by decide +kernel
theorem dyX12_isName_37 : decode cX12_isName 37 = .ok (.iconst 0, 1) := by decide +kernel
theorem dyX12_isName_38 : decode cX12_isName 38 = .ok (.ireturn, 1) := by decide +kernel
theorem dyX12_isName_39 : decode cX12_isName 39 = .ok (.iinc 1 1, 3) := by decide +kernel
theorem dyX12_isName_42 : decode cX12_isName 42 = .ok (.goto (-25), 3) := by decide +kernel
theorem dyX12_isName_45 : decode cX12_isName 45 = .ok (.iconst 1, 1) := by decide +kernel
theorem dyX12_isName_46 : decode cX12_isName 46 = .ok (.ireturn, 1) := by decide +kernel
theorem zsg_yX12_isName : yX12_isName.cls = RX12 ∧ yX12_isName.cls ≠ "java/lang/invoke/MethodHandle" ∧ yX12_isName.cls ≠ "java/lang/invoke/VarHandle" ∧ (parseMethodDescriptor yX12_isName.desc).map (fun d => d.parameters.length) = some 0 := by decide +kernel
set_option maxRecDepth 20000 in
theorem c_M_isName {l : Launch} {D : va_G} {B : Nat} {cA : Nat → ClassId} {ad : Nat → Nat} {S : List zC} (hS : zOkM S)  {I : zI} {K : Int32 → Prop}  (h : w_M_isName  I K) : Met l yX12_isName (zws yX12_isName cX12_isName 2 (some .boolean)) (zrm 1 22) (zPc D B cA ad [.ref (B + 491)] S I) (zQc D B cA (zpI S I K)) 0 0 (fun q => B ≤ q) := by
  refine zm_of (cc := cX12_isName) (maxL := 2) (ret := (some .boolean)) (by decide +kernel) rfl (Nat.le_of_ble_eq_true rfl) trivial ?_
  intro p e s m args below meth c C _
  unfold w_M_isName at h
  show zX p l e (zrm 1 22) s m args below meth c (MQ below (zQc D B cA (zpI S I K)) args s 0 0 (fun q => B ≤ q)) D B cA 2 0 0 S I [(0, .ref (B + 491))] [] 0
  refine zr_aload_n C dyX12_isName_0 rfl 0 rfl ?_
  refine zg_12_199 C hS dyX12_isName_1 ?_
  refine zr_iconst C dyX12_isName_4 zc_i_1 ?_
  refine zr_bipush C dyX12_isName_5 zc_b_8 ?_
  refine zv_12_286 C hS (st := []) h ⟨Nat.le_of_ble_eq_true rfl, Nat.le_of_ble_eq_true rfl⟩ (Nat.le_of_ble_eq_true rfl) dyX12_isName_7 (fun r_1 h => ?_)
  refine zr_if_ne C dyX12_isName_10 (tgt := 15) (by decide) (fun hc_7 => ?_) (fun hc_7 => ?_)
  · replace h := zif_neg hc_7 h
    refine zr_iconst C dyX12_isName_15 zc_i_0 ?_
    refine zr_istore_n C dyX12_isName_16 rfl (Nat.le_of_ble_eq_true rfl) (lv2 := [(1, .int 0), (0, .ref (B + 491))]) rfl ?_
    refine zjn (h (fun (v1_2 : Int32) => zX p l e (zrm 1 22) s m args below meth c (MQ below (zQc D B cA (zpI S I K)) args s 0 0 (fun q => B ≤ q)) D B cA 2 0 0 S I [(1, .int v1_2), (0, .ref (B + 491))] [] 17) (fun v1_2 h => ?_)) (fun h => ?_)
    · refine zr_iload_n C dyX12_isName_17 rfl 0 rfl ?_
      refine zr_aload_n C dyX12_isName_18 rfl 1 rfl ?_
      refine zg_12_199 C hS dyX12_isName_19 ?_
      refine zr_icmp_ge C dyX12_isName_22 (tgt := 45) (by decide) (fun hc_6 => ?_) (fun hc_6 => ?_)
      · replace h := zif_pos hc_6 h
        refine zr_iconst C dyX12_isName_45 zc_i_1 ?_
        exact zr_zret C rfl (zb.nar zb_1) dyX12_isName_46 ⟨rfl, rfl, _, rfl, h⟩
      · replace h := zif_neg hc_6 h
        refine zr_aload_n C dyX12_isName_25 rfl 1 rfl ?_
        refine zg_12_7 C hS dyX12_isName_26 ?_
        refine zr_iload_n C dyX12_isName_29 rfl 0 rfl ?_
        refine zr_iald C (hS _ _ zs_492) h.1 dyX12_isName_30 ?_
        replace h := h.2
        refine zv_12_215 C hS (st := []) h ⟨Nat.le_of_ble_eq_true rfl, Nat.le_of_ble_eq_true rfl⟩ (Nat.le_of_ble_eq_true rfl) dyX12_isName_31 (fun r_3 h => ?_)
        refine zr_if_ne C dyX12_isName_34 (tgt := 39) (by decide) (fun hc_5 => ?_) (fun hc_5 => ?_)
        · replace h := zif_neg hc_5 h
          refine zn_iinc C (fun v1_4 => [(1, .int v1_4), (0, .ref (B + 491))]) dyX12_isName_39 0 rfl zc_i_1 (Nat.le_of_ble_eq_true rfl) (fun _ => rfl) (fun v1_4 ev1_4 => ?_)
          replace h := h v1_4 ev1_4
          refine zr_goto C dyX12_isName_42 (tgt := 17) (by decide) ?_
          exact h
        · replace h := zif_pos hc_5 h
          refine zr_iconst C dyX12_isName_37 zc_i_0 ?_
          exact zr_zret C rfl (zb.nar zb_0) dyX12_isName_38 ⟨rfl, rfl, _, rfl, h⟩
    exact h
  · replace h := zif_pos hc_7 h
    refine zr_iconst C dyX12_isName_13 zc_i_0 ?_
    exact zr_zret C rfl (zb.nar zb_0) dyX12_isName_14 ⟨rfl, rfl, _, rfl, h⟩
