def w_M_setName (a1 : Int32) (I : zI) (K : Int64 → Prop) : Prop :=
  vp_in a1 110 ∧ (w_M_childOf (I.1 529 (Int32.toNatClampNeg a1)) 0 I (fun r_1 => vp_in r_1 3700 ∧ (K (I.2 511 (Int32.toNatClampNeg r_1)))))
theorem dyX12_setName_0 : decode cX12_setName 0 = .ok (.aload_n 0, 1) := by decide +kernel
theorem dyX12_setName_1 : decode cX12_setName 1 = .ok (.getfield 68, 3) := by decide +kernel
theorem dyX12_setName_4 : decode cX12_setName 4 = .ok (.aload_n 0, 1) := by decide +kernel
theorem dyX12_setName_5 : decode cX12_setName 5 = .ok (.aload_n 0, 1) := by decide +kernel
theorem dyX12_setName_6 : decode cX12_setName 6 = .ok (.getfield 123, 3) := by decide +kernel
theorem dyX12_setName_9 : decode cX12_setName 9 = .ok (.iload_n 1, 1) := by decide +kernel
theorem dyX12_setName_10 : decode cX12_setName 10 = .ok (.iaload, 1) := by decide +kernel
theorem dyX12_setName_11 : decode cX12_setName 11 = .ok (.iconst 0, 1) := by decide +kernel
theorem dyX12_setName_12 : decode cX12_setName 12 = .ok (.invokevirtual 299, 3) := by decide +kernel
theorem dyX12_setName_15 : decode cX12_setName 15 = .ok (.laload, 1) := by decide +kernel
theorem dyX12_setName_16 : decode cX12_setName 16 = .ok (.lreturn, 1) := by decide +kernel
theorem zsg_yX12_setName : yX12_setName.cls = RX12 ∧ yX12_setName.cls ≠ "java/lang/invoke/MethodHandle" ∧ yX12_setName.cls ≠ "java/lang/invoke/VarHandle" ∧ (parseMethodDescriptor yX12_setName.desc).map (fun d => d.parameters.length) = some 1 := by decide +kernel
set_option maxRecDepth 20000 in
theorem c_M_setName {l : Launch} {D : va_G} {B : Nat} {cA : Nat → ClassId} {ad : Nat → Nat} {S : List zC} (hS : zOkM S) {a1 : Int32} {I : zI} {K : Int64 → Prop}  (h : w_M_setName a1 I K) : Met l yX12_setName (zws yX12_setName cX12_setName 2 (some .long)) (zrm 1 22) (zPc D B cA ad [.ref (B + 491), .int a1] S I) (zQc D B cA (zpJ S I K)) 0 0 (fun q => B ≤ q) := by
  refine zm_of (cc := cX12_setName) (maxL := 2) (ret := (some .long)) (by decide +kernel) rfl (Nat.le_of_ble_eq_true rfl) trivial ?_
  intro p e s m args below meth c C _
  unfold w_M_setName at h
  show zX p l e (zrm 1 22) s m args below meth c (MQ below (zQc D B cA (zpJ S I K)) args s 0 0 (fun q => B ≤ q)) D B cA 2 0 0 S I [(0, .ref (B + 491)), (1, .int a1)] [] 0
  refine zr_aload_n C dyX12_setName_0 rfl 0 rfl ?_
  refine zg_12_68 C hS dyX12_setName_1 ?_
  refine zr_aload_n C dyX12_setName_4 rfl 0 rfl ?_
  refine zr_aload_n C dyX12_setName_5 rfl 0 rfl ?_
  refine zg_12_123 C hS dyX12_setName_6 ?_
  refine zr_iload_n C dyX12_setName_9 rfl 1 rfl ?_
  refine zr_iald C (hS _ _ zs_529) h.1 dyX12_setName_10 ?_
  replace h := h.2
  refine zr_iconst C dyX12_setName_11 zc_i_0 ?_
  refine zv_12_299 C hS (st := [.ref (B + 511)]) h ⟨Nat.le_of_ble_eq_true rfl, Nat.le_of_ble_eq_true rfl⟩ (Nat.le_of_ble_eq_true rfl) dyX12_setName_12 (fun r_1 h => ?_)
  refine zr_lald C (hS _ _ zs_511) h.1 dyX12_setName_15 ?_
  replace h := h.2
  exact zr_lret C rfl dyX12_setName_16 ⟨rfl, rfl, _, rfl, h⟩
theorem zv_12_451 {p : Program} {l : Launch} {e : Env} {R : Room} {s : State} {m : MethodId} {args : Array Value} {below : List Frame} {meth : Method} {c : Code} {Q : State → Prop} {D : va_G} {B : Nat} {cA : Nat → ClassId} {ad : Nat → Nat} {cc : ByteArray} {nL : Nat} {ret : Option FieldType} {S : List zC} {I : zI} {lv : List (Nat × Value)} {st : List Value} {pc : Nat} (C : zCx p s m args meth c cc nL RX12 ret D B cA ad) {K : Int64 → Prop} {xa1 : Int32} (hS : zOkM S)  (h : w_M_setName xa1 I K) (hR : 1 + 1 ≤ R.frames ∧ 8 + (2 + 11) + (22) ≤ R.locals) (hw : (st.map fun v => v.category).sum ≤ 8) (hd : decode cc pc = .ok (.invokevirtual 451, 3)) (kk : ∀ v, K v → zX p l e R s m args below meth c Q D B cA nL 0 0 S I lv (.long v :: st) (pc + 3)) : zX p l e R s m args below meth c Q D B cA nL 0 0 S I lv (.int xa1 :: .ref (B + 491) :: st) pc :=
  have hf : 0 ≤ R.cells ∧ 0 ≤ R.slots := ⟨Nat.zero_le _, Nat.zero_le _⟩
  zc_VpJ C (ci := 12) (q := (RX12, TX12, 82)) (k := 491) (fs := [none, some (some 492), some (some 493), none, some (some 494), none, some (some 495), none, none, none, some (some 496), some (some 497), some (some 498), some (some 499), some (some 500), none, some (some 501), some (some 502), some (some 503), none, some (some 504), some (some 505), some (some 506), some (some 507), some (some 508), none, some (some 509), some (some 510), some (some 511), some (some 512), some (some 513), some (some 514), some (some 515), some (some 516), some (some 517), some (some 518), none, none, some (some 519), none, some (some 520), none, none, none, some (some 521), some (some 522), some (some 523), some (some 524), some (some 525), some (some 526), some (some 527), none, some (some 528), none, some (some 529), none, some (some 530), some (some 531), some (some 532), none, some (some 533), some (some 534), some (some 535), some (some 536), some (some 537), none, none, none, some (some 538), some (some 539), some (some 540), none, none, none, some (some 541), none, none, some (some 542), some (some 543), some (some 544), none, some (some 545)]) (As := [.int xa1]) (st := st) rfl (hS _ _ zs_491) (c_M_setName hS h) (zgV zk_ml_12_451 zk_im_yX12_setName zk_se_yX12_setName zk_in_12 zk_cd_yX12_setName) zsg_yX12_setName hR rfl rfl hw hd hf kk
def w_M_sets (a1 : Int32) (I : zI) (K : Int32 → Prop) : Prop :=
  w_M_isGoodName a1 I (fun r_1 => (if r_1 = 0 then K 0 else (∀ (P14 : Int32 → Int32 → Prop), (∀ (v2_2 : Int32) (v3_3 : Int32), ((if (I.1 491 53) ≤ v3_3 then K v2_2 else (w_M_setName v3_3 I (fun r_4 => vp_in a1 110 ∧ (∀ (P40 : Int32 → Prop), (∀ (v2_5 : Int32), (∀ v3_6, v3_6 = (v3_3 + 1) → P14 v2_5 v3_6) → P40 v2_5) → (if (lg_cmp r_4 (I.2 507 (Int32.toNatClampNeg a1))) = 0 then (∀ v2_7, v2_7 = (v2_2 + 1) → P40 v2_7) else P40 v2_2)))))) → P14 v2_2 v3_3) → P14 0 0)))
theorem dyX12_sets_0 : decode cX12_sets 0 = .ok (.aload_n 0, 1) := by decide +kernel
theorem dyX12_sets_1 : decode cX12_sets 1 = .ok (.iload_n 1, 1) := by decide +kernel
theorem dyX12_sets_2 : decode cX12_sets 2 = .ok (.invokevirtual 394, 3) := by decide +kernel
theorem dyX12_sets_5 : decode cX12_sets 5 = .ok (.ifCond .ne 5, 3) := by decide +kernel
theorem dyX12_sets_8 : decode cX12_sets 8 = .ok (.iconst 0, 1) := by decide +kernel
theorem dyX12_sets_9 : decode cX12_sets 9 = .ok (.ireturn, 1) := by decide +kernel
theorem dyX12_sets_10 : decode cX12_sets 10 = .ok (.iconst 0, 1) := by decide +kernel
theorem dyX12_sets_11 : decode cX12_sets 11 = .ok (.istore_n 2, 1) := by decide +kernel
theorem dyX12_sets_12 : decode cX12_sets 12 = .ok (.iconst 0, 1) := by decide +kernel
theorem dyX12_sets_13 : decode cX12_sets 13 = .ok (.istore_n 3, 1) := by decide +kernel
theorem dyX12_sets_14 : decode cX12_sets 14 = .ok (.iload_n 3, 1) := by decide +kernel
theorem dyX12_sets_15 : decode cX12_sets 15 = .ok (.aload_n 0, 1) := by decide +kernel
theorem dyX12_sets_16 : decode cX12_sets 16 = .ok (.getfield 293, 3) := by decide +kernel
theorem dyX12_sets_19 : decode cX12_sets 19 = .ok (.if_icmp .ge 27, 3) := by decide +kernel
theorem dyX12_sets_22 : decode cX12_sets 22 = .ok (.aload_n 0, 1) := by decide +kernel
theorem dyX12_sets_23 : decode cX12_sets 23 = .ok (.iload_n 3, 1) := by decide +kernel
theorem dyX12_sets_24 : decode cX12_sets 24 = .ok (.invokevirtual 451, 3) := by decide +kernel
theorem dyX12_sets_27 : decode cX12_sets 27 = .ok (.aload_n 0, 1) := by decide +kernel
theorem dyX12_sets_28 : decode cX12_sets 28 = .ok (.getfield 56, 3) := by decide +kernel
theorem dyX12_sets_31 : decode cX12_sets 31 = .ok (.iload_n 1, 1) := by decide +kernel
theorem dyX12_sets_32 : decode cX12_sets 32 = .ok (.laload, 1) := by decide +kernel
theorem dyX12_sets_33 : decode cX12_sets 33 = .ok (.lcmp, 1) := by decide +kernel
theorem dyX12_sets_34 : decode cX12_sets 34 = .ok (.ifCond .ne 6, 3) := by decide +kernel
theorem dyX12_sets_37 : decode cX12_sets 37 = .ok (.iinc 2 1, 3) := by decide +kernel
theorem dyX12_sets_40 : decode cX12_sets 40 = .ok (.iinc 3 1, 3) := by decide +kernel
theorem dyX12_sets_43 : decode cX12_sets 43 = .ok (.goto (-29), 3) := by decide +kernel
theorem dyX12_sets_46 : decode cX12_sets 46 = .ok (.iload_n 2, 1) := by decide +kernel
theorem dyX12_sets_47 : decode cX12_sets 47 = .ok (.ireturn, 1) := by decide +kernel
theorem zsg_yX12_sets : yX12_sets.cls = RX12 ∧ yX12_sets.cls ≠ "java/lang/invoke/MethodHandle" ∧ yX12_sets.cls ≠ "java/lang/invoke/VarHandle" ∧ (parseMethodDescriptor yX12_sets.desc).map (fun d => d.parameters.length) = some 1 := by decide +kernel
set_option maxRecDepth 20000 in
theorem c_M_sets {l : Launch} {D : va_G} {B : Nat} {cA : Nat → ClassId} {ad : Nat → Nat} {S : List zC} (hS : zOkM S) {a1 : Int32} {I : zI} {K : Int32 → Prop}  (h : w_M_sets a1 I K) : Met l yX12_sets (zws yX12_sets cX12_sets 4 (some .int)) (zrm 2 43) (zPc D B cA ad [.ref (B + 491), .int a1] S I) (zQc D B cA (zpI S I K)) 0 0 (fun q => B ≤ q) := by
  refine zm_of (cc := cX12_sets) (maxL := 4) (ret := (some .int)) (by decide +kernel) rfl (Nat.le_of_ble_eq_true rfl) trivial ?_
  intro p e s m args below meth c C _
  unfold w_M_sets at h
  show zX p l e (zrm 2 43) s m args below meth c (MQ below (zQc D B cA (zpI S I K)) args s 0 0 (fun q => B ≤ q)) D B cA 4 0 0 S I [(0, .ref (B + 491)), (1, .int a1)] [] 0
  refine zr_aload_n C dyX12_sets_0 rfl 0 rfl ?_
  refine zr_iload_n C dyX12_sets_1 rfl 1 rfl ?_
  refine zv_12_394 C hS (st := []) h ⟨Nat.le_of_ble_eq_true rfl, Nat.le_of_ble_eq_true rfl⟩ (Nat.le_of_ble_eq_true rfl) dyX12_sets_2 (fun r_1 h => ?_)
  refine zr_if_ne C dyX12_sets_5 (tgt := 10) (by decide) (fun hc_10 => ?_) (fun hc_10 => ?_)
  · replace h := zif_neg hc_10 h
    refine zr_iconst C dyX12_sets_10 zc_i_0 ?_
    refine zr_istore_n C dyX12_sets_11 rfl (Nat.le_of_ble_eq_true rfl) (lv2 := [(2, .int 0), (0, .ref (B + 491)), (1, .int a1)]) rfl ?_
    refine zr_iconst C dyX12_sets_12 zc_i_0 ?_
    refine zr_istore_n C dyX12_sets_13 rfl (Nat.le_of_ble_eq_true rfl) (lv2 := [(3, .int 0), (2, .int 0), (0, .ref (B + 491)), (1, .int a1)]) rfl ?_
    refine zjn (h (fun (v2_2 : Int32) (v3_3 : Int32) => zX p l e (zrm 2 43) s m args below meth c (MQ below (zQc D B cA (zpI S I K)) args s 0 0 (fun q => B ≤ q)) D B cA 4 0 0 S I [(3, .int v3_3), (2, .int v2_2), (0, .ref (B + 491)), (1, .int a1)] [] 14) (fun v2_2 v3_3 h => ?_)) (fun h => ?_)
    · refine zr_iload_n C dyX12_sets_14 rfl 0 rfl ?_
      refine zr_aload_n C dyX12_sets_15 rfl 2 rfl ?_
      refine zg_12_293 C hS dyX12_sets_16 ?_
      refine zr_icmp_ge C dyX12_sets_19 (tgt := 46) (by decide) (fun hc_9 => ?_) (fun hc_9 => ?_)
      · replace h := zif_pos hc_9 h
        refine zr_iload_n C dyX12_sets_46 rfl 1 rfl ?_
        exact zr_iret C rfl dyX12_sets_47 ⟨rfl, rfl, _, rfl, h⟩
      · replace h := zif_neg hc_9 h
        refine zr_aload_n C dyX12_sets_22 rfl 2 rfl ?_
        refine zr_iload_n C dyX12_sets_23 rfl 0 rfl ?_
        refine zv_12_451 C hS (st := []) h ⟨Nat.le_of_ble_eq_true rfl, Nat.le_of_ble_eq_true rfl⟩ (Nat.le_of_ble_eq_true rfl) dyX12_sets_24 (fun r_4 h => ?_)
        refine zr_aload_n C dyX12_sets_27 rfl 2 rfl ?_
        refine zg_12_56 C hS dyX12_sets_28 ?_
        refine zr_iload_n C dyX12_sets_31 rfl 3 rfl ?_
        refine zr_lald C (hS _ _ zs_507) h.1 dyX12_sets_32 ?_
        replace h := h.2
        refine zr_lcmp C dyX12_sets_33 ?_
        refine zjn (h (fun (v2_5 : Int32) => zX p l e (zrm 2 43) s m args below meth c (MQ below (zQc D B cA (zpI S I K)) args s 0 0 (fun q => B ≤ q)) D B cA 4 0 0 S I [(3, .int v3_3), (2, .int v2_5), (0, .ref (B + 491)), (1, .int a1)] [] 40) (fun v2_5 h => ?_)) (fun h => ?_)
        · refine zn_iinc C (fun v3_6 => [(3, .int v3_6), (2, .int v2_5), (0, .ref (B + 491)), (1, .int a1)]) dyX12_sets_40 0 rfl zc_i_1 (Nat.le_of_ble_eq_true rfl) (fun _ => rfl) (fun v3_6 ev3_6 => ?_)
          replace h := h v3_6 ev3_6
          refine zr_goto C dyX12_sets_43 (tgt := 14) (by decide) ?_
          exact h
        refine zr_if_ne C dyX12_sets_34 (tgt := 40) (by decide) (fun hc_8 => ?_) (fun hc_8 => ?_)
        · replace h := zif_neg hc_8 h
          exact h
        · replace h := zif_pos hc_8 h
          refine zn_iinc C (fun v2_7 => [(2, .int v2_7), (3, .int v3_3), (0, .ref (B + 491)), (1, .int a1)]) dyX12_sets_37 1 rfl zc_i_1 (Nat.le_of_ble_eq_true rfl) (fun _ => rfl) (fun v2_7 ev2_7 => ?_)
          replace h := h v2_7 ev2_7
          refine zr_sub (lv2 := [(3, .int v3_3), (2, .int v2_7), (0, .ref (B + 491)), (1, .int a1)]) [1, 0, 2, 3] rfl ?_
          exact h
    exact h
  · replace h := zif_pos hc_10 h
    refine zr_iconst C dyX12_sets_8 zc_i_0 ?_
    exact zr_iret C rfl dyX12_sets_9 ⟨rfl, rfl, _, rfl, h⟩
def w_M_doesRead (a1 : Int32) (a2 : Int64) (I : zI) (K : Int32 → Prop) : Prop :=
  vp_in a1 110 ∧ (w_M_childOf (I.1 529 (Int32.toNatClampNeg a1)) 2 I (fun r_1 => vp_in r_1 3700 ∧ (∀ v4_2, v4_2 = (I.1 523 (Int32.toNatClampNeg r_1)) → ∀ (P22 : Int32 → Prop), (∀ (v5_3 : Int32), (vp_in v4_2 700 ∧ (if (I.1 522 (Int32.toNatClampNeg v4_2)) ≤ v5_3 then K 0 else (vp_in v5_3 700 ∧ (vp_in (I.1 521 (Int32.toNatClampNeg v5_3)) 3700 ∧ (∀ (P75 : Prop), ((∀ v5_4, v5_4 = (v5_3 + 1) → P22 v5_4) → P75) → (if (I.1 509 (Int32.toNatClampNeg (I.1 521 (Int32.toNatClampNeg v5_3)))) = 8 then (vp_in v5_3 700 ∧ (w_M_childOf (I.1 521 (Int32.toNatClampNeg v5_3)) 0 I (fun r_5 => vp_in r_5 3700 ∧ (if (lg_cmp (I.2 511 (Int32.toNatClampNeg r_5)) a2) = 0 then K 1 else P75)))) else P75)))))) → P22 v5_3) → P22 v4_2)))
theorem dyX12_doesRead_0 : decode cX12_doesRead 0 = .ok (.aload_n 0, 1) := by decide +kernel
theorem dyX12_doesRead_1 : decode cX12_doesRead 1 = .ok (.getfield 105, 3) := by decide +kernel
theorem dyX12_doesRead_4 : decode cX12_doesRead 4 = .ok (.aload_n 0, 1) := by decide +kernel
theorem dyX12_doesRead_5 : decode cX12_doesRead 5 = .ok (.aload_n 0, 1) := by decide +kernel
theorem dyX12_doesRead_6 : decode cX12_doesRead 6 = .ok (.getfield 123, 3) := by decide +kernel
theorem dyX12_doesRead_9 : decode cX12_doesRead 9 = .ok (.iload_n 1, 1) := by decide +kernel
theorem dyX12_doesRead_10 : decode cX12_doesRead 10 = .ok (.iaload, 1) := by decide +kernel
theorem dyX12_doesRead_11 : decode cX12_doesRead 11 = .ok (.iconst 2, 1) := by decide +kernel
theorem dyX12_doesRead_12 : decode cX12_doesRead 12 = .ok (.invokevirtual 299, 3) := by decide +kernel
theorem dyX12_doesRead_15 : decode cX12_doesRead 15 = .ok (.iaload, 1) := by decide +kernel
theorem dyX12_doesRead_16 : decode cX12_doesRead 16 = .ok (.istore 4, 2) := by decide +kernel
theorem dyX12_doesRead_18 : decode cX12_doesRead 18 = .ok (.iload 4, 2) := by decide +kernel
theorem dyX12_doesRead_20 : decode cX12_doesRead 20 = .ok (.istore 5, 2) := by decide +kernel
theorem dyX12_doesRead_22 : decode cX12_doesRead 22 = .ok (.iload 5, 2) := by decide +kernel
theorem dyX12_doesRead_24 : decode cX12_doesRead 24 = .ok (.aload_n 0, 1) := by decide +kernel
theorem dyX12_doesRead_25 : decode cX12_doesRead 25 = .ok (.getfield 102, 3) := by decide +kernel
theorem dyX12_doesRead_28 : decode cX12_doesRead 28 = .ok (.iload 4, 2) := by decide +kernel
theorem dyX12_doesRead_30 : decode cX12_doesRead 30 = .ok (.iaload, 1) := by decide +kernel
theorem dyX12_doesRead_31 : decode cX12_doesRead 31 = .ok (.if_icmp .ge 50, 3) := by decide +kernel
theorem dyX12_doesRead_34 : decode cX12_doesRead 34 = .ok (.aload_n 0, 1) := by decide +kernel
theorem dyX12_doesRead_35 : decode cX12_doesRead 35 = .ok (.getfield 62, 3) := by decide +kernel
theorem dyX12_doesRead_38 : decode cX12_doesRead 38 = .ok (.aload_n 0, 1) := by decide +kernel
theorem dyX12_doesRead_39 : decode cX12_doesRead 39 = .ok (.getfield 99, 3) := by decide +kernel
theorem dyX12_doesRead_42 : decode cX12_doesRead 42 = .ok (.iload 5, 2) := by decide +kernel
theorem dyX12_doesRead_44 : decode cX12_doesRead 44 = .ok (.iaload, 1) := by decide +kernel
theorem dyX12_doesRead_45 : decode cX12_doesRead 45 = .ok (.iaload, 1) := by decide +kernel
theorem dyX12_doesRead_46 : decode cX12_doesRead 46 = .ok (.bipush 8, 2) := by decide +kernel
theorem dyX12_doesRead_48 : decode cX12_doesRead 48 = .ok (.if_icmp .ne 27, 3) := by decide +kernel
theorem dyX12_doesRead_51 : decode cX12_doesRead 51 = .ok (.aload_n 0, 1) := by decide +kernel
theorem dyX12_doesRead_52 : decode cX12_doesRead 52 = .ok (.getfield 68, 3) := by decide +kernel
theorem dyX12_doesRead_55 : decode cX12_doesRead 55 = .ok (.aload_n 0, 1) := by decide +kernel
theorem dyX12_doesRead_56 : decode cX12_doesRead 56 = .ok (.aload_n 0, 1) := by decide +kernel
theorem dyX12_doesRead_57 : decode cX12_doesRead 57 = .ok (.getfield 99, 3) := by decide +kernel
theorem dyX12_doesRead_60 : decode cX12_doesRead 60 = .ok (.iload 5, 2) := by decide +kernel
theorem dyX12_doesRead_62 : decode cX12_doesRead 62 = .ok (.iaload, 1) := by decide +kernel
theorem dyX12_doesRead_63 : decode cX12_doesRead 63 = .ok (.iconst 0, 1) := by decide +kernel
theorem dyX12_doesRead_64 : decode cX12_doesRead 64 = .ok (.invokevirtual 299, 3) := by decide +kernel
theorem dyX12_doesRead_67 : decode cX12_doesRead 67 = .ok (.laload, 1) := by decide +kernel
theorem dyX12_doesRead_68 : decode cX12_doesRead 68 = .ok (.lload_n 2, 1) := by decide +kernel
theorem dyX12_doesRead_69 : decode cX12_doesRead 69 = .ok (.lcmp, 1) := by decide +kernel
theorem dyX12_doesRead_70 : decode cX12_doesRead 70 = .ok (.ifCond .ne 5, 3) := by decide +kernel
theorem dyX12_doesRead_73 : decode cX12_doesRead 73 = .ok (.iconst 1, 1) := by decide +kernel
theorem dyX12_doesRead_74 : decode cX12_doesRead 74 = .ok (.ireturn, 1) := by decide +kernel
theorem dyX12_doesRead_75 : decode cX12_doesRead 75 = .ok (.iinc 5 1, 3) := by decide +kernel
theorem dyX12_doesRead_78 : decode cX12_doesRead 78 = .ok (.goto (-56), 3) := by decide +kernel
theorem dyX12_doesRead_81 : decode cX12_doesRead 81 = .ok (.iconst 0, 1) := by decide +kernel
theorem dyX12_doesRead_82 : decode cX12_doesRead 82 = .ok (.ireturn, 1) := by decide +kernel
theorem zsg_yX12_doesRead : yX12_doesRead.cls = RX12 ∧ yX12_doesRead.cls ≠ "java/lang/invoke/MethodHandle" ∧ yX12_doesRead.cls ≠ "java/lang/invoke/VarHandle" ∧ (parseMethodDescriptor yX12_doesRead.desc).map (fun d => d.parameters.length) = some 2 := by decide +kernel
set_option maxRecDepth 20000 in
theorem c_M_doesRead {l : Launch} {D : va_G} {B : Nat} {cA : Nat → ClassId} {ad : Nat → Nat} {S : List zC} (hS : zOkM S) {a1 : Int32} {a2 : Int64} {I : zI} {K : Int32 → Prop}  (h : w_M_doesRead a1 a2 I K) : Met l yX12_doesRead (zws yX12_doesRead cX12_doesRead 6 (some .boolean)) (zrm 1 22) (zPc D B cA ad [.ref (B + 491), .int a1, .long a2] S I) (zQc D B cA (zpI S I K)) 0 0 (fun q => B ≤ q) := by
  refine zm_of (cc := cX12_doesRead) (maxL := 6) (ret := (some .boolean)) (by decide +kernel) rfl (Nat.le_of_ble_eq_true rfl) trivial ?_
  intro p e s m args below meth c C _
  unfold w_M_doesRead at h
  show zX p l e (zrm 1 22) s m args below meth c (MQ below (zQc D B cA (zpI S I K)) args s 0 0 (fun q => B ≤ q)) D B cA 6 0 0 S I [(0, .ref (B + 491)), (1, .int a1), (2, .long a2)] [] 0
  refine zr_aload_n C dyX12_doesRead_0 rfl 0 rfl ?_
  refine zg_12_105 C hS dyX12_doesRead_1 ?_
  refine zr_aload_n C dyX12_doesRead_4 rfl 0 rfl ?_
  refine zr_aload_n C dyX12_doesRead_5 rfl 0 rfl ?_
  refine zg_12_123 C hS dyX12_doesRead_6 ?_
  refine zr_iload_n C dyX12_doesRead_9 rfl 1 rfl ?_
  refine zr_iald C (hS _ _ zs_529) h.1 dyX12_doesRead_10 ?_
  replace h := h.2
  refine zr_iconst C dyX12_doesRead_11 zc_i_2 ?_
  refine zv_12_299 C hS (st := [.ref (B + 523)]) h ⟨Nat.le_of_ble_eq_true rfl, Nat.le_of_ble_eq_true rfl⟩ (Nat.le_of_ble_eq_true rfl) dyX12_doesRead_12 (fun r_1 h => ?_)
  refine zr_iald C (hS _ _ zs_523) h.1 dyX12_doesRead_15 ?_
  replace h := h.2
  refine zn_istore C (fun v4_2 => [(4, .int v4_2), (0, .ref (B + 491)), (1, .int a1), (2, .long a2)]) dyX12_doesRead_16 (Nat.le_of_ble_eq_true rfl) (fun _ => rfl) (fun v4_2 ev4_2 => ?_)
  replace h := h v4_2 ev4_2
  refine zr_iload C dyX12_doesRead_18 0 rfl ?_
  refine zr_istore C dyX12_doesRead_20 (Nat.le_of_ble_eq_true rfl) (lv2 := [(5, .int v4_2), (4, .int v4_2), (0, .ref (B + 491)), (1, .int a1), (2, .long a2)]) rfl ?_
  refine zjn (h (fun (v5_3 : Int32) => zX p l e (zrm 1 22) s m args below meth c (MQ below (zQc D B cA (zpI S I K)) args s 0 0 (fun q => B ≤ q)) D B cA 6 0 0 S I [(5, .int v5_3), (4, .int v4_2), (0, .ref (B + 491)), (2, .long a2)] [] 22) (fun v5_3 h => ?_)) (fun h => ?_)
  · refine zr_iload C dyX12_doesRead_22 0 rfl ?_
    refine zr_aload_n C dyX12_doesRead_24 rfl 2 rfl ?_
    refine zg_12_102 C hS dyX12_doesRead_25 ?_
    refine zr_iload C dyX12_doesRead_28 1 rfl ?_
    refine zr_iald C (hS _ _ zs_522) h.1 dyX12_doesRead_30 ?_
    replace h := h.2
    refine zr_icmp_ge C dyX12_doesRead_31 (tgt := 81) (by decide) (fun hc_8 => ?_) (fun hc_8 => ?_)
    · replace h := zif_pos hc_8 h
      refine zr_iconst C dyX12_doesRead_81 zc_i_0 ?_
      exact zr_zret C rfl (zb.nar zb_0) dyX12_doesRead_82 ⟨rfl, rfl, _, rfl, h⟩
    · replace h := zif_neg hc_8 h
      refine zr_aload_n C dyX12_doesRead_34 rfl 2 rfl ?_
      refine zg_12_62 C hS dyX12_doesRead_35 ?_
      refine zr_aload_n C dyX12_doesRead_38 rfl 2 rfl ?_
      refine zg_12_99 C hS dyX12_doesRead_39 ?_
      refine zr_iload C dyX12_doesRead_42 0 rfl ?_
      refine zr_iald C (hS _ _ zs_521) h.1 dyX12_doesRead_44 ?_
      replace h := h.2
      refine zr_iald C (hS _ _ zs_509) h.1 dyX12_doesRead_45 ?_
      replace h := h.2
      refine zr_bipush C dyX12_doesRead_46 zc_b_8 ?_
      refine zjn (h (zX p l e (zrm 1 22) s m args below meth c (MQ below (zQc D B cA (zpI S I K)) args s 0 0 (fun q => B ≤ q)) D B cA 6 0 0 S I [(5, .int v5_3), (4, .int v4_2), (0, .ref (B + 491)), (2, .long a2)] [] 75) (fun  h => ?_)) (fun h => ?_)
      · refine zn_iinc C (fun v5_4 => [(5, .int v5_4), (4, .int v4_2), (0, .ref (B + 491)), (2, .long a2)]) dyX12_doesRead_75 0 rfl zc_i_1 (Nat.le_of_ble_eq_true rfl) (fun _ => rfl) (fun v5_4 ev5_4 => ?_)
        replace h := h v5_4 ev5_4
        refine zr_goto C dyX12_doesRead_78 (tgt := 22) (by decide) ?_
        exact h
      refine zr_icmp_ne C dyX12_doesRead_48 (tgt := 75) (by decide) (fun hc_7 => ?_) (fun hc_7 => ?_)
      · replace h := zif_neg hc_7 h
        exact h
      · replace h := zif_pos hc_7 h
        refine zr_aload_n C dyX12_doesRead_51 rfl 2 rfl ?_
        refine zg_12_68 C hS dyX12_doesRead_52 ?_
        refine zr_aload_n C dyX12_doesRead_55 rfl 2 rfl ?_
        refine zr_aload_n C dyX12_doesRead_56 rfl 2 rfl ?_
        refine zg_12_99 C hS dyX12_doesRead_57 ?_
        refine zr_iload C dyX12_doesRead_60 0 rfl ?_
        refine zr_iald C (hS _ _ zs_521) h.1 dyX12_doesRead_62 ?_
        replace h := h.2
        refine zr_iconst C dyX12_doesRead_63 zc_i_0 ?_
        refine zv_12_299 C hS (st := [.ref (B + 511)]) h ⟨Nat.le_of_ble_eq_true rfl, Nat.le_of_ble_eq_true rfl⟩ (Nat.le_of_ble_eq_true rfl) dyX12_doesRead_64 (fun r_5 h => ?_)
        refine zr_lald C (hS _ _ zs_511) h.1 dyX12_doesRead_67 ?_
        replace h := h.2
        refine zr_lload_n C dyX12_doesRead_68 rfl 3 rfl ?_
        refine zr_lcmp C dyX12_doesRead_69 ?_
        refine zr_if_ne C dyX12_doesRead_70 (tgt := 75) (by decide) (fun hc_6 => ?_) (fun hc_6 => ?_)
        · replace h := zif_neg hc_6 h
          exact h
        · replace h := zif_pos hc_6 h
          refine zr_iconst C dyX12_doesRead_73 zc_i_1 ?_
          exact zr_zret C rfl (zb.nar zb_1) dyX12_doesRead_74 ⟨rfl, rfl, _, rfl, h⟩
  refine zr_sub (lv2 := [(5, .int v4_2), (4, .int v4_2), (0, .ref (B + 491)), (2, .long a2)]) [0, 1, 2, 4] rfl ?_
  exact h
def w_M_uses (a1 : Int32) (I : zI) (K : Int32 → Prop) : Prop :=
  w_M_isGoodName a1 I (fun r_1 => (if r_1 = 0 then (K (-1)) else (vp_in a1 110 ∧ (vp_in (I.1 508 (Int32.toNatClampNeg a1)) 3700 ∧ (∀ v2_2, v2_2 = (I.1 523 (Int32.toNatClampNeg (I.1 508 (Int32.toNatClampNeg a1)))) → vp_in a1 110 ∧ (vp_in (I.1 508 (Int32.toNatClampNeg a1)) 3700 ∧ (vp_in (I.1 524 (Int32.toNatClampNeg (I.1 508 (Int32.toNatClampNeg a1)))) 3700 ∧ (if (I.1 509 (Int32.toNatClampNeg (I.1 524 (Int32.toNatClampNeg (I.1 508 (Int32.toNatClampNeg a1)))))) = 2 then (K (-2)) else (∀ (P51 : Int32 → Int32 → Prop), (∀ (v3_3 : Int32) (v4_4 : Int32), ((if (I.1 491 53) ≤ v4_4 then K v3_3 else (vp_in v4_4 110 ∧ (vp_in (I.1 529 (Int32.toNatClampNeg v4_4)) 3700 ∧ (vp_in (I.1 523 (Int32.toNatClampNeg (I.1 529 (Int32.toNatClampNeg v4_4)))) 700 ∧ (if v2_2 < (I.1 522 (Int32.toNatClampNeg (I.1 523 (Int32.toNatClampNeg (I.1 529 (Int32.toNatClampNeg v4_4)))))) then K v3_3 else (w_M_setName v4_4 I (fun r_5 => vp_in a1 110 ∧ (∀ (P105 : Int32 → Prop), (∀ (v3_6 : Int32), (∀ v4_7, v4_7 = (v4_4 + 1) → P51 v3_6 v4_7) → P105 v3_6) → (if (lg_cmp r_5 (I.2 507 (Int32.toNatClampNeg a1))) = 0 then (vp_in v4_4 110 ∧ (∀ v3_8, v3_8 = (I.1 529 (Int32.toNatClampNeg v4_4)) → P105 v3_8)) else P105 v3_3)))))))))) → P51 v3_3 v4_4) → P51 (-2) 0)))))))))
theorem dyX12_uses_0 : decode cX12_uses 0 = .ok (.aload_n 0, 1) := by decide +kernel
theorem dyX12_uses_1 : decode cX12_uses 1 = .ok (.iload_n 1, 1) := by decide +kernel
theorem dyX12_uses_2 : decode cX12_uses 2 = .ok (.invokevirtual 394, 3) := by decide +kernel
theorem dyX12_uses_5 : decode cX12_uses 5 = .ok (.ifCond .ne 5, 3) := by decide +kernel
theorem dyX12_uses_8 : decode cX12_uses 8 = .ok (.iconst (-1), 1) := by decide +kernel
theorem dyX12_uses_9 : decode cX12_uses 9 = .ok (.ireturn, 1) := by decide +kernel
theorem dyX12_uses_10 : decode cX12_uses 10 = .ok (.aload_n 0, 1) := by decide +kernel
theorem dyX12_uses_11 : decode cX12_uses 11 = .ok (.getfield 105, 3) := by decide +kernel
theorem dyX12_uses_14 : decode cX12_uses 14 = .ok (.aload_n 0, 1) := by decide +kernel
theorem dyX12_uses_15 : decode cX12_uses 15 = .ok (.getfield 59, 3) := by decide +kernel
theorem dyX12_uses_18 : decode cX12_uses 18 = .ok (.iload_n 1, 1) := by decide +kernel
theorem dyX12_uses_19 : decode cX12_uses 19 = .ok (.iaload, 1) := by decide +kernel
theorem dyX12_uses_20 : decode cX12_uses 20 = .ok (.iaload, 1) := by decide +kernel
theorem dyX12_uses_21 : decode cX12_uses 21 = .ok (.istore_n 2, 1) := by decide +kernel
theorem dyX12_uses_22 : decode cX12_uses 22 = .ok (.aload_n 0, 1) := by decide +kernel
theorem dyX12_uses_23 : decode cX12_uses 23 = .ok (.getfield 62, 3) := by decide +kernel
theorem dyX12_uses_26 : decode cX12_uses 26 = .ok (.aload_n 0, 1) := by decide +kernel
theorem dyX12_uses_27 : decode cX12_uses 27 = .ok (.getfield 108, 3) := by decide +kernel
theorem dyX12_uses_30 : decode cX12_uses 30 = .ok (.aload_n 0, 1) := by decide +kernel
theorem dyX12_uses_31 : decode cX12_uses 31 = .ok (.getfield 59, 3) := by decide +kernel
theorem dyX12_uses_34 : decode cX12_uses 34 = .ok (.iload_n 1, 1) := by decide +kernel
theorem dyX12_uses_35 : decode cX12_uses 35 = .ok (.iaload, 1) := by decide +kernel
theorem dyX12_uses_36 : decode cX12_uses 36 = .ok (.iaload, 1) := by decide +kernel
theorem dyX12_uses_37 : decode cX12_uses 37 = .ok (.iaload, 1) := by decide +kernel
theorem dyX12_uses_38 : decode cX12_uses 38 = .ok (.iconst 2, 1) := by decide +kernel
theorem dyX12_uses_39 : decode cX12_uses 39 = .ok (.if_icmp .ne 6, 3) := by decide +kernel
theorem dyX12_uses_42 : decode cX12_uses 42 = .ok (.bipush (-2), 2) := by decide +kernel
theorem dyX12_uses_44 : decode cX12_uses 44 = .ok (.ireturn, 1) := by decide +kernel
theorem dyX12_uses_45 : decode cX12_uses 45 = .ok (.bipush (-2), 2) := by decide +kernel
theorem dyX12_uses_47 : decode cX12_uses 47 = .ok (.istore_n 3, 1) := by decide +kernel
theorem dyX12_uses_48 : decode cX12_uses 48 = .ok (.iconst 0, 1) := by decide +kernel
theorem dyX12_uses_49 : decode cX12_uses 49 = .ok (.istore 4, 2) := by decide +kernel
theorem dyX12_uses_51 : decode cX12_uses 51 = .ok (.iload 4, 2) := by decide +kernel
theorem dyX12_uses_53 : decode cX12_uses 53 = .ok (.aload_n 0, 1) := by decide +kernel
theorem dyX12_uses_54 : decode cX12_uses 54 = .ok (.getfield 293, 3) := by decide +kernel
theorem dyX12_uses_57 : decode cX12_uses 57 = .ok (.if_icmp .ge 54, 3) := by decide +kernel
theorem dyX12_uses_60 : decode cX12_uses 60 = .ok (.aload_n 0, 1) := by decide +kernel
theorem dyX12_uses_61 : decode cX12_uses 61 = .ok (.getfield 102, 3) := by decide +kernel
theorem dyX12_uses_64 : decode cX12_uses 64 = .ok (.aload_n 0, 1) := by decide +kernel
theorem dyX12_uses_65 : decode cX12_uses 65 = .ok (.getfield 105, 3) := by decide +kernel
theorem dyX12_uses_68 : decode cX12_uses 68 = .ok (.aload_n 0, 1) := by decide +kernel
theorem dyX12_uses_69 : decode cX12_uses 69 = .ok (.getfield 123, 3) := by decide +kernel
theorem dyX12_uses_72 : decode cX12_uses 72 = .ok (.iload 4, 2) := by decide +kernel
theorem dyX12_uses_74 : decode cX12_uses 74 = .ok (.iaload, 1) := by decide +kernel
theorem dyX12_uses_75 : decode cX12_uses 75 = .ok (.iaload, 1) := by decide +kernel
theorem dyX12_uses_76 : decode cX12_uses 76 = .ok (.iaload, 1) := by decide +kernel
theorem dyX12_uses_77 : decode cX12_uses 77 = .ok (.iload_n 2, 1) := by decide +kernel
theorem dyX12_uses_78 : decode cX12_uses 78 = .ok (.if_icmp .gt 33, 3) := by decide +kernel
theorem dyX12_uses_81 : decode cX12_uses 81 = .ok (.aload_n 0, 1) := by decide +kernel
theorem dyX12_uses_82 : decode cX12_uses 82 = .ok (.iload 4, 2) := by decide +kernel
theorem dyX12_uses_84 : decode cX12_uses 84 = .ok (.invokevirtual 451, 3) := by decide +kernel
theorem dyX12_uses_87 : decode cX12_uses 87 = .ok (.aload_n 0, 1) := by decide +kernel
theorem dyX12_uses_88 : decode cX12_uses 88 = .ok (.getfield 56, 3) := by decide +kernel
theorem dyX12_uses_91 : decode cX12_uses 91 = .ok (.iload_n 1, 1) := by decide +kernel
theorem dyX12_uses_92 : decode cX12_uses 92 = .ok (.laload, 1) := by decide +kernel
theorem dyX12_uses_93 : decode cX12_uses 93 = .ok (.lcmp, 1) := by decide +kernel
theorem dyX12_uses_94 : decode cX12_uses 94 = .ok (.ifCond .ne 11, 3) := by decide +kernel
theorem dyX12_uses_97 : decode cX12_uses 97 = .ok (.aload_n 0, 1) := by decide +kernel
theorem dyX12_uses_98 : decode cX12_uses 98 = .ok (.getfield 123, 3) := by decide +kernel
theorem dyX12_uses_101 : decode cX12_uses 101 = .ok (.iload 4, 2) := by decide +kernel
theorem dyX12_uses_103 : decode cX12_uses 103 = .ok (.iaload, 1) := by decide +kernel
theorem dyX12_uses_104 : decode cX12_uses 104 = .ok (.istore_n 3, 1) := by decide +kernel
theorem dyX12_uses_105 : decode cX12_uses 105 = .ok (.iinc 4 1, 3) := by decide +kernel
theorem dyX12_uses_108 : decode cX12_uses 108 = .ok (.goto (-57), 3) := by decide +kernel
theorem dyX12_uses_111 : decode cX12_uses 111 = .ok (.iload_n 3, 1) := by decide +kernel
theorem dyX12_uses_112 : decode cX12_uses 112 = .ok (.ireturn, 1) := by decide +kernel
theorem zsg_yX12_uses : yX12_uses.cls = RX12 ∧ yX12_uses.cls ≠ "java/lang/invoke/MethodHandle" ∧ yX12_uses.cls ≠ "java/lang/invoke/VarHandle" ∧ (parseMethodDescriptor yX12_uses.desc).map (fun d => d.parameters.length) = some 1 := by decide +kernel
set_option maxRecDepth 20000 in
theorem c_M_uses {l : Launch} {D : va_G} {B : Nat} {cA : Nat → ClassId} {ad : Nat → Nat} {S : List zC} (hS : zOkM S) {a1 : Int32} {I : zI} {K : Int32 → Prop}  (h : w_M_uses a1 I K) : Met l yX12_uses (zws yX12_uses cX12_uses 5 (some .int)) (zrm 2 43) (zPc D B cA ad [.ref (B + 491), .int a1] S I) (zQc D B cA (zpI S I K)) 0 0 (fun q => B ≤ q) := by
  refine zm_of (cc := cX12_uses) (maxL := 5) (ret := (some .int)) (by decide +kernel) rfl (Nat.le_of_ble_eq_true rfl) trivial ?_
  intro p e s m args below meth c C _
  unfold w_M_uses at h
  show zX p l e (zrm 2 43) s m args below meth c (MQ below (zQc D B cA (zpI S I K)) args s 0 0 (fun q => B ≤ q)) D B cA 5 0 0 S I [(0, .ref (B + 491)), (1, .int a1)] [] 0
  refine zr_aload_n C dyX12_uses_0 rfl 0 rfl ?_
  refine zr_iload_n C dyX12_uses_1 rfl 1 rfl ?_
  refine zv_12_394 C hS (st := []) h ⟨Nat.le_of_ble_eq_true rfl, Nat.le_of_ble_eq_true rfl⟩ (Nat.le_of_ble_eq_true rfl) dyX12_uses_2 (fun r_1 h => ?_)
  refine zr_if_ne C dyX12_uses_5 (tgt := 10) (by decide) (fun hc_13 => ?_) (fun hc_13 => ?_)
  · replace h := zif_neg hc_13 h
    refine zr_aload_n C dyX12_uses_10 rfl 0 rfl ?_
    refine zg_12_105 C hS dyX12_uses_11 ?_
    refine zr_aload_n C dyX12_uses_14 rfl 0 rfl ?_
    refine zg_12_59 C hS dyX12_uses_15 ?_
    refine zr_iload_n C dyX12_uses_18 rfl 1 rfl ?_
    refine zr_iald C (hS _ _ zs_508) h.1 dyX12_uses_19 ?_
    replace h := h.2
    refine zr_iald C (hS _ _ zs_523) h.1 dyX12_uses_20 ?_
    replace h := h.2
    refine zn_istore_n C (fun v2_2 => [(2, .int v2_2), (0, .ref (B + 491)), (1, .int a1)]) dyX12_uses_21 rfl (Nat.le_of_ble_eq_true rfl) (fun _ => rfl) (fun v2_2 ev2_2 => ?_)
    replace h := h v2_2 ev2_2
    refine zr_aload_n C dyX12_uses_22 rfl 1 rfl ?_
    refine zg_12_62 C hS dyX12_uses_23 ?_
    refine zr_aload_n C dyX12_uses_26 rfl 1 rfl ?_
    refine zg_12_108 C hS dyX12_uses_27 ?_
    refine zr_aload_n C dyX12_uses_30 rfl 1 rfl ?_
    refine zg_12_59 C hS dyX12_uses_31 ?_
    refine zr_iload_n C dyX12_uses_34 rfl 2 rfl ?_
    refine zr_iald C (hS _ _ zs_508) h.1 dyX12_uses_35 ?_
    replace h := h.2
    refine zr_iald C (hS _ _ zs_524) h.1 dyX12_uses_36 ?_
    replace h := h.2
    refine zr_iald C (hS _ _ zs_509) h.1 dyX12_uses_37 ?_
    replace h := h.2
    refine zr_iconst C dyX12_uses_38 zc_i_2 ?_
    refine zr_icmp_ne C dyX12_uses_39 (tgt := 45) (by decide) (fun hc_12 => ?_) (fun hc_12 => ?_)
    · replace h := zif_neg hc_12 h
      refine zr_bipush C dyX12_uses_45 zc_b_m2 ?_
      refine zr_istore_n C dyX12_uses_47 rfl (Nat.le_of_ble_eq_true rfl) (lv2 := [(3, .int (-2)), (2, .int v2_2), (0, .ref (B + 491)), (1, .int a1)]) rfl ?_
      refine zr_iconst C dyX12_uses_48 zc_i_0 ?_
      refine zr_istore C dyX12_uses_49 (Nat.le_of_ble_eq_true rfl) (lv2 := [(4, .int 0), (3, .int (-2)), (2, .int v2_2), (0, .ref (B + 491)), (1, .int a1)]) rfl ?_
      refine zjn (h (fun (v3_3 : Int32) (v4_4 : Int32) => zX p l e (zrm 2 43) s m args below meth c (MQ below (zQc D B cA (zpI S I K)) args s 0 0 (fun q => B ≤ q)) D B cA 5 0 0 S I [(4, .int v4_4), (3, .int v3_3), (2, .int v2_2), (0, .ref (B + 491)), (1, .int a1)] [] 51) (fun v3_3 v4_4 h => ?_)) (fun h => ?_)
      · refine zr_iload C dyX12_uses_51 0 rfl ?_
        refine zr_aload_n C dyX12_uses_53 rfl 3 rfl ?_
        refine zg_12_293 C hS dyX12_uses_54 ?_
        refine zr_icmp_ge C dyX12_uses_57 (tgt := 111) (by decide) (fun hc_11 => ?_) (fun hc_11 => ?_)
        · replace h := zif_pos hc_11 h
          refine zr_iload_n C dyX12_uses_111 rfl 1 rfl ?_
          exact zr_iret C rfl dyX12_uses_112 ⟨rfl, rfl, _, rfl, h⟩
        · replace h := zif_neg hc_11 h
          refine zr_aload_n C dyX12_uses_60 rfl 3 rfl ?_
          refine zg_12_102 C hS dyX12_uses_61 ?_
          refine zr_aload_n C dyX12_uses_64 rfl 3 rfl ?_
          refine zg_12_105 C hS dyX12_uses_65 ?_
          refine zr_aload_n C dyX12_uses_68 rfl 3 rfl ?_
          refine zg_12_123 C hS dyX12_uses_69 ?_
          refine zr_iload C dyX12_uses_72 0 rfl ?_
          refine zr_iald C (hS _ _ zs_529) h.1 dyX12_uses_74 ?_
          replace h := h.2
          refine zr_iald C (hS _ _ zs_523) h.1 dyX12_uses_75 ?_
          replace h := h.2
          refine zr_iald C (hS _ _ zs_522) h.1 dyX12_uses_76 ?_
          replace h := h.2
          refine zr_iload_n C dyX12_uses_77 rfl 2 rfl ?_
          refine zr_icmp_gt C dyX12_uses_78 (tgt := 111) (by decide) (fun hc_10 => ?_) (fun hc_10 => ?_)
          · replace h := zif_pos hc_10 h
            refine zr_iload_n C dyX12_uses_111 rfl 1 rfl ?_
            exact zr_iret C rfl dyX12_uses_112 ⟨rfl, rfl, _, rfl, h⟩
          · replace h := zif_neg hc_10 h
            refine zr_aload_n C dyX12_uses_81 rfl 3 rfl ?_
            refine zr_iload C dyX12_uses_82 0 rfl ?_
            refine zv_12_451 C hS (st := []) h ⟨Nat.le_of_ble_eq_true rfl, Nat.le_of_ble_eq_true rfl⟩ (Nat.le_of_ble_eq_true rfl) dyX12_uses_84 (fun r_5 h => ?_)
            refine zr_aload_n C dyX12_uses_87 rfl 3 rfl ?_
            refine zg_12_56 C hS dyX12_uses_88 ?_
            refine zr_iload_n C dyX12_uses_91 rfl 4 rfl ?_
            refine zr_lald C (hS _ _ zs_507) h.1 dyX12_uses_92 ?_
            replace h := h.2
            refine zr_lcmp C dyX12_uses_93 ?_
            refine zjn (h (fun (v3_6 : Int32) => zX p l e (zrm 2 43) s m args below meth c (MQ below (zQc D B cA (zpI S I K)) args s 0 0 (fun q => B ≤ q)) D B cA 5 0 0 S I [(4, .int v4_4), (3, .int v3_6), (2, .int v2_2), (0, .ref (B + 491)), (1, .int a1)] [] 105) (fun v3_6 h => ?_)) (fun h => ?_)
            · refine zn_iinc C (fun v4_7 => [(4, .int v4_7), (3, .int v3_6), (2, .int v2_2), (0, .ref (B + 491)), (1, .int a1)]) dyX12_uses_105 0 rfl zc_i_1 (Nat.le_of_ble_eq_true rfl) (fun _ => rfl) (fun v4_7 ev4_7 => ?_)
              replace h := h v4_7 ev4_7
              refine zr_goto C dyX12_uses_108 (tgt := 51) (by decide) ?_
              exact h
            refine zr_if_ne C dyX12_uses_94 (tgt := 105) (by decide) (fun hc_9 => ?_) (fun hc_9 => ?_)
            · replace h := zif_neg hc_9 h
              exact h
            · replace h := zif_pos hc_9 h
              refine zr_aload_n C dyX12_uses_97 rfl 3 rfl ?_
              refine zg_12_123 C hS dyX12_uses_98 ?_
              refine zr_iload C dyX12_uses_101 0 rfl ?_
              refine zr_iald C (hS _ _ zs_529) h.1 dyX12_uses_103 ?_
              replace h := h.2
              refine zn_istore_n C (fun v3_8 => [(3, .int v3_8), (4, .int v4_4), (2, .int v2_2), (0, .ref (B + 491)), (1, .int a1)]) dyX12_uses_104 rfl (Nat.le_of_ble_eq_true rfl) (fun _ => rfl) (fun v3_8 ev3_8 => ?_)
              replace h := h v3_8 ev3_8
              refine zr_sub (lv2 := [(4, .int v4_4), (3, .int v3_8), (2, .int v2_2), (0, .ref (B + 491)), (1, .int a1)]) [1, 0, 2, 3, 4] rfl ?_
              exact h
      exact h
    · replace h := zif_pos hc_12 h
      refine zr_bipush C dyX12_uses_42 zc_b_m2 ?_
      exact zr_iret C rfl dyX12_uses_44 ⟨rfl, rfl, _, rfl, h⟩
  · replace h := zif_pos hc_13 h
    refine zr_iconst C dyX12_uses_8 zc_i_m1 ?_
    exact zr_iret C rfl dyX12_uses_9 ⟨rfl, rfl, _, rfl, h⟩
theorem zv_12_455 {p : Program} {l : Launch} {e : Env} {R : Room} {s : State} {m : MethodId} {args : Array Value} {below : List Frame} {meth : Method} {c : Code} {Q : State → Prop} {D : va_G} {B : Nat} {cA : Nat → ClassId} {ad : Nat → Nat} {cc : ByteArray} {nL : Nat} {ret : Option FieldType} {S : List zC} {I : zI} {lv : List (Nat × Value)} {st : List Value} {pc : Nat} (C : zCx p s m args meth c cc nL RX12 ret D B cA ad) {K : Int32 → Prop} {xa1 : Int32} {xa2 : Int64} (hS : zOkM S)  (h : w_M_doesRead xa1 xa2 I K) (hR : 1 + 1 ≤ R.frames ∧ 8 + (6 + 11) + (22) ≤ R.locals) (hw : (st.map fun v => v.category).sum ≤ 8) (hd : decode cc pc = .ok (.invokevirtual 455, 3)) (kk : ∀ v, K v → zX p l e R s m args below meth c Q D B cA nL 0 0 S I lv (.int v :: st) (pc + 3)) : zX p l e R s m args below meth c Q D B cA nL 0 0 S I lv (.long xa2 :: .int xa1 :: .ref (B + 491) :: st) pc :=
  have hf : 0 ≤ R.cells ∧ 0 ≤ R.slots := ⟨Nat.zero_le _, Nat.zero_le _⟩
  zc_VpI C (ci := 12) (q := (RX12, TX12, 82)) (k := 491) (fs := [none, some (some 492), some (some 493), none, some (some 494), none, some (some 495), none, none, none, some (some 496), some (some 497), some (some 498), some (some 499), some (some 500), none, some (some 501), some (some 502), some (some 503), none, some (some 504), some (some 505), some (some 506), some (some 507), some (some 508), none, some (some 509), some (some 510), some (some 511), some (some 512), some (some 513), some (some 514), some (some 515), some (some 516), some (some 517), some (some 518), none, none, some (some 519), none, some (some 520), none, none, none, some (some 521), some (some 522), some (some 523), some (some 524), some (some 525), some (some 526), some (some 527), none, some (some 528), none, some (some 529), none, some (some 530), some (some 531), some (some 532), none, some (some 533), some (some 534), some (some 535), some (some 536), some (some 537), none, none, none, some (some 538), some (some 539), some (some 540), none, none, none, some (some 541), none, none, some (some 542), some (some 543), some (some 544), none, some (some 545)]) (As := [.int xa1, .long xa2]) (st := st) rfl (hS _ _ zs_491) (c_M_doesRead hS h) (zgV zk_ml_12_455 zk_im_yX12_doesRead zk_se_yX12_doesRead zk_in_12 zk_cd_yX12_doesRead) zsg_yX12_doesRead hR rfl rfl hw hd hf kk
def w_M_isIdle (a1 : Int32) (I : zI) (K : Int32 → Prop) : Prop :=
  ∀ v2_1, v2_1 = (a1 + 1) → ∀ (P4 : Int32 → Prop), (∀ (v2_2 : Int32), ((if (I.1 491 53) ≤ v2_2 then K 0 else (w_M_setName a1 I (fun r_3 => w_M_doesRead v2_2 r_3 I (fun r_4 => (if r_4 = 0 then (w_M_setName v2_2 I (fun r_5 => w_M_setName a1 I (fun r_6 => (if (lg_cmp r_5 r_6) = 0 then K 1 else (∀ v2_7, v2_7 = (v2_2 + 1) → P4 v2_7))))) else K 0)))))) → P4 v2_2) → P4 v2_1
theorem dyX12_isIdle_0 : decode cX12_isIdle 0 = .ok (.iload_n 1, 1) := by decide +kernel
theorem dyX12_isIdle_1 : decode cX12_isIdle 1 = .ok (.iconst 1, 1) := by decide +kernel
theorem dyX12_isIdle_2 : decode cX12_isIdle 2 = .ok (.iadd, 1) := by decide +kernel
theorem dyX12_isIdle_3 : decode cX12_isIdle 3 = .ok (.istore_n 2, 1) := by decide +kernel
theorem dyX12_isIdle_4 : decode cX12_isIdle 4 = .ok (.iload_n 2, 1) := by decide +kernel
theorem dyX12_isIdle_5 : decode cX12_isIdle 5 = .ok (.aload_n 0, 1) := by decide +kernel
theorem dyX12_isIdle_6 : decode cX12_isIdle 6 = .ok (.getfield 293, 3) := by decide +kernel
theorem dyX12_isIdle_9 : decode cX12_isIdle 9 = .ok (.if_icmp .ge 40, 3) := by decide +kernel
theorem dyX12_isIdle_12 : decode cX12_isIdle 12 = .ok (.aload_n 0, 1) := by decide +kernel
theorem dyX12_isIdle_13 : decode cX12_isIdle 13 = .ok (.iload_n 2, 1) := by decide +kernel
theorem dyX12_isIdle_14 : decode cX12_isIdle 14 = .ok (.aload_n 0, 1) := by decide +kernel
theorem dyX12_isIdle_15 : decode cX12_isIdle 15 = .ok (.iload_n 1, 1) := by decide +kernel
theorem dyX12_isIdle_16 : decode cX12_isIdle 16 = .ok (.invokevirtual 451, 3) := by decide +kernel
theorem dyX12_isIdle_19 : decode cX12_isIdle 19 = .ok (.invokevirtual 455, 3) := by decide +kernel
theorem dyX12_isIdle_22 : decode cX12_isIdle 22 = .ok (.ifCond .eq 5, 3) := by decide +kernel
theorem dyX12_isIdle_25 : decode cX12_isIdle 25 = .ok (.iconst 0, 1) := by decide +kernel
theorem dyX12_isIdle_26 : decode cX12_isIdle 26 = .ok (.ireturn, 1) := by decide +kernel
theorem dyX12_isIdle_27 : decode cX12_isIdle 27 = .ok (.aload_n 0, 1) := by decide +kernel
theorem dyX12_isIdle_28 : decode cX12_isIdle 28 = .ok (.iload_n 2, 1) := by decide +kernel
theorem dyX12_isIdle_29 : decode cX12_isIdle 29 = .ok (.invokevirtual 451, 3) := by decide +kernel
theorem dyX12_isIdle_32 : decode cX12_isIdle 32 = .ok (.aload_n 0, 1) := by decide +kernel
theorem dyX12_isIdle_33 : decode cX12_isIdle 33 = .ok (.iload_n 1, 1) := by decide +kernel
theorem dyX12_isIdle_34 : decode cX12_isIdle 34 = .ok (.invokevirtual 451, 3) := by decide +kernel
theorem dyX12_isIdle_37 : decode cX12_isIdle 37 = .ok (.lcmp, 1) := by decide +kernel
theorem dyX12_isIdle_38 : decode cX12_isIdle 38 = .ok (.ifCond .ne 5, 3) := by decide +kernel
theorem dyX12_isIdle_41 : decode cX12_isIdle 41 = .ok (.iconst 1, 1) := by decide +kernel
theorem dyX12_isIdle_42 : decode cX12_isIdle 42 = .ok (.ireturn, 1) := by decide +kernel
theorem dyX12_isIdle_43 : decode cX12_isIdle 43 = .ok (.iinc 2 1, 3) := by decide +kernel
theorem dyX12_isIdle_46 : decode cX12_isIdle 46 = .ok (.goto (-42), 3) := by decide +kernel
theorem dyX12_isIdle_49 : decode cX12_isIdle 49 = .ok (.iconst 0, 1) := by decide +kernel
theorem dyX12_isIdle_50 : decode cX12_isIdle 50 = .ok (.ireturn, 1) := by decide +kernel
theorem zsg_yX12_isIdle : yX12_isIdle.cls = RX12 ∧ yX12_isIdle.cls ≠ "java/lang/invoke/MethodHandle" ∧ yX12_isIdle.cls ≠ "java/lang/invoke/VarHandle" ∧ (parseMethodDescriptor yX12_isIdle.desc).map (fun d => d.parameters.length) = some 1 := by decide +kernel
set_option maxRecDepth 20000 in
theorem c_M_isIdle {l : Launch} {D : va_G} {B : Nat} {cA : Nat → ClassId} {ad : Nat → Nat} {S : List zC} (hS : zOkM S) {a1 : Int32} {I : zI} {K : Int32 → Prop}  (h : w_M_isIdle a1 I K) : Met l yX12_isIdle (zws yX12_isIdle cX12_isIdle 3 (some .boolean)) (zrm 2 47) (zPc D B cA ad [.ref (B + 491), .int a1] S I) (zQc D B cA (zpI S I K)) 0 0 (fun q => B ≤ q) := by
  refine zm_of (cc := cX12_isIdle) (maxL := 3) (ret := (some .boolean)) (by decide +kernel) rfl (Nat.le_of_ble_eq_true rfl) trivial ?_
  intro p e s m args below meth c C _
  unfold w_M_isIdle at h
  show zX p l e (zrm 2 47) s m args below meth c (MQ below (zQc D B cA (zpI S I K)) args s 0 0 (fun q => B ≤ q)) D B cA 3 0 0 S I [(0, .ref (B + 491)), (1, .int a1)] [] 0
  refine zr_iload_n C dyX12_isIdle_0 rfl 1 rfl ?_
  refine zr_iconst C dyX12_isIdle_1 zc_i_1 ?_
  refine zr_iadd C dyX12_isIdle_2 ?_
  refine zn_istore_n C (fun v2_1 => [(2, .int v2_1), (0, .ref (B + 491)), (1, .int a1)]) dyX12_isIdle_3 rfl (Nat.le_of_ble_eq_true rfl) (fun _ => rfl) (fun v2_1 ev2_1 => ?_)
  replace h := h v2_1 ev2_1
  refine zjn (h (fun (v2_2 : Int32) => zX p l e (zrm 2 47) s m args below meth c (MQ below (zQc D B cA (zpI S I K)) args s 0 0 (fun q => B ≤ q)) D B cA 3 0 0 S I [(2, .int v2_2), (0, .ref (B + 491)), (1, .int a1)] [] 4) (fun v2_2 h => ?_)) (fun h => ?_)
  · refine zr_iload_n C dyX12_isIdle_4 rfl 0 rfl ?_
    refine zr_aload_n C dyX12_isIdle_5 rfl 1 rfl ?_
    refine zg_12_293 C hS dyX12_isIdle_6 ?_
    refine zr_icmp_ge C dyX12_isIdle_9 (tgt := 49) (by decide) (fun hc_10 => ?_) (fun hc_10 => ?_)
    · replace h := zif_pos hc_10 h
      refine zr_iconst C dyX12_isIdle_49 zc_i_0 ?_
      exact zr_zret C rfl (zb.nar zb_0) dyX12_isIdle_50 ⟨rfl, rfl, _, rfl, h⟩
    · replace h := zif_neg hc_10 h
      refine zr_aload_n C dyX12_isIdle_12 rfl 1 rfl ?_
      refine zr_iload_n C dyX12_isIdle_13 rfl 0 rfl ?_
      refine zr_aload_n C dyX12_isIdle_14 rfl 1 rfl ?_
      refine zr_iload_n C dyX12_isIdle_15 rfl 2 rfl ?_
      refine zv_12_451 C hS (st := [.int v2_2, .ref (B + 491)]) h ⟨Nat.le_of_ble_eq_true rfl, Nat.le_of_ble_eq_true rfl⟩ (Nat.le_of_ble_eq_true rfl) dyX12_isIdle_16 (fun r_3 h => ?_)
      refine zv_12_455 C hS (st := []) h ⟨Nat.le_of_ble_eq_true rfl, Nat.le_of_ble_eq_true rfl⟩ (Nat.le_of_ble_eq_true rfl) dyX12_isIdle_19 (fun r_4 h => ?_)
      refine zr_if_eq C dyX12_isIdle_22 (tgt := 27) (by decide) (fun hc_9 => ?_) (fun hc_9 => ?_)
      · replace h := zif_pos hc_9 h
        refine zr_aload_n C dyX12_isIdle_27 rfl 1 rfl ?_
        refine zr_iload_n C dyX12_isIdle_28 rfl 0 rfl ?_
        refine zv_12_451 C hS (st := []) h ⟨Nat.le_of_ble_eq_true rfl, Nat.le_of_ble_eq_true rfl⟩ (Nat.le_of_ble_eq_true rfl) dyX12_isIdle_29 (fun r_5 h => ?_)
        refine zr_aload_n C dyX12_isIdle_32 rfl 1 rfl ?_
        refine zr_iload_n C dyX12_isIdle_33 rfl 2 rfl ?_
        refine zv_12_451 C hS (st := [.long r_5]) h ⟨Nat.le_of_ble_eq_true rfl, Nat.le_of_ble_eq_true rfl⟩ (Nat.le_of_ble_eq_true rfl) dyX12_isIdle_34 (fun r_6 h => ?_)
        refine zr_lcmp C dyX12_isIdle_37 ?_
        refine zr_if_ne C dyX12_isIdle_38 (tgt := 43) (by decide) (fun hc_8 => ?_) (fun hc_8 => ?_)
        · replace h := zif_neg hc_8 h
          refine zn_iinc C (fun v2_7 => [(2, .int v2_7), (0, .ref (B + 491)), (1, .int a1)]) dyX12_isIdle_43 0 rfl zc_i_1 (Nat.le_of_ble_eq_true rfl) (fun _ => rfl) (fun v2_7 ev2_7 => ?_)
          replace h := h v2_7 ev2_7
          refine zr_goto C dyX12_isIdle_46 (tgt := 4) (by decide) ?_
          exact h
        · replace h := zif_pos hc_8 h
          refine zr_iconst C dyX12_isIdle_41 zc_i_1 ?_
          exact zr_zret C rfl (zb.nar zb_1) dyX12_isIdle_42 ⟨rfl, rfl, _, rfl, h⟩
      · replace h := zif_neg hc_9 h
        refine zr_iconst C dyX12_isIdle_25 zc_i_0 ?_
        exact zr_zret C rfl (zb.nar zb_0) dyX12_isIdle_26 ⟨rfl, rfl, _, rfl, h⟩
  exact h
theorem zv_12_459 {p : Program} {l : Launch} {e : Env} {R : Room} {s : State} {m : MethodId} {args : Array Value} {below : List Frame} {meth : Method} {c : Code} {Q : State → Prop} {D : va_G} {B : Nat} {cA : Nat → ClassId} {ad : Nat → Nat} {cc : ByteArray} {nL : Nat} {ret : Option FieldType} {S : List zC} {I : zI} {lv : List (Nat × Value)} {st : List Value} {pc : Nat} (C : zCx p s m args meth c cc nL RX12 ret D B cA ad) {K : Int32 → Prop} {xa1 : Int32} (hS : zOkM S)  (h : w_M_isIdle xa1 I K) (hR : 2 + 1 ≤ R.frames ∧ 8 + (3 + 11) + (47) ≤ R.locals) (hw : (st.map fun v => v.category).sum ≤ 8) (hd : decode cc pc = .ok (.invokevirtual 459, 3)) (kk : ∀ v, K v → zX p l e R s m args below meth c Q D B cA nL 0 0 S I lv (.int v :: st) (pc + 3)) : zX p l e R s m args below meth c Q D B cA nL 0 0 S I lv (.int xa1 :: .ref (B + 491) :: st) pc :=
  have hf : 0 ≤ R.cells ∧ 0 ≤ R.slots := ⟨Nat.zero_le _, Nat.zero_le _⟩
  zc_VpI C (ci := 12) (q := (RX12, TX12, 82)) (k := 491) (fs := [none, some (some 492), some (some 493), none, some (some 494), none, some (some 495), none, none, none, some (some 496), some (some 497), some (some 498), some (some 499), some (some 500), none, some (some 501), some (some 502), some (some 503), none, some (some 504), some (some 505), some (some 506), some (some 507), some (some 508), none, some (some 509), some (some 510), some (some 511), some (some 512), some (some 513), some (some 514), some (some 515), some (some 516), some (some 517), some (some 518), none, none, some (some 519), none, some (some 520), none, none, none, some (some 521), some (some 522), some (some 523), some (some 524), some (some 525), some (some 526), some (some 527), none, some (some 528), none, some (some 529), none, some (some 530), some (some 531), some (some 532), none, some (some 533), some (some 534), some (some 535), some (some 536), some (some 537), none, none, none, some (some 538), some (some 539), some (some 540), none, none, none, some (some 541), none, none, some (some 542), some (some 543), some (some 544), none, some (some 545)]) (As := [.int xa1]) (st := st) rfl (hS _ _ zs_491) (c_M_isIdle hS h) (zgV zk_ml_12_459 zk_im_yX12_isIdle zk_se_yX12_isIdle zk_in_12 zk_cd_yX12_isIdle) zsg_yX12_isIdle hR rfl rfl hw hd hf kk
def w_M_idle (a1 : Int32) (I : zI) (K : Int32 → Prop) : Prop :=
  w_M_in a1 0 1 I (fun r_1 => (if r_1 = 0 then (K (-1)) else (∀ v4_2, v4_2 = ((I.1 491 53) - 1) → ∀ (P24 : Int32 → Int32 → Int32 → Prop), (∀ (v2_3 : Int32) (v3_4 : Int32) (v4_5 : Int32), ((if v4_5 < 0 then (if a1 = 0 then K v2_3 else K v3_4) else (w_M_isIdle v4_5 I (fun r_7 => ∀ (P52 : Int32 → Int32 → Prop), (∀ (v2_8 : Int32) (v3_9 : Int32), (∀ v4_10, v4_10 = (v4_5 + (-1)) → P24 v2_8 v3_9 v4_10) → P52 v2_8 v3_9) → (if r_7 = 0 then P52 v2_3 v3_4 else (∀ v2_11, v2_11 = (v2_3 + 1) → vp_in v4_5 110 ∧ (∀ v3_12, v3_12 = (I.1 529 (Int32.toNatClampNeg v4_5)) → P52 v2_11 v3_12))))))) → P24 v2_3 v3_4 v4_5) → P24 0 (-2) v4_2)))
theorem dyX12_idle_0 : decode cX12_idle 0 = .ok (.iload_n 1, 1) := by decide +kernel
theorem dyX12_idle_1 : decode cX12_idle 1 = .ok (.iconst 0, 1) := by decide +kernel
theorem dyX12_idle_2 : decode cX12_idle 2 = .ok (.iconst 1, 1) := by decide +kernel
theorem dyX12_idle_3 : decode cX12_idle 3 = .ok (.invokestatic 286, 3) := by decide +kernel
theorem dyX12_idle_6 : decode cX12_idle 6 = .ok (.ifCond .ne 5, 3) := by decide +kernel
theorem dyX12_idle_9 : decode cX12_idle 9 = .ok (.iconst (-1), 1) := by decide +kernel
theorem dyX12_idle_10 : decode cX12_idle 10 = .ok (.ireturn, 1) := by decide +kernel
theorem dyX12_idle_11 : decode cX12_idle 11 = .ok (.iconst 0, 1) := by decide +kernel
theorem dyX12_idle_12 : decode cX12_idle 12 = .ok (.istore_n 2, 1) := by decide +kernel
theorem dyX12_idle_13 : decode cX12_idle 13 = .ok (.bipush (-2), 2) := by decide +kernel
theorem dyX12_idle_15 : decode cX12_idle 15 = .ok (.istore_n 3, 1) := by decide +kernel
theorem dyX12_idle_16 : decode cX12_idle 16 = .ok (.aload_n 0, 1) := by decide +kernel
theorem dyX12_idle_17 : decode cX12_idle 17 = .ok (.getfield 293, 3) := by decide +kernel
theorem dyX12_idle_20 : decode cX12_idle 20 = .ok (.iconst 1, 1) := by decide +kernel
theorem dyX12_idle_21 : decode cX12_idle 21 = .ok (.isub, 1) := by decide +kernel
theorem dyX12_idle_22 : decode cX12_idle 22 = .ok (.istore 4, 2) := by decide +kernel
theorem dyX12_idle_24 : decode cX12_idle 24 = .ok (.iload 4, 2) := by decide +kernel
theorem dyX12_idle_26 : decode cX12_idle 26 = .ok (.ifCond .lt 32, 3) := by decide +kernel
theorem dyX12_idle_29 : decode cX12_idle 29 = .ok (.aload_n 0, 1) := by decide +kernel
theorem dyX12_idle_30 : decode cX12_idle 30 = .ok (.iload 4, 2) := by decide +kernel
theorem dyX12_idle_32 : decode cX12_idle 32 = .ok (.invokevirtual 459, 3) := by decide +kernel
theorem dyX12_idle_35 : decode cX12_idle 35 = .ok (.ifCond .ne 6, 3) := by decide +kernel
theorem dyX12_idle_38 : decode cX12_idle 38 = .ok (.goto 14, 3) := by decide +kernel
theorem dyX12_idle_41 : decode cX12_idle 41 = .ok (.iinc 2 1, 3) := by decide +kernel
theorem dyX12_idle_44 : decode cX12_idle 44 = .ok (.aload_n 0, 1) := by decide +kernel
theorem dyX12_idle_45 : decode cX12_idle 45 = .ok (.getfield 123, 3) := by decide +kernel
theorem dyX12_idle_48 : decode cX12_idle 48 = .ok (.iload 4, 2) := by decide +kernel
theorem dyX12_idle_50 : decode cX12_idle 50 = .ok (.iaload, 1) := by decide +kernel
theorem dyX12_idle_51 : decode cX12_idle 51 = .ok (.istore_n 3, 1) := by decide +kernel
theorem dyX12_idle_52 : decode cX12_idle 52 = .ok (.iinc 4 (-1), 3) := by decide +kernel
theorem dyX12_idle_55 : decode cX12_idle 55 = .ok (.goto (-31), 3) := by decide +kernel
theorem dyX12_idle_58 : decode cX12_idle 58 = .ok (.iload_n 1, 1) := by decide +kernel
theorem dyX12_idle_59 : decode cX12_idle 59 = .ok (.ifCond .ne 7, 3) := by decide +kernel
theorem dyX12_idle_62 : decode cX12_idle 62 = .ok (.iload_n 2, 1) := by decide +kernel
theorem dyX12_idle_63 : decode cX12_idle 63 = .ok (.goto 4, 3) := by decide +kernel
theorem dyX12_idle_66 : decode cX12_idle 66 = .ok (.iload_n 3, 1) := by decide +kernel
theorem dyX12_idle_67 : decode cX12_idle 67 = .ok (.ireturn, 1) := by decide +kernel
theorem zsg_yX12_idle : yX12_idle.cls = RX12 ∧ yX12_idle.cls ≠ "java/lang/invoke/MethodHandle" ∧ yX12_idle.cls ≠ "java/lang/invoke/VarHandle" ∧ (parseMethodDescriptor yX12_idle.desc).map (fun d => d.parameters.length) = some 1 := by decide +kernel
set_option maxRecDepth 20000 in
theorem c_M_idle {l : Launch} {D : va_G} {B : Nat} {cA : Nat → ClassId} {ad : Nat → Nat} {S : List zC} (hS : zOkM S) {a1 : Int32} {I : zI} {K : Int32 → Prop}  (h : w_M_idle a1 I K) : Met l yX12_idle (zws yX12_idle cX12_idle 5 (some .int)) (zrm 3 69) (zPc D B cA ad [.ref (B + 491), .int a1] S I) (zQc D B cA (zpI S I K)) 0 0 (fun q => B ≤ q) := by
  refine zm_of (cc := cX12_idle) (maxL := 5) (ret := (some .int)) (by decide +kernel) rfl (Nat.le_of_ble_eq_true rfl) trivial ?_
  intro p e s m args below meth c C _
  unfold w_M_idle at h
  show zX p l e (zrm 3 69) s m args below meth c (MQ below (zQc D B cA (zpI S I K)) args s 0 0 (fun q => B ≤ q)) D B cA 5 0 0 S I [(0, .ref (B + 491)), (1, .int a1)] [] 0
  refine zr_iload_n C dyX12_idle_0 rfl 1 rfl ?_
  refine zr_iconst C dyX12_idle_1 zc_i_0 ?_
  refine zr_iconst C dyX12_idle_2 zc_i_1 ?_
  refine zv_12_286 C hS (st := []) h ⟨Nat.le_of_ble_eq_true rfl, Nat.le_of_ble_eq_true rfl⟩ (Nat.le_of_ble_eq_true rfl) dyX12_idle_3 (fun r_1 h => ?_)
  refine zr_if_ne C dyX12_idle_6 (tgt := 11) (by decide) (fun hc_15 => ?_) (fun hc_15 => ?_)
  · replace h := zif_neg hc_15 h
    refine zr_iconst C dyX12_idle_11 zc_i_0 ?_
    refine zr_istore_n C dyX12_idle_12 rfl (Nat.le_of_ble_eq_true rfl) (lv2 := [(2, .int 0), (0, .ref (B + 491)), (1, .int a1)]) rfl ?_
    refine zr_bipush C dyX12_idle_13 zc_b_m2 ?_
    refine zr_istore_n C dyX12_idle_15 rfl (Nat.le_of_ble_eq_true rfl) (lv2 := [(3, .int (-2)), (2, .int 0), (0, .ref (B + 491)), (1, .int a1)]) rfl ?_
    refine zr_aload_n C dyX12_idle_16 rfl 2 rfl ?_
    refine zg_12_293 C hS dyX12_idle_17 ?_
    refine zr_iconst C dyX12_idle_20 zc_i_1 ?_
    refine zr_isub C dyX12_idle_21 ?_
    refine zn_istore C (fun v4_2 => [(4, .int v4_2), (3, .int (-2)), (2, .int 0), (0, .ref (B + 491)), (1, .int a1)]) dyX12_idle_22 (Nat.le_of_ble_eq_true rfl) (fun _ => rfl) (fun v4_2 ev4_2 => ?_)
    replace h := h v4_2 ev4_2
    refine zjn (h (fun (v2_3 : Int32) (v3_4 : Int32) (v4_5 : Int32) => zX p l e (zrm 3 69) s m args below meth c (MQ below (zQc D B cA (zpI S I K)) args s 0 0 (fun q => B ≤ q)) D B cA 5 0 0 S I [(4, .int v4_5), (3, .int v3_4), (2, .int v2_3), (0, .ref (B + 491)), (1, .int a1)] [] 24) (fun v2_3 v3_4 v4_5 h => ?_)) (fun h => ?_)
    · refine zr_iload C dyX12_idle_24 0 rfl ?_
      refine zr_if_lt C dyX12_idle_26 (tgt := 58) (by decide) (fun hc_14 => ?_) (fun hc_14 => ?_)
      · replace h := zif_pos hc_14 h
        refine zr_iload_n C dyX12_idle_58 rfl 4 rfl ?_
        refine zr_if_ne C dyX12_idle_59 (tgt := 66) (by decide) (fun hc_6 => ?_) (fun hc_6 => ?_)
        · replace h := zif_neg hc_6 h
          refine zr_iload_n C dyX12_idle_66 rfl 1 rfl ?_
          exact zr_iret C rfl dyX12_idle_67 ⟨rfl, rfl, _, rfl, h⟩
        · replace h := zif_pos hc_6 h
          refine zr_iload_n C dyX12_idle_62 rfl 2 rfl ?_
          refine zr_goto C dyX12_idle_63 (tgt := 67) (by decide) ?_
          exact zr_iret C rfl dyX12_idle_67 ⟨rfl, rfl, _, rfl, h⟩
      · replace h := zif_neg hc_14 h
        refine zr_aload_n C dyX12_idle_29 rfl 3 rfl ?_
        refine zr_iload C dyX12_idle_30 0 rfl ?_
        refine zv_12_459 C hS (st := []) h ⟨Nat.le_of_ble_eq_true rfl, Nat.le_of_ble_eq_true rfl⟩ (Nat.le_of_ble_eq_true rfl) dyX12_idle_32 (fun r_7 h => ?_)
        refine zjn (h (fun (v2_8 : Int32) (v3_9 : Int32) => zX p l e (zrm 3 69) s m args below meth c (MQ below (zQc D B cA (zpI S I K)) args s 0 0 (fun q => B ≤ q)) D B cA 5 0 0 S I [(4, .int v4_5), (3, .int v3_9), (2, .int v2_8), (0, .ref (B + 491)), (1, .int a1)] [] 52) (fun v2_8 v3_9 h => ?_)) (fun h => ?_)
        · refine zn_iinc C (fun v4_10 => [(4, .int v4_10), (3, .int v3_9), (2, .int v2_8), (0, .ref (B + 491)), (1, .int a1)]) dyX12_idle_52 0 rfl zc_i_m1 (Nat.le_of_ble_eq_true rfl) (fun _ => rfl) (fun v4_10 ev4_10 => ?_)
          replace h := h v4_10 ev4_10
          refine zr_goto C dyX12_idle_55 (tgt := 24) (by decide) ?_
          exact h
        refine zr_if_ne C dyX12_idle_35 (tgt := 41) (by decide) (fun hc_13 => ?_) (fun hc_13 => ?_)
        · replace h := zif_neg hc_13 h
          refine zn_iinc C (fun v2_11 => [(2, .int v2_11), (4, .int v4_5), (3, .int v3_4), (0, .ref (B + 491)), (1, .int a1)]) dyX12_idle_41 2 rfl zc_i_1 (Nat.le_of_ble_eq_true rfl) (fun _ => rfl) (fun v2_11 ev2_11 => ?_)
          replace h := h v2_11 ev2_11
          refine zr_aload_n C dyX12_idle_44 rfl 3 rfl ?_
          refine zg_12_123 C hS dyX12_idle_45 ?_
          refine zr_iload C dyX12_idle_48 1 rfl ?_
          refine zr_iald C (hS _ _ zs_529) h.1 dyX12_idle_50 ?_
          replace h := h.2
          refine zn_istore_n C (fun v3_12 => [(3, .int v3_12), (2, .int v2_11), (4, .int v4_5), (0, .ref (B + 491)), (1, .int a1)]) dyX12_idle_51 rfl (Nat.le_of_ble_eq_true rfl) (fun _ => rfl) (fun v3_12 ev3_12 => ?_)
          replace h := h v3_12 ev3_12
          refine zr_sub (lv2 := [(4, .int v4_5), (3, .int v3_12), (2, .int v2_11), (0, .ref (B + 491)), (1, .int a1)]) [2, 0, 1, 3, 4] rfl ?_
          exact h
        · replace h := zif_pos hc_13 h
          refine zr_goto C dyX12_idle_38 (tgt := 52) (by decide) ?_
          exact h
    exact h
  · replace h := zif_pos hc_15 h
    refine zr_iconst C dyX12_idle_9 zc_i_m1 ?_
    exact zr_iret C rfl dyX12_idle_10 ⟨rfl, rfl, _, rfl, h⟩
theorem zv_12_462 {p : Program} {l : Launch} {e : Env} {R : Room} {s : State} {m : MethodId} {args : Array Value} {below : List Frame} {meth : Method} {c : Code} {Q : State → Prop} {D : va_G} {B : Nat} {cA : Nat → ClassId} {ad : Nat → Nat} {cc : ByteArray} {nL : Nat} {ret : Option FieldType} {S : List zC} {I : zI} {lv : List (Nat × Value)} {st : List Value} {pc : Nat} (C : zCx p s m args meth c cc nL RX12 ret D B cA ad) {K : Int32 → Prop} {xa1 : Int32} (hS : zOkM S)  (h : w_M_isInner xa1 I K) (hR : 1 + 1 ≤ R.frames ∧ 8 + (2 + 11) + (22) ≤ R.locals) (hw : (st.map fun v => v.category).sum ≤ 8) (hd : decode cc pc = .ok (.invokevirtual 462, 3)) (kk : ∀ v, K v → zX p l e R s m args below meth c Q D B cA nL 0 0 S I lv (.int v :: st) (pc + 3)) : zX p l e R s m args below meth c Q D B cA nL 0 0 S I lv (.int xa1 :: .ref (B + 491) :: st) pc :=
  have hf : 0 ≤ R.cells ∧ 0 ≤ R.slots := ⟨Nat.zero_le _, Nat.zero_le _⟩
  zc_VpI C (ci := 12) (q := (RX12, TX12, 82)) (k := 491) (fs := [none, some (some 492), some (some 493), none, some (some 494), none, some (some 495), none, none, none, some (some 496), some (some 497), some (some 498), some (some 499), some (some 500), none, some (some 501), some (some 502), some (some 503), none, some (some 504), some (some 505), some (some 506), some (some 507), some (some 508), none, some (some 509), some (some 510), some (some 511), some (some 512), some (some 513), some (some 514), some (some 515), some (some 516), some (some 517), some (some 518), none, none, some (some 519), none, some (some 520), none, none, none, some (some 521), some (some 522), some (some 523), some (some 524), some (some 525), some (some 526), some (some 527), none, some (some 528), none, some (some 529), none, some (some 530), some (some 531), some (some 532), none, some (some 533), some (some 534), some (some 535), some (some 536), some (some 537), none, none, none, some (some 538), some (some 539), some (some 540), none, none, none, some (some 541), none, none, some (some 542), some (some 543), some (some 544), none, some (some 545)]) (As := [.int xa1]) (st := st) rfl (hS _ _ zs_491) (c_M_isInner hS h) (zgV zk_ml_12_462 zk_im_yX12_isInner zk_se_yX12_isInner zk_in_12 zk_cd_yX12_isInner) zsg_yX12_isInner hR rfl rfl hw hd hf kk
def w_M_above (a1 : Int32) (a2 : Int32) (I : zI) (K : Int32 → Prop) : Prop :=
  w_M_isToken a1 I (fun r_1 => (if r_1 = 0 then (K (-1)) else (w_M_in a2 0 10 I (fun r_2 => (if r_2 = 0 then (K (-1)) else (w_M_isInner a1 I (fun r_3 => (if r_3 = 0 then (K (-2)) else (vp_in a1 110 ∧ (vp_in (I.1 508 (Int32.toNatClampNeg a1)) 3700 ∧ (∀ v3_4, v3_4 = (I.1 524 (Int32.toNatClampNeg (I.1 508 (Int32.toNatClampNeg a1)))) → ∀ (P43 : Int32 → Prop), (∀ (v3_5 : Int32), (∀ (P67 : Prop), (((if 0 ≤ v3_5 then K v3_5 else (K (-2)))) → P67) → (if v3_5 < 0 then P67 else (vp_in v3_5 3700 ∧ (if (I.1 509 (Int32.toNatClampNeg v3_5)) = a2 then P67 else (vp_in v3_5 3700 ∧ (∀ v3_7, v3_7 = (I.1 524 (Int32.toNatClampNeg v3_5)) → P43 v3_7)))))) → P43 v3_5) → P43 v3_4)))))))))))
theorem dyX12_above_0 : decode cX12_above 0 = .ok (.aload_n 0, 1) := by decide +kernel
theorem dyX12_above_1 : decode cX12_above 1 = .ok (.iload_n 1, 1) := by decide +kernel
theorem dyX12_above_2 : decode cX12_above 2 = .ok (.invokevirtual 414, 3) := by decide +kernel
theorem dyX12_above_5 : decode cX12_above 5 = .ok (.ifCond .eq 13, 3) := by decide +kernel
theorem dyX12_above_8 : decode cX12_above 8 = .ok (.iload_n 2, 1) := by decide +kernel
theorem dyX12_above_9 : decode cX12_above 9 = .ok (.iconst 0, 1) := by decide +kernel
theorem dyX12_above_10 : decode cX12_above 10 = .ok (.bipush 10, 2) := by decide +kernel
theorem dyX12_above_12 : decode cX12_above 12 = .ok (.invokestatic 286, 3) := by decide +kernel
theorem dyX12_above_15 : decode cX12_above 15 = .ok (.ifCond .ne 5, 3) := by decide +kernel
theorem dyX12_above_18 : decode cX12_above 18 = .ok (.iconst (-1), 1) := by decide +kernel
theorem dyX12_above_19 : decode cX12_above 19 = .ok (.ireturn, 1) := by decide +kernel
theorem dyX12_above_20 : decode cX12_above 20 = .ok (.aload_n 0, 1) := by decide +kernel
theorem dyX12_above_21 : decode cX12_above 21 = .ok (.iload_n 1, 1) := by decide +kernel
theorem dyX12_above_22 : decode cX12_above 22 = .ok (.invokevirtual 462, 3) := by decide +kernel
theorem dyX12_above_25 : decode cX12_above 25 = .ok (.ifCond .ne 6, 3) := by decide +kernel
theorem dyX12_above_28 : decode cX12_above 28 = .ok (.bipush (-2), 2) := by decide +kernel
theorem dyX12_above_30 : decode cX12_above 30 = .ok (.ireturn, 1) := by decide +kernel
theorem dyX12_above_31 : decode cX12_above 31 = .ok (.aload_n 0, 1) := by decide +kernel
theorem dyX12_above_32 : decode cX12_above 32 = .ok (.getfield 108, 3) := by decide +kernel
theorem dyX12_above_35 : decode cX12_above 35 = .ok (.aload_n 0, 1) := by decide +kernel
theorem dyX12_above_36 : decode cX12_above 36 = .ok (.getfield 59, 3) := by decide +kernel
theorem dyX12_above_39 : decode cX12_above 39 = .ok (.iload_n 1, 1) := by decide +kernel
theorem dyX12_above_40 : decode cX12_above 40 = .ok (.iaload, 1) := by decide +kernel
theorem dyX12_above_41 : decode cX12_above 41 = .ok (.iaload, 1) := by decide +kernel
theorem dyX12_above_42 : decode cX12_above 42 = .ok (.istore_n 3, 1) := by decide +kernel
theorem dyX12_above_43 : decode cX12_above 43 = .ok (.iload_n 3, 1) := by decide +kernel
theorem dyX12_above_44 : decode cX12_above 44 = .ok (.ifCond .lt 23, 3) := by decide +kernel
theorem dyX12_above_47 : decode cX12_above 47 = .ok (.aload_n 0, 1) := by decide +kernel
theorem dyX12_above_48 : decode cX12_above 48 = .ok (.getfield 62, 3) := by decide +kernel
theorem dyX12_above_51 : decode cX12_above 51 = .ok (.iload_n 3, 1) := by decide +kernel
theorem dyX12_above_52 : decode cX12_above 52 = .ok (.iaload, 1) := by decide +kernel
theorem dyX12_above_53 : decode cX12_above 53 = .ok (.iload_n 2, 1) := by decide +kernel
theorem dyX12_above_54 : decode cX12_above 54 = .ok (.if_icmp .eq 13, 3) := by decide +kernel
theorem dyX12_above_57 : decode cX12_above 57 = .ok (.aload_n 0, 1) := by decide +kernel
theorem dyX12_above_58 : decode cX12_above 58 = .ok (.getfield 108, 3) := by decide +kernel
theorem dyX12_above_61 : decode cX12_above 61 = .ok (.iload_n 3, 1) := by decide +kernel
theorem dyX12_above_62 : decode cX12_above 62 = .ok (.iaload, 1) := by decide +kernel
theorem dyX12_above_63 : decode cX12_above 63 = .ok (.istore_n 3, 1) := by decide +kernel
theorem dyX12_above_64 : decode cX12_above 64 = .ok (.goto (-21), 3) := by decide +kernel
theorem dyX12_above_67 : decode cX12_above 67 = .ok (.iload_n 3, 1) := by decide +kernel
theorem dyX12_above_68 : decode cX12_above 68 = .ok (.ifCond .ge 8, 3) := by decide +kernel
theorem dyX12_above_71 : decode cX12_above 71 = .ok (.bipush (-2), 2) := by decide +kernel
theorem dyX12_above_73 : decode cX12_above 73 = .ok (.goto 4, 3) := by decide +kernel
theorem dyX12_above_76 : decode cX12_above 76 = .ok (.iload_n 3, 1) := by decide +kernel
theorem dyX12_above_77 : decode cX12_above 77 = .ok (.ireturn, 1) := by decide +kernel
theorem zsg_yX12_above : yX12_above.cls = RX12 ∧ yX12_above.cls ≠ "java/lang/invoke/MethodHandle" ∧ yX12_above.cls ≠ "java/lang/invoke/VarHandle" ∧ (parseMethodDescriptor yX12_above.desc).map (fun d => d.parameters.length) = some 2 := by decide +kernel
set_option maxRecDepth 20000 in
theorem c_M_above {l : Launch} {D : va_G} {B : Nat} {cA : Nat → ClassId} {ad : Nat → Nat} {S : List zC} (hS : zOkM S) {a1 : Int32} {a2 : Int32} {I : zI} {K : Int32 → Prop}  (h : w_M_above a1 a2 I K) : Met l yX12_above (zws yX12_above cX12_above 4 (some .int)) (zrm 2 43) (zPc D B cA ad [.ref (B + 491), .int a1, .int a2] S I) (zQc D B cA (zpI S I K)) 0 0 (fun q => B ≤ q) := by
  refine zm_of (cc := cX12_above) (maxL := 4) (ret := (some .int)) (by decide +kernel) rfl (Nat.le_of_ble_eq_true rfl) trivial ?_
  intro p e s m args below meth c C _
  unfold w_M_above at h
  show zX p l e (zrm 2 43) s m args below meth c (MQ below (zQc D B cA (zpI S I K)) args s 0 0 (fun q => B ≤ q)) D B cA 4 0 0 S I [(0, .ref (B + 491)), (1, .int a1), (2, .int a2)] [] 0
  refine zr_aload_n C dyX12_above_0 rfl 0 rfl ?_
  refine zr_iload_n C dyX12_above_1 rfl 1 rfl ?_
  refine zv_12_414 C hS (st := []) h ⟨Nat.le_of_ble_eq_true rfl, Nat.le_of_ble_eq_true rfl⟩ (Nat.le_of_ble_eq_true rfl) dyX12_above_2 (fun r_1 h => ?_)
  refine zr_if_eq C dyX12_above_5 (tgt := 18) (by decide) (fun hc_12 => ?_) (fun hc_12 => ?_)
  · replace h := zif_pos hc_12 h
    refine zr_iconst C dyX12_above_18 zc_i_m1 ?_
    exact zr_iret C rfl dyX12_above_19 ⟨rfl, rfl, _, rfl, h⟩
  · replace h := zif_neg hc_12 h
    refine zr_iload_n C dyX12_above_8 rfl 2 rfl ?_
    refine zr_iconst C dyX12_above_9 zc_i_0 ?_
    refine zr_bipush C dyX12_above_10 zc_b_10 ?_
    refine zv_12_286 C hS (st := []) h ⟨Nat.le_of_ble_eq_true rfl, Nat.le_of_ble_eq_true rfl⟩ (Nat.le_of_ble_eq_true rfl) dyX12_above_12 (fun r_2 h => ?_)
    refine zr_if_ne C dyX12_above_15 (tgt := 20) (by decide) (fun hc_11 => ?_) (fun hc_11 => ?_)
    · replace h := zif_neg hc_11 h
      refine zr_aload_n C dyX12_above_20 rfl 0 rfl ?_
      refine zr_iload_n C dyX12_above_21 rfl 1 rfl ?_
      refine zv_12_462 C hS (st := []) h ⟨Nat.le_of_ble_eq_true rfl, Nat.le_of_ble_eq_true rfl⟩ (Nat.le_of_ble_eq_true rfl) dyX12_above_22 (fun r_3 h => ?_)
      refine zr_if_ne C dyX12_above_25 (tgt := 31) (by decide) (fun hc_10 => ?_) (fun hc_10 => ?_)
      · replace h := zif_neg hc_10 h
        refine zr_aload_n C dyX12_above_31 rfl 0 rfl ?_
        refine zg_12_108 C hS dyX12_above_32 ?_
        refine zr_aload_n C dyX12_above_35 rfl 0 rfl ?_
        refine zg_12_59 C hS dyX12_above_36 ?_
        refine zr_iload_n C dyX12_above_39 rfl 1 rfl ?_
        refine zr_iald C (hS _ _ zs_508) h.1 dyX12_above_40 ?_
        replace h := h.2
        refine zr_iald C (hS _ _ zs_524) h.1 dyX12_above_41 ?_
        replace h := h.2
        refine zn_istore_n C (fun v3_4 => [(3, .int v3_4), (0, .ref (B + 491)), (1, .int a1), (2, .int a2)]) dyX12_above_42 rfl (Nat.le_of_ble_eq_true rfl) (fun _ => rfl) (fun v3_4 ev3_4 => ?_)
        replace h := h v3_4 ev3_4
        refine zjn (h (fun (v3_5 : Int32) => zX p l e (zrm 2 43) s m args below meth c (MQ below (zQc D B cA (zpI S I K)) args s 0 0 (fun q => B ≤ q)) D B cA 4 0 0 S I [(3, .int v3_5), (0, .ref (B + 491)), (2, .int a2)] [] 43) (fun v3_5 h => ?_)) (fun h => ?_)
        · refine zr_iload_n C dyX12_above_43 rfl 0 rfl ?_
          refine zjn (h (zX p l e (zrm 2 43) s m args below meth c (MQ below (zQc D B cA (zpI S I K)) args s 0 0 (fun q => B ≤ q)) D B cA 4 0 0 S I [(3, .int v3_5)] [] 67) (fun  h => ?_)) (fun h => ?_)
          · refine zr_iload_n C dyX12_above_67 rfl 0 rfl ?_
            refine zr_if_ge C dyX12_above_68 (tgt := 76) (by decide) (fun hc_6 => ?_) (fun hc_6 => ?_)
            · replace h := zif_pos hc_6 h
              refine zr_iload_n C dyX12_above_76 rfl 0 rfl ?_
              exact zr_iret C rfl dyX12_above_77 ⟨rfl, rfl, _, rfl, h⟩
            · replace h := zif_neg hc_6 h
              refine zr_bipush C dyX12_above_71 zc_b_m2 ?_
              refine zr_goto C dyX12_above_73 (tgt := 77) (by decide) ?_
              exact zr_iret C rfl dyX12_above_77 ⟨rfl, rfl, _, rfl, h⟩
          refine zr_if_lt C dyX12_above_44 (tgt := 67) (by decide) (fun hc_9 => ?_) (fun hc_9 => ?_)
          · replace h := zif_pos hc_9 h
            refine zr_sub (lv2 := [(3, .int v3_5)]) [0] rfl ?_
            exact h
          · replace h := zif_neg hc_9 h
            refine zr_aload_n C dyX12_above_47 rfl 1 rfl ?_
            refine zg_12_62 C hS dyX12_above_48 ?_
            refine zr_iload_n C dyX12_above_51 rfl 0 rfl ?_
            refine zr_iald C (hS _ _ zs_509) h.1 dyX12_above_52 ?_
            replace h := h.2
            refine zr_iload_n C dyX12_above_53 rfl 2 rfl ?_
            refine zr_icmp_eq C dyX12_above_54 (tgt := 67) (by decide) (fun hc_8 => ?_) (fun hc_8 => ?_)
            · replace h := zif_pos hc_8 h
              refine zr_sub (lv2 := [(3, .int v3_5)]) [0] rfl ?_
              exact h
            · replace h := zif_neg hc_8 h
              refine zr_aload_n C dyX12_above_57 rfl 1 rfl ?_
              refine zg_12_108 C hS dyX12_above_58 ?_
              refine zr_iload_n C dyX12_above_61 rfl 0 rfl ?_
              refine zr_iald C (hS _ _ zs_524) h.1 dyX12_above_62 ?_
              replace h := h.2
              refine zn_istore_n C (fun v3_7 => [(3, .int v3_7), (0, .ref (B + 491)), (2, .int a2)]) dyX12_above_63 rfl (Nat.le_of_ble_eq_true rfl) (fun _ => rfl) (fun v3_7 ev3_7 => ?_)
              replace h := h v3_7 ev3_7
              refine zr_goto C dyX12_above_64 (tgt := 43) (by decide) ?_
              exact h
        refine zr_sub (lv2 := [(3, .int v3_4), (0, .ref (B + 491)), (2, .int a2)]) [0, 1, 3] rfl ?_
        exact h
      · replace h := zif_pos hc_10 h
        refine zr_bipush C dyX12_above_28 zc_b_m2 ?_
        exact zr_iret C rfl dyX12_above_30 ⟨rfl, rfl, _, rfl, h⟩
    · replace h := zif_pos hc_11 h
      refine zr_iconst C dyX12_above_18 zc_i_m1 ?_
      exact zr_iret C rfl dyX12_above_19 ⟨rfl, rfl, _, rfl, h⟩
def w_M_deepOf (a1 : Int32) (I : zI) (K : Int32 → Prop) : Prop :=
  ∀ (P4 : Int32 → Int32 → Prop), (∀ (v2_1 : Int32) (v3_2 : Int32), ((if v3_2 < 0 then K v2_1 else (∀ v2_3, v2_3 = (v2_1 + 1) → vp_in v3_2 3700 ∧ (∀ v3_4, v3_4 = (I.1 524 (Int32.toNatClampNeg v3_2)) → P4 v2_3 v3_4)))) → P4 v2_1 v3_2) → P4 0 a1
theorem dyX12_deepOf_0 : decode cX12_deepOf 0 = .ok (.iconst 0, 1) := by decide +kernel
theorem dyX12_deepOf_1 : decode cX12_deepOf 1 = .ok (.istore_n 2, 1) := by decide +kernel
theorem dyX12_deepOf_2 : decode cX12_deepOf 2 = .ok (.iload_n 1, 1) := by decide +kernel
theorem dyX12_deepOf_3 : decode cX12_deepOf 3 = .ok (.istore_n 3, 1) := by decide +kernel
theorem dyX12_deepOf_4 : decode cX12_deepOf 4 = .ok (.iload_n 3, 1) := by decide +kernel
theorem dyX12_deepOf_5 : decode cX12_deepOf 5 = .ok (.ifCond .lt 16, 3) := by decide +kernel
theorem dyX12_deepOf_8 : decode cX12_deepOf 8 = .ok (.iinc 2 1, 3) := by decide +kernel
theorem dyX12_deepOf_11 : decode cX12_deepOf 11 = .ok (.aload_n 0, 1) := by decide +kernel
theorem dyX12_deepOf_12 : decode cX12_deepOf 12 = .ok (.getfield 108, 3) := by decide +kernel
theorem dyX12_deepOf_15 : decode cX12_deepOf 15 = .ok (.iload_n 3, 1) := by decide +kernel
theorem dyX12_deepOf_16 : decode cX12_deepOf 16 = .ok (.iaload, 1) := by decide +kernel
theorem dyX12_deepOf_17 : decode cX12_deepOf 17 = .ok (.istore_n 3, 1) := by decide +kernel
theorem dyX12_deepOf_18 : decode cX12_deepOf 18 = .ok (.goto (-14), 3) := by decide +kernel
theorem dyX12_deepOf_21 : decode cX12_deepOf 21 = .ok (.iload_n 2, 1) := by decide +kernel
theorem dyX12_deepOf_22 : decode cX12_deepOf 22 = .ok (.ireturn, 1) := by decide +kernel
theorem zsg_yX12_deepOf : yX12_deepOf.cls = RX12 ∧ yX12_deepOf.cls ≠ "java/lang/invoke/MethodHandle" ∧ yX12_deepOf.cls ≠ "java/lang/invoke/VarHandle" ∧ (parseMethodDescriptor yX12_deepOf.desc).map (fun d => d.parameters.length) = some 1 := by decide +kernel
set_option maxRecDepth 20000 in
theorem c_M_deepOf {l : Launch} {D : va_G} {B : Nat} {cA : Nat → ClassId} {ad : Nat → Nat} {S : List zC} (hS : zOkM S) {a1 : Int32} {I : zI} {K : Int32 → Prop}  (h : w_M_deepOf a1 I K) : Met l yX12_deepOf (zws yX12_deepOf cX12_deepOf 4 (some .int)) (zrm 0 0) (zPc D B cA ad [.ref (B + 491), .int a1] S I) (zQc D B cA (zpI S I K)) 0 0 (fun q => B ≤ q) := by
  refine zm_of (cc := cX12_deepOf) (maxL := 4) (ret := (some .int)) (by decide +kernel) rfl (Nat.le_of_ble_eq_true rfl) trivial ?_
  intro p e s m args below meth c C _
  unfold w_M_deepOf at h
  show zX p l e (zrm 0 0) s m args below meth c (MQ below (zQc D B cA (zpI S I K)) args s 0 0 (fun q => B ≤ q)) D B cA 4 0 0 S I [(0, .ref (B + 491)), (1, .int a1)] [] 0
  refine zr_iconst C dyX12_deepOf_0 zc_i_0 ?_
  refine zr_istore_n C dyX12_deepOf_1 rfl (Nat.le_of_ble_eq_true rfl) (lv2 := [(2, .int 0), (0, .ref (B + 491)), (1, .int a1)]) rfl ?_
  refine zr_iload_n C dyX12_deepOf_2 rfl 2 rfl ?_
  refine zr_istore_n C dyX12_deepOf_3 rfl (Nat.le_of_ble_eq_true rfl) (lv2 := [(3, .int a1), (2, .int 0), (0, .ref (B + 491)), (1, .int a1)]) rfl ?_
  refine zjn (h (fun (v2_1 : Int32) (v3_2 : Int32) => zX p l e (zrm 0 0) s m args below meth c (MQ below (zQc D B cA (zpI S I K)) args s 0 0 (fun q => B ≤ q)) D B cA 4 0 0 S I [(3, .int v3_2), (2, .int v2_1), (0, .ref (B + 491))] [] 4) (fun v2_1 v3_2 h => ?_)) (fun h => ?_)
  · refine zr_iload_n C dyX12_deepOf_4 rfl 0 rfl ?_
    refine zr_if_lt C dyX12_deepOf_5 (tgt := 21) (by decide) (fun hc_5 => ?_) (fun hc_5 => ?_)
    · replace h := zif_pos hc_5 h
      refine zr_iload_n C dyX12_deepOf_21 rfl 1 rfl ?_
      exact zr_iret C rfl dyX12_deepOf_22 ⟨rfl, rfl, _, rfl, h⟩
    · replace h := zif_neg hc_5 h
      refine zn_iinc C (fun v2_3 => [(2, .int v2_3), (3, .int v3_2), (0, .ref (B + 491))]) dyX12_deepOf_8 1 rfl zc_i_1 (Nat.le_of_ble_eq_true rfl) (fun _ => rfl) (fun v2_3 ev2_3 => ?_)
      replace h := h v2_3 ev2_3
      refine zr_aload_n C dyX12_deepOf_11 rfl 2 rfl ?_
      refine zg_12_108 C hS dyX12_deepOf_12 ?_
      refine zr_iload_n C dyX12_deepOf_15 rfl 1 rfl ?_
      refine zr_iald C (hS _ _ zs_524) h.1 dyX12_deepOf_16 ?_
      replace h := h.2
      refine zn_istore_n C (fun v3_4 => [(3, .int v3_4), (2, .int v2_3), (0, .ref (B + 491))]) dyX12_deepOf_17 rfl (Nat.le_of_ble_eq_true rfl) (fun _ => rfl) (fun v3_4 ev3_4 => ?_)
      replace h := h v3_4 ev3_4
      refine zr_goto C dyX12_deepOf_18 (tgt := 4) (by decide) ?_
      exact h
  refine zr_sub (lv2 := [(3, .int a1), (2, .int 0), (0, .ref (B + 491))]) [0, 1, 2] rfl ?_
  exact h
theorem zv_12_465 {p : Program} {l : Launch} {e : Env} {R : Room} {s : State} {m : MethodId} {args : Array Value} {below : List Frame} {meth : Method} {c : Code} {Q : State → Prop} {D : va_G} {B : Nat} {cA : Nat → ClassId} {ad : Nat → Nat} {cc : ByteArray} {nL : Nat} {ret : Option FieldType} {S : List zC} {I : zI} {lv : List (Nat × Value)} {st : List Value} {pc : Nat} (C : zCx p s m args meth c cc nL RX12 ret D B cA ad) {K : Int32 → Prop} {xa1 : Int32} (hS : zOkM S)  (h : w_M_deepOf xa1 I K) (hR : 0 + 1 ≤ R.frames ∧ 8 + (4 + 11) + (0) ≤ R.locals) (hw : (st.map fun v => v.category).sum ≤ 8) (hd : decode cc pc = .ok (.invokevirtual 465, 3)) (kk : ∀ v, K v → zX p l e R s m args below meth c Q D B cA nL 0 0 S I lv (.int v :: st) (pc + 3)) : zX p l e R s m args below meth c Q D B cA nL 0 0 S I lv (.int xa1 :: .ref (B + 491) :: st) pc :=
  have hf : 0 ≤ R.cells ∧ 0 ≤ R.slots := ⟨Nat.zero_le _, Nat.zero_le _⟩
  zc_VpI C (ci := 12) (q := (RX12, TX12, 82)) (k := 491) (fs := [none, some (some 492), some (some 493), none, some (some 494), none, some (some 495), none, none, none, some (some 496), some (some 497), some (some 498), some (some 499), some (some 500), none, some (some 501), some (some 502), some (some 503), none, some (some 504), some (some 505), some (some 506), some (some 507), some (some 508), none, some (some 509), some (some 510), some (some 511), some (some 512), some (some 513), some (some 514), some (some 515), some (some 516), some (some 517), some (some 518), none, none, some (some 519), none, some (some 520), none, none, none, some (some 521), some (some 522), some (some 523), some (some 524), some (some 525), some (some 526), some (some 527), none, some (some 528), none, some (some 529), none, some (some 530), some (some 531), some (some 532), none, some (some 533), some (some 534), some (some 535), some (some 536), some (some 537), none, none, none, some (some 538), some (some 539), some (some 540), none, none, none, some (some 541), none, none, some (some 542), some (some 543), some (some 544), none, some (some 545)]) (As := [.int xa1]) (st := st) rfl (hS _ _ zs_491) (c_M_deepOf hS h) (zgV zk_ml_12_465 zk_im_yX12_deepOf zk_se_yX12_deepOf zk_in_12 zk_cd_yX12_deepOf) zsg_yX12_deepOf hR rfl rfl hw hd hf kk
def w_M_common (a1 : Int32) (a2 : Int32) (I : zI) (K : Int32 → Prop) : Prop :=
  w_M_isToken a1 I (fun r_1 => (if r_1 = 0 then (K (-1)) else (w_M_isToken a2 I (fun r_2 => (if r_2 = 0 then (K (-1)) else (if a1 = a2 then (vp_in a1 110 ∧ (K (I.1 508 (Int32.toNatClampNeg a1)))) else (w_M_isInner a1 I (fun r_3 => (if r_3 = 0 then (K (-2)) else (w_M_isInner a2 I (fun r_4 => (if r_4 = 0 then (K (-2)) else (vp_in a1 110 ∧ (∀ v3_5, v3_5 = (I.1 508 (Int32.toNatClampNeg a1)) → vp_in a2 110 ∧ (∀ v4_6, v4_6 = (I.1 508 (Int32.toNatClampNeg a2)) → ∀ (P64 : Int32 → Prop), (∀ (v3_7 : Int32), (w_M_deepOf v3_7 I (fun r_8 => w_M_deepOf v4_6 I (fun r_9 => ∀ (P88 : Int32 → Prop), (∀ (v4_10 : Int32), (w_M_deepOf v4_10 I (fun r_11 => w_M_deepOf v3_7 I (fun r_12 => ∀ (P114 : Int32 → Int32 → Prop), (∀ (v3_13 : Int32) (v4_14 : Int32), ((if v3_13 = v4_14 then K v3_13 else (vp_in v3_13 3700 ∧ (∀ v3_15, v3_15 = (I.1 524 (Int32.toNatClampNeg v3_13)) → vp_in v4_14 3700 ∧ (∀ v4_16, v4_16 = (I.1 524 (Int32.toNatClampNeg v4_14)) → P114 v3_15 v4_16))))) → P114 v3_13 v4_14) → (if r_11 ≤ r_12 then P114 v3_7 v4_10 else (vp_in v4_10 3700 ∧ (∀ v4_18, v4_18 = (I.1 524 (Int32.toNatClampNeg v4_10)) → P88 v4_18)))))) → P88 v4_10) → (if r_8 ≤ r_9 then P88 v4_6 else (vp_in v3_7 3700 ∧ (∀ v3_20, v3_20 = (I.1 524 (Int32.toNatClampNeg v3_7)) → P64 v3_20)))))) → P64 v3_7) → P64 v3_5)))))))))))))))
theorem dyX12_common_0 : decode cX12_common 0 = .ok (.aload_n 0, 1) := by decide +kernel
theorem dyX12_common_1 : decode cX12_common 1 = .ok (.iload_n 1, 1) := by decide +kernel
theorem dyX12_common_2 : decode cX12_common 2 = .ok (.invokevirtual 414, 3) := by decide +kernel
theorem dyX12_common_5 : decode cX12_common 5 = .ok (.ifCond .eq 11, 3) := by decide +kernel
theorem dyX12_common_8 : decode cX12_common 8 = .ok (.aload_n 0, 1) := by decide +kernel
theorem dyX12_common_9 : decode cX12_common 9 = .ok (.iload_n 2, 1) := by decide +kernel
theorem dyX12_common_10 : decode cX12_common 10 = .ok (.invokevirtual 414, 3) := by decide +kernel
theorem dyX12_common_13 : decode cX12_common 13 = .ok (.ifCond .ne 5, 3) := by decide +kernel
theorem dyX12_common_16 : decode cX12_common 16 = .ok (.iconst (-1), 1) := by decide +kernel
theorem dyX12_common_17 : decode cX12_common 17 = .ok (.ireturn, 1) := by decide +kernel
theorem dyX12_common_18 : decode cX12_common 18 = .ok (.iload_n 1, 1) := by decide +kernel
theorem dyX12_common_19 : decode cX12_common 19 = .ok (.iload_n 2, 1) := by decide +kernel
theorem dyX12_common_20 : decode cX12_common 20 = .ok (.if_icmp .ne 10, 3) := by decide +kernel
theorem dyX12_common_23 : decode cX12_common 23 = .ok (.aload_n 0, 1) := by decide +kernel
theorem dyX12_common_24 : decode cX12_common 24 = .ok (.getfield 59, 3) := by decide +kernel
theorem dyX12_common_27 : decode cX12_common 27 = .ok (.iload_n 1, 1) := by decide +kernel
theorem dyX12_common_28 : decode cX12_common 28 = .ok (.iaload, 1) := by decide +kernel
theorem dyX12_common_29 : decode cX12_common 29 = .ok (.ireturn, 1) := by decide +kernel
theorem dyX12_common_30 : decode cX12_common 30 = .ok (.aload_n 0, 1) := by decide +kernel
theorem dyX12_common_31 : decode cX12_common 31 = .ok (.iload_n 1, 1) := by decide +kernel
theorem dyX12_common_32 : decode cX12_common 32 = .ok (.invokevirtual 462, 3) := by decide +kernel
theorem dyX12_common_35 : decode cX12_common 35 = .ok (.ifCond .eq 11, 3) := by decide +kernel
theorem dyX12_common_38 : decode cX12_common 38 = .ok (.aload_n 0, 1) := by decide +kernel
theorem dyX12_common_39 : decode cX12_common 39 = .ok (.iload_n 2, 1) := by decide +kernel
theorem dyX12_common_40 : decode cX12_common 40 = .ok (.invokevirtual 462, 3) := by decide +kernel
theorem dyX12_common_43 : decode cX12_common 43 = .ok (.ifCond .ne 6, 3) := by decide +kernel
theorem dyX12_common_46 : decode cX12_common 46 = .ok (.bipush (-2), 2) := by decide +kernel
theorem dyX12_common_48 : decode cX12_common 48 = .ok (.ireturn, 1) := by decide +kernel
theorem dyX12_common_49 : decode cX12_common 49 = .ok (.aload_n 0, 1) := by decide +kernel
theorem dyX12_common_50 : decode cX12_common 50 = .ok (.getfield 59, 3) := by decide +kernel
theorem dyX12_common_53 : decode cX12_common 53 = .ok (.iload_n 1, 1) := by decide +kernel
theorem dyX12_common_54 : decode cX12_common 54 = .ok (.iaload, 1) := by decide +kernel
theorem dyX12_common_55 : decode cX12_common 55 = .ok (.istore_n 3, 1) := by decide +kernel
theorem dyX12_common_56 : decode cX12_common 56 = .ok (.aload_n 0, 1) := by decide +kernel
theorem dyX12_common_57 : decode cX12_common 57 = .ok (.getfield 59, 3) := by decide +kernel
theorem dyX12_common_60 : decode cX12_common 60 = .ok (.iload_n 2, 1) := by decide +kernel
theorem dyX12_common_61 : decode cX12_common 61 = .ok (.iaload, 1) := by decide +kernel
theorem dyX12_common_62 : decode cX12_common 62 = .ok (.istore 4, 2) := by decide +kernel
theorem dyX12_common_64 : decode cX12_common 64 = .ok (.aload_n 0, 1) := by decide +kernel
theorem dyX12_common_65 : decode cX12_common 65 = .ok (.iload_n 3, 1) := by decide +kernel
theorem dyX12_common_66 : decode cX12_common 66 = .ok (.invokevirtual 465, 3) := by decide +kernel
theorem dyX12_common_69 : decode cX12_common 69 = .ok (.aload_n 0, 1) := by decide +kernel
theorem dyX12_common_70 : decode cX12_common 70 = .ok (.iload 4, 2) := by decide +kernel
theorem dyX12_common_72 : decode cX12_common 72 = .ok (.invokevirtual 465, 3) := by decide +kernel
theorem dyX12_common_75 : decode cX12_common 75 = .ok (.if_icmp .le 13, 3) := by decide +kernel
theorem dyX12_common_78 : decode cX12_common 78 = .ok (.aload_n 0, 1) := by decide +kernel
theorem dyX12_common_79 : decode cX12_common 79 = .ok (.getfield 108, 3) := by decide +kernel
theorem dyX12_common_82 : decode cX12_common 82 = .ok (.iload_n 3, 1) := by decide +kernel
theorem dyX12_common_83 : decode cX12_common 83 = .ok (.iaload, 1) := by decide +kernel
theorem dyX12_common_84 : decode cX12_common 84 = .ok (.istore_n 3, 1) := by decide +kernel
theorem dyX12_common_85 : decode cX12_common 85 = .ok (.goto (-21), 3) := by decide +kernel
theorem dyX12_common_88 : decode cX12_common 88 = .ok (.aload_n 0, 1) := by decide +kernel
theorem dyX12_common_89 : decode cX12_common 89 = .ok (.iload 4, 2) := by decide +kernel
theorem dyX12_common_91 : decode cX12_common 91 = .ok (.invokevirtual 465, 3) := by decide +kernel
theorem dyX12_common_94 : decode cX12_common 94 = .ok (.aload_n 0, 1) := by decide +kernel
theorem dyX12_common_95 : decode cX12_common 95 = .ok (.iload_n 3, 1) := by decide +kernel
theorem dyX12_common_96 : decode cX12_common 96 = .ok (.invokevirtual 465, 3) := by decide +kernel
theorem dyX12_common_99 : decode cX12_common 99 = .ok (.if_icmp .le 15, 3) := by decide +kernel
theorem dyX12_common_102 : decode cX12_common 102 = .ok (.aload_n 0, 1) := by decide +kernel
theorem dyX12_common_103 : decode cX12_common 103 = .ok (.getfield 108, 3) := by decide +kernel
theorem dyX12_common_106 : decode cX12_common 106 = .ok (.iload 4, 2) := by decide +kernel
theorem dyX12_common_108 : decode cX12_common 108 = .ok (.iaload, 1) := by decide +kernel
theorem dyX12_common_109 : decode cX12_common 109 = .ok (.istore 4, 2) := by decide +kernel
theorem dyX12_common_111 : decode cX12_common 111 = .ok (.goto (-23), 3) := by decide +kernel
theorem dyX12_common_114 : decode cX12_common 114 = .ok (.iload_n 3, 1) := by decide +kernel
theorem dyX12_common_115 : decode cX12_common 115 = .ok (.iload 4, 2) := by decide +kernel
theorem dyX12_common_117 : decode cX12_common 117 = .ok (.if_icmp .eq 22, 3) := by decide +kernel
theorem dyX12_common_120 : decode cX12_common 120 = .ok (.aload_n 0, 1) := by decide +kernel
theorem dyX12_common_121 : decode cX12_common 121 = .ok (.getfield 108, 3) := by decide +kernel
theorem dyX12_common_124 : decode cX12_common 124 = .ok (.iload_n 3, 1) := by decide +kernel
theorem dyX12_common_125 : decode cX12_common 125 = .ok (.iaload, 1) := by decide +kernel
theorem dyX12_common_126 : decode cX12_common 126 = .ok (.istore_n 3, 1) := by decide +kernel
theorem dyX12_common_127 : decode cX12_common 127 = .ok (.aload_n 0, 1) := by decide +kernel
theorem dyX12_common_128 : decode cX12_common 128 = .ok (.getfield 108, 3) := by decide +kernel
theorem dyX12_common_131 : decode cX12_common 131 = .ok (.iload 4, 2) := by decide +kernel
theorem dyX12_common_133 : decode cX12_common 133 = .ok (.iaload, 1) := by decide +kernel
theorem dyX12_common_134 : decode cX12_common 134 = .ok (.istore 4, 2) := by decide +kernel
theorem dyX12_common_136 : decode cX12_common 136 = .ok (.goto (-22), 3) := by decide +kernel
theorem dyX12_common_139 : decode cX12_common 139 = .ok (.iload_n 3, 1) := by decide +kernel
theorem dyX12_common_140 : decode cX12_common 140 = .ok (.ireturn, 1) := by decide +kernel
theorem zsg_yX12_common : yX12_common.cls = RX12 ∧ yX12_common.cls ≠ "java/lang/invoke/MethodHandle" ∧ yX12_common.cls ≠ "java/lang/invoke/VarHandle" ∧ (parseMethodDescriptor yX12_common.desc).map (fun d => d.parameters.length) = some 2 := by decide +kernel
set_option maxRecDepth 20000 in
theorem c_M_common {l : Launch} {D : va_G} {B : Nat} {cA : Nat → ClassId} {ad : Nat → Nat} {S : List zC} (hS : zOkM S) {a1 : Int32} {a2 : Int32} {I : zI} {K : Int32 → Prop}  (h : w_M_common a1 a2 I K) : Met l yX12_common (zws yX12_common cX12_common 5 (some .int)) (zrm 2 43) (zPc D B cA ad [.ref (B + 491), .int a1, .int a2] S I) (zQc D B cA (zpI S I K)) 0 0 (fun q => B ≤ q) := by
  refine zm_of (cc := cX12_common) (maxL := 5) (ret := (some .int)) (by decide +kernel) rfl (Nat.le_of_ble_eq_true rfl) trivial ?_
  intro p e s m args below meth c C _
  unfold w_M_common at h
  show zX p l e (zrm 2 43) s m args below meth c (MQ below (zQc D B cA (zpI S I K)) args s 0 0 (fun q => B ≤ q)) D B cA 5 0 0 S I [(0, .ref (B + 491)), (1, .int a1), (2, .int a2)] [] 0
  refine zr_aload_n C dyX12_common_0 rfl 0 rfl ?_
  refine zr_iload_n C dyX12_common_1 rfl 1 rfl ?_
  refine zv_12_414 C hS (st := []) h ⟨Nat.le_of_ble_eq_true rfl, Nat.le_of_ble_eq_true rfl⟩ (Nat.le_of_ble_eq_true rfl) dyX12_common_2 (fun r_1 h => ?_)
  refine zr_if_eq C dyX12_common_5 (tgt := 16) (by decide) (fun hc_26 => ?_) (fun hc_26 => ?_)
  · replace h := zif_pos hc_26 h
    refine zr_iconst C dyX12_common_16 zc_i_m1 ?_
    exact zr_iret C rfl dyX12_common_17 ⟨rfl, rfl, _, rfl, h⟩
  · replace h := zif_neg hc_26 h
    refine zr_aload_n C dyX12_common_8 rfl 0 rfl ?_
    refine zr_iload_n C dyX12_common_9 rfl 2 rfl ?_
    refine zv_12_414 C hS (st := []) h ⟨Nat.le_of_ble_eq_true rfl, Nat.le_of_ble_eq_true rfl⟩ (Nat.le_of_ble_eq_true rfl) dyX12_common_10 (fun r_2 h => ?_)
    refine zr_if_ne C dyX12_common_13 (tgt := 18) (by decide) (fun hc_25 => ?_) (fun hc_25 => ?_)
    · replace h := zif_neg hc_25 h
      refine zr_iload_n C dyX12_common_18 rfl 1 rfl ?_
      refine zr_iload_n C dyX12_common_19 rfl 2 rfl ?_
      refine zr_icmp_ne C dyX12_common_20 (tgt := 30) (by decide) (fun hc_24 => ?_) (fun hc_24 => ?_)
      · replace h := zif_neg hc_24 h
        refine zr_aload_n C dyX12_common_30 rfl 0 rfl ?_
        refine zr_iload_n C dyX12_common_31 rfl 1 rfl ?_
        refine zv_12_462 C hS (st := []) h ⟨Nat.le_of_ble_eq_true rfl, Nat.le_of_ble_eq_true rfl⟩ (Nat.le_of_ble_eq_true rfl) dyX12_common_32 (fun r_3 h => ?_)
        refine zr_if_eq C dyX12_common_35 (tgt := 46) (by decide) (fun hc_23 => ?_) (fun hc_23 => ?_)
        · replace h := zif_pos hc_23 h
          refine zr_bipush C dyX12_common_46 zc_b_m2 ?_
          exact zr_iret C rfl dyX12_common_48 ⟨rfl, rfl, _, rfl, h⟩
        · replace h := zif_neg hc_23 h
          refine zr_aload_n C dyX12_common_38 rfl 0 rfl ?_
          refine zr_iload_n C dyX12_common_39 rfl 2 rfl ?_
          refine zv_12_462 C hS (st := []) h ⟨Nat.le_of_ble_eq_true rfl, Nat.le_of_ble_eq_true rfl⟩ (Nat.le_of_ble_eq_true rfl) dyX12_common_40 (fun r_4 h => ?_)
          refine zr_if_ne C dyX12_common_43 (tgt := 49) (by decide) (fun hc_22 => ?_) (fun hc_22 => ?_)
          · replace h := zif_neg hc_22 h
            refine zr_aload_n C dyX12_common_49 rfl 0 rfl ?_
            refine zg_12_59 C hS dyX12_common_50 ?_
            refine zr_iload_n C dyX12_common_53 rfl 1 rfl ?_
            refine zr_iald C (hS _ _ zs_508) h.1 dyX12_common_54 ?_
            replace h := h.2
            refine zn_istore_n C (fun v3_5 => [(3, .int v3_5), (0, .ref (B + 491)), (1, .int a1), (2, .int a2)]) dyX12_common_55 rfl (Nat.le_of_ble_eq_true rfl) (fun _ => rfl) (fun v3_5 ev3_5 => ?_)
            replace h := h v3_5 ev3_5
            refine zr_aload_n C dyX12_common_56 rfl 1 rfl ?_
            refine zg_12_59 C hS dyX12_common_57 ?_
            refine zr_iload_n C dyX12_common_60 rfl 3 rfl ?_
            refine zr_iald C (hS _ _ zs_508) h.1 dyX12_common_61 ?_
            replace h := h.2
            refine zn_istore C (fun v4_6 => [(4, .int v4_6), (3, .int v3_5), (0, .ref (B + 491)), (1, .int a1), (2, .int a2)]) dyX12_common_62 (Nat.le_of_ble_eq_true rfl) (fun _ => rfl) (fun v4_6 ev4_6 => ?_)
            replace h := h v4_6 ev4_6
            refine zjn (h (fun (v3_7 : Int32) => zX p l e (zrm 2 43) s m args below meth c (MQ below (zQc D B cA (zpI S I K)) args s 0 0 (fun q => B ≤ q)) D B cA 5 0 0 S I [(4, .int v4_6), (3, .int v3_7), (0, .ref (B + 491))] [] 64) (fun v3_7 h => ?_)) (fun h => ?_)
            · refine zr_aload_n C dyX12_common_64 rfl 2 rfl ?_
              refine zr_iload_n C dyX12_common_65 rfl 1 rfl ?_
              refine zv_12_465 C hS (st := []) h ⟨Nat.le_of_ble_eq_true rfl, Nat.le_of_ble_eq_true rfl⟩ (Nat.le_of_ble_eq_true rfl) dyX12_common_66 (fun r_8 h => ?_)
              refine zr_aload_n C dyX12_common_69 rfl 2 rfl ?_
              refine zr_iload C dyX12_common_70 0 rfl ?_
              refine zv_12_465 C hS (st := [.int r_8]) h ⟨Nat.le_of_ble_eq_true rfl, Nat.le_of_ble_eq_true rfl⟩ (Nat.le_of_ble_eq_true rfl) dyX12_common_72 (fun r_9 h => ?_)
              refine zjn (h (fun (v4_10 : Int32) => zX p l e (zrm 2 43) s m args below meth c (MQ below (zQc D B cA (zpI S I K)) args s 0 0 (fun q => B ≤ q)) D B cA 5 0 0 S I [(4, .int v4_10), (3, .int v3_7), (0, .ref (B + 491))] [] 88) (fun v4_10 h => ?_)) (fun h => ?_)
              · refine zr_aload_n C dyX12_common_88 rfl 2 rfl ?_
                refine zr_iload C dyX12_common_89 0 rfl ?_
                refine zv_12_465 C hS (st := []) h ⟨Nat.le_of_ble_eq_true rfl, Nat.le_of_ble_eq_true rfl⟩ (Nat.le_of_ble_eq_true rfl) dyX12_common_91 (fun r_11 h => ?_)
                refine zr_aload_n C dyX12_common_94 rfl 2 rfl ?_
                refine zr_iload_n C dyX12_common_95 rfl 1 rfl ?_
                refine zv_12_465 C hS (st := [.int r_11]) h ⟨Nat.le_of_ble_eq_true rfl, Nat.le_of_ble_eq_true rfl⟩ (Nat.le_of_ble_eq_true rfl) dyX12_common_96 (fun r_12 h => ?_)
                refine zjn (h (fun (v3_13 : Int32) (v4_14 : Int32) => zX p l e (zrm 2 43) s m args below meth c (MQ below (zQc D B cA (zpI S I K)) args s 0 0 (fun q => B ≤ q)) D B cA 5 0 0 S I [(4, .int v4_14), (3, .int v3_13), (0, .ref (B + 491))] [] 114) (fun v3_13 v4_14 h => ?_)) (fun h => ?_)
                · refine zr_iload_n C dyX12_common_114 rfl 1 rfl ?_
                  refine zr_iload C dyX12_common_115 0 rfl ?_
                  refine zr_icmp_eq C dyX12_common_117 (tgt := 139) (by decide) (fun hc_17 => ?_) (fun hc_17 => ?_)
                  · replace h := zif_pos hc_17 h
                    refine zr_iload_n C dyX12_common_139 rfl 1 rfl ?_
                    exact zr_iret C rfl dyX12_common_140 ⟨rfl, rfl, _, rfl, h⟩
                  · replace h := zif_neg hc_17 h
                    refine zr_aload_n C dyX12_common_120 rfl 2 rfl ?_
                    refine zg_12_108 C hS dyX12_common_121 ?_
                    refine zr_iload_n C dyX12_common_124 rfl 1 rfl ?_
                    refine zr_iald C (hS _ _ zs_524) h.1 dyX12_common_125 ?_
                    replace h := h.2
                    refine zn_istore_n C (fun v3_15 => [(3, .int v3_15), (4, .int v4_14), (0, .ref (B + 491))]) dyX12_common_126 rfl (Nat.le_of_ble_eq_true rfl) (fun _ => rfl) (fun v3_15 ev3_15 => ?_)
                    replace h := h v3_15 ev3_15
                    refine zr_aload_n C dyX12_common_127 rfl 2 rfl ?_
                    refine zg_12_108 C hS dyX12_common_128 ?_
                    refine zr_iload C dyX12_common_131 1 rfl ?_
                    refine zr_iald C (hS _ _ zs_524) h.1 dyX12_common_133 ?_
                    replace h := h.2
                    refine zn_istore C (fun v4_16 => [(4, .int v4_16), (3, .int v3_15), (0, .ref (B + 491))]) dyX12_common_134 (Nat.le_of_ble_eq_true rfl) (fun _ => rfl) (fun v4_16 ev4_16 => ?_)
                    replace h := h v4_16 ev4_16
                    refine zr_goto C dyX12_common_136 (tgt := 114) (by decide) ?_
                    exact h
                refine zr_icmp_le C dyX12_common_99 (tgt := 114) (by decide) (fun hc_19 => ?_) (fun hc_19 => ?_)
                · replace h := zif_pos hc_19 h
                  exact h
                · replace h := zif_neg hc_19 h
                  refine zr_aload_n C dyX12_common_102 rfl 2 rfl ?_
                  refine zg_12_108 C hS dyX12_common_103 ?_
                  refine zr_iload C dyX12_common_106 0 rfl ?_
                  refine zr_iald C (hS _ _ zs_524) h.1 dyX12_common_108 ?_
                  replace h := h.2
                  refine zn_istore C (fun v4_18 => [(4, .int v4_18), (3, .int v3_7), (0, .ref (B + 491))]) dyX12_common_109 (Nat.le_of_ble_eq_true rfl) (fun _ => rfl) (fun v4_18 ev4_18 => ?_)
                  replace h := h v4_18 ev4_18
                  refine zr_goto C dyX12_common_111 (tgt := 88) (by decide) ?_
                  exact h
              refine zr_icmp_le C dyX12_common_75 (tgt := 88) (by decide) (fun hc_21 => ?_) (fun hc_21 => ?_)
              · replace h := zif_pos hc_21 h
                exact h
              · replace h := zif_neg hc_21 h
                refine zr_aload_n C dyX12_common_78 rfl 2 rfl ?_
                refine zg_12_108 C hS dyX12_common_79 ?_
                refine zr_iload_n C dyX12_common_82 rfl 1 rfl ?_
                refine zr_iald C (hS _ _ zs_524) h.1 dyX12_common_83 ?_
                replace h := h.2
                refine zn_istore_n C (fun v3_20 => [(3, .int v3_20), (4, .int v4_6), (0, .ref (B + 491))]) dyX12_common_84 rfl (Nat.le_of_ble_eq_true rfl) (fun _ => rfl) (fun v3_20 ev3_20 => ?_)
                replace h := h v3_20 ev3_20
                refine zr_goto C dyX12_common_85 (tgt := 64) (by decide) ?_
                refine zr_sub (lv2 := [(4, .int v4_6), (3, .int v3_20), (0, .ref (B + 491))]) [1, 0, 2] rfl ?_
                exact h
            refine zr_sub (lv2 := [(4, .int v4_6), (3, .int v3_5), (0, .ref (B + 491))]) [0, 1, 2] rfl ?_
            exact h
          · replace h := zif_pos hc_22 h
            refine zr_bipush C dyX12_common_46 zc_b_m2 ?_
            exact zr_iret C rfl dyX12_common_48 ⟨rfl, rfl, _, rfl, h⟩
      · replace h := zif_pos hc_24 h
        refine zr_aload_n C dyX12_common_23 rfl 0 rfl ?_
        refine zg_12_59 C hS dyX12_common_24 ?_
        refine zr_iload_n C dyX12_common_27 rfl 1 rfl ?_
        refine zr_iald C (hS _ _ zs_508) h.1 dyX12_common_28 ?_
        replace h := h.2
        exact zr_iret C rfl dyX12_common_29 ⟨rfl, rfl, _, rfl, h⟩
    · replace h := zif_pos hc_25 h
      refine zr_iconst C dyX12_common_16 zc_i_m1 ?_
      exact zr_iret C rfl dyX12_common_17 ⟨rfl, rfl, _, rfl, h⟩
def w_M_path (a1 : Int32) (a2 : Int32) (I : zI) (K : Int32 → Prop) : Prop :=
  w_M_isInner a1 I (fun r_1 => (if r_1 = 0 then (K (-1)) else (vp_in a1 110 ∧ (w_M_deepOf (I.1 508 (Int32.toNatClampNeg a1)) I (fun r_2 => w_M_in a2 0 (r_2 - 1) I (fun r_3 => (if r_3 = 0 then (K (-1)) else (vp_in a1 110 ∧ (∀ v4_4, v4_4 = (I.1 508 (Int32.toNatClampNeg a1)) → ∀ v5_5, v5_5 = (r_2 - 1) → ∀ (P47 : Int32 → Int32 → Prop), (∀ (v4_6 : Int32) (v5_7 : Int32), ((if v5_7 ≤ a2 then K v4_6 else (vp_in v4_6 3700 ∧ (∀ v4_8, v4_8 = (I.1 524 (Int32.toNatClampNeg v4_6)) → ∀ v5_9, v5_9 = (v5_7 + (-1)) → P47 v4_8 v5_9)))) → P47 v4_6 v5_7) → P47 v4_4 v5_5)))))))))
theorem dyX12_path_0 : decode cX12_path 0 = .ok (.aload_n 0, 1) := by decide +kernel
theorem dyX12_path_1 : decode cX12_path 1 = .ok (.iload_n 1, 1) := by decide +kernel
theorem dyX12_path_2 : decode cX12_path 2 = .ok (.invokevirtual 462, 3) := by decide +kernel
theorem dyX12_path_5 : decode cX12_path 5 = .ok (.ifCond .ne 5, 3) := by decide +kernel
theorem dyX12_path_8 : decode cX12_path 8 = .ok (.iconst (-1), 1) := by decide +kernel
theorem dyX12_path_9 : decode cX12_path 9 = .ok (.ireturn, 1) := by decide +kernel
theorem dyX12_path_10 : decode cX12_path 10 = .ok (.aload_n 0, 1) := by decide +kernel
theorem dyX12_path_11 : decode cX12_path 11 = .ok (.aload_n 0, 1) := by decide +kernel
theorem dyX12_path_12 : decode cX12_path 12 = .ok (.getfield 59, 3) := by decide +kernel
theorem dyX12_path_15 : decode cX12_path 15 = .ok (.iload_n 1, 1) := by decide +kernel
theorem dyX12_path_16 : decode cX12_path 16 = .ok (.iaload, 1) := by decide +kernel
theorem dyX12_path_17 : decode cX12_path 17 = .ok (.invokevirtual 465, 3) := by decide +kernel
theorem dyX12_path_20 : decode cX12_path 20 = .ok (.istore_n 3, 1) := by decide +kernel
theorem dyX12_path_21 : decode cX12_path 21 = .ok (.iload_n 2, 1) := by decide +kernel
theorem dyX12_path_22 : decode cX12_path 22 = .ok (.iconst 0, 1) := by decide +kernel
theorem dyX12_path_23 : decode cX12_path 23 = .ok (.iload_n 3, 1) := by decide +kernel
theorem dyX12_path_24 : decode cX12_path 24 = .ok (.iconst 1, 1) := by decide +kernel
theorem dyX12_path_25 : decode cX12_path 25 = .ok (.isub, 1) := by decide +kernel
theorem dyX12_path_26 : decode cX12_path 26 = .ok (.invokestatic 286, 3) := by decide +kernel
theorem dyX12_path_29 : decode cX12_path 29 = .ok (.ifCond .ne 5, 3) := by decide +kernel
theorem dyX12_path_32 : decode cX12_path 32 = .ok (.iconst (-1), 1) := by decide +kernel
theorem dyX12_path_33 : decode cX12_path 33 = .ok (.ireturn, 1) := by decide +kernel
theorem dyX12_path_34 : decode cX12_path 34 = .ok (.aload_n 0, 1) := by decide +kernel
theorem dyX12_path_35 : decode cX12_path 35 = .ok (.getfield 59, 3) := by decide +kernel
theorem dyX12_path_38 : decode cX12_path 38 = .ok (.iload_n 1, 1) := by decide +kernel
theorem dyX12_path_39 : decode cX12_path 39 = .ok (.iaload, 1) := by decide +kernel
theorem dyX12_path_40 : decode cX12_path 40 = .ok (.istore 4, 2) := by decide +kernel
theorem dyX12_path_42 : decode cX12_path 42 = .ok (.iload_n 3, 1) := by decide +kernel
theorem dyX12_path_43 : decode cX12_path 43 = .ok (.iconst 1, 1) := by decide +kernel
theorem dyX12_path_44 : decode cX12_path 44 = .ok (.isub, 1) := by decide +kernel
theorem dyX12_path_45 : decode cX12_path 45 = .ok (.istore 5, 2) := by decide +kernel
theorem dyX12_path_47 : decode cX12_path 47 = .ok (.iload 5, 2) := by decide +kernel
theorem dyX12_path_49 : decode cX12_path 49 = .ok (.iload_n 2, 1) := by decide +kernel
theorem dyX12_path_50 : decode cX12_path 50 = .ok (.if_icmp .le 18, 3) := by decide +kernel
theorem dyX12_path_53 : decode cX12_path 53 = .ok (.aload_n 0, 1) := by decide +kernel
theorem dyX12_path_54 : decode cX12_path 54 = .ok (.getfield 108, 3) := by decide +kernel
theorem dyX12_path_57 : decode cX12_path 57 = .ok (.iload 4, 2) := by decide +kernel
theorem dyX12_path_59 : decode cX12_path 59 = .ok (.iaload, 1) := by decide +kernel
theorem dyX12_path_60 : decode cX12_path 60 = .ok (.istore 4, 2) := by decide +kernel
theorem dyX12_path_62 : decode cX12_path 62 = .ok (.iinc 5 (-1), 3) := by decide +kernel
theorem dyX12_path_65 : decode cX12_path 65 = .ok (.goto (-18), 3) := by decide +kernel
theorem dyX12_path_68 : decode cX12_path 68 = .ok (.iload 4, 2) := by decide +kernel
theorem dyX12_path_70 : decode cX12_path 70 = .ok (.ireturn, 1) := by decide +kernel
theorem zsg_yX12_path : yX12_path.cls = RX12 ∧ yX12_path.cls ≠ "java/lang/invoke/MethodHandle" ∧ yX12_path.cls ≠ "java/lang/invoke/VarHandle" ∧ (parseMethodDescriptor yX12_path.desc).map (fun d => d.parameters.length) = some 2 := by decide +kernel
set_option maxRecDepth 20000 in
theorem c_M_path {l : Launch} {D : va_G} {B : Nat} {cA : Nat → ClassId} {ad : Nat → Nat} {S : List zC} (hS : zOkM S) {a1 : Int32} {a2 : Int32} {I : zI} {K : Int32 → Prop}  (h : w_M_path a1 a2 I K) : Met l yX12_path (zws yX12_path cX12_path 6 (some .int)) (zrm 2 43) (zPc D B cA ad [.ref (B + 491), .int a1, .int a2] S I) (zQc D B cA (zpI S I K)) 0 0 (fun q => B ≤ q) := by
  refine zm_of (cc := cX12_path) (maxL := 6) (ret := (some .int)) (by decide +kernel) rfl (Nat.le_of_ble_eq_true rfl) trivial ?_
  intro p e s m args below meth c C _
  unfold w_M_path at h
  show zX p l e (zrm 2 43) s m args below meth c (MQ below (zQc D B cA (zpI S I K)) args s 0 0 (fun q => B ≤ q)) D B cA 6 0 0 S I [(0, .ref (B + 491)), (1, .int a1), (2, .int a2)] [] 0
  refine zr_aload_n C dyX12_path_0 rfl 0 rfl ?_
  refine zr_iload_n C dyX12_path_1 rfl 1 rfl ?_
  refine zv_12_462 C hS (st := []) h ⟨Nat.le_of_ble_eq_true rfl, Nat.le_of_ble_eq_true rfl⟩ (Nat.le_of_ble_eq_true rfl) dyX12_path_2 (fun r_1 h => ?_)
  refine zr_if_ne C dyX12_path_5 (tgt := 10) (by decide) (fun hc_12 => ?_) (fun hc_12 => ?_)
  · replace h := zif_neg hc_12 h
    refine zr_aload_n C dyX12_path_10 rfl 0 rfl ?_
    refine zr_aload_n C dyX12_path_11 rfl 0 rfl ?_
    refine zg_12_59 C hS dyX12_path_12 ?_
    refine zr_iload_n C dyX12_path_15 rfl 1 rfl ?_
    refine zr_iald C (hS _ _ zs_508) h.1 dyX12_path_16 ?_
    replace h := h.2
    refine zv_12_465 C hS (st := []) h ⟨Nat.le_of_ble_eq_true rfl, Nat.le_of_ble_eq_true rfl⟩ (Nat.le_of_ble_eq_true rfl) dyX12_path_17 (fun r_2 h => ?_)
    refine zr_istore_n C dyX12_path_20 rfl (Nat.le_of_ble_eq_true rfl) (lv2 := [(3, .int r_2), (0, .ref (B + 491)), (1, .int a1), (2, .int a2)]) rfl ?_
    refine zr_iload_n C dyX12_path_21 rfl 3 rfl ?_
    refine zr_iconst C dyX12_path_22 zc_i_0 ?_
    refine zr_iload_n C dyX12_path_23 rfl 0 rfl ?_
    refine zr_iconst C dyX12_path_24 zc_i_1 ?_
    refine zr_isub C dyX12_path_25 ?_
    refine zv_12_286 C hS (st := []) h ⟨Nat.le_of_ble_eq_true rfl, Nat.le_of_ble_eq_true rfl⟩ (Nat.le_of_ble_eq_true rfl) dyX12_path_26 (fun r_3 h => ?_)
    refine zr_if_ne C dyX12_path_29 (tgt := 34) (by decide) (fun hc_11 => ?_) (fun hc_11 => ?_)
    · replace h := zif_neg hc_11 h
      refine zr_aload_n C dyX12_path_34 rfl 1 rfl ?_
      refine zg_12_59 C hS dyX12_path_35 ?_
      refine zr_iload_n C dyX12_path_38 rfl 2 rfl ?_
      refine zr_iald C (hS _ _ zs_508) h.1 dyX12_path_39 ?_
      replace h := h.2
      refine zn_istore C (fun v4_4 => [(4, .int v4_4), (3, .int r_2), (0, .ref (B + 491)), (1, .int a1), (2, .int a2)]) dyX12_path_40 (Nat.le_of_ble_eq_true rfl) (fun _ => rfl) (fun v4_4 ev4_4 => ?_)
      replace h := h v4_4 ev4_4
      refine zr_iload_n C dyX12_path_42 rfl 1 rfl ?_
      refine zr_iconst C dyX12_path_43 zc_i_1 ?_
      refine zr_isub C dyX12_path_44 ?_
      refine zn_istore C (fun v5_5 => [(5, .int v5_5), (4, .int v4_4), (3, .int r_2), (0, .ref (B + 491)), (1, .int a1), (2, .int a2)]) dyX12_path_45 (Nat.le_of_ble_eq_true rfl) (fun _ => rfl) (fun v5_5 ev5_5 => ?_)
      replace h := h v5_5 ev5_5
      refine zjn (h (fun (v4_6 : Int32) (v5_7 : Int32) => zX p l e (zrm 2 43) s m args below meth c (MQ below (zQc D B cA (zpI S I K)) args s 0 0 (fun q => B ≤ q)) D B cA 6 0 0 S I [(5, .int v5_7), (4, .int v4_6), (0, .ref (B + 491)), (2, .int a2)] [] 47) (fun v4_6 v5_7 h => ?_)) (fun h => ?_)
      · refine zr_iload C dyX12_path_47 0 rfl ?_
        refine zr_iload_n C dyX12_path_49 rfl 3 rfl ?_
        refine zr_icmp_le C dyX12_path_50 (tgt := 68) (by decide) (fun hc_10 => ?_) (fun hc_10 => ?_)
        · replace h := zif_pos hc_10 h
          refine zr_iload C dyX12_path_68 1 rfl ?_
          exact zr_iret C rfl dyX12_path_70 ⟨rfl, rfl, _, rfl, h⟩
        · replace h := zif_neg hc_10 h
          refine zr_aload_n C dyX12_path_53 rfl 2 rfl ?_
          refine zg_12_108 C hS dyX12_path_54 ?_
          refine zr_iload C dyX12_path_57 1 rfl ?_
          refine zr_iald C (hS _ _ zs_524) h.1 dyX12_path_59 ?_
          replace h := h.2
          refine zn_istore C (fun v4_8 => [(4, .int v4_8), (5, .int v5_7), (0, .ref (B + 491)), (2, .int a2)]) dyX12_path_60 (Nat.le_of_ble_eq_true rfl) (fun _ => rfl) (fun v4_8 ev4_8 => ?_)
          replace h := h v4_8 ev4_8
          refine zn_iinc C (fun v5_9 => [(5, .int v5_9), (4, .int v4_8), (0, .ref (B + 491)), (2, .int a2)]) dyX12_path_62 1 rfl zc_i_m1 (Nat.le_of_ble_eq_true rfl) (fun _ => rfl) (fun v5_9 ev5_9 => ?_)
          replace h := h v5_9 ev5_9
          refine zr_goto C dyX12_path_65 (tgt := 47) (by decide) ?_
          exact h
      refine zr_sub (lv2 := [(5, .int v5_5), (4, .int v4_4), (0, .ref (B + 491)), (2, .int a2)]) [0, 1, 3, 5] rfl ?_
      exact h
    · replace h := zif_pos hc_11 h
      refine zr_iconst C dyX12_path_32 zc_i_m1 ?_
      exact zr_iret C rfl dyX12_path_33 ⟨rfl, rfl, _, rfl, h⟩
  · replace h := zif_pos hc_12 h
    refine zr_iconst C dyX12_path_8 zc_i_m1 ?_
    exact zr_iret C rfl dyX12_path_9 ⟨rfl, rfl, _, rfl, h⟩
def w_M_setNames  (I : zI) (K : Int32 → Prop) : Prop :=
  ∀ (P4 : Int32 → Int32 → Prop), (∀ (v1_1 : Int32) (v2_2 : Int32), ((if (I.1 491 53) ≤ v2_2 then K v1_1 else (∀ (P17 : Int32 → Int32 → Prop), (∀ (v3_3 : Int32) (v4_4 : Int32), ((if v2_2 ≤ v4_4 then (∀ (P53 : Int32 → Prop), (∀ (v1_5 : Int32), (∀ v2_6, v2_6 = (v2_2 + 1) → P4 v1_5 v2_6) → P53 v1_5) → (if v3_3 = 0 then P53 v1_1 else (∀ v1_7, v1_7 = (v1_1 + 1) → P53 v1_7))) else (w_M_setName v4_4 I (fun r_9 => w_M_setName v2_2 I (fun r_10 => ∀ (P40 : Int32 → Prop), (∀ (v3_11 : Int32), (∀ v4_12, v4_12 = (v4_4 + 1) → P17 v3_11 v4_12) → P40 v3_11) → (if (lg_cmp r_9 r_10) = 0 then P40 0 else P40 v3_3)))))) → P17 v3_3 v4_4) → P17 1 0))) → P4 v1_1 v2_2) → P4 0 0
theorem dyX12_setNames_0 : decode cX12_setNames 0 = .ok (.iconst 0, 1) := by decide +kernel
theorem dyX12_setNames_1 : decode cX12_setNames 1 = .ok (.istore_n 1, 1) := by decide +kernel
theorem dyX12_setNames_2 : decode cX12_setNames 2 = .ok (.iconst 0, 1) := by decide +kernel
theorem dyX12_setNames_3 : decode cX12_setNames 3 = .ok (.istore_n 2, 1) := by decide +kernel
theorem dyX12_setNames_4 : decode cX12_setNames 4 = .ok (.iload_n 2, 1) := by decide +kernel
theorem dyX12_setNames_5 : decode cX12_setNames 5 = .ok (.aload_n 0, 1) := by decide +kernel
theorem dyX12_setNames_6 : decode cX12_setNames 6 = .ok (.getfield 293, 3) := by decide +kernel
theorem dyX12_setNames_9 : decode cX12_setNames 9 = .ok (.if_icmp .ge 50, 3) := by decide +kernel
theorem dyX12_setNames_12 : decode cX12_setNames 12 = .ok (.iconst 1, 1) := by decide +kernel
theorem dyX12_setNames_13 : decode cX12_setNames 13 = .ok (.istore_n 3, 1) := by decide +kernel
theorem dyX12_setNames_14 : decode cX12_setNames 14 = .ok (.iconst 0, 1) := by decide +kernel
theorem dyX12_setNames_15 : decode cX12_setNames 15 = .ok (.istore 4, 2) := by decide +kernel
theorem dyX12_setNames_17 : decode cX12_setNames 17 = .ok (.iload 4, 2) := by decide +kernel
theorem dyX12_setNames_19 : decode cX12_setNames 19 = .ok (.iload_n 2, 1) := by decide +kernel
theorem dyX12_setNames_20 : decode cX12_setNames 20 = .ok (.if_icmp .ge 26, 3) := by decide +kernel
theorem dyX12_setNames_23 : decode cX12_setNames 23 = .ok (.aload_n 0, 1) := by decide +kernel
theorem dyX12_setNames_24 : decode cX12_setNames 24 = .ok (.iload 4, 2) := by decide +kernel
theorem dyX12_setNames_26 : decode cX12_setNames 26 = .ok (.invokevirtual 451, 3) := by decide +kernel
theorem dyX12_setNames_29 : decode cX12_setNames 29 = .ok (.aload_n 0, 1) := by decide +kernel
theorem dyX12_setNames_30 : decode cX12_setNames 30 = .ok (.iload_n 2, 1) := by decide +kernel
theorem dyX12_setNames_31 : decode cX12_setNames 31 = .ok (.invokevirtual 451, 3) := by decide +kernel
theorem dyX12_setNames_34 : decode cX12_setNames 34 = .ok (.lcmp, 1) := by decide +kernel
theorem dyX12_setNames_35 : decode cX12_setNames 35 = .ok (.ifCond .ne 5, 3) := by decide +kernel
theorem dyX12_setNames_38 : decode cX12_setNames 38 = .ok (.iconst 0, 1) := by decide +kernel
theorem dyX12_setNames_39 : decode cX12_setNames 39 = .ok (.istore_n 3, 1) := by decide +kernel
theorem dyX12_setNames_40 : decode cX12_setNames 40 = .ok (.iinc 4 1, 3) := by decide +kernel
theorem dyX12_setNames_43 : decode cX12_setNames 43 = .ok (.goto (-26), 3) := by decide +kernel
theorem dyX12_setNames_46 : decode cX12_setNames 46 = .ok (.iload_n 3, 1) := by decide +kernel
theorem dyX12_setNames_47 : decode cX12_setNames 47 = .ok (.ifCond .eq 6, 3) := by decide +kernel
theorem dyX12_setNames_50 : decode cX12_setNames 50 = .ok (.iinc 1 1, 3) := by decide +kernel
theorem dyX12_setNames_53 : decode cX12_setNames 53 = .ok (.iinc 2 1, 3) := by decide +kernel
theorem dyX12_setNames_56 : decode cX12_setNames 56 = .ok (.goto (-52), 3) := by decide +kernel
theorem dyX12_setNames_59 : decode cX12_setNames 59 = .ok (.iload_n 1, 1) := by decide +kernel
theorem dyX12_setNames_60 : decode cX12_setNames 60 = .ok (.ireturn, 1) := by decide +kernel
theorem zsg_yX12_setNames : yX12_setNames.cls = RX12 ∧ yX12_setNames.cls ≠ "java/lang/invoke/MethodHandle" ∧ yX12_setNames.cls ≠ "java/lang/invoke/VarHandle" ∧ (parseMethodDescriptor yX12_setNames.desc).map (fun d => d.parameters.length) = some 0 := by decide +kernel
set_option maxRecDepth 20000 in
theorem c_M_setNames {l : Launch} {D : va_G} {B : Nat} {cA : Nat → ClassId} {ad : Nat → Nat} {S : List zC} (hS : zOkM S)  {I : zI} {K : Int32 → Prop}  (h : w_M_setNames  I K) : Met l yX12_setNames (zws yX12_setNames cX12_setNames 5 (some .int)) (zrm 2 43) (zPc D B cA ad [.ref (B + 491)] S I) (zQc D B cA (zpI S I K)) 0 0 (fun q => B ≤ q) := by
  refine zm_of (cc := cX12_setNames) (maxL := 5) (ret := (some .int)) (by decide +kernel) rfl (Nat.le_of_ble_eq_true rfl) trivial ?_
  intro p e s m args below meth c C _
  unfold w_M_setNames at h
  show zX p l e (zrm 2 43) s m args below meth c (MQ below (zQc D B cA (zpI S I K)) args s 0 0 (fun q => B ≤ q)) D B cA 5 0 0 S I [(0, .ref (B + 491))] [] 0
  refine zr_iconst C dyX12_setNames_0 zc_i_0 ?_
  refine zr_istore_n C dyX12_setNames_1 rfl (Nat.le_of_ble_eq_true rfl) (lv2 := [(1, .int 0), (0, .ref (B + 491))]) rfl ?_
  refine zr_iconst C dyX12_setNames_2 zc_i_0 ?_
  refine zr_istore_n C dyX12_setNames_3 rfl (Nat.le_of_ble_eq_true rfl) (lv2 := [(2, .int 0), (1, .int 0), (0, .ref (B + 491))]) rfl ?_
  refine zjn (h (fun (v1_1 : Int32) (v2_2 : Int32) => zX p l e (zrm 2 43) s m args below meth c (MQ below (zQc D B cA (zpI S I K)) args s 0 0 (fun q => B ≤ q)) D B cA 5 0 0 S I [(2, .int v2_2), (1, .int v1_1), (0, .ref (B + 491))] [] 4) (fun v1_1 v2_2 h => ?_)) (fun h => ?_)
  · refine zr_iload_n C dyX12_setNames_4 rfl 0 rfl ?_
    refine zr_aload_n C dyX12_setNames_5 rfl 2 rfl ?_
    refine zg_12_293 C hS dyX12_setNames_6 ?_
    refine zr_icmp_ge C dyX12_setNames_9 (tgt := 59) (by decide) (fun hc_15 => ?_) (fun hc_15 => ?_)
    · replace h := zif_pos hc_15 h
      refine zr_iload_n C dyX12_setNames_59 rfl 1 rfl ?_
      exact zr_iret C rfl dyX12_setNames_60 ⟨rfl, rfl, _, rfl, h⟩
    · replace h := zif_neg hc_15 h
      refine zr_iconst C dyX12_setNames_12 zc_i_1 ?_
      refine zr_istore_n C dyX12_setNames_13 rfl (Nat.le_of_ble_eq_true rfl) (lv2 := [(3, .int 1), (2, .int v2_2), (1, .int v1_1), (0, .ref (B + 491))]) rfl ?_
      refine zr_iconst C dyX12_setNames_14 zc_i_0 ?_
      refine zr_istore C dyX12_setNames_15 (Nat.le_of_ble_eq_true rfl) (lv2 := [(4, .int 0), (3, .int 1), (2, .int v2_2), (1, .int v1_1), (0, .ref (B + 491))]) rfl ?_
      refine zjn (h (fun (v3_3 : Int32) (v4_4 : Int32) => zX p l e (zrm 2 43) s m args below meth c (MQ below (zQc D B cA (zpI S I K)) args s 0 0 (fun q => B ≤ q)) D B cA 5 0 0 S I [(4, .int v4_4), (3, .int v3_3), (2, .int v2_2), (1, .int v1_1), (0, .ref (B + 491))] [] 17) (fun v3_3 v4_4 h => ?_)) (fun h => ?_)
      · refine zr_iload C dyX12_setNames_17 0 rfl ?_
        refine zr_iload_n C dyX12_setNames_19 rfl 2 rfl ?_
        refine zr_icmp_ge C dyX12_setNames_20 (tgt := 46) (by decide) (fun hc_14 => ?_) (fun hc_14 => ?_)
        · replace h := zif_pos hc_14 h
          refine zr_iload_n C dyX12_setNames_46 rfl 1 rfl ?_
          refine zjn (h (fun (v1_5 : Int32) => zX p l e (zrm 2 43) s m args below meth c (MQ below (zQc D B cA (zpI S I K)) args s 0 0 (fun q => B ≤ q)) D B cA 5 0 0 S I [(2, .int v2_2), (1, .int v1_5), (0, .ref (B + 491))] [] 53) (fun v1_5 h => ?_)) (fun h => ?_)
          · refine zn_iinc C (fun v2_6 => [(2, .int v2_6), (1, .int v1_5), (0, .ref (B + 491))]) dyX12_setNames_53 0 rfl zc_i_1 (Nat.le_of_ble_eq_true rfl) (fun _ => rfl) (fun v2_6 ev2_6 => ?_)
            replace h := h v2_6 ev2_6
            refine zr_goto C dyX12_setNames_56 (tgt := 4) (by decide) ?_
            exact h
          refine zr_if_eq C dyX12_setNames_47 (tgt := 53) (by decide) (fun hc_8 => ?_) (fun hc_8 => ?_)
          · replace h := zif_pos hc_8 h
            refine zr_sub (lv2 := [(2, .int v2_2), (1, .int v1_1), (0, .ref (B + 491))]) [2, 3, 4] rfl ?_
            exact h
          · replace h := zif_neg hc_8 h
            refine zn_iinc C (fun v1_7 => [(1, .int v1_7), (4, .int v4_4), (3, .int v3_3), (2, .int v2_2), (0, .ref (B + 491))]) dyX12_setNames_50 3 rfl zc_i_1 (Nat.le_of_ble_eq_true rfl) (fun _ => rfl) (fun v1_7 ev1_7 => ?_)
            replace h := h v1_7 ev1_7
            refine zr_sub (lv2 := [(2, .int v2_2), (1, .int v1_7), (0, .ref (B + 491))]) [3, 0, 4] rfl ?_
            exact h
        · replace h := zif_neg hc_14 h
          refine zr_aload_n C dyX12_setNames_23 rfl 4 rfl ?_
          refine zr_iload C dyX12_setNames_24 0 rfl ?_
          refine zv_12_451 C hS (st := []) h ⟨Nat.le_of_ble_eq_true rfl, Nat.le_of_ble_eq_true rfl⟩ (Nat.le_of_ble_eq_true rfl) dyX12_setNames_26 (fun r_9 h => ?_)
          refine zr_aload_n C dyX12_setNames_29 rfl 4 rfl ?_
          refine zr_iload_n C dyX12_setNames_30 rfl 2 rfl ?_
          refine zv_12_451 C hS (st := [.long r_9]) h ⟨Nat.le_of_ble_eq_true rfl, Nat.le_of_ble_eq_true rfl⟩ (Nat.le_of_ble_eq_true rfl) dyX12_setNames_31 (fun r_10 h => ?_)
          refine zr_lcmp C dyX12_setNames_34 ?_
          refine zjn (h (fun (v3_11 : Int32) => zX p l e (zrm 2 43) s m args below meth c (MQ below (zQc D B cA (zpI S I K)) args s 0 0 (fun q => B ≤ q)) D B cA 5 0 0 S I [(4, .int v4_4), (3, .int v3_11), (2, .int v2_2), (1, .int v1_1), (0, .ref (B + 491))] [] 40) (fun v3_11 h => ?_)) (fun h => ?_)
          · refine zn_iinc C (fun v4_12 => [(4, .int v4_12), (3, .int v3_11), (2, .int v2_2), (1, .int v1_1), (0, .ref (B + 491))]) dyX12_setNames_40 0 rfl zc_i_1 (Nat.le_of_ble_eq_true rfl) (fun _ => rfl) (fun v4_12 ev4_12 => ?_)
            replace h := h v4_12 ev4_12
            refine zr_goto C dyX12_setNames_43 (tgt := 17) (by decide) ?_
            exact h
          refine zr_if_ne C dyX12_setNames_35 (tgt := 40) (by decide) (fun hc_13 => ?_) (fun hc_13 => ?_)
          · replace h := zif_neg hc_13 h
            exact h
          · replace h := zif_pos hc_13 h
            refine zr_iconst C dyX12_setNames_38 zc_i_0 ?_
            refine zr_istore_n C dyX12_setNames_39 rfl (Nat.le_of_ble_eq_true rfl) (lv2 := [(3, .int 0), (4, .int v4_4), (2, .int v2_2), (1, .int v1_1), (0, .ref (B + 491))]) rfl ?_
            refine zr_sub (lv2 := [(4, .int v4_4), (3, .int 0), (2, .int v2_2), (1, .int v1_1), (0, .ref (B + 491))]) [1, 0, 2, 3, 4] rfl ?_
            exact h
      exact h
  exact h
theorem zv_12_468 {p : Program} {l : Launch} {e : Env} {R : Room} {s : State} {m : MethodId} {args : Array Value} {below : List Frame} {meth : Method} {c : Code} {Q : State → Prop} {D : va_G} {B : Nat} {cA : Nat → ClassId} {ad : Nat → Nat} {cc : ByteArray} {nL : Nat} {ret : Option FieldType} {S : List zC} {I : zI} {lv : List (Nat × Value)} {st : List Value} {pc : Nat} (C : zCx p s m args meth c cc nL RX12 ret D B cA ad) {K : Int32 → Prop}  (hS : zOkM S)  (h : w_M_setNames I K) (hR : 2 + 1 ≤ R.frames ∧ 8 + (5 + 11) + (43) ≤ R.locals) (hw : (st.map fun v => v.category).sum ≤ 8) (hd : decode cc pc = .ok (.invokevirtual 468, 3)) (kk : ∀ v, K v → zX p l e R s m args below meth c Q D B cA nL 0 0 S I lv (.int v :: st) (pc + 3)) : zX p l e R s m args below meth c Q D B cA nL 0 0 S I lv (.ref (B + 491) :: st) pc :=
  have hf : 0 ≤ R.cells ∧ 0 ≤ R.slots := ⟨Nat.zero_le _, Nat.zero_le _⟩
  zc_VpI C (ci := 12) (q := (RX12, TX12, 82)) (k := 491) (fs := [none, some (some 492), some (some 493), none, some (some 494), none, some (some 495), none, none, none, some (some 496), some (some 497), some (some 498), some (some 499), some (some 500), none, some (some 501), some (some 502), some (some 503), none, some (some 504), some (some 505), some (some 506), some (some 507), some (some 508), none, some (some 509), some (some 510), some (some 511), some (some 512), some (some 513), some (some 514), some (some 515), some (some 516), some (some 517), some (some 518), none, none, some (some 519), none, some (some 520), none, none, none, some (some 521), some (some 522), some (some 523), some (some 524), some (some 525), some (some 526), some (some 527), none, some (some 528), none, some (some 529), none, some (some 530), some (some 531), some (some 532), none, some (some 533), some (some 534), some (some 535), some (some 536), some (some 537), none, none, none, some (some 538), some (some 539), some (some 540), none, none, none, some (some 541), none, none, some (some 542), some (some 543), some (some 544), none, some (some 545)]) (As := []) (st := st) rfl (hS _ _ zs_491) (c_M_setNames hS h) (zgV zk_ml_12_468 zk_im_yX12_setNames zk_se_yX12_setNames zk_in_12 zk_cd_yX12_setNames) zsg_yX12_setNames hR rfl rfl hw hd hf kk
theorem zv_12_471 {p : Program} {l : Launch} {e : Env} {R : Room} {s : State} {m : MethodId} {args : Array Value} {below : List Frame} {meth : Method} {c : Code} {Q : State → Prop} {D : va_G} {B : Nat} {cA : Nat → ClassId} {ad : Nat → Nat} {cc : ByteArray} {nL : Nat} {ret : Option FieldType} {S : List zC} {I : zI} {lv : List (Nat × Value)} {st : List Value} {pc : Nat} (C : zCx p s m args meth c cc nL RX12 ret D B cA ad) {K : Int32 → Prop} {xa1 : Int32} (hS : zOkM S)  (h : w_M_ruled xa1 I K) (hR : 1 + 1 ≤ R.frames ∧ 8 + (4 + 11) + (22) ≤ R.locals) (hw : (st.map fun v => v.category).sum ≤ 8) (hd : decode cc pc = .ok (.invokevirtual 471, 3)) (kk : ∀ v, K v → zX p l e R s m args below meth c Q D B cA nL 0 0 S I lv (.int v :: st) (pc + 3)) : zX p l e R s m args below meth c Q D B cA nL 0 0 S I lv (.int xa1 :: .ref (B + 491) :: st) pc :=
  have hf : 0 ≤ R.cells ∧ 0 ≤ R.slots := ⟨Nat.zero_le _, Nat.zero_le _⟩
  zc_VpI C (ci := 12) (q := (RX12, TX12, 82)) (k := 491) (fs := [none, some (some 492), some (some 493), none, some (some 494), none, some (some 495), none, none, none, some (some 496), some (some 497), some (some 498), some (some 499), some (some 500), none, some (some 501), some (some 502), some (some 503), none, some (some 504), some (some 505), some (some 506), some (some 507), some (some 508), none, some (some 509), some (some 510), some (some 511), some (some 512), some (some 513), some (some 514), some (some 515), some (some 516), some (some 517), some (some 518), none, none, some (some 519), none, some (some 520), none, none, none, some (some 521), some (some 522), some (some 523), some (some 524), some (some 525), some (some 526), some (some 527), none, some (some 528), none, some (some 529), none, some (some 530), some (some 531), some (some 532), none, some (some 533), some (some 534), some (some 535), some (some 536), some (some 537), none, none, none, some (some 538), some (some 539), some (some 540), none, none, none, some (some 541), none, none, some (some 542), some (some 543), some (some 544), none, some (some 545)]) (As := [.int xa1]) (st := st) rfl (hS _ _ zs_491) (c_M_ruled hS h) (zgV zk_ml_12_471 zk_im_yX12_ruled zk_se_yX12_ruled zk_in_12 zk_cd_yX12_ruled) zsg_yX12_ruled hR rfl rfl hw hd hf kk
def w_M_count (a1 : Int32) (I : zI) (K : Int32 → zI → Prop) : Prop :=
  (if a1 = 0 then (K (I.1 491 5) I) else (if a1 = 1 then (K (I.1 491 15) I) else (if a1 = 2 then (if (I.1 491 8) = 0 then K 0 I else K 1 I) else (if a1 = 3 then (K (I.1 491 19) I) else (if a1 = 4 then (K (I.1 491 37) I) else (if a1 = 5 then (K (I.1 491 25) I) else (if a1 = 6 then (K (I.1 491 36) I) else (if a1 = 7 then (K (I.1 491 0) I) else (if a1 = 8 then (K (I.1 491 75) I) else (if a1 = 9 then (K ((I.1 491 76) - (I.1 491 75)) I) else (if a1 = 10 then (K (I.1 491 43) I) else (if a1 = 11 then (∀ (P162 : Int32 → Int32 → Prop), (∀ (v2_14 : Int32) (v3_15 : Int32), ((if (I.1 491 43) ≤ v3_15 then K v2_14 I else (vp_in v3_15 700 ∧ (vp_in (I.1 521 (Int32.toNatClampNeg v3_15)) 3700 ∧ (∀ (P209 : Int32 → Prop), (∀ (v2_16 : Int32), (∀ v3_17, v3_17 = (v3_15 + 1) → P162 v2_16 v3_17) → P209 v2_16) → (if (I.1 512 (Int32.toNatClampNeg (I.1 521 (Int32.toNatClampNeg v3_15)))) = 0 then (vp_in v3_15 700 ∧ (w_M_deepOf (I.1 521 (Int32.toNatClampNeg v3_15)) I (fun r_18 => (if r_18 ≤ v2_14 then P209 v2_14 else (vp_in v3_15 700 ∧ (w_M_deepOf (I.1 521 (Int32.toNatClampNeg v3_15)) I (fun r_19 => P209 r_19))))))) else P209 v2_14)))))) → P162 v2_14 v3_15) → P162 0 0) else (if a1 = 12 then (∀ (P219 : Int32 → Int32 → Prop), (∀ (v2_24 : Int32) (v3_25 : Int32), ((if (I.1 491 19) ≤ v3_25 then K v2_24 I else (vp_in v3_25 110 ∧ (∀ (P247 : Int32 → Prop), (∀ (v2_26 : Int32), (∀ v3_27, v3_27 = (v3_25 + 1) → P219 v2_26 v3_27) → P247 v2_26) → (if (I.1 504 (Int32.toNatClampNeg v3_25)) = 1 then (vp_in v3_25 110 ∧ (∀ v2_28, v2_28 = (v2_24 + (Int64.toInt32 (I.2 507 (Int32.toNatClampNeg v3_25)))) → P247 v2_28)) else P247 v2_24))))) → P219 v2_24 v3_25) → P219 0 0) else (if a1 = 13 then (w_M_setNames I (fun r_32 => K r_32 I)) else (if a1 = 14 then (w_M_youngBelow 0 I (fun r_34 => K r_34 I)) else (if a1 = 15 then (w_M_prints (I.1 491 37) I (fun I_36 => K (I_36.1 491 80) I_36)) else (if a1 = 16 then (K (I.1 491 59) I) else (if a1 = 17 then (w_M_ruled 8 I (fun r_39 => K r_39 I)) else (if a1 = 18 then (∀ v2_41, v2_41 = (I.1 491 37) → ∀ (P298 : Int32 → Int32 → Prop), (∀ (v2_42 : Int32) (v3_43 : Int32), ((if (I.1 491 43) ≤ v3_43 then K v2_42 I else (vp_in v3_43 700 ∧ (∀ (P323 : Int32 → Prop), (∀ (v2_44 : Int32), (∀ v3_45, v3_45 = (v3_43 + 1) → P298 v2_44 v3_45) → P323 v2_44) → (if v2_42 ≤ (I.1 521 (Int32.toNatClampNeg v3_43)) then P323 v2_42 else (vp_in v3_43 700 ∧ (∀ v2_46, v2_46 = (I.1 521 (Int32.toNatClampNeg v3_43)) → P323 v2_46))))))) → P298 v2_42 v3_43) → P298 v2_41 0) else (K (-1) I))))))))))))))))))))
theorem dyX12_count_0 : decode cX12_count 0 = .ok (.iconst 0, 1) := by decide +kernel
theorem dyX12_count_1 : decode cX12_count 1 = .ok (.istore_n 2, 1) := by decide +kernel
theorem dyX12_count_2 : decode cX12_count 2 = .ok (.iload_n 1, 1) := by decide +kernel
theorem dyX12_count_3 : decode cX12_count 3 = .ok (.tableswitch 328 0 18 #[89, 94, 99, 112, 117, 122, 127, 132, 137, 142, 152, 157, 214, 252, 257, 263, 276, 281, 288], 89) := by decide +kernel
theorem dyX12_count_92 : decode cX12_count 92 = .ok (.aload_n 0, 1) := by decide +kernel
theorem dyX12_count_93 : decode cX12_count 93 = .ok (.getfield 232, 3) := by decide +kernel
theorem dyX12_count_96 : decode cX12_count 96 = .ok (.ireturn, 1) := by decide +kernel
theorem dyX12_count_97 : decode cX12_count 97 = .ok (.aload_n 0, 1) := by decide +kernel
theorem dyX12_count_98 : decode cX12_count 98 = .ok (.getfield 235, 3) := by decide +kernel
theorem dyX12_count_101 : decode cX12_count 101 = .ok (.ireturn, 1) := by decide +kernel
theorem dyX12_count_102 : decode cX12_count 102 = .ok (.aload_n 0, 1) := by decide +kernel
theorem dyX12_count_103 : decode cX12_count 103 = .ok (.getfield 182, 3) := by decide +kernel
theorem dyX12_count_106 : decode cX12_count 106 = .ok (.ifCond .eq 7, 3) := by decide +kernel
theorem dyX12_count_109 : decode cX12_count 109 = .ok (.iconst 1, 1) := by decide +kernel
theorem dyX12_count_110 : decode cX12_count 110 = .ok (.goto 4, 3) := by decide +kernel
theorem dyX12_count_113 : decode cX12_count 113 = .ok (.iconst 0, 1) := by decide +kernel
theorem dyX12_count_114 : decode cX12_count 114 = .ok (.ireturn, 1) := by decide +kernel
theorem dyX12_count_115 : decode cX12_count 115 = .ok (.aload_n 0, 1) := by decide +kernel
theorem dyX12_count_116 : decode cX12_count 116 = .ok (.getfield 244, 3) := by decide +kernel
theorem dyX12_count_119 : decode cX12_count 119 = .ok (.ireturn, 1) := by decide +kernel
theorem dyX12_count_120 : decode cX12_count 120 = .ok (.aload_n 0, 1) := by decide +kernel
theorem dyX12_count_121 : decode cX12_count 121 = .ok (.getfield 178, 3) := by decide +kernel
theorem dyX12_count_124 : decode cX12_count 124 = .ok (.ireturn, 1) := by decide +kernel
theorem dyX12_count_125 : decode cX12_count 125 = .ok (.aload_n 0, 1) := by decide +kernel
theorem dyX12_count_126 : decode cX12_count 126 = .ok (.getfield 247, 3) := by decide +kernel
theorem dyX12_count_129 : decode cX12_count 129 = .ok (.ireturn, 1) := by decide +kernel
theorem dyX12_count_130 : decode cX12_count 130 = .ok (.aload_n 0, 1) := by decide +kernel
theorem dyX12_count_131 : decode cX12_count 131 = .ok (.getfield 250, 3) := by decide +kernel
theorem dyX12_count_134 : decode cX12_count 134 = .ok (.ireturn, 1) := by decide +kernel
theorem dyX12_count_135 : decode cX12_count 135 = .ok (.aload_n 0, 1) := by decide +kernel
theorem dyX12_count_136 : decode cX12_count 136 = .ok (.getfield 199, 3) := by decide +kernel
theorem dyX12_count_139 : decode cX12_count 139 = .ok (.ireturn, 1) := by decide +kernel
theorem dyX12_count_140 : decode cX12_count 140 = .ok (.aload_n 0, 1) := by decide +kernel
theorem dyX12_count_141 : decode cX12_count 141 = .ok (.getfield 379, 3) := by decide +kernel
theorem dyX12_count_144 : decode cX12_count 144 = .ok (.ireturn, 1) := by decide +kernel
theorem dyX12_count_145 : decode cX12_count 145 = .ok (.aload_n 0, 1) := by decide +kernel
theorem dyX12_count_146 : decode cX12_count 146 = .ok (.getfield 382, 3) := by decide +kernel
theorem dyX12_count_149 : decode cX12_count 149 = .ok (.aload_n 0, 1) := by decide +kernel
theorem dyX12_count_150 : decode cX12_count 150 = .ok (.getfield 379, 3) := by decide +kernel
theorem dyX12_count_153 : decode cX12_count 153 = .ok (.isub, 1) := by decide +kernel
theorem dyX12_count_154 : decode cX12_count 154 = .ok (.ireturn, 1) := by decide +kernel
theorem dyX12_count_155 : decode cX12_count 155 = .ok (.aload_n 0, 1) := by decide +kernel
theorem dyX12_count_156 : decode cX12_count 156 = .ok (.getfield 280, 3) := by decide +kernel
theorem dyX12_count_159 : decode cX12_count 159 = .ok (.ireturn, 1) := by decide +kernel
theorem dyX12_count_160 : decode cX12_count 160 = .ok (.iconst 0, 1) := by decide +kernel
theorem dyX12_count_161 : decode cX12_count 161 = .ok (.istore_n 3, 1) := by decide +kernel
theorem dyX12_count_162 : decode cX12_count 162 = .ok (.iload_n 3, 1) := by decide +kernel
theorem dyX12_count_163 : decode cX12_count 163 = .ok (.aload_n 0, 1) := by decide +kernel
theorem dyX12_count_164 : decode cX12_count 164 = .ok (.getfield 280, 3) := by decide +kernel
theorem dyX12_count_167 : decode cX12_count 167 = .ok (.if_icmp .ge 48, 3) := by decide +kernel
theorem dyX12_count_170 : decode cX12_count 170 = .ok (.aload_n 0, 1) := by decide +kernel
theorem dyX12_count_171 : decode cX12_count 171 = .ok (.getfield 71, 3) := by decide +kernel
theorem dyX12_count_174 : decode cX12_count 174 = .ok (.aload_n 0, 1) := by decide +kernel
theorem dyX12_count_175 : decode cX12_count 175 = .ok (.getfield 99, 3) := by decide +kernel
theorem dyX12_count_178 : decode cX12_count 178 = .ok (.iload_n 3, 1) := by decide +kernel
theorem dyX12_count_179 : decode cX12_count 179 = .ok (.iaload, 1) := by decide +kernel
theorem dyX12_count_180 : decode cX12_count 180 = .ok (.iaload, 1) := by decide +kernel
theorem dyX12_count_181 : decode cX12_count 181 = .ok (.ifCond .ne 28, 3) := by decide +kernel
theorem dyX12_count_184 : decode cX12_count 184 = .ok (.aload_n 0, 1) := by decide +kernel
theorem dyX12_count_185 : decode cX12_count 185 = .ok (.aload_n 0, 1) := by decide +kernel
theorem dyX12_count_186 : decode cX12_count 186 = .ok (.getfield 99, 3) := by decide +kernel
theorem dyX12_count_189 : decode cX12_count 189 = .ok (.iload_n 3, 1) := by decide +kernel
theorem dyX12_count_190 : decode cX12_count 190 = .ok (.iaload, 1) := by decide +kernel
theorem dyX12_count_191 : decode cX12_count 191 = .ok (.invokevirtual 465, 3) := by decide +kernel
theorem dyX12_count_194 : decode cX12_count 194 = .ok (.iload_n 2, 1) := by decide +kernel
theorem dyX12_count_195 : decode cX12_count 195 = .ok (.if_icmp .le 14, 3) := by decide +kernel
theorem dyX12_count_198 : decode cX12_count 198 = .ok (.aload_n 0, 1) := by decide +kernel
theorem dyX12_count_199 : decode cX12_count 199 = .ok (.aload_n 0, 1) := by decide +kernel
theorem dyX12_count_200 : decode cX12_count 200 = .ok (.getfield 99, 3) := by decide +kernel
theorem dyX12_count_203 : decode cX12_count 203 = .ok (.iload_n 3, 1) := by decide +kernel
theorem dyX12_count_204 : decode cX12_count 204 = .ok (.iaload, 1) := by decide +kernel
theorem dyX12_count_205 : decode cX12_count 205 = .ok (.invokevirtual 465, 3) := by decide +kernel
theorem dyX12_count_208 : decode cX12_count 208 = .ok (.istore_n 2, 1) := by decide +kernel
theorem dyX12_count_209 : decode cX12_count 209 = .ok (.iinc 3 1, 3) := by decide +kernel
theorem dyX12_count_212 : decode cX12_count 212 = .ok (.goto (-50), 3) := by decide +kernel
theorem dyX12_count_215 : decode cX12_count 215 = .ok (.iload_n 2, 1) := by decide +kernel
theorem dyX12_count_216 : decode cX12_count 216 = .ok (.ireturn, 1) := by decide +kernel
theorem dyX12_count_217 : decode cX12_count 217 = .ok (.iconst 0, 1) := by decide +kernel
theorem dyX12_count_218 : decode cX12_count 218 = .ok (.istore_n 3, 1) := by decide +kernel
theorem dyX12_count_219 : decode cX12_count 219 = .ok (.iload_n 3, 1) := by decide +kernel
theorem dyX12_count_220 : decode cX12_count 220 = .ok (.aload_n 0, 1) := by decide +kernel
theorem dyX12_count_221 : decode cX12_count 221 = .ok (.getfield 244, 3) := by decide +kernel
theorem dyX12_count_224 : decode cX12_count 224 = .ok (.if_icmp .ge 29, 3) := by decide +kernel
theorem dyX12_count_227 : decode cX12_count 227 = .ok (.aload_n 0, 1) := by decide +kernel
theorem dyX12_count_228 : decode cX12_count 228 = .ok (.getfield 47, 3) := by decide +kernel
theorem dyX12_count_231 : decode cX12_count 231 = .ok (.iload_n 3, 1) := by decide +kernel
theorem dyX12_count_232 : decode cX12_count 232 = .ok (.iaload, 1) := by decide +kernel
theorem dyX12_count_233 : decode cX12_count 233 = .ok (.iconst 1, 1) := by decide +kernel
theorem dyX12_count_234 : decode cX12_count 234 = .ok (.if_icmp .ne 13, 3) := by decide +kernel
theorem dyX12_count_237 : decode cX12_count 237 = .ok (.iload_n 2, 1) := by decide +kernel
theorem dyX12_count_238 : decode cX12_count 238 = .ok (.aload_n 0, 1) := by decide +kernel
theorem dyX12_count_239 : decode cX12_count 239 = .ok (.getfield 56, 3) := by decide +kernel
theorem dyX12_count_242 : decode cX12_count 242 = .ok (.iload_n 3, 1) := by decide +kernel
theorem dyX12_count_243 : decode cX12_count 243 = .ok (.laload, 1) := by decide +kernel
theorem dyX12_count_244 : decode cX12_count 244 = .ok (.l2i, 1) := by decide +kernel
theorem dyX12_count_245 : decode cX12_count 245 = .ok (.iadd, 1) := by decide +kernel
theorem dyX12_count_246 : decode cX12_count 246 = .ok (.istore_n 2, 1) := by decide +kernel
theorem dyX12_count_247 : decode cX12_count 247 = .ok (.iinc 3 1, 3) := by decide +kernel
theorem dyX12_count_250 : decode cX12_count 250 = .ok (.goto (-31), 3) := by decide +kernel
theorem dyX12_count_253 : decode cX12_count 253 = .ok (.iload_n 2, 1) := by decide +kernel
theorem dyX12_count_254 : decode cX12_count 254 = .ok (.ireturn, 1) := by decide +kernel
theorem dyX12_count_255 : decode cX12_count 255 = .ok (.aload_n 0, 1) := by decide +kernel
theorem dyX12_count_256 : decode cX12_count 256 = .ok (.invokevirtual 468, 3) := by decide +kernel
theorem dyX12_count_259 : decode cX12_count 259 = .ok (.ireturn, 1) := by decide +kernel
theorem dyX12_count_260 : decode cX12_count 260 = .ok (.aload_n 0, 1) := by decide +kernel
theorem dyX12_count_261 : decode cX12_count 261 = .ok (.iconst 0, 1) := by decide +kernel
theorem dyX12_count_262 : decode cX12_count 262 = .ok (.invokevirtual 448, 3) := by decide +kernel
theorem dyX12_count_265 : decode cX12_count 265 = .ok (.ireturn, 1) := by decide +kernel
theorem dyX12_count_266 : decode cX12_count 266 = .ok (.aload_n 0, 1) := by decide +kernel
theorem dyX12_count_267 : decode cX12_count 267 = .ok (.aload_n 0, 1) := by decide +kernel
theorem dyX12_count_268 : decode cX12_count 268 = .ok (.getfield 178, 3) := by decide +kernel
theorem dyX12_count_271 : decode cX12_count 271 = .ok (.invokevirtual 442, 3) := by decide +kernel
theorem dyX12_count_274 : decode cX12_count 274 = .ok (.aload_n 0, 1) := by decide +kernel
theorem dyX12_count_275 : decode cX12_count 275 = .ok (.getfield 430, 3) := by decide +kernel
theorem dyX12_count_278 : decode cX12_count 278 = .ok (.ireturn, 1) := by decide +kernel
theorem dyX12_count_279 : decode cX12_count 279 = .ok (.aload_n 0, 1) := by decide +kernel
theorem dyX12_count_280 : decode cX12_count 280 = .ok (.getfield 312, 3) := by decide +kernel
theorem dyX12_count_283 : decode cX12_count 283 = .ok (.ireturn, 1) := by decide +kernel
theorem dyX12_count_284 : decode cX12_count 284 = .ok (.aload_n 0, 1) := by decide +kernel
theorem dyX12_count_285 : decode cX12_count 285 = .ok (.bipush 8, 2) := by decide +kernel
theorem dyX12_count_287 : decode cX12_count 287 = .ok (.invokevirtual 471, 3) := by decide +kernel
theorem dyX12_count_290 : decode cX12_count 290 = .ok (.ireturn, 1) := by decide +kernel
theorem dyX12_count_291 : decode cX12_count 291 = .ok (.aload_n 0, 1) := by decide +kernel
theorem dyX12_count_292 : decode cX12_count 292 = .ok (.getfield 178, 3) := by decide +kernel
theorem dyX12_count_295 : decode cX12_count 295 = .ok (.istore_n 2, 1) := by decide +kernel
theorem dyX12_count_296 : decode cX12_count 296 = .ok (.iconst 0, 1) := by decide +kernel
theorem dyX12_count_297 : decode cX12_count 297 = .ok (.istore_n 3, 1) := by decide +kernel
theorem dyX12_count_298 : decode cX12_count 298 = .ok (.iload_n 3, 1) := by decide +kernel
theorem dyX12_count_299 : decode cX12_count 299 = .ok (.aload_n 0, 1) := by decide +kernel
theorem dyX12_count_300 : decode cX12_count 300 = .ok (.getfield 280, 3) := by decide +kernel
theorem dyX12_count_303 : decode cX12_count 303 = .ok (.if_icmp .ge 26, 3) := by decide +kernel
theorem dyX12_count_306 : decode cX12_count 306 = .ok (.aload_n 0, 1) := by decide +kernel
theorem dyX12_count_307 : decode cX12_count 307 = .ok (.getfield 99, 3) := by decide +kernel
theorem dyX12_count_310 : decode cX12_count 310 = .ok (.iload_n 3, 1) := by decide +kernel
theorem dyX12_count_311 : decode cX12_count 311 = .ok (.iaload, 1) := by decide +kernel
theorem dyX12_count_312 : decode cX12_count 312 = .ok (.iload_n 2, 1) := by decide +kernel
theorem dyX12_count_313 : decode cX12_count 313 = .ok (.if_icmp .ge 10, 3) := by decide +kernel
theorem dyX12_count_316 : decode cX12_count 316 = .ok (.aload_n 0, 1) := by decide +kernel
theorem dyX12_count_317 : decode cX12_count 317 = .ok (.getfield 99, 3) := by decide +kernel
theorem dyX12_count_320 : decode cX12_count 320 = .ok (.iload_n 3, 1) := by decide +kernel
theorem dyX12_count_321 : decode cX12_count 321 = .ok (.iaload, 1) := by decide +kernel
theorem dyX12_count_322 : decode cX12_count 322 = .ok (.istore_n 2, 1) := by decide +kernel
theorem dyX12_count_323 : decode cX12_count 323 = .ok (.iinc 3 1, 3) := by decide +kernel
theorem dyX12_count_326 : decode cX12_count 326 = .ok (.goto (-28), 3) := by decide +kernel
theorem dyX12_count_329 : decode cX12_count 329 = .ok (.iload_n 2, 1) := by decide +kernel
theorem dyX12_count_330 : decode cX12_count 330 = .ok (.ireturn, 1) := by decide +kernel
theorem dyX12_count_331 : decode cX12_count 331 = .ok (.iconst (-1), 1) := by decide +kernel
theorem dyX12_count_332 : decode cX12_count 332 = .ok (.ireturn, 1) := by decide +kernel
theorem zsg_yX12_count : yX12_count.cls = RX12 ∧ yX12_count.cls ≠ "java/lang/invoke/MethodHandle" ∧ yX12_count.cls ≠ "java/lang/invoke/VarHandle" ∧ (parseMethodDescriptor yX12_count.desc).map (fun d => d.parameters.length) = some 1 := by decide +kernel
set_option maxRecDepth 20000 in
theorem c_M_count {l : Launch} {D : va_G} {B : Nat} {cA : Nat → ClassId} {ad : Nat → Nat} {S : List zC} (hS : zOkM S) {a1 : Int32} {I : zI} {K : Int32 → zI → Prop}  (h : w_M_count a1 I K) : Met l yX12_count (zws yX12_count cX12_count 4 (some .int)) (zrm 3 70) (zPc D B cA ad [.ref (B + 491), .int a1] S I) (zQc D B cA (zqI S K)) 0 0 (fun q => B ≤ q) := by
  refine zm_of (cc := cX12_count) (maxL := 4) (ret := (some .int)) (by decide +kernel) rfl (Nat.le_of_ble_eq_true rfl) trivial ?_
  intro p e s m args below meth c C _
  unfold w_M_count at h
  show zX p l e (zrm 3 70) s m args below meth c (MQ below (zQc D B cA (zqI S K)) args s 0 0 (fun q => B ≤ q)) D B cA 4 0 0 S I [(0, .ref (B + 491)), (1, .int a1)] [] 0
  refine zr_iconst C dyX12_count_0 zc_i_0 ?_
  refine zr_istore_n C dyX12_count_1 rfl (Nat.le_of_ble_eq_true rfl) (lv2 := [(2, .int 0), (0, .ref (B + 491)), (1, .int a1)]) rfl ?_
  refine zr_iload_n C dyX12_count_2 rfl 2 rfl ?_
  by_cases hc_1 : a1 = 0
  · replace h := zif_pos hc_1 h
    refine zr_tableIn C dyX12_count_3 (by rw [hc_1]; decide) (by rw [hc_1]; decide) (off := 89) (by rw [hc_1]; decide) (tgt := 92) (by decide) ?_
    refine zr_aload_n C dyX12_count_92 rfl 1 rfl ?_
    refine zg_12_232 C hS dyX12_count_93 ?_
    exact zr_iret C rfl dyX12_count_96 ⟨rfl, _, rfl, h⟩
  replace h := zif_neg hc_1 h
  by_cases hc_2 : a1 = 1
  · replace h := zif_pos hc_2 h
    refine zr_tableIn C dyX12_count_3 (by rw [hc_2]; decide) (by rw [hc_2]; decide) (off := 94) (by rw [hc_2]; decide) (tgt := 97) (by decide) ?_
    refine zr_aload_n C dyX12_count_97 rfl 1 rfl ?_
    refine zg_12_235 C hS dyX12_count_98 ?_
    exact zr_iret C rfl dyX12_count_101 ⟨rfl, _, rfl, h⟩
  replace h := zif_neg hc_2 h
  by_cases hc_3 : a1 = 2
  · replace h := zif_pos hc_3 h
    refine zr_tableIn C dyX12_count_3 (by rw [hc_3]; decide) (by rw [hc_3]; decide) (off := 99) (by rw [hc_3]; decide) (tgt := 102) (by decide) ?_
    refine zr_aload_n C dyX12_count_102 rfl 1 rfl ?_
    refine zg_12_182 C hS dyX12_count_103 ?_
    refine zr_if_eq C dyX12_count_106 (tgt := 113) (by decide) (fun hc_4 => ?_) (fun hc_4 => ?_)
    · replace h := zif_pos hc_4 h
      refine zr_iconst C dyX12_count_113 zc_i_0 ?_
      exact zr_iret C rfl dyX12_count_114 ⟨rfl, _, rfl, h⟩
    · replace h := zif_neg hc_4 h
      refine zr_iconst C dyX12_count_109 zc_i_1 ?_
      refine zr_goto C dyX12_count_110 (tgt := 114) (by decide) ?_
      exact zr_iret C rfl dyX12_count_114 ⟨rfl, _, rfl, h⟩
  replace h := zif_neg hc_3 h
  by_cases hc_5 : a1 = 3
  · replace h := zif_pos hc_5 h
    refine zr_tableIn C dyX12_count_3 (by rw [hc_5]; decide) (by rw [hc_5]; decide) (off := 112) (by rw [hc_5]; decide) (tgt := 115) (by decide) ?_
    refine zr_aload_n C dyX12_count_115 rfl 1 rfl ?_
    refine zg_12_244 C hS dyX12_count_116 ?_
    exact zr_iret C rfl dyX12_count_119 ⟨rfl, _, rfl, h⟩
  replace h := zif_neg hc_5 h
  by_cases hc_6 : a1 = 4
  · replace h := zif_pos hc_6 h
    refine zr_tableIn C dyX12_count_3 (by rw [hc_6]; decide) (by rw [hc_6]; decide) (off := 117) (by rw [hc_6]; decide) (tgt := 120) (by decide) ?_
    refine zr_aload_n C dyX12_count_120 rfl 1 rfl ?_
    refine zg_12_178 C hS dyX12_count_121 ?_
    exact zr_iret C rfl dyX12_count_124 ⟨rfl, _, rfl, h⟩
  replace h := zif_neg hc_6 h
  by_cases hc_7 : a1 = 5
  · replace h := zif_pos hc_7 h
    refine zr_tableIn C dyX12_count_3 (by rw [hc_7]; decide) (by rw [hc_7]; decide) (off := 122) (by rw [hc_7]; decide) (tgt := 125) (by decide) ?_
    refine zr_aload_n C dyX12_count_125 rfl 1 rfl ?_
    refine zg_12_247 C hS dyX12_count_126 ?_
    exact zr_iret C rfl dyX12_count_129 ⟨rfl, _, rfl, h⟩
  replace h := zif_neg hc_7 h
  by_cases hc_8 : a1 = 6
  · replace h := zif_pos hc_8 h
    refine zr_tableIn C dyX12_count_3 (by rw [hc_8]; decide) (by rw [hc_8]; decide) (off := 127) (by rw [hc_8]; decide) (tgt := 130) (by decide) ?_
    refine zr_aload_n C dyX12_count_130 rfl 1 rfl ?_
    refine zg_12_250 C hS dyX12_count_131 ?_
    exact zr_iret C rfl dyX12_count_134 ⟨rfl, _, rfl, h⟩
  replace h := zif_neg hc_8 h
  by_cases hc_9 : a1 = 7
  · replace h := zif_pos hc_9 h
    refine zr_tableIn C dyX12_count_3 (by rw [hc_9]; decide) (by rw [hc_9]; decide) (off := 132) (by rw [hc_9]; decide) (tgt := 135) (by decide) ?_
    refine zr_aload_n C dyX12_count_135 rfl 1 rfl ?_
    refine zg_12_199 C hS dyX12_count_136 ?_
    exact zr_iret C rfl dyX12_count_139 ⟨rfl, _, rfl, h⟩
  replace h := zif_neg hc_9 h
  by_cases hc_10 : a1 = 8
  · replace h := zif_pos hc_10 h
    refine zr_tableIn C dyX12_count_3 (by rw [hc_10]; decide) (by rw [hc_10]; decide) (off := 137) (by rw [hc_10]; decide) (tgt := 140) (by decide) ?_
    refine zr_aload_n C dyX12_count_140 rfl 1 rfl ?_
    refine zg_12_379 C hS dyX12_count_141 ?_
    exact zr_iret C rfl dyX12_count_144 ⟨rfl, _, rfl, h⟩
  replace h := zif_neg hc_10 h
  by_cases hc_11 : a1 = 9
  · replace h := zif_pos hc_11 h
    refine zr_tableIn C dyX12_count_3 (by rw [hc_11]; decide) (by rw [hc_11]; decide) (off := 142) (by rw [hc_11]; decide) (tgt := 145) (by decide) ?_
    refine zr_aload_n C dyX12_count_145 rfl 1 rfl ?_
    refine zg_12_382 C hS dyX12_count_146 ?_
    refine zr_aload_n C dyX12_count_149 rfl 1 rfl ?_
    refine zg_12_379 C hS dyX12_count_150 ?_
    refine zr_isub C dyX12_count_153 ?_
    exact zr_iret C rfl dyX12_count_154 ⟨rfl, _, rfl, h⟩
  replace h := zif_neg hc_11 h
  by_cases hc_12 : a1 = 10
  · replace h := zif_pos hc_12 h
    refine zr_tableIn C dyX12_count_3 (by rw [hc_12]; decide) (by rw [hc_12]; decide) (off := 152) (by rw [hc_12]; decide) (tgt := 155) (by decide) ?_
    refine zr_aload_n C dyX12_count_155 rfl 1 rfl ?_
    refine zg_12_280 C hS dyX12_count_156 ?_
    exact zr_iret C rfl dyX12_count_159 ⟨rfl, _, rfl, h⟩
  replace h := zif_neg hc_12 h
  by_cases hc_13 : a1 = 11
  · replace h := zif_pos hc_13 h
    refine zr_tableIn C dyX12_count_3 (by rw [hc_13]; decide) (by rw [hc_13]; decide) (off := 157) (by rw [hc_13]; decide) (tgt := 160) (by decide) ?_
    refine zr_iconst C dyX12_count_160 zc_i_0 ?_
    refine zr_istore_n C dyX12_count_161 rfl (Nat.le_of_ble_eq_true rfl) (lv2 := [(3, .int 0), (2, .int 0), (0, .ref (B + 491)), (1, .int a1)]) rfl ?_
    refine zjn (h (fun (v2_14 : Int32) (v3_15 : Int32) => zX p l e (zrm 3 70) s m args below meth c (MQ below (zQc D B cA (zqI S K)) args s 0 0 (fun q => B ≤ q)) D B cA 4 0 0 S I [(3, .int v3_15), (2, .int v2_14), (0, .ref (B + 491))] [] 162) (fun v2_14 v3_15 h => ?_)) (fun h => ?_)
    · refine zr_iload_n C dyX12_count_162 rfl 0 rfl ?_
      refine zr_aload_n C dyX12_count_163 rfl 2 rfl ?_
      refine zg_12_280 C hS dyX12_count_164 ?_
      refine zr_icmp_ge C dyX12_count_167 (tgt := 215) (by decide) (fun hc_22 => ?_) (fun hc_22 => ?_)
      · replace h := zif_pos hc_22 h
        refine zr_iload_n C dyX12_count_215 rfl 1 rfl ?_
        exact zr_iret C rfl dyX12_count_216 ⟨rfl, _, rfl, h⟩
      · replace h := zif_neg hc_22 h
        refine zr_aload_n C dyX12_count_170 rfl 2 rfl ?_
        refine zg_12_71 C hS dyX12_count_171 ?_
        refine zr_aload_n C dyX12_count_174 rfl 2 rfl ?_
        refine zg_12_99 C hS dyX12_count_175 ?_
        refine zr_iload_n C dyX12_count_178 rfl 0 rfl ?_
        refine zr_iald C (hS _ _ zs_521) h.1 dyX12_count_179 ?_
        replace h := h.2
        refine zr_iald C (hS _ _ zs_512) h.1 dyX12_count_180 ?_
        replace h := h.2
        refine zjn (h (fun (v2_16 : Int32) => zX p l e (zrm 3 70) s m args below meth c (MQ below (zQc D B cA (zqI S K)) args s 0 0 (fun q => B ≤ q)) D B cA 4 0 0 S I [(3, .int v3_15), (2, .int v2_16), (0, .ref (B + 491))] [] 209) (fun v2_16 h => ?_)) (fun h => ?_)
        · refine zn_iinc C (fun v3_17 => [(3, .int v3_17), (2, .int v2_16), (0, .ref (B + 491))]) dyX12_count_209 0 rfl zc_i_1 (Nat.le_of_ble_eq_true rfl) (fun _ => rfl) (fun v3_17 ev3_17 => ?_)
          replace h := h v3_17 ev3_17
          refine zr_goto C dyX12_count_212 (tgt := 162) (by decide) ?_
          exact h
        refine zr_if_ne C dyX12_count_181 (tgt := 209) (by decide) (fun hc_21 => ?_) (fun hc_21 => ?_)
        · replace h := zif_neg hc_21 h
          exact h
        · replace h := zif_pos hc_21 h
          refine zr_aload_n C dyX12_count_184 rfl 2 rfl ?_
          refine zr_aload_n C dyX12_count_185 rfl 2 rfl ?_
          refine zg_12_99 C hS dyX12_count_186 ?_
          refine zr_iload_n C dyX12_count_189 rfl 0 rfl ?_
          refine zr_iald C (hS _ _ zs_521) h.1 dyX12_count_190 ?_
          replace h := h.2
          refine zv_12_465 C hS (st := []) h ⟨Nat.le_of_ble_eq_true rfl, Nat.le_of_ble_eq_true rfl⟩ (Nat.le_of_ble_eq_true rfl) dyX12_count_191 (fun r_18 h => ?_)
          refine zr_iload_n C dyX12_count_194 rfl 1 rfl ?_
          refine zr_icmp_le C dyX12_count_195 (tgt := 209) (by decide) (fun hc_20 => ?_) (fun hc_20 => ?_)
          · replace h := zif_pos hc_20 h
            exact h
          · replace h := zif_neg hc_20 h
            refine zr_aload_n C dyX12_count_198 rfl 2 rfl ?_
            refine zr_aload_n C dyX12_count_199 rfl 2 rfl ?_
            refine zg_12_99 C hS dyX12_count_200 ?_
            refine zr_iload_n C dyX12_count_203 rfl 0 rfl ?_
            refine zr_iald C (hS _ _ zs_521) h.1 dyX12_count_204 ?_
            replace h := h.2
            refine zv_12_465 C hS (st := []) h ⟨Nat.le_of_ble_eq_true rfl, Nat.le_of_ble_eq_true rfl⟩ (Nat.le_of_ble_eq_true rfl) dyX12_count_205 (fun r_19 h => ?_)
            refine zr_istore_n C dyX12_count_208 rfl (Nat.le_of_ble_eq_true rfl) (lv2 := [(2, .int r_19), (3, .int v3_15), (0, .ref (B + 491))]) rfl ?_
            refine zr_sub (lv2 := [(3, .int v3_15), (2, .int r_19), (0, .ref (B + 491))]) [1, 0, 2] rfl ?_
            exact h
    refine zr_sub (lv2 := [(3, .int 0), (2, .int 0), (0, .ref (B + 491))]) [0, 1, 2] rfl ?_
    exact h
  replace h := zif_neg hc_13 h
  by_cases hc_23 : a1 = 12
  · replace h := zif_pos hc_23 h
    refine zr_tableIn C dyX12_count_3 (by rw [hc_23]; decide) (by rw [hc_23]; decide) (off := 214) (by rw [hc_23]; decide) (tgt := 217) (by decide) ?_
    refine zr_iconst C dyX12_count_217 zc_i_0 ?_
    refine zr_istore_n C dyX12_count_218 rfl (Nat.le_of_ble_eq_true rfl) (lv2 := [(3, .int 0), (2, .int 0), (0, .ref (B + 491)), (1, .int a1)]) rfl ?_
    refine zjn (h (fun (v2_24 : Int32) (v3_25 : Int32) => zX p l e (zrm 3 70) s m args below meth c (MQ below (zQc D B cA (zqI S K)) args s 0 0 (fun q => B ≤ q)) D B cA 4 0 0 S I [(3, .int v3_25), (2, .int v2_24), (0, .ref (B + 491))] [] 219) (fun v2_24 v3_25 h => ?_)) (fun h => ?_)
    · refine zr_iload_n C dyX12_count_219 rfl 0 rfl ?_
      refine zr_aload_n C dyX12_count_220 rfl 2 rfl ?_
      refine zg_12_244 C hS dyX12_count_221 ?_
      refine zr_icmp_ge C dyX12_count_224 (tgt := 253) (by decide) (fun hc_30 => ?_) (fun hc_30 => ?_)
      · replace h := zif_pos hc_30 h
        refine zr_iload_n C dyX12_count_253 rfl 1 rfl ?_
        exact zr_iret C rfl dyX12_count_254 ⟨rfl, _, rfl, h⟩
      · replace h := zif_neg hc_30 h
        refine zr_aload_n C dyX12_count_227 rfl 2 rfl ?_
        refine zg_12_47 C hS dyX12_count_228 ?_
        refine zr_iload_n C dyX12_count_231 rfl 0 rfl ?_
        refine zr_iald C (hS _ _ zs_504) h.1 dyX12_count_232 ?_
        replace h := h.2
        refine zr_iconst C dyX12_count_233 zc_i_1 ?_
        refine zjn (h (fun (v2_26 : Int32) => zX p l e (zrm 3 70) s m args below meth c (MQ below (zQc D B cA (zqI S K)) args s 0 0 (fun q => B ≤ q)) D B cA 4 0 0 S I [(3, .int v3_25), (2, .int v2_26), (0, .ref (B + 491))] [] 247) (fun v2_26 h => ?_)) (fun h => ?_)
        · refine zn_iinc C (fun v3_27 => [(3, .int v3_27), (2, .int v2_26), (0, .ref (B + 491))]) dyX12_count_247 0 rfl zc_i_1 (Nat.le_of_ble_eq_true rfl) (fun _ => rfl) (fun v3_27 ev3_27 => ?_)
          replace h := h v3_27 ev3_27
          refine zr_goto C dyX12_count_250 (tgt := 219) (by decide) ?_
          exact h
        refine zr_icmp_ne C dyX12_count_234 (tgt := 247) (by decide) (fun hc_29 => ?_) (fun hc_29 => ?_)
        · replace h := zif_neg hc_29 h
          exact h
        · replace h := zif_pos hc_29 h
          refine zr_iload_n C dyX12_count_237 rfl 1 rfl ?_
          refine zr_aload_n C dyX12_count_238 rfl 2 rfl ?_
          refine zg_12_56 C hS dyX12_count_239 ?_
          refine zr_iload_n C dyX12_count_242 rfl 0 rfl ?_
          refine zr_lald C (hS _ _ zs_507) h.1 dyX12_count_243 ?_
          replace h := h.2
          refine zr_l2i C dyX12_count_244 ?_
          refine zr_iadd C dyX12_count_245 ?_
          refine zn_istore_n C (fun v2_28 => [(2, .int v2_28), (3, .int v3_25), (0, .ref (B + 491))]) dyX12_count_246 rfl (Nat.le_of_ble_eq_true rfl) (fun _ => rfl) (fun v2_28 ev2_28 => ?_)
          replace h := h v2_28 ev2_28
          refine zr_sub (lv2 := [(3, .int v3_25), (2, .int v2_28), (0, .ref (B + 491))]) [1, 0, 2] rfl ?_
          exact h
    refine zr_sub (lv2 := [(3, .int 0), (2, .int 0), (0, .ref (B + 491))]) [0, 1, 2] rfl ?_
    exact h
  replace h := zif_neg hc_23 h
  by_cases hc_31 : a1 = 13
  · replace h := zif_pos hc_31 h
    refine zr_tableIn C dyX12_count_3 (by rw [hc_31]; decide) (by rw [hc_31]; decide) (off := 252) (by rw [hc_31]; decide) (tgt := 255) (by decide) ?_
    refine zr_aload_n C dyX12_count_255 rfl 1 rfl ?_
    refine zv_12_468 C hS (st := []) h ⟨Nat.le_of_ble_eq_true rfl, Nat.le_of_ble_eq_true rfl⟩ (Nat.le_of_ble_eq_true rfl) dyX12_count_256 (fun r_32 h => ?_)
    exact zr_iret C rfl dyX12_count_259 ⟨rfl, _, rfl, h⟩
  replace h := zif_neg hc_31 h
  by_cases hc_33 : a1 = 14
  · replace h := zif_pos hc_33 h
    refine zr_tableIn C dyX12_count_3 (by rw [hc_33]; decide) (by rw [hc_33]; decide) (off := 257) (by rw [hc_33]; decide) (tgt := 260) (by decide) ?_
    refine zr_aload_n C dyX12_count_260 rfl 1 rfl ?_
    refine zr_iconst C dyX12_count_261 zc_i_0 ?_
    refine zv_12_448 C hS (st := []) h ⟨Nat.le_of_ble_eq_true rfl, Nat.le_of_ble_eq_true rfl⟩ (Nat.le_of_ble_eq_true rfl) dyX12_count_262 (fun r_34 h => ?_)
    exact zr_iret C rfl dyX12_count_265 ⟨rfl, _, rfl, h⟩
  replace h := zif_neg hc_33 h
  by_cases hc_35 : a1 = 15
  · replace h := zif_pos hc_35 h
    refine zr_tableIn C dyX12_count_3 (by rw [hc_35]; decide) (by rw [hc_35]; decide) (off := 263) (by rw [hc_35]; decide) (tgt := 266) (by decide) ?_
    refine zr_aload_n C dyX12_count_266 rfl 1 rfl ?_
    refine zr_aload_n C dyX12_count_267 rfl 1 rfl ?_
    refine zg_12_178 C hS dyX12_count_268 ?_
    refine zv_12_442 C hS (st := []) h ⟨Nat.le_of_ble_eq_true rfl, Nat.le_of_ble_eq_true rfl⟩ (Nat.le_of_ble_eq_true rfl) dyX12_count_271 (fun I_36 h => ?_)
    refine zr_aload_n C dyX12_count_274 rfl 1 rfl ?_
    refine zg_12_430 C hS dyX12_count_275 ?_
    exact zr_iret C rfl dyX12_count_278 ⟨rfl, _, rfl, h⟩
  replace h := zif_neg hc_35 h
  by_cases hc_37 : a1 = 16
  · replace h := zif_pos hc_37 h
    refine zr_tableIn C dyX12_count_3 (by rw [hc_37]; decide) (by rw [hc_37]; decide) (off := 276) (by rw [hc_37]; decide) (tgt := 279) (by decide) ?_
    refine zr_aload_n C dyX12_count_279 rfl 1 rfl ?_
    refine zg_12_312 C hS dyX12_count_280 ?_
    exact zr_iret C rfl dyX12_count_283 ⟨rfl, _, rfl, h⟩
  replace h := zif_neg hc_37 h
  by_cases hc_38 : a1 = 17
  · replace h := zif_pos hc_38 h
    refine zr_tableIn C dyX12_count_3 (by rw [hc_38]; decide) (by rw [hc_38]; decide) (off := 281) (by rw [hc_38]; decide) (tgt := 284) (by decide) ?_
    refine zr_aload_n C dyX12_count_284 rfl 1 rfl ?_
    refine zr_bipush C dyX12_count_285 zc_b_8 ?_
    refine zv_12_471 C hS (st := []) h ⟨Nat.le_of_ble_eq_true rfl, Nat.le_of_ble_eq_true rfl⟩ (Nat.le_of_ble_eq_true rfl) dyX12_count_287 (fun r_39 h => ?_)
    exact zr_iret C rfl dyX12_count_290 ⟨rfl, _, rfl, h⟩
  replace h := zif_neg hc_38 h
  by_cases hc_40 : a1 = 18
  · replace h := zif_pos hc_40 h
    refine zr_tableIn C dyX12_count_3 (by rw [hc_40]; decide) (by rw [hc_40]; decide) (off := 288) (by rw [hc_40]; decide) (tgt := 291) (by decide) ?_
    refine zr_aload_n C dyX12_count_291 rfl 1 rfl ?_
    refine zg_12_178 C hS dyX12_count_292 ?_
    refine zn_istore_n C (fun v2_41 => [(2, .int v2_41), (0, .ref (B + 491)), (1, .int a1)]) dyX12_count_295 rfl (Nat.le_of_ble_eq_true rfl) (fun _ => rfl) (fun v2_41 ev2_41 => ?_)
    replace h := h v2_41 ev2_41
    refine zr_iconst C dyX12_count_296 zc_i_0 ?_
    refine zr_istore_n C dyX12_count_297 rfl (Nat.le_of_ble_eq_true rfl) (lv2 := [(3, .int 0), (2, .int v2_41), (0, .ref (B + 491)), (1, .int a1)]) rfl ?_
    refine zjn (h (fun (v2_42 : Int32) (v3_43 : Int32) => zX p l e (zrm 3 70) s m args below meth c (MQ below (zQc D B cA (zqI S K)) args s 0 0 (fun q => B ≤ q)) D B cA 4 0 0 S I [(3, .int v3_43), (2, .int v2_42), (0, .ref (B + 491))] [] 298) (fun v2_42 v3_43 h => ?_)) (fun h => ?_)
    · refine zr_iload_n C dyX12_count_298 rfl 0 rfl ?_
      refine zr_aload_n C dyX12_count_299 rfl 2 rfl ?_
      refine zg_12_280 C hS dyX12_count_300 ?_
      refine zr_icmp_ge C dyX12_count_303 (tgt := 329) (by decide) (fun hc_48 => ?_) (fun hc_48 => ?_)
      · replace h := zif_pos hc_48 h
        refine zr_iload_n C dyX12_count_329 rfl 1 rfl ?_
        exact zr_iret C rfl dyX12_count_330 ⟨rfl, _, rfl, h⟩
      · replace h := zif_neg hc_48 h
        refine zr_aload_n C dyX12_count_306 rfl 2 rfl ?_
        refine zg_12_99 C hS dyX12_count_307 ?_
        refine zr_iload_n C dyX12_count_310 rfl 0 rfl ?_
        refine zr_iald C (hS _ _ zs_521) h.1 dyX12_count_311 ?_
        replace h := h.2
        refine zr_iload_n C dyX12_count_312 rfl 1 rfl ?_
        refine zjn (h (fun (v2_44 : Int32) => zX p l e (zrm 3 70) s m args below meth c (MQ below (zQc D B cA (zqI S K)) args s 0 0 (fun q => B ≤ q)) D B cA 4 0 0 S I [(3, .int v3_43), (2, .int v2_44), (0, .ref (B + 491))] [] 323) (fun v2_44 h => ?_)) (fun h => ?_)
        · refine zn_iinc C (fun v3_45 => [(3, .int v3_45), (2, .int v2_44), (0, .ref (B + 491))]) dyX12_count_323 0 rfl zc_i_1 (Nat.le_of_ble_eq_true rfl) (fun _ => rfl) (fun v3_45 ev3_45 => ?_)
          replace h := h v3_45 ev3_45
          refine zr_goto C dyX12_count_326 (tgt := 298) (by decide) ?_
          exact h
        refine zr_icmp_ge C dyX12_count_313 (tgt := 323) (by decide) (fun hc_47 => ?_) (fun hc_47 => ?_)
        · replace h := zif_pos hc_47 h
          exact h
        · replace h := zif_neg hc_47 h
          refine zr_aload_n C dyX12_count_316 rfl 2 rfl ?_
          refine zg_12_99 C hS dyX12_count_317 ?_
          refine zr_iload_n C dyX12_count_320 rfl 0 rfl ?_
          refine zr_iald C (hS _ _ zs_521) h.1 dyX12_count_321 ?_
          replace h := h.2
          refine zn_istore_n C (fun v2_46 => [(2, .int v2_46), (3, .int v3_43), (0, .ref (B + 491))]) dyX12_count_322 rfl (Nat.le_of_ble_eq_true rfl) (fun _ => rfl) (fun v2_46 ev2_46 => ?_)
          replace h := h v2_46 ev2_46
          refine zr_sub (lv2 := [(3, .int v3_43), (2, .int v2_46), (0, .ref (B + 491))]) [1, 0, 2] rfl ?_
          exact h
    refine zr_sub (lv2 := [(3, .int 0), (2, .int v2_41), (0, .ref (B + 491))]) [0, 1, 2] rfl ?_
    exact h
  replace h := zif_neg hc_40 h
  refine zr_tableOut C dyX12_count_3 (ztab_out (fun i h1 h2 => ?_)) (tgt := 331) (by decide) ?_
  · rcases (by omega : i = 0 ∨ i = 1 ∨ i = 2 ∨ i = 3 ∨ i = 4 ∨ i = 5 ∨ i = 6 ∨ i = 7 ∨ i = 8 ∨ i = 9 ∨ i = 10 ∨ i = 11 ∨ i = 12 ∨ i = 13 ∨ i = 14 ∨ i = 15 ∨ i = 16 ∨ i = 17 ∨ i = 18) with rfl | rfl | rfl | rfl | rfl | rfl | rfl | rfl | rfl | rfl | rfl | rfl | rfl | rfl | rfl | rfl | rfl | rfl | rfl
    · exact hc_1
    · exact hc_2
    · exact hc_3
    · exact hc_5
    · exact hc_6
    · exact hc_7
    · exact hc_8
    · exact hc_9
    · exact hc_10
    · exact hc_11
    · exact hc_12
    · exact hc_13
    · exact hc_23
    · exact hc_31
    · exact hc_33
    · exact hc_35
    · exact hc_37
    · exact hc_38
    · exact hc_40
  refine zr_iconst C dyX12_count_331 zc_i_m1 ?_
  exact zr_iret C rfl dyX12_count_332 ⟨rfl, _, rfl, h⟩
