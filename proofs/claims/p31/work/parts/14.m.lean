theorem zv_12_309 {p : Program} {l : Launch} {e : Env} {R : Room} {s : State} {m : MethodId} {args : Array Value} {below : List Frame} {meth : Method} {c : Code} {Q : State → Prop} {D : va_G} {B : Nat} {cA : Nat → ClassId} {ad : Nat → Nat} {cc : ByteArray} {nL : Nat} {ret : Option FieldType} {S : List zC} {I : zI} {lv : List (Nat × Value)} {st : List Value} {pc : Nat} (C : zCx p s m args meth c cc nL RX12 ret D B cA ad) {K : zI → Prop} {xa1 : Int32} (hS : zOkM S)  (h : w_M_reckons xa1 I K) (hR : 1 + 1 ≤ R.frames ∧ 8 + (4 + 11) + (23) ≤ R.locals) (hw : (st.map fun v => v.category).sum ≤ 8) (hd : decode cc pc = .ok (.invokevirtual 309, 3)) (kk : ∀ I2, K I2 → zX p l e R s m args below meth c Q D B cA nL 0 0 S I2 lv st (pc + 3)) : zX p l e R s m args below meth c Q D B cA nL 0 0 S I lv (.int xa1 :: .ref (B + 491) :: st) pc :=
  have hf : 0 ≤ R.cells ∧ 0 ≤ R.slots := ⟨Nat.zero_le _, Nat.zero_le _⟩
  zc_VqV C (ci := 12) (q := (RX12, TX12, 82)) (k := 491) (fs := [none, some (some 492), some (some 493), none, some (some 494), none, some (some 495), none, none, none, some (some 496), some (some 497), some (some 498), some (some 499), some (some 500), none, some (some 501), some (some 502), some (some 503), none, some (some 504), some (some 505), some (some 506), some (some 507), some (some 508), none, some (some 509), some (some 510), some (some 511), some (some 512), some (some 513), some (some 514), some (some 515), some (some 516), some (some 517), some (some 518), none, none, some (some 519), none, some (some 520), none, none, none, some (some 521), some (some 522), some (some 523), some (some 524), some (some 525), some (some 526), some (some 527), none, some (some 528), none, some (some 529), none, some (some 530), some (some 531), some (some 532), none, some (some 533), some (some 534), some (some 535), some (some 536), some (some 537), none, none, none, some (some 538), some (some 539), some (some 540), none, none, none, some (some 541), none, none, some (some 542), some (some 543), some (some 544), none, some (some 545)]) (As := [.int xa1]) (st := st) rfl (hS _ _ zs_491) (c_M_reckons hS h) (zgV zk_ml_12_309 zk_im_yX12_reckons zk_se_yX12_reckons zk_in_12 zk_cd_yX12_reckons) zsg_yX12_reckons hR rfl rfl hw hd hf kk
theorem zv_12_306 {p : Program} {l : Launch} {e : Env} {R : Room} {s : State} {m : MethodId} {args : Array Value} {below : List Frame} {meth : Method} {c : Code} {Q : State → Prop} {D : va_G} {B : Nat} {cA : Nat → ClassId} {ad : Nat → Nat} {cc : ByteArray} {nL : Nat} {ret : Option FieldType} {S : List zC} {I : zI} {lv : List (Nat × Value)} {st : List Value} {pc : Nat} (C : zCx p s m args meth c cc nL RX12 ret D B cA ad) {K : Int32 → zI → Prop} {xa1 : Int32} (hS : zOkM S)  (h : w_M_reads xa1 I K) (hR : 1 + 1 ≤ R.frames ∧ 8 + (8 + 11) + (23) ≤ R.locals) (hw : (st.map fun v => v.category).sum ≤ 8) (hd : decode cc pc = .ok (.invokevirtual 306, 3)) (kk : ∀ v I2, K v I2 → zX p l e R s m args below meth c Q D B cA nL 0 0 S I2 lv (.int v :: st) (pc + 3)) : zX p l e R s m args below meth c Q D B cA nL 0 0 S I lv (.int xa1 :: .ref (B + 491) :: st) pc :=
  have hf : 0 ≤ R.cells ∧ 0 ≤ R.slots := ⟨Nat.zero_le _, Nat.zero_le _⟩
  zc_VqI C (ci := 12) (q := (RX12, TX12, 82)) (k := 491) (fs := [none, some (some 492), some (some 493), none, some (some 494), none, some (some 495), none, none, none, some (some 496), some (some 497), some (some 498), some (some 499), some (some 500), none, some (some 501), some (some 502), some (some 503), none, some (some 504), some (some 505), some (some 506), some (some 507), some (some 508), none, some (some 509), some (some 510), some (some 511), some (some 512), some (some 513), some (some 514), some (some 515), some (some 516), some (some 517), some (some 518), none, none, some (some 519), none, some (some 520), none, none, none, some (some 521), some (some 522), some (some 523), some (some 524), some (some 525), some (some 526), some (some 527), none, some (some 528), none, some (some 529), none, some (some 530), some (some 531), some (some 532), none, some (some 533), some (some 534), some (some 535), some (some 536), some (some 537), none, none, none, some (some 538), some (some 539), some (some 540), none, none, none, some (some 541), none, none, some (some 542), some (some 543), some (some 544), none, some (some 545)]) (As := [.int xa1]) (st := st) rfl (hS _ _ zs_491) (c_M_reads hS h) (zgV zk_ml_12_306 zk_im_yX12_reads zk_se_yX12_reads zk_in_12 zk_cd_yX12_reads) zsg_yX12_reads hR rfl rfl hw hd hf kk
def w_M_runsAll (a1 : Int32) (I : zI) (K : Int32 → zI → Prop) : Prop :=
  ∀ I_1, I_1 = (zu I 491 55 0) → ∀ (P9 : Int32 → Int32 → zI → Prop), (∀ (v2_2 : Int32) (v3_3 : Int32) (I_4 : zI), ((if (I_4.1 491 53) ≤ v3_3 then K v2_2 I_4 else (vp_in v3_3 110 ∧ (∀ v4_5, v4_5 = (I_4.1 529 (Int32.toNatClampNeg v3_3)) → ∀ (P39 : Int32 → zI → Prop), (∀ (t_6 : Int32) (I_7 : zI), (∀ (P66 : Int32 → Prop), (∀ (t_8 : Int32), (∀ v2_9, v2_9 = (v2_2 + t_8) → w_M_childOf v4_5 2 I_7 (fun r_10 => vp_in r_10 3700 ∧ (w_M_reckons (I_7.1 523 (Int32.toNatClampNeg r_10)) I_7 (fun I_11 => w_M_childOf v4_5 0 I_11 (fun r_12 => vp_in r_12 3700 ∧ (w_M_nameOf (I_11.2 511 (Int32.toNatClampNeg r_12)) I_11 (fun r_13 I_14 => vp_in r_10 3700 ∧ (vp_in r_13 60 ∧ (∀ I_15, I_15 = (zu I_14 531 (Int32.toNatClampNeg r_13) (I_14.1 532 (Int32.toNatClampNeg r_10))) → ∀ v3_16, v3_16 = (v3_3 + 1) → P9 v2_9 v3_16 I_15))))))))) → P66 t_8) → ∀ (P64 : Prop), ((P66 t_6) → P64) → (if a1 = 0 then P64 else (vp_in v4_5 3700 ∧ (if (I_7.1 516 (Int32.toNatClampNeg v4_5)) = (I_7.1 491 36) then P66 1 else P64)))) → P39 t_6 I_7) → (if a1 = 0 then P39 0 I_4 else (w_M_reads v4_5 I_4 (fun r_19 I_20 => P39 r_19 I_20))))))) → P9 v2_2 v3_3 I_4) → P9 0 0 I_1
theorem dyX12_runsAll_0 : decode cX12_runsAll 0 = .ok (.aload_n 0, 1) := by decide +kernel
theorem dyX12_runsAll_1 : decode cX12_runsAll 1 = .ok (.iconst 0, 1) := by decide +kernel
theorem dyX12_runsAll_2 : decode cX12_runsAll 2 = .ok (.putfield 296, 3) := by decide +kernel
theorem dyX12_runsAll_5 : decode cX12_runsAll 5 = .ok (.iconst 0, 1) := by decide +kernel
theorem dyX12_runsAll_6 : decode cX12_runsAll 6 = .ok (.istore_n 2, 1) := by decide +kernel
theorem dyX12_runsAll_7 : decode cX12_runsAll 7 = .ok (.iconst 0, 1) := by decide +kernel
theorem dyX12_runsAll_8 : decode cX12_runsAll 8 = .ok (.istore_n 3, 1) := by decide +kernel
theorem dyX12_runsAll_9 : decode cX12_runsAll 9 = .ok (.iload_n 3, 1) := by decide +kernel
theorem dyX12_runsAll_10 : decode cX12_runsAll 10 = .ok (.aload_n 0, 1) := by decide +kernel
theorem dyX12_runsAll_11 : decode cX12_runsAll 11 = .ok (.getfield 293, 3) := by decide +kernel
theorem dyX12_runsAll_14 : decode cX12_runsAll 14 = .ok (.if_icmp .ge 108, 3) := by decide +kernel
theorem dyX12_runsAll_17 : decode cX12_runsAll 17 = .ok (.aload_n 0, 1) := by decide +kernel
theorem dyX12_runsAll_18 : decode cX12_runsAll 18 = .ok (.getfield 123, 3) := by decide +kernel
theorem dyX12_runsAll_21 : decode cX12_runsAll 21 = .ok (.iload_n 3, 1) := by decide +kernel
theorem dyX12_runsAll_22 : decode cX12_runsAll 22 = .ok (.iaload, 1) := by decide +kernel
theorem dyX12_runsAll_23 : decode cX12_runsAll 23 = .ok (.istore 4, 2) := by decide +kernel
theorem dyX12_runsAll_25 : decode cX12_runsAll 25 = .ok (.iload_n 1, 1) := by decide +kernel
theorem dyX12_runsAll_26 : decode cX12_runsAll 26 = .ok (.ifCond .eq 12, 3) := by decide +kernel
theorem dyX12_runsAll_29 : decode cX12_runsAll 29 = .ok (.aload_n 0, 1) := by decide +kernel
theorem dyX12_runsAll_30 : decode cX12_runsAll 30 = .ok (.iload 4, 2) := by decide +kernel
theorem dyX12_runsAll_32 : decode cX12_runsAll 32 = .ok (.invokevirtual 306, 3) := by decide +kernel
theorem dyX12_runsAll_35 : decode cX12_runsAll 35 = .ok (.goto 4, 3) := by decide +kernel
theorem dyX12_runsAll_38 : decode cX12_runsAll 38 = .ok (.iconst 0, 1) := by decide +kernel
theorem dyX12_runsAll_39 : decode cX12_runsAll 39 = .ok (.istore 5, 2) := by decide +kernel
theorem dyX12_runsAll_41 : decode cX12_runsAll 41 = .ok (.iload_n 2, 1) := by decide +kernel
theorem dyX12_runsAll_42 : decode cX12_runsAll 42 = .ok (.iload_n 1, 1) := by decide +kernel
theorem dyX12_runsAll_43 : decode cX12_runsAll 43 = .ok (.ifCond .eq 21, 3) := by decide +kernel
theorem dyX12_runsAll_46 : decode cX12_runsAll 46 = .ok (.aload_n 0, 1) := by decide +kernel
theorem dyX12_runsAll_47 : decode cX12_runsAll 47 = .ok (.getfield 83, 3) := by decide +kernel
theorem dyX12_runsAll_50 : decode cX12_runsAll 50 = .ok (.iload 4, 2) := by decide +kernel
theorem dyX12_runsAll_52 : decode cX12_runsAll 52 = .ok (.iaload, 1) := by decide +kernel
theorem dyX12_runsAll_53 : decode cX12_runsAll 53 = .ok (.aload_n 0, 1) := by decide +kernel
theorem dyX12_runsAll_54 : decode cX12_runsAll 54 = .ok (.getfield 250, 3) := by decide +kernel
theorem dyX12_runsAll_57 : decode cX12_runsAll 57 = .ok (.if_icmp .ne 7, 3) := by decide +kernel
theorem dyX12_runsAll_60 : decode cX12_runsAll 60 = .ok (.iconst 1, 1) := by decide +kernel
theorem dyX12_runsAll_61 : decode cX12_runsAll 61 = .ok (.goto 5, 3) := by decide +kernel
theorem dyX12_runsAll_64 : decode cX12_runsAll 64 = .ok (.iload 5, 2) := by decide +kernel
theorem dyX12_runsAll_66 : decode cX12_runsAll 66 = .ok (.iadd, 1) := by decide +kernel
theorem dyX12_runsAll_67 : decode cX12_runsAll 67 = .ok (.istore_n 2, 1) := by decide +kernel
theorem dyX12_runsAll_68 : decode cX12_runsAll 68 = .ok (.aload_n 0, 1) := by decide +kernel
theorem dyX12_runsAll_69 : decode cX12_runsAll 69 = .ok (.iload 4, 2) := by decide +kernel
theorem dyX12_runsAll_71 : decode cX12_runsAll 71 = .ok (.iconst 2, 1) := by decide +kernel
theorem dyX12_runsAll_72 : decode cX12_runsAll 72 = .ok (.invokevirtual 299, 3) := by decide +kernel
theorem dyX12_runsAll_75 : decode cX12_runsAll 75 = .ok (.istore 6, 2) := by decide +kernel
theorem dyX12_runsAll_77 : decode cX12_runsAll 77 = .ok (.aload_n 0, 1) := by decide +kernel
theorem dyX12_runsAll_78 : decode cX12_runsAll 78 = .ok (.aload_n 0, 1) := by decide +kernel
theorem dyX12_runsAll_79 : decode cX12_runsAll 79 = .ok (.getfield 105, 3) := by decide +kernel
theorem dyX12_runsAll_82 : decode cX12_runsAll 82 = .ok (.iload 6, 2) := by decide +kernel
theorem dyX12_runsAll_84 : decode cX12_runsAll 84 = .ok (.iaload, 1) := by decide +kernel
theorem dyX12_runsAll_85 : decode cX12_runsAll 85 = .ok (.invokevirtual 309, 3) := by decide +kernel
theorem dyX12_runsAll_88 : decode cX12_runsAll 88 = .ok (.aload_n 0, 1) := by decide +kernel
theorem dyX12_runsAll_89 : decode cX12_runsAll 89 = .ok (.getfield 129, 3) := by decide +kernel
theorem dyX12_runsAll_92 : decode cX12_runsAll 92 = .ok (.aload_n 0, 1) := by decide +kernel
theorem dyX12_runsAll_93 : decode cX12_runsAll 93 = .ok (.aload_n 0, 1) := by decide +kernel
theorem dyX12_runsAll_94 : decode cX12_runsAll 94 = .ok (.getfield 68, 3) := by decide +kernel
theorem dyX12_runsAll_97 : decode cX12_runsAll 97 = .ok (.aload_n 0, 1) := by decide +kernel
theorem dyX12_runsAll_98 : decode cX12_runsAll 98 = .ok (.iload 4, 2) := by decide +kernel
theorem dyX12_runsAll_100 : decode cX12_runsAll 100 = .ok (.iconst 0, 1) := by decide +kernel
theorem dyX12_runsAll_101 : decode cX12_runsAll 101 = .ok (.invokevirtual 299, 3) := by decide +kernel
theorem dyX12_runsAll_104 : decode cX12_runsAll 104 = .ok (.laload, 1) := by decide +kernel
theorem dyX12_runsAll_105 : decode cX12_runsAll 105 = .ok (.invokevirtual 302, 3) := by decide +kernel
theorem dyX12_runsAll_108 : decode cX12_runsAll 108 = .ok (.aload_n 0, 1) := by decide +kernel
theorem dyX12_runsAll_109 : decode cX12_runsAll 109 = .ok (.getfield 132, 3) := by decide +kernel
theorem dyX12_runsAll_112 : decode cX12_runsAll 112 = .ok (.iload 6, 2) := by decide +kernel
theorem dyX12_runsAll_114 : decode cX12_runsAll 114 = .ok (.iaload, 1) := by decide +kernel
theorem dyX12_runsAll_115 : decode cX12_runsAll 115 = .ok (.iastore, 1) := by decide +kernel
theorem dyX12_runsAll_116 : decode cX12_runsAll 116 = .ok (.iinc 3 1, 3) := by decide +kernel
theorem dyX12_runsAll_119 : decode cX12_runsAll 119 = .ok (.goto (-110), 3) := by decide +kernel
theorem dyX12_runsAll_122 : decode cX12_runsAll 122 = .ok (.iload_n 2, 1) := by decide +kernel
theorem dyX12_runsAll_123 : decode cX12_runsAll 123 = .ok (.ireturn, 1) := by decide +kernel
theorem zsg_yX12_runsAll : yX12_runsAll.cls = RX12 ∧ yX12_runsAll.cls ≠ "java/lang/invoke/MethodHandle" ∧ yX12_runsAll.cls ≠ "java/lang/invoke/VarHandle" ∧ (parseMethodDescriptor yX12_runsAll.desc).map (fun d => d.parameters.length) = some 1 := by decide +kernel
set_option maxRecDepth 20000 in
theorem c_M_runsAll {l : Launch} {D : va_G} {B : Nat} {cA : Nat → ClassId} {ad : Nat → Nat} {S : List zC} (hS : zOkM S) {a1 : Int32} {I : zI} {K : Int32 → zI → Prop}  (h : w_M_runsAll a1 I K) : Met l yX12_runsAll (zws yX12_runsAll cX12_runsAll 7 (some .int)) (zrm 2 50) (zPc D B cA ad [.ref (B + 491), .int a1] S I) (zQc D B cA (zqI S K)) 0 0 (fun q => B ≤ q) := by
  refine zm_of (cc := cX12_runsAll) (maxL := 7) (ret := (some .int)) (by decide +kernel) rfl (Nat.le_of_ble_eq_true rfl) trivial ?_
  intro p e s m args below meth c C _
  unfold w_M_runsAll at h
  show zX p l e (zrm 2 50) s m args below meth c (MQ below (zQc D B cA (zqI S K)) args s 0 0 (fun q => B ≤ q)) D B cA 7 0 0 S I [(0, .ref (B + 491)), (1, .int a1)] [] 0
  refine zr_aload_n C dyX12_runsAll_0 rfl 0 rfl ?_
  refine zr_iconst C dyX12_runsAll_1 zc_i_0 ?_
  refine zp_12_296 C hS dyX12_runsAll_2 ?_
  refine zn_mem C (fun I_1 eI_1 => ?_)
  replace h := h I_1 eI_1
  refine zr_iconst C dyX12_runsAll_5 zc_i_0 ?_
  refine zr_istore_n C dyX12_runsAll_6 rfl (Nat.le_of_ble_eq_true rfl) (lv2 := [(2, .int 0), (0, .ref (B + 491)), (1, .int a1)]) rfl ?_
  refine zr_iconst C dyX12_runsAll_7 zc_i_0 ?_
  refine zr_istore_n C dyX12_runsAll_8 rfl (Nat.le_of_ble_eq_true rfl) (lv2 := [(3, .int 0), (2, .int 0), (0, .ref (B + 491)), (1, .int a1)]) rfl ?_
  refine zjn (h (fun (v2_2 : Int32) (v3_3 : Int32) (I_4 : zI) => zX p l e (zrm 2 50) s m args below meth c (MQ below (zQc D B cA (zqI S K)) args s 0 0 (fun q => B ≤ q)) D B cA 7 0 0 S I_4 [(3, .int v3_3), (2, .int v2_2), (0, .ref (B + 491)), (1, .int a1)] [] 9) (fun v2_2 v3_3 I_4 h => ?_)) (fun h => ?_)
  · refine zr_iload_n C dyX12_runsAll_9 rfl 0 rfl ?_
    refine zr_aload_n C dyX12_runsAll_10 rfl 2 rfl ?_
    refine zg_12_293 C hS dyX12_runsAll_11 ?_
    refine zr_icmp_ge C dyX12_runsAll_14 (tgt := 122) (by decide) (fun hc_22 => ?_) (fun hc_22 => ?_)
    · replace h := zif_pos hc_22 h
      refine zr_iload_n C dyX12_runsAll_122 rfl 1 rfl ?_
      exact zr_iret C rfl dyX12_runsAll_123 ⟨rfl, _, rfl, h⟩
    · replace h := zif_neg hc_22 h
      refine zr_aload_n C dyX12_runsAll_17 rfl 2 rfl ?_
      refine zg_12_123 C hS dyX12_runsAll_18 ?_
      refine zr_iload_n C dyX12_runsAll_21 rfl 0 rfl ?_
      refine zr_iald C (hS _ _ zs_529) h.1 dyX12_runsAll_22 ?_
      replace h := h.2
      refine zn_istore C (fun v4_5 => [(4, .int v4_5), (3, .int v3_3), (2, .int v2_2), (0, .ref (B + 491)), (1, .int a1)]) dyX12_runsAll_23 (Nat.le_of_ble_eq_true rfl) (fun _ => rfl) (fun v4_5 ev4_5 => ?_)
      replace h := h v4_5 ev4_5
      refine zr_iload_n C dyX12_runsAll_25 rfl 4 rfl ?_
      refine zjn (h (fun (t_6 : Int32) (I_7 : zI) => zX p l e (zrm 2 50) s m args below meth c (MQ below (zQc D B cA (zqI S K)) args s 0 0 (fun q => B ≤ q)) D B cA 7 0 0 S I_7 [(4, .int v4_5), (3, .int v3_3), (2, .int v2_2), (0, .ref (B + 491)), (1, .int a1)] [.int t_6] 39) (fun t_6 I_7 h => ?_)) (fun h => ?_)
      · refine zr_istore C dyX12_runsAll_39 (Nat.le_of_ble_eq_true rfl) (lv2 := [(5, .int t_6), (4, .int v4_5), (3, .int v3_3), (2, .int v2_2), (0, .ref (B + 491)), (1, .int a1)]) rfl ?_
        refine zr_iload_n C dyX12_runsAll_41 rfl 3 rfl ?_
        refine zr_iload_n C dyX12_runsAll_42 rfl 5 rfl ?_
        refine zjn (h (fun (t_8 : Int32) => zX p l e (zrm 2 50) s m args below meth c (MQ below (zQc D B cA (zqI S K)) args s 0 0 (fun q => B ≤ q)) D B cA 7 0 0 S I_7 [(4, .int v4_5), (3, .int v3_3), (0, .ref (B + 491)), (1, .int a1)] [.int t_8, .int v2_2] 66) (fun t_8 h => ?_)) (fun h => ?_)
        · refine zr_iadd C dyX12_runsAll_66 ?_
          refine zn_istore_n C (fun v2_9 => [(2, .int v2_9), (4, .int v4_5), (3, .int v3_3), (0, .ref (B + 491)), (1, .int a1)]) dyX12_runsAll_67 rfl (Nat.le_of_ble_eq_true rfl) (fun _ => rfl) (fun v2_9 ev2_9 => ?_)
          replace h := h v2_9 ev2_9
          refine zr_aload_n C dyX12_runsAll_68 rfl 3 rfl ?_
          refine zr_iload C dyX12_runsAll_69 1 rfl ?_
          refine zr_iconst C dyX12_runsAll_71 zc_i_2 ?_
          refine zv_12_299 C hS (st := []) h ⟨Nat.le_of_ble_eq_true rfl, Nat.le_of_ble_eq_true rfl⟩ (Nat.le_of_ble_eq_true rfl) dyX12_runsAll_72 (fun r_10 h => ?_)
          refine zr_istore C dyX12_runsAll_75 (Nat.le_of_ble_eq_true rfl) (lv2 := [(6, .int r_10), (2, .int v2_9), (4, .int v4_5), (3, .int v3_3), (0, .ref (B + 491)), (1, .int a1)]) rfl ?_
          refine zr_aload_n C dyX12_runsAll_77 rfl 4 rfl ?_
          refine zr_aload_n C dyX12_runsAll_78 rfl 4 rfl ?_
          refine zg_12_105 C hS dyX12_runsAll_79 ?_
          refine zr_iload C dyX12_runsAll_82 0 rfl ?_
          refine zr_iald C (hS _ _ zs_523) h.1 dyX12_runsAll_84 ?_
          replace h := h.2
          refine zv_12_309 C hS (st := []) h ⟨Nat.le_of_ble_eq_true rfl, Nat.le_of_ble_eq_true rfl⟩ (Nat.le_of_ble_eq_true rfl) dyX12_runsAll_85 (fun I_11 h => ?_)
          refine zr_aload_n C dyX12_runsAll_88 rfl 4 rfl ?_
          refine zg_12_129 C hS dyX12_runsAll_89 ?_
          refine zr_aload_n C dyX12_runsAll_92 rfl 4 rfl ?_
          refine zr_aload_n C dyX12_runsAll_93 rfl 4 rfl ?_
          refine zg_12_68 C hS dyX12_runsAll_94 ?_
          refine zr_aload_n C dyX12_runsAll_97 rfl 4 rfl ?_
          refine zr_iload C dyX12_runsAll_98 2 rfl ?_
          refine zr_iconst C dyX12_runsAll_100 zc_i_0 ?_
          refine zv_12_299 C hS (st := [.ref (B + 511), .ref (B + 491), .ref (B + 531)]) h ⟨Nat.le_of_ble_eq_true rfl, Nat.le_of_ble_eq_true rfl⟩ (Nat.le_of_ble_eq_true rfl) dyX12_runsAll_101 (fun r_12 h => ?_)
          refine zr_lald C (hS _ _ zs_511) h.1 dyX12_runsAll_104 ?_
          replace h := h.2
          refine zv_12_302 C hS (st := [.ref (B + 531)]) h ⟨Nat.le_of_ble_eq_true rfl, Nat.le_of_ble_eq_true rfl⟩ (Nat.le_of_ble_eq_true rfl) dyX12_runsAll_105 (fun r_13 I_14 h => ?_)
          refine zr_aload_n C dyX12_runsAll_108 rfl 4 rfl ?_
          refine zg_12_132 C hS dyX12_runsAll_109 ?_
          refine zr_iload C dyX12_runsAll_112 0 rfl ?_
          refine zr_iald C (hS _ _ zs_532) h.1 dyX12_runsAll_114 ?_
          replace h := h.2
          refine zr_iast C (hS _ _ zs_531) h.1 dyX12_runsAll_115 ?_
          replace h := h.2
          refine zn_mem C (fun I_15 eI_15 => ?_)
          replace h := h I_15 eI_15
          refine zn_iinc C (fun v3_16 => [(3, .int v3_16), (6, .int r_10), (2, .int v2_9), (4, .int v4_5), (0, .ref (B + 491)), (1, .int a1)]) dyX12_runsAll_116 3 rfl zc_i_1 (Nat.le_of_ble_eq_true rfl) (fun _ => rfl) (fun v3_16 ev3_16 => ?_)
          replace h := h v3_16 ev3_16
          refine zr_goto C dyX12_runsAll_119 (tgt := 9) (by decide) ?_
          refine zr_sub (lv2 := [(3, .int v3_16), (2, .int v2_9), (0, .ref (B + 491)), (1, .int a1)]) [0, 2, 4, 5] rfl ?_
          exact h
        refine zjn (h (zX p l e (zrm 2 50) s m args below meth c (MQ below (zQc D B cA (zqI S K)) args s 0 0 (fun q => B ≤ q)) D B cA 7 0 0 S I_7 [(5, .int t_6), (4, .int v4_5), (3, .int v3_3), (0, .ref (B + 491)), (1, .int a1)] [.int v2_2] 64) (fun  h => ?_)) (fun h => ?_)
        · refine zr_iload C dyX12_runsAll_64 0 rfl ?_
          refine zr_sub (lv2 := [(4, .int v4_5), (3, .int v3_3), (0, .ref (B + 491)), (1, .int a1)]) [1, 2, 3, 4] rfl ?_
          exact h
        refine zr_if_eq C dyX12_runsAll_43 (tgt := 64) (by decide) (fun hc_18 => ?_) (fun hc_18 => ?_)
        · replace h := zif_pos hc_18 h
          refine zr_sub (lv2 := [(5, .int t_6), (4, .int v4_5), (3, .int v3_3), (0, .ref (B + 491)), (1, .int a1)]) [0, 1, 2, 4, 5] rfl ?_
          exact h
        · replace h := zif_neg hc_18 h
          refine zr_aload_n C dyX12_runsAll_46 rfl 4 rfl ?_
          refine zg_12_83 C hS dyX12_runsAll_47 ?_
          refine zr_iload C dyX12_runsAll_50 1 rfl ?_
          refine zr_iald C (hS _ _ zs_516) h.1 dyX12_runsAll_52 ?_
          replace h := h.2
          refine zr_aload_n C dyX12_runsAll_53 rfl 4 rfl ?_
          refine zg_12_250 C hS dyX12_runsAll_54 ?_
          refine zr_icmp_ne C dyX12_runsAll_57 (tgt := 64) (by decide) (fun hc_17 => ?_) (fun hc_17 => ?_)
          · replace h := zif_neg hc_17 h
            refine zr_sub (lv2 := [(5, .int t_6), (4, .int v4_5), (3, .int v3_3), (0, .ref (B + 491)), (1, .int a1)]) [0, 1, 2, 4, 5] rfl ?_
            exact h
          · replace h := zif_pos hc_17 h
            refine zr_iconst C dyX12_runsAll_60 zc_i_1 ?_
            refine zr_goto C dyX12_runsAll_61 (tgt := 66) (by decide) ?_
            refine zr_sub (lv2 := [(4, .int v4_5), (3, .int v3_3), (0, .ref (B + 491)), (1, .int a1)]) [1, 2, 4, 5] rfl ?_
            exact h
      refine zr_if_eq C dyX12_runsAll_26 (tgt := 38) (by decide) (fun hc_21 => ?_) (fun hc_21 => ?_)
      · replace h := zif_pos hc_21 h
        refine zr_iconst C dyX12_runsAll_38 zc_i_0 ?_
        exact h
      · replace h := zif_neg hc_21 h
        refine zr_aload_n C dyX12_runsAll_29 rfl 3 rfl ?_
        refine zr_iload C dyX12_runsAll_30 0 rfl ?_
        refine zv_12_306 C hS (st := []) h ⟨Nat.le_of_ble_eq_true rfl, Nat.le_of_ble_eq_true rfl⟩ (Nat.le_of_ble_eq_true rfl) dyX12_runsAll_32 (fun r_19 I_20 h => ?_)
        refine zr_goto C dyX12_runsAll_35 (tgt := 39) (by decide) ?_
        exact h
  exact h
theorem zg_12_312 {p : Program} {l : Launch} {e : Env} {R : Room} {s : State} {m : MethodId} {args : Array Value} {below : List Frame} {meth : Method} {c : Code} {Q : State → Prop} {D : va_G} {B : Nat} {cA : Nat → ClassId} {ad : Nat → Nat} {cc : ByteArray} {nL : Nat} {ret : Option FieldType} {S : List zC} {I : zI} {lv : List (Nat × Value)} {st : List Value} {pc : Nat} (C : zCx p s m args meth c cc nL RX12 ret D B cA ad) (hS : zOkM S) (hd : decode cc pc = .ok (.getfield 312, 3)) (kk : zX p l e R s m args below meth c Q D B cA nL 0 0 S I lv (.int (I.1 491 59) :: st) (pc + 3)) : zX p l e R s m args below meth c Q D B cA nL 0 0 S I lv (.ref (B + 491) :: st) pc :=
  zr_geti C (ci := 12) (Cn := RX12) (T := TX12) (N := 82) (k := 491) (j := 59) (fs := [none, some (some 492), some (some 493), none, some (some 494), none, some (some 495), none, none, none, some (some 496), some (some 497), some (some 498), some (some 499), some (some 500), none, some (some 501), some (some 502), some (some 503), none, some (some 504), some (some 505), some (some 506), some (some 507), some (some 508), none, some (some 509), some (some 510), some (some 511), some (some 512), some (some 513), some (some 514), some (some 515), some (some 516), some (some 517), some (some 518), none, none, some (some 519), none, some (some 520), none, none, none, some (some 521), some (some 522), some (some 523), some (some 524), some (some 525), some (some 526), some (some 527), none, some (some 528), none, some (some 529), none, some (some 530), some (some 531), some (some 532), none, some (some 533), some (some 534), some (some 535), some (some 536), some (some 537), none, none, none, some (some 538), some (some 539), some (some 540), none, none, none, some (some 541), none, none, some (some 542), some (some 543), some (some 544), none, some (some 545)]) rfl zin_12 (Nat.le_of_ble_eq_true rfl) rfl (hS _ _ zs_491) rfl zk_fl_12_312 hd kk
theorem zg_12_135 {p : Program} {l : Launch} {e : Env} {R : Room} {s : State} {m : MethodId} {args : Array Value} {below : List Frame} {meth : Method} {c : Code} {Q : State → Prop} {D : va_G} {B : Nat} {cA : Nat → ClassId} {ad : Nat → Nat} {cc : ByteArray} {nL : Nat} {ret : Option FieldType} {S : List zC} {I : zI} {lv : List (Nat × Value)} {st : List Value} {pc : Nat} (C : zCx p s m args meth c cc nL RX12 ret D B cA ad) (hS : zOkM S) (hd : decode cc pc = .ok (.getfield 135, 3)) (kk : zX p l e R s m args below meth c Q D B cA nL 0 0 S I lv (.ref (B + 533) :: st) (pc + 3)) : zX p l e R s m args below meth c Q D B cA nL 0 0 S I lv (.ref (B + 491) :: st) pc :=
  zr_getr C (ci := 12) (Cn := RX12) (T := TX12) (N := 82) (k := 491) (j := 60) (fs := [none, some (some 492), some (some 493), none, some (some 494), none, some (some 495), none, none, none, some (some 496), some (some 497), some (some 498), some (some 499), some (some 500), none, some (some 501), some (some 502), some (some 503), none, some (some 504), some (some 505), some (some 506), some (some 507), some (some 508), none, some (some 509), some (some 510), some (some 511), some (some 512), some (some 513), some (some 514), some (some 515), some (some 516), some (some 517), some (some 518), none, none, some (some 519), none, some (some 520), none, none, none, some (some 521), some (some 522), some (some 523), some (some 524), some (some 525), some (some 526), some (some 527), none, some (some 528), none, some (some 529), none, some (some 530), some (some 531), some (some 532), none, some (some 533), some (some 534), some (some 535), some (some 536), some (some 537), none, none, none, some (some 538), some (some 539), some (some 540), none, none, none, some (some 541), none, none, some (some 542), some (some 543), some (some 544), none, some (some 545)]) rfl zin_12 (Nat.le_of_ble_eq_true rfl) rfl (hS _ _ zs_491) rfl zk_fl_12_135 hd kk
theorem zg_12_138 {p : Program} {l : Launch} {e : Env} {R : Room} {s : State} {m : MethodId} {args : Array Value} {below : List Frame} {meth : Method} {c : Code} {Q : State → Prop} {D : va_G} {B : Nat} {cA : Nat → ClassId} {ad : Nat → Nat} {cc : ByteArray} {nL : Nat} {ret : Option FieldType} {S : List zC} {I : zI} {lv : List (Nat × Value)} {st : List Value} {pc : Nat} (C : zCx p s m args meth c cc nL RX12 ret D B cA ad) (hS : zOkM S) (hd : decode cc pc = .ok (.getfield 138, 3)) (kk : zX p l e R s m args below meth c Q D B cA nL 0 0 S I lv (.ref (B + 534) :: st) (pc + 3)) : zX p l e R s m args below meth c Q D B cA nL 0 0 S I lv (.ref (B + 491) :: st) pc :=
  zr_getr C (ci := 12) (Cn := RX12) (T := TX12) (N := 82) (k := 491) (j := 61) (fs := [none, some (some 492), some (some 493), none, some (some 494), none, some (some 495), none, none, none, some (some 496), some (some 497), some (some 498), some (some 499), some (some 500), none, some (some 501), some (some 502), some (some 503), none, some (some 504), some (some 505), some (some 506), some (some 507), some (some 508), none, some (some 509), some (some 510), some (some 511), some (some 512), some (some 513), some (some 514), some (some 515), some (some 516), some (some 517), some (some 518), none, none, some (some 519), none, some (some 520), none, none, none, some (some 521), some (some 522), some (some 523), some (some 524), some (some 525), some (some 526), some (some 527), none, some (some 528), none, some (some 529), none, some (some 530), some (some 531), some (some 532), none, some (some 533), some (some 534), some (some 535), some (some 536), some (some 537), none, none, none, some (some 538), some (some 539), some (some 540), none, none, none, some (some 541), none, none, some (some 542), some (some 543), some (some 544), none, some (some 545)]) rfl zin_12 (Nat.le_of_ble_eq_true rfl) rfl (hS _ _ zs_491) rfl zk_fl_12_138 hd kk
theorem zp_12_312 {p : Program} {l : Launch} {e : Env} {R : Room} {s : State} {m : MethodId} {args : Array Value} {below : List Frame} {meth : Method} {c : Code} {Q : State → Prop} {D : va_G} {B : Nat} {cA : Nat → ClassId} {ad : Nat → Nat} {cc : ByteArray} {nL : Nat} {ret : Option FieldType} {S : List zC} {I : zI} {lv : List (Nat × Value)} {st : List Value} {pc : Nat} (C : zCx p s m args meth c cc nL RX12 ret D B cA ad) (hS : zOkM S) {v : Int32} (hd : decode cc pc = .ok (.putfield 312, 3)) (kk : zX p l e R s m args below meth c Q D B cA nL 0 0 S (zu I 491 59 v) lv st (pc + 3)) : zX p l e R s m args below meth c Q D B cA nL 0 0 S I lv (.int v :: .ref (B + 491) :: st) pc :=
  zr_puti C (ci := 12) (Cn := RX12) (T := TX12) (N := 82) (k := 491) (j := 59) (fs := [none, some (some 492), some (some 493), none, some (some 494), none, some (some 495), none, none, none, some (some 496), some (some 497), some (some 498), some (some 499), some (some 500), none, some (some 501), some (some 502), some (some 503), none, some (some 504), some (some 505), some (some 506), some (some 507), some (some 508), none, some (some 509), some (some 510), some (some 511), some (some 512), some (some 513), some (some 514), some (some 515), some (some 516), some (some 517), some (some 518), none, none, some (some 519), none, some (some 520), none, none, none, some (some 521), some (some 522), some (some 523), some (some 524), some (some 525), some (some 526), some (some 527), none, some (some 528), none, some (some 529), none, some (some 530), some (some 531), some (some 532), none, some (some 533), some (some 534), some (some 535), some (some 536), some (some 537), none, none, none, some (some 538), some (some 539), some (some 540), none, none, none, some (some 541), none, none, some (some 542), some (some 543), some (some 544), none, some (some 545)]) rfl zin_12 (Nat.le_of_ble_eq_true rfl) rfl (hS _ _ zs_491) rfl tyX12 tyX12_ok nmX12 (ty := .int) zpd_I rfl rfl rfl zk_fl_12_312 hd kk
def w_M_pairOf (a1 : Int32) (a2 : Int32) (I : zI) (K : Int32 → zI → Prop) : Prop :=
  ∀ (P2 : Int32 → Prop), (∀ (v3_1 : Int32), ((if (I.1 491 59) ≤ v3_1 then (vp_in (I.1 491 59) 4100 ∧ (∀ I_2, I_2 = (zu I 533 (Int32.toNatClampNeg (I.1 491 59)) a1) → vp_in (I_2.1 491 59) 4100 ∧ (∀ I_3, I_3 = (zu I_2 534 (Int32.toNatClampNeg (I_2.1 491 59)) a2) → ∀ I_4, I_4 = (zu I_3 491 59 ((I_3.1 491 59) + 1)) → K ((I_4.1 491 59) - 1) I_4))) else (vp_in v3_1 4100 ∧ (∀ (P32 : Prop), ((∀ v3_5, v3_5 = (v3_1 + 1) → P2 v3_5) → P32) → (if (I.1 533 (Int32.toNatClampNeg v3_1)) = a1 then (vp_in v3_1 4100 ∧ (if (I.1 534 (Int32.toNatClampNeg v3_1)) = a2 then K v3_1 I else P32)) else P32))))) → P2 v3_1) → P2 0
theorem dyX12_pairOf_0 : decode cX12_pairOf 0 = .ok (.iconst 0, 1) := by decide +kernel
theorem dyX12_pairOf_1 : decode cX12_pairOf 1 = .ok (.istore_n 3, 1) := by decide +kernel
theorem dyX12_pairOf_2 : decode cX12_pairOf 2 = .ok (.iload_n 3, 1) := by decide +kernel
theorem dyX12_pairOf_3 : decode cX12_pairOf 3 = .ok (.aload_n 0, 1) := by decide +kernel
theorem dyX12_pairOf_4 : decode cX12_pairOf 4 = .ok (.getfield 312, 3) := by decide +kernel
theorem dyX12_pairOf_7 : decode cX12_pairOf 7 = .ok (.if_icmp .ge 31, 3) := by decide +kernel
theorem dyX12_pairOf_10 : decode cX12_pairOf 10 = .ok (.aload_n 0, 1) := by decide +kernel
theorem dyX12_pairOf_11 : decode cX12_pairOf 11 = .ok (.getfield 135, 3) := by decide +kernel
theorem dyX12_pairOf_14 : decode cX12_pairOf 14 = .ok (.iload_n 3, 1) := by decide +kernel
theorem dyX12_pairOf_15 : decode cX12_pairOf 15 = .ok (.iaload, 1) := by decide +kernel
theorem dyX12_pairOf_16 : decode cX12_pairOf 16 = .ok (.iload_n 1, 1) := by decide +kernel
theorem dyX12_pairOf_17 : decode cX12_pairOf 17 = .ok (.if_icmp .ne 15, 3) := by decide +kernel
theorem dyX12_pairOf_20 : decode cX12_pairOf 20 = .ok (.aload_n 0, 1) := by decide +kernel
theorem dyX12_pairOf_21 : decode cX12_pairOf 21 = .ok (.getfield 138, 3) := by decide +kernel
theorem dyX12_pairOf_24 : decode cX12_pairOf 24 = .ok (.iload_n 3, 1) := by decide +kernel
theorem dyX12_pairOf_25 : decode cX12_pairOf 25 = .ok (.iaload, 1) := by decide +kernel
theorem dyX12_pairOf_26 : decode cX12_pairOf 26 = .ok (.iload_n 2, 1) := by decide +kernel
theorem dyX12_pairOf_27 : decode cX12_pairOf 27 = .ok (.if_icmp .ne 5, 3) := by decide +kernel
theorem dyX12_pairOf_30 : decode cX12_pairOf 30 = .ok (.iload_n 3, 1) := by decide +kernel
theorem dyX12_pairOf_31 : decode cX12_pairOf 31 = .ok (.ireturn, 1) := by decide +kernel
theorem dyX12_pairOf_32 : decode cX12_pairOf 32 = .ok (.iinc 3 1, 3) := by decide +kernel
theorem dyX12_pairOf_35 : decode cX12_pairOf 35 = .ok (.goto (-33), 3) := by decide +kernel
theorem dyX12_pairOf_38 : decode cX12_pairOf 38 = .ok (.aload_n 0, 1) := by decide +kernel
theorem dyX12_pairOf_39 : decode cX12_pairOf 39 = .ok (.getfield 135, 3) := by decide +kernel
theorem dyX12_pairOf_42 : decode cX12_pairOf 42 = .ok (.aload_n 0, 1) := by decide +kernel
theorem dyX12_pairOf_43 : decode cX12_pairOf 43 = .ok (.getfield 312, 3) := by decide +kernel
theorem dyX12_pairOf_46 : decode cX12_pairOf 46 = .ok (.iload_n 1, 1) := by decide +kernel
theorem dyX12_pairOf_47 : decode cX12_pairOf 47 = .ok (.iastore, 1) := by decide +kernel
theorem dyX12_pairOf_48 : decode cX12_pairOf 48 = .ok (.aload_n 0, 1) := by decide +kernel
theorem dyX12_pairOf_49 : decode cX12_pairOf 49 = .ok (.getfield 138, 3) := by decide +kernel
theorem dyX12_pairOf_52 : decode cX12_pairOf 52 = .ok (.aload_n 0, 1) := by decide +kernel
theorem dyX12_pairOf_53 : decode cX12_pairOf 53 = .ok (.getfield 312, 3) := by decide +kernel
theorem dyX12_pairOf_56 : decode cX12_pairOf 56 = .ok (.iload_n 2, 1) := by decide +kernel
theorem dyX12_pairOf_57 : decode cX12_pairOf 57 = .ok (.iastore, 1) := by decide +kernel
theorem dyX12_pairOf_58 : decode cX12_pairOf 58 = .ok (.aload_n 0, 1) := by decide +kernel
theorem dyX12_pairOf_59 : decode cX12_pairOf 59 = .ok (.dup, 1) := by decide +kernel
theorem dyX12_pairOf_60 : decode cX12_pairOf 60 = .ok (.getfield 312, 3) := by decide +kernel
theorem dyX12_pairOf_63 : decode cX12_pairOf 63 = .ok (.iconst 1, 1) := by decide +kernel
theorem dyX12_pairOf_64 : decode cX12_pairOf 64 = .ok (.iadd, 1) := by decide +kernel
theorem dyX12_pairOf_65 : decode cX12_pairOf 65 = .ok (.putfield 312, 3) := by decide +kernel
theorem dyX12_pairOf_68 : decode cX12_pairOf 68 = .ok (.aload_n 0, 1) := by decide +kernel
theorem dyX12_pairOf_69 : decode cX12_pairOf 69 = .ok (.getfield 312, 3) := by decide +kernel
theorem dyX12_pairOf_72 : decode cX12_pairOf 72 = .ok (.iconst 1, 1) := by decide +kernel
theorem dyX12_pairOf_73 : decode cX12_pairOf 73 = .ok (.isub, 1) := by decide +kernel
theorem dyX12_pairOf_74 : decode cX12_pairOf 74 = .ok (.ireturn, 1) := by decide +kernel
theorem zsg_yX12_pairOf : yX12_pairOf.cls = RX12 ∧ yX12_pairOf.cls ≠ "java/lang/invoke/MethodHandle" ∧ yX12_pairOf.cls ≠ "java/lang/invoke/VarHandle" ∧ (parseMethodDescriptor yX12_pairOf.desc).map (fun d => d.parameters.length) = some 2 := by decide +kernel
set_option maxRecDepth 20000 in
theorem c_M_pairOf {l : Launch} {D : va_G} {B : Nat} {cA : Nat → ClassId} {ad : Nat → Nat} {S : List zC} (hS : zOkM S) {a1 : Int32} {a2 : Int32} {I : zI} {K : Int32 → zI → Prop}  (h : w_M_pairOf a1 a2 I K) : Met l yX12_pairOf (zws yX12_pairOf cX12_pairOf 4 (some .int)) (zrm 0 0) (zPc D B cA ad [.ref (B + 491), .int a1, .int a2] S I) (zQc D B cA (zqI S K)) 0 0 (fun q => B ≤ q) := by
  refine zm_of (cc := cX12_pairOf) (maxL := 4) (ret := (some .int)) (by decide +kernel) rfl (Nat.le_of_ble_eq_true rfl) trivial ?_
  intro p e s m args below meth c C _
  unfold w_M_pairOf at h
  show zX p l e (zrm 0 0) s m args below meth c (MQ below (zQc D B cA (zqI S K)) args s 0 0 (fun q => B ≤ q)) D B cA 4 0 0 S I [(0, .ref (B + 491)), (1, .int a1), (2, .int a2)] [] 0
  refine zr_iconst C dyX12_pairOf_0 zc_i_0 ?_
  refine zr_istore_n C dyX12_pairOf_1 rfl (Nat.le_of_ble_eq_true rfl) (lv2 := [(3, .int 0), (0, .ref (B + 491)), (1, .int a1), (2, .int a2)]) rfl ?_
  refine zjn (h (fun (v3_1 : Int32) => zX p l e (zrm 0 0) s m args below meth c (MQ below (zQc D B cA (zqI S K)) args s 0 0 (fun q => B ≤ q)) D B cA 4 0 0 S I [(3, .int v3_1), (0, .ref (B + 491)), (1, .int a1), (2, .int a2)] [] 2) (fun v3_1 h => ?_)) (fun h => ?_)
  · refine zr_iload_n C dyX12_pairOf_2 rfl 0 rfl ?_
    refine zr_aload_n C dyX12_pairOf_3 rfl 1 rfl ?_
    refine zg_12_312 C hS dyX12_pairOf_4 ?_
    refine zr_icmp_ge C dyX12_pairOf_7 (tgt := 38) (by decide) (fun hc_8 => ?_) (fun hc_8 => ?_)
    · replace h := zif_pos hc_8 h
      refine zr_aload_n C dyX12_pairOf_38 rfl 1 rfl ?_
      refine zg_12_135 C hS dyX12_pairOf_39 ?_
      refine zr_aload_n C dyX12_pairOf_42 rfl 1 rfl ?_
      refine zg_12_312 C hS dyX12_pairOf_43 ?_
      refine zr_iload_n C dyX12_pairOf_46 rfl 2 rfl ?_
      refine zr_iast C (hS _ _ zs_533) h.1 dyX12_pairOf_47 ?_
      replace h := h.2
      refine zn_mem C (fun I_2 eI_2 => ?_)
      replace h := h I_2 eI_2
      refine zr_aload_n C dyX12_pairOf_48 rfl 1 rfl ?_
      refine zg_12_138 C hS dyX12_pairOf_49 ?_
      refine zr_aload_n C dyX12_pairOf_52 rfl 1 rfl ?_
      refine zg_12_312 C hS dyX12_pairOf_53 ?_
      refine zr_iload_n C dyX12_pairOf_56 rfl 3 rfl ?_
      refine zr_iast C (hS _ _ zs_534) h.1 dyX12_pairOf_57 ?_
      replace h := h.2
      refine zn_mem C (fun I_3 eI_3 => ?_)
      replace h := h I_3 eI_3
      refine zr_aload_n C dyX12_pairOf_58 rfl 1 rfl ?_
      refine zr_dup C dyX12_pairOf_59 rfl ?_
      refine zg_12_312 C hS dyX12_pairOf_60 ?_
      refine zr_iconst C dyX12_pairOf_63 zc_i_1 ?_
      refine zr_iadd C dyX12_pairOf_64 ?_
      refine zp_12_312 C hS dyX12_pairOf_65 ?_
      refine zn_mem C (fun I_4 eI_4 => ?_)
      replace h := h I_4 eI_4
      refine zr_aload_n C dyX12_pairOf_68 rfl 1 rfl ?_
      refine zg_12_312 C hS dyX12_pairOf_69 ?_
      refine zr_iconst C dyX12_pairOf_72 zc_i_1 ?_
      refine zr_isub C dyX12_pairOf_73 ?_
      exact zr_iret C rfl dyX12_pairOf_74 ⟨rfl, _, rfl, h⟩
    · replace h := zif_neg hc_8 h
      refine zr_aload_n C dyX12_pairOf_10 rfl 1 rfl ?_
      refine zg_12_135 C hS dyX12_pairOf_11 ?_
      refine zr_iload_n C dyX12_pairOf_14 rfl 0 rfl ?_
      refine zr_iald C (hS _ _ zs_533) h.1 dyX12_pairOf_15 ?_
      replace h := h.2
      refine zr_iload_n C dyX12_pairOf_16 rfl 2 rfl ?_
      refine zjn (h (zX p l e (zrm 0 0) s m args below meth c (MQ below (zQc D B cA (zqI S K)) args s 0 0 (fun q => B ≤ q)) D B cA 4 0 0 S I [(3, .int v3_1), (0, .ref (B + 491)), (1, .int a1), (2, .int a2)] [] 32) (fun  h => ?_)) (fun h => ?_)
      · refine zn_iinc C (fun v3_5 => [(3, .int v3_5), (0, .ref (B + 491)), (1, .int a1), (2, .int a2)]) dyX12_pairOf_32 0 rfl zc_i_1 (Nat.le_of_ble_eq_true rfl) (fun _ => rfl) (fun v3_5 ev3_5 => ?_)
        replace h := h v3_5 ev3_5
        refine zr_goto C dyX12_pairOf_35 (tgt := 2) (by decide) ?_
        exact h
      refine zr_icmp_ne C dyX12_pairOf_17 (tgt := 32) (by decide) (fun hc_7 => ?_) (fun hc_7 => ?_)
      · replace h := zif_neg hc_7 h
        exact h
      · replace h := zif_pos hc_7 h
        refine zr_aload_n C dyX12_pairOf_20 rfl 1 rfl ?_
        refine zg_12_138 C hS dyX12_pairOf_21 ?_
        refine zr_iload_n C dyX12_pairOf_24 rfl 0 rfl ?_
        refine zr_iald C (hS _ _ zs_534) h.1 dyX12_pairOf_25 ?_
        replace h := h.2
        refine zr_iload_n C dyX12_pairOf_26 rfl 3 rfl ?_
        refine zr_icmp_ne C dyX12_pairOf_27 (tgt := 32) (by decide) (fun hc_6 => ?_) (fun hc_6 => ?_)
        · replace h := zif_neg hc_6 h
          exact h
        · replace h := zif_pos hc_6 h
          refine zr_iload_n C dyX12_pairOf_30 rfl 0 rfl ?_
          exact zr_iret C rfl dyX12_pairOf_31 ⟨rfl, _, rfl, h⟩
  exact h
theorem zp_12_315 {p : Program} {l : Launch} {e : Env} {R : Room} {s : State} {m : MethodId} {args : Array Value} {below : List Frame} {meth : Method} {c : Code} {Q : State → Prop} {D : va_G} {B : Nat} {cA : Nat → ClassId} {ad : Nat → Nat} {cc : ByteArray} {nL : Nat} {ret : Option FieldType} {S : List zC} {I : zI} {lv : List (Nat × Value)} {st : List Value} {pc : Nat} (C : zCx p s m args meth c cc nL RX12 ret D B cA ad) (hS : zOkM S) {v : Int32} (hd : decode cc pc = .ok (.putfield 315, 3)) (kk : zX p l e R s m args below meth c Q D B cA nL 0 0 S (zu I 491 65 v) lv st (pc + 3)) : zX p l e R s m args below meth c Q D B cA nL 0 0 S I lv (.int v :: .ref (B + 491) :: st) pc :=
  zr_puti C (ci := 12) (Cn := RX12) (T := TX12) (N := 82) (k := 491) (j := 65) (fs := [none, some (some 492), some (some 493), none, some (some 494), none, some (some 495), none, none, none, some (some 496), some (some 497), some (some 498), some (some 499), some (some 500), none, some (some 501), some (some 502), some (some 503), none, some (some 504), some (some 505), some (some 506), some (some 507), some (some 508), none, some (some 509), some (some 510), some (some 511), some (some 512), some (some 513), some (some 514), some (some 515), some (some 516), some (some 517), some (some 518), none, none, some (some 519), none, some (some 520), none, none, none, some (some 521), some (some 522), some (some 523), some (some 524), some (some 525), some (some 526), some (some 527), none, some (some 528), none, some (some 529), none, some (some 530), some (some 531), some (some 532), none, some (some 533), some (some 534), some (some 535), some (some 536), some (some 537), none, none, none, some (some 538), some (some 539), some (some 540), none, none, none, some (some 541), none, none, some (some 542), some (some 543), some (some 544), none, some (some 545)]) rfl zin_12 (Nat.le_of_ble_eq_true rfl) rfl (hS _ _ zs_491) rfl tyX12 tyX12_ok nmX12 (ty := .int) zpd_I rfl rfl rfl zk_fl_12_315 hd kk
theorem zg_12_141 {p : Program} {l : Launch} {e : Env} {R : Room} {s : State} {m : MethodId} {args : Array Value} {below : List Frame} {meth : Method} {c : Code} {Q : State → Prop} {D : va_G} {B : Nat} {cA : Nat → ClassId} {ad : Nat → Nat} {cc : ByteArray} {nL : Nat} {ret : Option FieldType} {S : List zC} {I : zI} {lv : List (Nat × Value)} {st : List Value} {pc : Nat} (C : zCx p s m args meth c cc nL RX12 ret D B cA ad) (hS : zOkM S) (hd : decode cc pc = .ok (.getfield 141, 3)) (kk : zX p l e R s m args below meth c Q D B cA nL 0 0 S I lv (.ref (B + 535) :: st) (pc + 3)) : zX p l e R s m args below meth c Q D B cA nL 0 0 S I lv (.ref (B + 491) :: st) pc :=
  zr_getr C (ci := 12) (Cn := RX12) (T := TX12) (N := 82) (k := 491) (j := 62) (fs := [none, some (some 492), some (some 493), none, some (some 494), none, some (some 495), none, none, none, some (some 496), some (some 497), some (some 498), some (some 499), some (some 500), none, some (some 501), some (some 502), some (some 503), none, some (some 504), some (some 505), some (some 506), some (some 507), some (some 508), none, some (some 509), some (some 510), some (some 511), some (some 512), some (some 513), some (some 514), some (some 515), some (some 516), some (some 517), some (some 518), none, none, some (some 519), none, some (some 520), none, none, none, some (some 521), some (some 522), some (some 523), some (some 524), some (some 525), some (some 526), some (some 527), none, some (some 528), none, some (some 529), none, some (some 530), some (some 531), some (some 532), none, some (some 533), some (some 534), some (some 535), some (some 536), some (some 537), none, none, none, some (some 538), some (some 539), some (some 540), none, none, none, some (some 541), none, none, some (some 542), some (some 543), some (some 544), none, some (some 545)]) rfl zin_12 (Nat.le_of_ble_eq_true rfl) rfl (hS _ _ zs_491) rfl zk_fl_12_141 hd kk
theorem zg_12_144 {p : Program} {l : Launch} {e : Env} {R : Room} {s : State} {m : MethodId} {args : Array Value} {below : List Frame} {meth : Method} {c : Code} {Q : State → Prop} {D : va_G} {B : Nat} {cA : Nat → ClassId} {ad : Nat → Nat} {cc : ByteArray} {nL : Nat} {ret : Option FieldType} {S : List zC} {I : zI} {lv : List (Nat × Value)} {st : List Value} {pc : Nat} (C : zCx p s m args meth c cc nL RX12 ret D B cA ad) (hS : zOkM S) (hd : decode cc pc = .ok (.getfield 144, 3)) (kk : zX p l e R s m args below meth c Q D B cA nL 0 0 S I lv (.ref (B + 536) :: st) (pc + 3)) : zX p l e R s m args below meth c Q D B cA nL 0 0 S I lv (.ref (B + 491) :: st) pc :=
  zr_getr C (ci := 12) (Cn := RX12) (T := TX12) (N := 82) (k := 491) (j := 63) (fs := [none, some (some 492), some (some 493), none, some (some 494), none, some (some 495), none, none, none, some (some 496), some (some 497), some (some 498), some (some 499), some (some 500), none, some (some 501), some (some 502), some (some 503), none, some (some 504), some (some 505), some (some 506), some (some 507), some (some 508), none, some (some 509), some (some 510), some (some 511), some (some 512), some (some 513), some (some 514), some (some 515), some (some 516), some (some 517), some (some 518), none, none, some (some 519), none, some (some 520), none, none, none, some (some 521), some (some 522), some (some 523), some (some 524), some (some 525), some (some 526), some (some 527), none, some (some 528), none, some (some 529), none, some (some 530), some (some 531), some (some 532), none, some (some 533), some (some 534), some (some 535), some (some 536), some (some 537), none, none, none, some (some 538), some (some 539), some (some 540), none, none, none, some (some 541), none, none, some (some 542), some (some 543), some (some 544), none, some (some 545)]) rfl zin_12 (Nat.le_of_ble_eq_true rfl) rfl (hS _ _ zs_491) rfl zk_fl_12_144 hd kk
theorem zg_12_147 {p : Program} {l : Launch} {e : Env} {R : Room} {s : State} {m : MethodId} {args : Array Value} {below : List Frame} {meth : Method} {c : Code} {Q : State → Prop} {D : va_G} {B : Nat} {cA : Nat → ClassId} {ad : Nat → Nat} {cc : ByteArray} {nL : Nat} {ret : Option FieldType} {S : List zC} {I : zI} {lv : List (Nat × Value)} {st : List Value} {pc : Nat} (C : zCx p s m args meth c cc nL RX12 ret D B cA ad) (hS : zOkM S) (hd : decode cc pc = .ok (.getfield 147, 3)) (kk : zX p l e R s m args below meth c Q D B cA nL 0 0 S I lv (.ref (B + 537) :: st) (pc + 3)) : zX p l e R s m args below meth c Q D B cA nL 0 0 S I lv (.ref (B + 491) :: st) pc :=
  zr_getr C (ci := 12) (Cn := RX12) (T := TX12) (N := 82) (k := 491) (j := 64) (fs := [none, some (some 492), some (some 493), none, some (some 494), none, some (some 495), none, none, none, some (some 496), some (some 497), some (some 498), some (some 499), some (some 500), none, some (some 501), some (some 502), some (some 503), none, some (some 504), some (some 505), some (some 506), some (some 507), some (some 508), none, some (some 509), some (some 510), some (some 511), some (some 512), some (some 513), some (some 514), some (some 515), some (some 516), some (some 517), some (some 518), none, none, some (some 519), none, some (some 520), none, none, none, some (some 521), some (some 522), some (some 523), some (some 524), some (some 525), some (some 526), some (some 527), none, some (some 528), none, some (some 529), none, some (some 530), some (some 531), some (some 532), none, some (some 533), some (some 534), some (some 535), some (some 536), some (some 537), none, none, none, some (some 538), some (some 539), some (some 540), none, none, none, some (some 541), none, none, some (some 542), some (some 543), some (some 544), none, some (some 545)]) rfl zin_12 (Nat.le_of_ble_eq_true rfl) rfl (hS _ _ zs_491) rfl zk_fl_12_147 hd kk
theorem zg_12_315 {p : Program} {l : Launch} {e : Env} {R : Room} {s : State} {m : MethodId} {args : Array Value} {below : List Frame} {meth : Method} {c : Code} {Q : State → Prop} {D : va_G} {B : Nat} {cA : Nat → ClassId} {ad : Nat → Nat} {cc : ByteArray} {nL : Nat} {ret : Option FieldType} {S : List zC} {I : zI} {lv : List (Nat × Value)} {st : List Value} {pc : Nat} (C : zCx p s m args meth c cc nL RX12 ret D B cA ad) (hS : zOkM S) (hd : decode cc pc = .ok (.getfield 315, 3)) (kk : zX p l e R s m args below meth c Q D B cA nL 0 0 S I lv (.int (I.1 491 65) :: st) (pc + 3)) : zX p l e R s m args below meth c Q D B cA nL 0 0 S I lv (.ref (B + 491) :: st) pc :=
  zr_geti C (ci := 12) (Cn := RX12) (T := TX12) (N := 82) (k := 491) (j := 65) (fs := [none, some (some 492), some (some 493), none, some (some 494), none, some (some 495), none, none, none, some (some 496), some (some 497), some (some 498), some (some 499), some (some 500), none, some (some 501), some (some 502), some (some 503), none, some (some 504), some (some 505), some (some 506), some (some 507), some (some 508), none, some (some 509), some (some 510), some (some 511), some (some 512), some (some 513), some (some 514), some (some 515), some (some 516), some (some 517), some (some 518), none, none, some (some 519), none, some (some 520), none, none, none, some (some 521), some (some 522), some (some 523), some (some 524), some (some 525), some (some 526), some (some 527), none, some (some 528), none, some (some 529), none, some (some 530), some (some 531), some (some 532), none, some (some 533), some (some 534), some (some 535), some (some 536), some (some 537), none, none, none, some (some 538), some (some 539), some (some 540), none, none, none, some (some 541), none, none, some (some 542), some (some 543), some (some 544), none, some (some 545)]) rfl zin_12 (Nat.le_of_ble_eq_true rfl) rfl (hS _ _ zs_491) rfl zk_fl_12_315 hd kk
theorem zv_12_318 {p : Program} {l : Launch} {e : Env} {R : Room} {s : State} {m : MethodId} {args : Array Value} {below : List Frame} {meth : Method} {c : Code} {Q : State → Prop} {D : va_G} {B : Nat} {cA : Nat → ClassId} {ad : Nat → Nat} {cc : ByteArray} {nL : Nat} {ret : Option FieldType} {S : List zC} {I : zI} {lv : List (Nat × Value)} {st : List Value} {pc : Nat} (C : zCx p s m args meth c cc nL RX12 ret D B cA ad) {K : Int32 → zI → Prop} {xa1 : Int32} {xa2 : Int32} (hS : zOkM S)  (h : w_M_pairOf xa1 xa2 I K) (hR : 0 + 1 ≤ R.frames ∧ 8 + (4 + 11) + (0) ≤ R.locals) (hw : (st.map fun v => v.category).sum ≤ 8) (hd : decode cc pc = .ok (.invokevirtual 318, 3)) (kk : ∀ v I2, K v I2 → zX p l e R s m args below meth c Q D B cA nL 0 0 S I2 lv (.int v :: st) (pc + 3)) : zX p l e R s m args below meth c Q D B cA nL 0 0 S I lv (.int xa2 :: .int xa1 :: .ref (B + 491) :: st) pc :=
  have hf : 0 ≤ R.cells ∧ 0 ≤ R.slots := ⟨Nat.zero_le _, Nat.zero_le _⟩
  zc_VqI C (ci := 12) (q := (RX12, TX12, 82)) (k := 491) (fs := [none, some (some 492), some (some 493), none, some (some 494), none, some (some 495), none, none, none, some (some 496), some (some 497), some (some 498), some (some 499), some (some 500), none, some (some 501), some (some 502), some (some 503), none, some (some 504), some (some 505), some (some 506), some (some 507), some (some 508), none, some (some 509), some (some 510), some (some 511), some (some 512), some (some 513), some (some 514), some (some 515), some (some 516), some (some 517), some (some 518), none, none, some (some 519), none, some (some 520), none, none, none, some (some 521), some (some 522), some (some 523), some (some 524), some (some 525), some (some 526), some (some 527), none, some (some 528), none, some (some 529), none, some (some 530), some (some 531), some (some 532), none, some (some 533), some (some 534), some (some 535), some (some 536), some (some 537), none, none, none, some (some 538), some (some 539), some (some 540), none, none, none, some (some 541), none, none, some (some 542), some (some 543), some (some 544), none, some (some 545)]) (As := [.int xa1, .int xa2]) (st := st) rfl (hS _ _ zs_491) (c_M_pairOf hS h) (zgV zk_ml_12_318 zk_im_yX12_pairOf zk_se_yX12_pairOf zk_in_12 zk_cd_yX12_pairOf) zsg_yX12_pairOf hR rfl rfl hw hd hf kk
def w_M_rowNow  (I : zI) (K : Int32 → zI → Prop) : Prop :=
  (if (I.1 491 51) = 0 then (K (-2) I) else (∀ I_1, I_1 = (zu I 491 65 0) → vp_in 0 20 ∧ (∀ I_2, I_2 = (zu I_1 535 0 0) → vp_in 0 20 ∧ (∀ I_3, I_3 = (zu I_2 536 0 (I_2.1 491 51)) → vp_in 0 20 ∧ (∀ I_4, I_4 = (zu I_3 537 0 (-1)) → ∀ (P43 : Int32 → Int32 → zI → Prop), (∀ (v1_5 : Int32) (v2_6 : Int32) (I_7 : zI), ((if v1_5 ≤ 0 then K v2_6 I_7 else (vp_in (v1_5 - 1) 20 ∧ (∀ v3_8, v3_8 = (I_7.1 535 (Int32.toNatClampNeg (v1_5 - 1))) → vp_in (v1_5 - 1) 20 ∧ (∀ v4_9, v4_9 = (I_7.1 536 (Int32.toNatClampNeg (v1_5 - 1))) → ∀ v5_10, v5_10 = (v3_8 + (((v4_9 - v3_8) + 1) / 2)) → ∀ (P95 : zI → Prop), (∀ (I_11 : zI), ((if (v4_9 - v3_8) = 1 then (vp_in v3_8 110 ∧ (∀ v2_29, v2_29 = (I_11.1 528 (Int32.toNatClampNeg v3_8)) → ∀ v1_30, v1_30 = (v1_5 + (-1)) → P43 v1_30 v2_29 I_11)) else (if v2_6 = (-1) then (vp_in (v1_5 - 1) 20 ∧ (∀ (P138 : Int32 → Prop), (∀ (t_18 : Int32), (∀ (P156 : Int32 → Prop), (∀ (t_19 : Int32), (vp_in v1_5 20 ∧ (∀ I_20, I_20 = (zu I_11 535 (Int32.toNatClampNeg v1_5) t_19) → ∀ (P174 : Int32 → Prop), (∀ (t_21 : Int32), (vp_in v1_5 20 ∧ (∀ I_22, I_22 = (zu I_20 536 (Int32.toNatClampNeg v1_5) t_21) → vp_in v1_5 20 ∧ (∀ I_23, I_23 = (zu I_22 537 (Int32.toNatClampNeg v1_5) (-1)) → ∀ v1_24, v1_24 = (v1_5 + 1) → P43 v1_24 v2_6 I_23))) → P174 t_21) → (if t_18 = 0 then P174 v5_10 else P174 v4_9))) → P156 t_19) → (if t_18 = 0 then P156 v3_8 else P156 v5_10)) → P138 t_18) → (if (I_11.1 537 (Int32.toNatClampNeg (v1_5 - 1))) = (-1) then P138 0 else P138 1))) else (vp_in (v1_5 - 1) 20 ∧ (if (I_11.1 537 (Int32.toNatClampNeg (v1_5 - 1))) = (-1) then (vp_in (v1_5 - 1) 20 ∧ (∀ I_16, I_16 = (zu I_11 537 (Int32.toNatClampNeg (v1_5 - 1)) v2_6) → P43 v1_5 (-1) I_16)) else (vp_in (v1_5 - 1) 20 ∧ (w_M_pairOf (I_11.1 537 (Int32.toNatClampNeg (v1_5 - 1))) v2_6 I_11 (fun r_12 I_13 => ∀ v2_14, v2_14 = (10000 + r_12) → ∀ v1_15, v1_15 = (v1_5 + (-1)) → P43 v1_15 v2_14 I_13)))))))) → P95 I_11) → (if (v1_5 - 1) ≤ (I_7.1 491 65) then P95 I_7 else (∀ I_32, I_32 = (zu I_7 491 65 (v1_5 - 1)) → P95 I_32))))))) → P43 v1_5 v2_6 I_7) → P43 1 (-1) I_4)))))
theorem dyX12_rowNow_0 : decode cX12_rowNow 0 = .ok (.aload_n 0, 1) := by decide +kernel
theorem dyX12_rowNow_1 : decode cX12_rowNow 1 = .ok (.getfield 290, 3) := by decide +kernel
theorem dyX12_rowNow_4 : decode cX12_rowNow 4 = .ok (.ifCond .ne 6, 3) := by decide +kernel
theorem dyX12_rowNow_7 : decode cX12_rowNow 7 = .ok (.bipush (-2), 2) := by decide +kernel
theorem dyX12_rowNow_9 : decode cX12_rowNow 9 = .ok (.ireturn, 1) := by decide +kernel
theorem dyX12_rowNow_10 : decode cX12_rowNow 10 = .ok (.iconst 1, 1) := by decide +kernel
theorem dyX12_rowNow_11 : decode cX12_rowNow 11 = .ok (.istore_n 1, 1) := by decide +kernel
theorem dyX12_rowNow_12 : decode cX12_rowNow 12 = .ok (.iconst (-1), 1) := by decide +kernel
theorem dyX12_rowNow_13 : decode cX12_rowNow 13 = .ok (.istore_n 2, 1) := by decide +kernel
theorem dyX12_rowNow_14 : decode cX12_rowNow 14 = .ok (.aload_n 0, 1) := by decide +kernel
theorem dyX12_rowNow_15 : decode cX12_rowNow 15 = .ok (.iconst 0, 1) := by decide +kernel
theorem dyX12_rowNow_16 : decode cX12_rowNow 16 = .ok (.putfield 315, 3) := by decide +kernel
theorem dyX12_rowNow_19 : decode cX12_rowNow 19 = .ok (.aload_n 0, 1) := by decide +kernel
theorem dyX12_rowNow_20 : decode cX12_rowNow 20 = .ok (.getfield 141, 3) := by decide +kernel
theorem dyX12_rowNow_23 : decode cX12_rowNow 23 = .ok (.iconst 0, 1) := by decide +kernel
theorem dyX12_rowNow_24 : decode cX12_rowNow 24 = .ok (.iconst 0, 1) := by decide +kernel
theorem dyX12_rowNow_25 : decode cX12_rowNow 25 = .ok (.iastore, 1) := by decide +kernel
theorem dyX12_rowNow_26 : decode cX12_rowNow 26 = .ok (.aload_n 0, 1) := by decide +kernel
theorem dyX12_rowNow_27 : decode cX12_rowNow 27 = .ok (.getfield 144, 3) := by decide +kernel
theorem dyX12_rowNow_30 : decode cX12_rowNow 30 = .ok (.iconst 0, 1) := by decide +kernel
theorem dyX12_rowNow_31 : decode cX12_rowNow 31 = .ok (.aload_n 0, 1) := by decide +kernel
theorem dyX12_rowNow_32 : decode cX12_rowNow 32 = .ok (.getfield 290, 3) := by decide +kernel
theorem dyX12_rowNow_35 : decode cX12_rowNow 35 = .ok (.iastore, 1) := by decide +kernel
theorem dyX12_rowNow_36 : decode cX12_rowNow 36 = .ok (.aload_n 0, 1) := by decide +kernel
theorem dyX12_rowNow_37 : decode cX12_rowNow 37 = .ok (.getfield 147, 3) := by decide +kernel
theorem dyX12_rowNow_40 : decode cX12_rowNow 40 = .ok (.iconst 0, 1) := by decide +kernel
theorem dyX12_rowNow_41 : decode cX12_rowNow 41 = .ok (.iconst (-1), 1) := by decide +kernel
theorem dyX12_rowNow_42 : decode cX12_rowNow 42 = .ok (.iastore, 1) := by decide +kernel
theorem dyX12_rowNow_43 : decode cX12_rowNow 43 = .ok (.iload_n 1, 1) := by decide +kernel
theorem dyX12_rowNow_44 : decode cX12_rowNow 44 = .ok (.ifCond .le 194, 3) := by decide +kernel
theorem dyX12_rowNow_47 : decode cX12_rowNow 47 = .ok (.aload_n 0, 1) := by decide +kernel
theorem dyX12_rowNow_48 : decode cX12_rowNow 48 = .ok (.getfield 141, 3) := by decide +kernel
theorem dyX12_rowNow_51 : decode cX12_rowNow 51 = .ok (.iload_n 1, 1) := by decide +kernel
theorem dyX12_rowNow_52 : decode cX12_rowNow 52 = .ok (.iconst 1, 1) := by decide +kernel
theorem dyX12_rowNow_53 : decode cX12_rowNow 53 = .ok (.isub, 1) := by decide +kernel
theorem dyX12_rowNow_54 : decode cX12_rowNow 54 = .ok (.iaload, 1) := by decide +kernel
theorem dyX12_rowNow_55 : decode cX12_rowNow 55 = .ok (.istore_n 3, 1) := by decide +kernel
theorem dyX12_rowNow_56 : decode cX12_rowNow 56 = .ok (.aload_n 0, 1) := by decide +kernel
theorem dyX12_rowNow_57 : decode cX12_rowNow 57 = .ok (.getfield 144, 3) := by decide +kernel
theorem dyX12_rowNow_60 : decode cX12_rowNow 60 = .ok (.iload_n 1, 1) := by decide +kernel
theorem dyX12_rowNow_61 : decode cX12_rowNow 61 = .ok (.iconst 1, 1) := by decide +kernel
theorem dyX12_rowNow_62 : decode cX12_rowNow 62 = .ok (.isub, 1) := by decide +kernel
theorem dyX12_rowNow_63 : decode cX12_rowNow 63 = .ok (.iaload, 1) := by decide +kernel
theorem dyX12_rowNow_64 : decode cX12_rowNow 64 = .ok (.istore 4, 2) := by decide +kernel
theorem dyX12_rowNow_66 : decode cX12_rowNow 66 = .ok (.iload_n 3, 1) := by decide +kernel
theorem dyX12_rowNow_67 : decode cX12_rowNow 67 = .ok (.iload 4, 2) := by decide +kernel
theorem dyX12_rowNow_69 : decode cX12_rowNow 69 = .ok (.iload_n 3, 1) := by decide +kernel
theorem dyX12_rowNow_70 : decode cX12_rowNow 70 = .ok (.isub, 1) := by decide +kernel
theorem dyX12_rowNow_71 : decode cX12_rowNow 71 = .ok (.iconst 1, 1) := by decide +kernel
theorem dyX12_rowNow_72 : decode cX12_rowNow 72 = .ok (.iadd, 1) := by decide +kernel
theorem dyX12_rowNow_73 : decode cX12_rowNow 73 = .ok (.iconst 2, 1) := by decide +kernel
theorem dyX12_rowNow_74 : decode cX12_rowNow 74 = .ok (.idiv, 1) := by decide +kernel
theorem dyX12_rowNow_75 : decode cX12_rowNow 75 = .ok (.iadd, 1) := by decide +kernel
theorem dyX12_rowNow_76 : decode cX12_rowNow 76 = .ok (.istore 5, 2) := by decide +kernel
theorem dyX12_rowNow_78 : decode cX12_rowNow 78 = .ok (.iload_n 1, 1) := by decide +kernel
theorem dyX12_rowNow_79 : decode cX12_rowNow 79 = .ok (.iconst 1, 1) := by decide +kernel
theorem dyX12_rowNow_80 : decode cX12_rowNow 80 = .ok (.isub, 1) := by decide +kernel
theorem dyX12_rowNow_81 : decode cX12_rowNow 81 = .ok (.aload_n 0, 1) := by decide +kernel
theorem dyX12_rowNow_82 : decode cX12_rowNow 82 = .ok (.getfield 315, 3) := by decide +kernel
theorem dyX12_rowNow_85 : decode cX12_rowNow 85 = .ok (.if_icmp .le 10, 3) := by decide +kernel
theorem dyX12_rowNow_88 : decode cX12_rowNow 88 = .ok (.aload_n 0, 1) := by decide +kernel
theorem dyX12_rowNow_89 : decode cX12_rowNow 89 = .ok (.iload_n 1, 1) := by decide +kernel
theorem dyX12_rowNow_90 : decode cX12_rowNow 90 = .ok (.iconst 1, 1) := by decide +kernel
theorem dyX12_rowNow_91 : decode cX12_rowNow 91 = .ok (.isub, 1) := by decide +kernel
theorem dyX12_rowNow_92 : decode cX12_rowNow 92 = .ok (.putfield 315, 3) := by decide +kernel
theorem dyX12_rowNow_95 : decode cX12_rowNow 95 = .ok (.iload 4, 2) := by decide +kernel
theorem dyX12_rowNow_97 : decode cX12_rowNow 97 = .ok (.iload_n 3, 1) := by decide +kernel
theorem dyX12_rowNow_98 : decode cX12_rowNow 98 = .ok (.isub, 1) := by decide +kernel
theorem dyX12_rowNow_99 : decode cX12_rowNow 99 = .ok (.iconst 1, 1) := by decide +kernel
theorem dyX12_rowNow_100 : decode cX12_rowNow 100 = .ok (.if_icmp .ne 16, 3) := by decide +kernel
theorem dyX12_rowNow_103 : decode cX12_rowNow 103 = .ok (.aload_n 0, 1) := by decide +kernel
theorem dyX12_rowNow_104 : decode cX12_rowNow 104 = .ok (.getfield 120, 3) := by decide +kernel
theorem dyX12_rowNow_107 : decode cX12_rowNow 107 = .ok (.iload_n 3, 1) := by decide +kernel
theorem dyX12_rowNow_108 : decode cX12_rowNow 108 = .ok (.iaload, 1) := by decide +kernel
theorem dyX12_rowNow_109 : decode cX12_rowNow 109 = .ok (.istore_n 2, 1) := by decide +kernel
theorem dyX12_rowNow_110 : decode cX12_rowNow 110 = .ok (.iinc 1 (-1), 3) := by decide +kernel
theorem dyX12_rowNow_113 : decode cX12_rowNow 113 = .ok (.goto 122, 3) := by decide +kernel
theorem dyX12_rowNow_116 : decode cX12_rowNow 116 = .ok (.iload_n 2, 1) := by decide +kernel
theorem dyX12_rowNow_117 : decode cX12_rowNow 117 = .ok (.iconst (-1), 1) := by decide +kernel
theorem dyX12_rowNow_118 : decode cX12_rowNow 118 = .ok (.if_icmp .ne 70, 3) := by decide +kernel
theorem dyX12_rowNow_121 : decode cX12_rowNow 121 = .ok (.aload_n 0, 1) := by decide +kernel
theorem dyX12_rowNow_122 : decode cX12_rowNow 122 = .ok (.getfield 147, 3) := by decide +kernel
theorem dyX12_rowNow_125 : decode cX12_rowNow 125 = .ok (.iload_n 1, 1) := by decide +kernel
theorem dyX12_rowNow_126 : decode cX12_rowNow 126 = .ok (.iconst 1, 1) := by decide +kernel
theorem dyX12_rowNow_127 : decode cX12_rowNow 127 = .ok (.isub, 1) := by decide +kernel
theorem dyX12_rowNow_128 : decode cX12_rowNow 128 = .ok (.iaload, 1) := by decide +kernel
theorem dyX12_rowNow_129 : decode cX12_rowNow 129 = .ok (.iconst (-1), 1) := by decide +kernel
theorem dyX12_rowNow_130 : decode cX12_rowNow 130 = .ok (.if_icmp .eq 7, 3) := by decide +kernel
theorem dyX12_rowNow_133 : decode cX12_rowNow 133 = .ok (.iconst 1, 1) := by decide +kernel
theorem dyX12_rowNow_134 : decode cX12_rowNow 134 = .ok (.goto 4, 3) := by decide +kernel
theorem dyX12_rowNow_137 : decode cX12_rowNow 137 = .ok (.iconst 0, 1) := by decide +kernel
theorem dyX12_rowNow_138 : decode cX12_rowNow 138 = .ok (.istore 6, 2) := by decide +kernel
theorem dyX12_rowNow_140 : decode cX12_rowNow 140 = .ok (.aload_n 0, 1) := by decide +kernel
theorem dyX12_rowNow_141 : decode cX12_rowNow 141 = .ok (.getfield 141, 3) := by decide +kernel
theorem dyX12_rowNow_144 : decode cX12_rowNow 144 = .ok (.iload_n 1, 1) := by decide +kernel
theorem dyX12_rowNow_145 : decode cX12_rowNow 145 = .ok (.iload 6, 2) := by decide +kernel
theorem dyX12_rowNow_147 : decode cX12_rowNow 147 = .ok (.ifCond .eq 8, 3) := by decide +kernel
theorem dyX12_rowNow_150 : decode cX12_rowNow 150 = .ok (.iload 5, 2) := by decide +kernel
theorem dyX12_rowNow_152 : decode cX12_rowNow 152 = .ok (.goto 4, 3) := by decide +kernel
theorem dyX12_rowNow_155 : decode cX12_rowNow 155 = .ok (.iload_n 3, 1) := by decide +kernel
theorem dyX12_rowNow_156 : decode cX12_rowNow 156 = .ok (.iastore, 1) := by decide +kernel
theorem dyX12_rowNow_157 : decode cX12_rowNow 157 = .ok (.aload_n 0, 1) := by decide +kernel
theorem dyX12_rowNow_158 : decode cX12_rowNow 158 = .ok (.getfield 144, 3) := by decide +kernel
theorem dyX12_rowNow_161 : decode cX12_rowNow 161 = .ok (.iload_n 1, 1) := by decide +kernel
theorem dyX12_rowNow_162 : decode cX12_rowNow 162 = .ok (.iload 6, 2) := by decide +kernel
theorem dyX12_rowNow_164 : decode cX12_rowNow 164 = .ok (.ifCond .eq 8, 3) := by decide +kernel
theorem dyX12_rowNow_167 : decode cX12_rowNow 167 = .ok (.iload 4, 2) := by decide +kernel
theorem dyX12_rowNow_169 : decode cX12_rowNow 169 = .ok (.goto 5, 3) := by decide +kernel
theorem dyX12_rowNow_172 : decode cX12_rowNow 172 = .ok (.iload 5, 2) := by decide +kernel
theorem dyX12_rowNow_174 : decode cX12_rowNow 174 = .ok (.iastore, 1) := by decide +kernel
theorem dyX12_rowNow_175 : decode cX12_rowNow 175 = .ok (.aload_n 0, 1) := by decide +kernel
theorem dyX12_rowNow_176 : decode cX12_rowNow 176 = .ok (.getfield 147, 3) := by decide +kernel
theorem dyX12_rowNow_179 : decode cX12_rowNow 179 = .ok (.iload_n 1, 1) := by decide +kernel
theorem dyX12_rowNow_180 : decode cX12_rowNow 180 = .ok (.iconst (-1), 1) := by decide +kernel
theorem dyX12_rowNow_181 : decode cX12_rowNow 181 = .ok (.iastore, 1) := by decide +kernel
theorem dyX12_rowNow_182 : decode cX12_rowNow 182 = .ok (.iinc 1 1, 3) := by decide +kernel
theorem dyX12_rowNow_185 : decode cX12_rowNow 185 = .ok (.goto (-142), 3) := by decide +kernel
theorem dyX12_rowNow_188 : decode cX12_rowNow 188 = .ok (.aload_n 0, 1) := by decide +kernel
theorem dyX12_rowNow_189 : decode cX12_rowNow 189 = .ok (.getfield 147, 3) := by decide +kernel
theorem dyX12_rowNow_192 : decode cX12_rowNow 192 = .ok (.iload_n 1, 1) := by decide +kernel
theorem dyX12_rowNow_193 : decode cX12_rowNow 193 = .ok (.iconst 1, 1) := by decide +kernel
theorem dyX12_rowNow_194 : decode cX12_rowNow 194 = .ok (.isub, 1) := by decide +kernel
theorem dyX12_rowNow_195 : decode cX12_rowNow 195 = .ok (.iaload, 1) := by decide +kernel
theorem dyX12_rowNow_196 : decode cX12_rowNow 196 = .ok (.iconst (-1), 1) := by decide +kernel
theorem dyX12_rowNow_197 : decode cX12_rowNow 197 = .ok (.if_icmp .ne 17, 3) := by decide +kernel
theorem dyX12_rowNow_200 : decode cX12_rowNow 200 = .ok (.aload_n 0, 1) := by decide +kernel
theorem dyX12_rowNow_201 : decode cX12_rowNow 201 = .ok (.getfield 147, 3) := by decide +kernel
theorem dyX12_rowNow_204 : decode cX12_rowNow 204 = .ok (.iload_n 1, 1) := by decide +kernel
theorem dyX12_rowNow_205 : decode cX12_rowNow 205 = .ok (.iconst 1, 1) := by decide +kernel
theorem dyX12_rowNow_206 : decode cX12_rowNow 206 = .ok (.isub, 1) := by decide +kernel
theorem dyX12_rowNow_207 : decode cX12_rowNow 207 = .ok (.iload_n 2, 1) := by decide +kernel
theorem dyX12_rowNow_208 : decode cX12_rowNow 208 = .ok (.iastore, 1) := by decide +kernel
theorem dyX12_rowNow_209 : decode cX12_rowNow 209 = .ok (.iconst (-1), 1) := by decide +kernel
theorem dyX12_rowNow_210 : decode cX12_rowNow 210 = .ok (.istore_n 2, 1) := by decide +kernel
theorem dyX12_rowNow_211 : decode cX12_rowNow 211 = .ok (.goto (-168), 3) := by decide +kernel
theorem dyX12_rowNow_214 : decode cX12_rowNow 214 = .ok (.sipush 10000, 3) := by decide +kernel
theorem dyX12_rowNow_217 : decode cX12_rowNow 217 = .ok (.aload_n 0, 1) := by decide +kernel
theorem dyX12_rowNow_218 : decode cX12_rowNow 218 = .ok (.aload_n 0, 1) := by decide +kernel
theorem dyX12_rowNow_219 : decode cX12_rowNow 219 = .ok (.getfield 147, 3) := by decide +kernel
theorem dyX12_rowNow_222 : decode cX12_rowNow 222 = .ok (.iload_n 1, 1) := by decide +kernel
theorem dyX12_rowNow_223 : decode cX12_rowNow 223 = .ok (.iconst 1, 1) := by decide +kernel
theorem dyX12_rowNow_224 : decode cX12_rowNow 224 = .ok (.isub, 1) := by decide +kernel
theorem dyX12_rowNow_225 : decode cX12_rowNow 225 = .ok (.iaload, 1) := by decide +kernel
theorem dyX12_rowNow_226 : decode cX12_rowNow 226 = .ok (.iload_n 2, 1) := by decide +kernel
theorem dyX12_rowNow_227 : decode cX12_rowNow 227 = .ok (.invokevirtual 318, 3) := by decide +kernel
theorem dyX12_rowNow_230 : decode cX12_rowNow 230 = .ok (.iadd, 1) := by decide +kernel
theorem dyX12_rowNow_231 : decode cX12_rowNow 231 = .ok (.istore_n 2, 1) := by decide +kernel
theorem dyX12_rowNow_232 : decode cX12_rowNow 232 = .ok (.iinc 1 (-1), 3) := by decide +kernel
theorem dyX12_rowNow_235 : decode cX12_rowNow 235 = .ok (.goto (-192), 3) := by decide +kernel
theorem dyX12_rowNow_238 : decode cX12_rowNow 238 = .ok (.iload_n 2, 1) := by decide +kernel
theorem dyX12_rowNow_239 : decode cX12_rowNow 239 = .ok (.ireturn, 1) := by decide +kernel
theorem zsg_yX12_rowNow : yX12_rowNow.cls = RX12 ∧ yX12_rowNow.cls ≠ "java/lang/invoke/MethodHandle" ∧ yX12_rowNow.cls ≠ "java/lang/invoke/VarHandle" ∧ (parseMethodDescriptor yX12_rowNow.desc).map (fun d => d.parameters.length) = some 0 := by decide +kernel
set_option maxRecDepth 20000 in
theorem c_M_rowNow {l : Launch} {D : va_G} {B : Nat} {cA : Nat → ClassId} {ad : Nat → Nat} {S : List zC} (hS : zOkM S)  {I : zI} {K : Int32 → zI → Prop}  (h : w_M_rowNow  I K) : Met l yX12_rowNow (zws yX12_rowNow cX12_rowNow 7 (some .int)) (zrm 1 23) (zPc D B cA ad [.ref (B + 491)] S I) (zQc D B cA (zqI S K)) 0 0 (fun q => B ≤ q) := by
  refine zm_of (cc := cX12_rowNow) (maxL := 7) (ret := (some .int)) (by decide +kernel) rfl (Nat.le_of_ble_eq_true rfl) trivial ?_
  intro p e s m args below meth c C _
  unfold w_M_rowNow at h
  show zX p l e (zrm 1 23) s m args below meth c (MQ below (zQc D B cA (zqI S K)) args s 0 0 (fun q => B ≤ q)) D B cA 7 0 0 S I [(0, .ref (B + 491))] [] 0
  refine zr_aload_n C dyX12_rowNow_0 rfl 0 rfl ?_
  refine zg_12_290 C hS dyX12_rowNow_1 ?_
  refine zr_if_ne C dyX12_rowNow_4 (tgt := 10) (by decide) (fun hc_35 => ?_) (fun hc_35 => ?_)
  · replace h := zif_neg hc_35 h
    refine zr_iconst C dyX12_rowNow_10 zc_i_1 ?_
    refine zr_istore_n C dyX12_rowNow_11 rfl (Nat.le_of_ble_eq_true rfl) (lv2 := [(1, .int 1), (0, .ref (B + 491))]) rfl ?_
    refine zr_iconst C dyX12_rowNow_12 zc_i_m1 ?_
    refine zr_istore_n C dyX12_rowNow_13 rfl (Nat.le_of_ble_eq_true rfl) (lv2 := [(2, .int (-1)), (1, .int 1), (0, .ref (B + 491))]) rfl ?_
    refine zr_aload_n C dyX12_rowNow_14 rfl 2 rfl ?_
    refine zr_iconst C dyX12_rowNow_15 zc_i_0 ?_
    refine zp_12_315 C hS dyX12_rowNow_16 ?_
    refine zn_mem C (fun I_1 eI_1 => ?_)
    replace h := h I_1 eI_1
    refine zr_aload_n C dyX12_rowNow_19 rfl 2 rfl ?_
    refine zg_12_141 C hS dyX12_rowNow_20 ?_
    refine zr_iconst C dyX12_rowNow_23 zc_i_0 ?_
    refine zr_iconst C dyX12_rowNow_24 zc_i_0 ?_
    refine zr_iast C (hS _ _ zs_535) h.1 dyX12_rowNow_25 ?_
    replace h := h.2
    refine zn_mem C (fun I_2 eI_2 => ?_)
    replace h := h I_2 eI_2
    refine zr_aload_n C dyX12_rowNow_26 rfl 2 rfl ?_
    refine zg_12_144 C hS dyX12_rowNow_27 ?_
    refine zr_iconst C dyX12_rowNow_30 zc_i_0 ?_
    refine zr_aload_n C dyX12_rowNow_31 rfl 2 rfl ?_
    refine zg_12_290 C hS dyX12_rowNow_32 ?_
    refine zr_iast C (hS _ _ zs_536) h.1 dyX12_rowNow_35 ?_
    replace h := h.2
    refine zn_mem C (fun I_3 eI_3 => ?_)
    replace h := h I_3 eI_3
    refine zr_aload_n C dyX12_rowNow_36 rfl 2 rfl ?_
    refine zg_12_147 C hS dyX12_rowNow_37 ?_
    refine zr_iconst C dyX12_rowNow_40 zc_i_0 ?_
    refine zr_iconst C dyX12_rowNow_41 zc_i_m1 ?_
    refine zr_iast C (hS _ _ zs_537) h.1 dyX12_rowNow_42 ?_
    replace h := h.2
    refine zn_mem C (fun I_4 eI_4 => ?_)
    replace h := h I_4 eI_4
    refine zjn (h (fun (v1_5 : Int32) (v2_6 : Int32) (I_7 : zI) => zX p l e (zrm 1 23) s m args below meth c (MQ below (zQc D B cA (zqI S K)) args s 0 0 (fun q => B ≤ q)) D B cA 7 0 0 S I_7 [(2, .int v2_6), (1, .int v1_5), (0, .ref (B + 491))] [] 43) (fun v1_5 v2_6 I_7 h => ?_)) (fun h => ?_)
    · refine zr_iload_n C dyX12_rowNow_43 rfl 1 rfl ?_
      refine zr_if_le C dyX12_rowNow_44 (tgt := 238) (by decide) (fun hc_34 => ?_) (fun hc_34 => ?_)
      · replace h := zif_pos hc_34 h
        refine zr_iload_n C dyX12_rowNow_238 rfl 0 rfl ?_
        exact zr_iret C rfl dyX12_rowNow_239 ⟨rfl, _, rfl, h⟩
      · replace h := zif_neg hc_34 h
        refine zr_aload_n C dyX12_rowNow_47 rfl 2 rfl ?_
        refine zg_12_141 C hS dyX12_rowNow_48 ?_
        refine zr_iload_n C dyX12_rowNow_51 rfl 1 rfl ?_
        refine zr_iconst C dyX12_rowNow_52 zc_i_1 ?_
        refine zr_isub C dyX12_rowNow_53 ?_
        refine zr_iald C (hS _ _ zs_535) h.1 dyX12_rowNow_54 ?_
        replace h := h.2
        refine zn_istore_n C (fun v3_8 => [(3, .int v3_8), (2, .int v2_6), (1, .int v1_5), (0, .ref (B + 491))]) dyX12_rowNow_55 rfl (Nat.le_of_ble_eq_true rfl) (fun _ => rfl) (fun v3_8 ev3_8 => ?_)
        replace h := h v3_8 ev3_8
        refine zr_aload_n C dyX12_rowNow_56 rfl 3 rfl ?_
        refine zg_12_144 C hS dyX12_rowNow_57 ?_
        refine zr_iload_n C dyX12_rowNow_60 rfl 2 rfl ?_
        refine zr_iconst C dyX12_rowNow_61 zc_i_1 ?_
        refine zr_isub C dyX12_rowNow_62 ?_
        refine zr_iald C (hS _ _ zs_536) h.1 dyX12_rowNow_63 ?_
        replace h := h.2
        refine zn_istore C (fun v4_9 => [(4, .int v4_9), (3, .int v3_8), (2, .int v2_6), (1, .int v1_5), (0, .ref (B + 491))]) dyX12_rowNow_64 (Nat.le_of_ble_eq_true rfl) (fun _ => rfl) (fun v4_9 ev4_9 => ?_)
        replace h := h v4_9 ev4_9
        refine zr_iload_n C dyX12_rowNow_66 rfl 1 rfl ?_
        refine zr_iload C dyX12_rowNow_67 0 rfl ?_
        refine zr_iload_n C dyX12_rowNow_69 rfl 1 rfl ?_
        refine zr_isub C dyX12_rowNow_70 ?_
        refine zr_iconst C dyX12_rowNow_71 zc_i_1 ?_
        refine zr_iadd C dyX12_rowNow_72 ?_
        refine zr_iconst C dyX12_rowNow_73 zc_i_2 ?_
        refine zr_idiv C dyX12_rowNow_74 (by decide) ?_
        refine zr_iadd C dyX12_rowNow_75 ?_
        refine zn_istore C (fun v5_10 => [(5, .int v5_10), (4, .int v4_9), (3, .int v3_8), (2, .int v2_6), (1, .int v1_5), (0, .ref (B + 491))]) dyX12_rowNow_76 (Nat.le_of_ble_eq_true rfl) (fun _ => rfl) (fun v5_10 ev5_10 => ?_)
        replace h := h v5_10 ev5_10
        refine zr_iload_n C dyX12_rowNow_78 rfl 4 rfl ?_
        refine zr_iconst C dyX12_rowNow_79 zc_i_1 ?_
        refine zr_isub C dyX12_rowNow_80 ?_
        refine zr_aload_n C dyX12_rowNow_81 rfl 5 rfl ?_
        refine zg_12_315 C hS dyX12_rowNow_82 ?_
        refine zjn (h (fun (I_11 : zI) => zX p l e (zrm 1 23) s m args below meth c (MQ below (zQc D B cA (zqI S K)) args s 0 0 (fun q => B ≤ q)) D B cA 7 0 0 S I_11 [(5, .int v5_10), (4, .int v4_9), (3, .int v3_8), (2, .int v2_6), (1, .int v1_5), (0, .ref (B + 491))] [] 95) (fun I_11 h => ?_)) (fun h => ?_)
        · refine zr_iload C dyX12_rowNow_95 1 rfl ?_
          refine zr_iload_n C dyX12_rowNow_97 rfl 2 rfl ?_
          refine zr_isub C dyX12_rowNow_98 ?_
          refine zr_iconst C dyX12_rowNow_99 zc_i_1 ?_
          refine zr_icmp_ne C dyX12_rowNow_100 (tgt := 116) (by decide) (fun hc_31 => ?_) (fun hc_31 => ?_)
          · replace h := zif_neg hc_31 h
            refine zr_iload_n C dyX12_rowNow_116 rfl 3 rfl ?_
            refine zr_iconst C dyX12_rowNow_117 zc_i_m1 ?_
            refine zr_icmp_ne C dyX12_rowNow_118 (tgt := 188) (by decide) (fun hc_28 => ?_) (fun hc_28 => ?_)
            · replace h := zif_neg hc_28 h
              refine zr_aload_n C dyX12_rowNow_188 rfl 5 rfl ?_
              refine zg_12_147 C hS dyX12_rowNow_189 ?_
              refine zr_iload_n C dyX12_rowNow_192 rfl 4 rfl ?_
              refine zr_iconst C dyX12_rowNow_193 zc_i_1 ?_
              refine zr_isub C dyX12_rowNow_194 ?_
              refine zr_iald C (hS _ _ zs_537) h.1 dyX12_rowNow_195 ?_
              replace h := h.2
              refine zr_iconst C dyX12_rowNow_196 zc_i_m1 ?_
              refine zr_icmp_ne C dyX12_rowNow_197 (tgt := 214) (by decide) (fun hc_17 => ?_) (fun hc_17 => ?_)
              · replace h := zif_neg hc_17 h
                refine zr_sipush C dyX12_rowNow_214 zc_s_10000 ?_
                refine zr_aload_n C dyX12_rowNow_217 rfl 5 rfl ?_
                refine zr_aload_n C dyX12_rowNow_218 rfl 5 rfl ?_
                refine zg_12_147 C hS dyX12_rowNow_219 ?_
                refine zr_iload_n C dyX12_rowNow_222 rfl 4 rfl ?_
                refine zr_iconst C dyX12_rowNow_223 zc_i_1 ?_
                refine zr_isub C dyX12_rowNow_224 ?_
                refine zr_iald C (hS _ _ zs_537) h.1 dyX12_rowNow_225 ?_
                replace h := h.2
                refine zr_iload_n C dyX12_rowNow_226 rfl 3 rfl ?_
                refine zv_12_318 C hS (st := [.int 10000]) h ⟨Nat.le_of_ble_eq_true rfl, Nat.le_of_ble_eq_true rfl⟩ (Nat.le_of_ble_eq_true rfl) dyX12_rowNow_227 (fun r_12 I_13 h => ?_)
                refine zr_iadd C dyX12_rowNow_230 ?_
                refine zn_istore_n C (fun v2_14 => [(2, .int v2_14), (5, .int v5_10), (4, .int v4_9), (3, .int v3_8), (1, .int v1_5), (0, .ref (B + 491))]) dyX12_rowNow_231 rfl (Nat.le_of_ble_eq_true rfl) (fun _ => rfl) (fun v2_14 ev2_14 => ?_)
                replace h := h v2_14 ev2_14
                refine zn_iinc C (fun v1_15 => [(1, .int v1_15), (2, .int v2_14), (5, .int v5_10), (4, .int v4_9), (3, .int v3_8), (0, .ref (B + 491))]) dyX12_rowNow_232 4 rfl zc_i_m1 (Nat.le_of_ble_eq_true rfl) (fun _ => rfl) (fun v1_15 ev1_15 => ?_)
                replace h := h v1_15 ev1_15
                refine zr_goto C dyX12_rowNow_235 (tgt := 43) (by decide) ?_
                refine zr_sub (lv2 := [(2, .int v2_14), (1, .int v1_15), (0, .ref (B + 491))]) [1, 0, 5] rfl ?_
                exact h
              · replace h := zif_pos hc_17 h
                refine zr_aload_n C dyX12_rowNow_200 rfl 5 rfl ?_
                refine zg_12_147 C hS dyX12_rowNow_201 ?_
                refine zr_iload_n C dyX12_rowNow_204 rfl 4 rfl ?_
                refine zr_iconst C dyX12_rowNow_205 zc_i_1 ?_
                refine zr_isub C dyX12_rowNow_206 ?_
                refine zr_iload_n C dyX12_rowNow_207 rfl 3 rfl ?_
                refine zr_iast C (hS _ _ zs_537) h.1 dyX12_rowNow_208 ?_
                replace h := h.2
                refine zn_mem C (fun I_16 eI_16 => ?_)
                replace h := h I_16 eI_16
                refine zr_iconst C dyX12_rowNow_209 zc_i_m1 ?_
                refine zr_istore_n C dyX12_rowNow_210 rfl (Nat.le_of_ble_eq_true rfl) (lv2 := [(2, .int (-1)), (5, .int v5_10), (4, .int v4_9), (3, .int v3_8), (1, .int v1_5), (0, .ref (B + 491))]) rfl ?_
                refine zr_goto C dyX12_rowNow_211 (tgt := 43) (by decide) ?_
                refine zr_sub (lv2 := [(2, .int (-1)), (1, .int v1_5), (0, .ref (B + 491))]) [0, 4, 5] rfl ?_
                exact h
            · replace h := zif_pos hc_28 h
              refine zr_aload_n C dyX12_rowNow_121 rfl 5 rfl ?_
              refine zg_12_147 C hS dyX12_rowNow_122 ?_
              refine zr_iload_n C dyX12_rowNow_125 rfl 4 rfl ?_
              refine zr_iconst C dyX12_rowNow_126 zc_i_1 ?_
              refine zr_isub C dyX12_rowNow_127 ?_
              refine zr_iald C (hS _ _ zs_537) h.1 dyX12_rowNow_128 ?_
              replace h := h.2
              refine zr_iconst C dyX12_rowNow_129 zc_i_m1 ?_
              refine zjn (h (fun (t_18 : Int32) => zX p l e (zrm 1 23) s m args below meth c (MQ below (zQc D B cA (zqI S K)) args s 0 0 (fun q => B ≤ q)) D B cA 7 0 0 S I_11 [(5, .int v5_10), (4, .int v4_9), (3, .int v3_8), (2, .int v2_6), (1, .int v1_5), (0, .ref (B + 491))] [.int t_18] 138) (fun t_18 h => ?_)) (fun h => ?_)
              · refine zr_istore C dyX12_rowNow_138 (Nat.le_of_ble_eq_true rfl) (lv2 := [(6, .int t_18), (5, .int v5_10), (4, .int v4_9), (3, .int v3_8), (2, .int v2_6), (1, .int v1_5), (0, .ref (B + 491))]) rfl ?_
                refine zr_aload_n C dyX12_rowNow_140 rfl 6 rfl ?_
                refine zg_12_141 C hS dyX12_rowNow_141 ?_
                refine zr_iload_n C dyX12_rowNow_144 rfl 5 rfl ?_
                refine zr_iload C dyX12_rowNow_145 0 rfl ?_
                refine zjn (h (fun (t_19 : Int32) => zX p l e (zrm 1 23) s m args below meth c (MQ below (zQc D B cA (zqI S K)) args s 0 0 (fun q => B ≤ q)) D B cA 7 0 0 S I_11 [(6, .int t_18), (5, .int v5_10), (4, .int v4_9), (2, .int v2_6), (1, .int v1_5), (0, .ref (B + 491))] [.int t_19, .int v1_5, .ref (B + 535)] 156) (fun t_19 h => ?_)) (fun h => ?_)
                · refine zr_iast C (hS _ _ zs_535) h.1 dyX12_rowNow_156 ?_
                  replace h := h.2
                  refine zn_mem C (fun I_20 eI_20 => ?_)
                  replace h := h I_20 eI_20
                  refine zr_aload_n C dyX12_rowNow_157 rfl 5 rfl ?_
                  refine zg_12_144 C hS dyX12_rowNow_158 ?_
                  refine zr_iload_n C dyX12_rowNow_161 rfl 4 rfl ?_
                  refine zr_iload C dyX12_rowNow_162 0 rfl ?_
                  refine zjn (h (fun (t_21 : Int32) => zX p l e (zrm 1 23) s m args below meth c (MQ below (zQc D B cA (zqI S K)) args s 0 0 (fun q => B ≤ q)) D B cA 7 0 0 S I_20 [(2, .int v2_6), (1, .int v1_5), (0, .ref (B + 491))] [.int t_21, .int v1_5, .ref (B + 536)] 174) (fun t_21 h => ?_)) (fun h => ?_)
                  · refine zr_iast C (hS _ _ zs_536) h.1 dyX12_rowNow_174 ?_
                    replace h := h.2
                    refine zn_mem C (fun I_22 eI_22 => ?_)
                    replace h := h I_22 eI_22
                    refine zr_aload_n C dyX12_rowNow_175 rfl 2 rfl ?_
                    refine zg_12_147 C hS dyX12_rowNow_176 ?_
                    refine zr_iload_n C dyX12_rowNow_179 rfl 1 rfl ?_
                    refine zr_iconst C dyX12_rowNow_180 zc_i_m1 ?_
                    refine zr_iast C (hS _ _ zs_537) h.1 dyX12_rowNow_181 ?_
                    replace h := h.2
                    refine zn_mem C (fun I_23 eI_23 => ?_)
                    replace h := h I_23 eI_23
                    refine zn_iinc C (fun v1_24 => [(1, .int v1_24), (2, .int v2_6), (0, .ref (B + 491))]) dyX12_rowNow_182 1 rfl zc_i_1 (Nat.le_of_ble_eq_true rfl) (fun _ => rfl) (fun v1_24 ev1_24 => ?_)
                    replace h := h v1_24 ev1_24
                    refine zr_goto C dyX12_rowNow_185 (tgt := 43) (by decide) ?_
                    refine zr_sub (lv2 := [(2, .int v2_6), (1, .int v1_24), (0, .ref (B + 491))]) [1, 0, 2] rfl ?_
                    exact h
                  refine zr_if_eq C dyX12_rowNow_164 (tgt := 172) (by decide) (fun hc_25 => ?_) (fun hc_25 => ?_)
                  · replace h := zif_pos hc_25 h
                    refine zr_iload C dyX12_rowNow_172 1 rfl ?_
                    refine zr_sub (lv2 := [(2, .int v2_6), (1, .int v1_5), (0, .ref (B + 491))]) [3, 4, 5] rfl ?_
                    exact h
                  · replace h := zif_neg hc_25 h
                    refine zr_iload C dyX12_rowNow_167 2 rfl ?_
                    refine zr_goto C dyX12_rowNow_169 (tgt := 174) (by decide) ?_
                    refine zr_sub (lv2 := [(2, .int v2_6), (1, .int v1_5), (0, .ref (B + 491))]) [3, 4, 5] rfl ?_
                    exact h
                refine zr_if_eq C dyX12_rowNow_147 (tgt := 155) (by decide) (fun hc_26 => ?_) (fun hc_26 => ?_)
                · replace h := zif_pos hc_26 h
                  refine zr_iload_n C dyX12_rowNow_155 rfl 3 rfl ?_
                  refine zr_sub (lv2 := [(6, .int t_18), (5, .int v5_10), (4, .int v4_9), (2, .int v2_6), (1, .int v1_5), (0, .ref (B + 491))]) [0, 1, 2, 4, 5, 6] rfl ?_
                  exact h
                · replace h := zif_neg hc_26 h
                  refine zr_iload C dyX12_rowNow_150 1 rfl ?_
                  refine zr_goto C dyX12_rowNow_152 (tgt := 156) (by decide) ?_
                  refine zr_sub (lv2 := [(6, .int t_18), (5, .int v5_10), (4, .int v4_9), (2, .int v2_6), (1, .int v1_5), (0, .ref (B + 491))]) [0, 1, 2, 4, 5, 6] rfl ?_
                  exact h
              refine zr_icmp_eq C dyX12_rowNow_130 (tgt := 137) (by decide) (fun hc_27 => ?_) (fun hc_27 => ?_)
              · replace h := zif_pos hc_27 h
                refine zr_iconst C dyX12_rowNow_137 zc_i_0 ?_
                exact h
              · replace h := zif_neg hc_27 h
                refine zr_iconst C dyX12_rowNow_133 zc_i_1 ?_
                refine zr_goto C dyX12_rowNow_134 (tgt := 138) (by decide) ?_
                exact h
          · replace h := zif_pos hc_31 h
            refine zr_aload_n C dyX12_rowNow_103 rfl 5 rfl ?_
            refine zg_12_120 C hS dyX12_rowNow_104 ?_
            refine zr_iload_n C dyX12_rowNow_107 rfl 2 rfl ?_
            refine zr_iald C (hS _ _ zs_528) h.1 dyX12_rowNow_108 ?_
            replace h := h.2
            refine zn_istore_n C (fun v2_29 => [(2, .int v2_29), (5, .int v5_10), (4, .int v4_9), (3, .int v3_8), (1, .int v1_5), (0, .ref (B + 491))]) dyX12_rowNow_109 rfl (Nat.le_of_ble_eq_true rfl) (fun _ => rfl) (fun v2_29 ev2_29 => ?_)
            replace h := h v2_29 ev2_29
            refine zn_iinc C (fun v1_30 => [(1, .int v1_30), (2, .int v2_29), (5, .int v5_10), (4, .int v4_9), (3, .int v3_8), (0, .ref (B + 491))]) dyX12_rowNow_110 4 rfl zc_i_m1 (Nat.le_of_ble_eq_true rfl) (fun _ => rfl) (fun v1_30 ev1_30 => ?_)
            replace h := h v1_30 ev1_30
            refine zr_goto C dyX12_rowNow_113 (tgt := 235) (by decide) ?_
            refine zr_goto C dyX12_rowNow_235 (tgt := 43) (by decide) ?_
            refine zr_sub (lv2 := [(2, .int v2_29), (1, .int v1_30), (0, .ref (B + 491))]) [1, 0, 5] rfl ?_
            exact h
        refine zr_icmp_le C dyX12_rowNow_85 (tgt := 95) (by decide) (fun hc_33 => ?_) (fun hc_33 => ?_)
        · replace h := zif_pos hc_33 h
          exact h
        · replace h := zif_neg hc_33 h
          refine zr_aload_n C dyX12_rowNow_88 rfl 5 rfl ?_
          refine zr_iload_n C dyX12_rowNow_89 rfl 4 rfl ?_
          refine zr_iconst C dyX12_rowNow_90 zc_i_1 ?_
          refine zr_isub C dyX12_rowNow_91 ?_
          refine zp_12_315 C hS dyX12_rowNow_92 ?_
          refine zn_mem C (fun I_32 eI_32 => ?_)
          replace h := h I_32 eI_32
          exact h
    exact h
  · replace h := zif_pos hc_35 h
    refine zr_bipush C dyX12_rowNow_7 zc_b_m2 ?_
    exact zr_iret C rfl dyX12_rowNow_9 ⟨rfl, _, rfl, h⟩
def w_M_areAlike (a1 : Int32) (a2 : Int32) (I : zI) (K : Int32 → Prop) : Prop :=
  vp_in a1 710 ∧ (vp_in a2 110 ∧ (if (I.1 496 (Int32.toNatClampNeg a1)) = (I.1 504 (Int32.toNatClampNeg a2)) then (vp_in a1 710 ∧ (vp_in a2 110 ∧ (if (I.1 498 (Int32.toNatClampNeg a1)) = (I.1 506 (Int32.toNatClampNeg a2)) then (vp_in a1 710 ∧ (vp_in a2 110 ∧ (if (lg_cmp (I.2 499 (Int32.toNatClampNeg a1)) (I.2 507 (Int32.toNatClampNeg a2))) = 0 then K 1 else K 0))) else K 0))) else K 0))
theorem dyX12_areAlike_0 : decode cX12_areAlike 0 = .ok (.aload_n 0, 1) := by decide +kernel
theorem dyX12_areAlike_1 : decode cX12_areAlike 1 = .ok (.getfield 22, 3) := by decide +kernel
theorem dyX12_areAlike_4 : decode cX12_areAlike 4 = .ok (.iload_n 1, 1) := by decide +kernel
theorem dyX12_areAlike_5 : decode cX12_areAlike 5 = .ok (.iaload, 1) := by decide +kernel
theorem dyX12_areAlike_6 : decode cX12_areAlike 6 = .ok (.aload_n 0, 1) := by decide +kernel
theorem dyX12_areAlike_7 : decode cX12_areAlike 7 = .ok (.getfield 47, 3) := by decide +kernel
theorem dyX12_areAlike_10 : decode cX12_areAlike 10 = .ok (.iload_n 2, 1) := by decide +kernel
theorem dyX12_areAlike_11 : decode cX12_areAlike 11 = .ok (.iaload, 1) := by decide +kernel
theorem dyX12_areAlike_12 : decode cX12_areAlike 12 = .ok (.if_icmp .ne 38, 3) := by decide +kernel
theorem dyX12_areAlike_15 : decode cX12_areAlike 15 = .ok (.aload_n 0, 1) := by decide +kernel
theorem dyX12_areAlike_16 : decode cX12_areAlike 16 = .ok (.getfield 28, 3) := by decide +kernel
theorem dyX12_areAlike_19 : decode cX12_areAlike 19 = .ok (.iload_n 1, 1) := by decide +kernel
theorem dyX12_areAlike_20 : decode cX12_areAlike 20 = .ok (.iaload, 1) := by decide +kernel
theorem dyX12_areAlike_21 : decode cX12_areAlike 21 = .ok (.aload_n 0, 1) := by decide +kernel
theorem dyX12_areAlike_22 : decode cX12_areAlike 22 = .ok (.getfield 53, 3) := by decide +kernel
theorem dyX12_areAlike_25 : decode cX12_areAlike 25 = .ok (.iload_n 2, 1) := by decide +kernel
theorem dyX12_areAlike_26 : decode cX12_areAlike 26 = .ok (.iaload, 1) := by decide +kernel
theorem dyX12_areAlike_27 : decode cX12_areAlike 27 = .ok (.if_icmp .ne 23, 3) := by decide +kernel
theorem dyX12_areAlike_30 : decode cX12_areAlike 30 = .ok (.aload_n 0, 1) := by decide +kernel
theorem dyX12_areAlike_31 : decode cX12_areAlike 31 = .ok (.getfield 31, 3) := by decide +kernel
theorem dyX12_areAlike_34 : decode cX12_areAlike 34 = .ok (.iload_n 1, 1) := by decide +kernel
theorem dyX12_areAlike_35 : decode cX12_areAlike 35 = .ok (.laload, 1) := by decide +kernel
theorem dyX12_areAlike_36 : decode cX12_areAlike 36 = .ok (.aload_n 0, 1) := by decide +kernel
theorem dyX12_areAlike_37 : decode cX12_areAlike 37 = .ok (.getfield 56, 3) := by decide +kernel
theorem dyX12_areAlike_40 : decode cX12_areAlike 40 = .ok (.iload_n 2, 1) := by decide +kernel
theorem dyX12_areAlike_41 : decode cX12_areAlike 41 = .ok (.laload, 1) := by decide +kernel
theorem dyX12_areAlike_42 : decode cX12_areAlike 42 = .ok (.lcmp, 1) := by decide +kernel
theorem dyX12_areAlike_43 : decode cX12_areAlike 43 = .ok (.ifCond .ne 7, 3) := by decide +kernel
theorem dyX12_areAlike_46 : decode cX12_areAlike 46 = .ok (.iconst 1, 1) := by decide +kernel
theorem dyX12_areAlike_47 : decode cX12_areAlike 47 = .ok (.goto 4, 3) := by decide +kernel
theorem dyX12_areAlike_50 : decode cX12_areAlike 50 = .ok (.iconst 0, 1) := by decide +kernel
theorem dyX12_areAlike_51 : decode cX12_areAlike 51 = .ok (.ireturn, 1) := by decide +kernel
theorem zsg_yX12_areAlike : yX12_areAlike.cls = RX12 ∧ yX12_areAlike.cls ≠ "java/lang/invoke/MethodHandle" ∧ yX12_areAlike.cls ≠ "java/lang/invoke/VarHandle" ∧ (parseMethodDescriptor yX12_areAlike.desc).map (fun d => d.parameters.length) = some 2 := by decide +kernel
set_option maxRecDepth 20000 in
theorem c_M_areAlike {l : Launch} {D : va_G} {B : Nat} {cA : Nat → ClassId} {ad : Nat → Nat} {S : List zC} (hS : zOkM S) {a1 : Int32} {a2 : Int32} {I : zI} {K : Int32 → Prop}  (h : w_M_areAlike a1 a2 I K) : Met l yX12_areAlike (zws yX12_areAlike cX12_areAlike 3 (some .boolean)) (zrm 0 0) (zPc D B cA ad [.ref (B + 491), .int a1, .int a2] S I) (zQc D B cA (zpI S I K)) 0 0 (fun q => B ≤ q) := by
  refine zm_of (cc := cX12_areAlike) (maxL := 3) (ret := (some .boolean)) (by decide +kernel) rfl (Nat.le_of_ble_eq_true rfl) trivial ?_
  intro p e s m args below meth c C _
  unfold w_M_areAlike at h
  show zX p l e (zrm 0 0) s m args below meth c (MQ below (zQc D B cA (zpI S I K)) args s 0 0 (fun q => B ≤ q)) D B cA 3 0 0 S I [(0, .ref (B + 491)), (1, .int a1), (2, .int a2)] [] 0
  refine zr_aload_n C dyX12_areAlike_0 rfl 0 rfl ?_
  refine zg_12_22 C hS dyX12_areAlike_1 ?_
  refine zr_iload_n C dyX12_areAlike_4 rfl 1 rfl ?_
  refine zr_iald C (hS _ _ zs_496) h.1 dyX12_areAlike_5 ?_
  replace h := h.2
  refine zr_aload_n C dyX12_areAlike_6 rfl 0 rfl ?_
  refine zg_12_47 C hS dyX12_areAlike_7 ?_
  refine zr_iload_n C dyX12_areAlike_10 rfl 2 rfl ?_
  refine zr_iald C (hS _ _ zs_504) h.1 dyX12_areAlike_11 ?_
  replace h := h.2
  refine zr_icmp_ne C dyX12_areAlike_12 (tgt := 50) (by decide) (fun hc_3 => ?_) (fun hc_3 => ?_)
  · replace h := zif_neg hc_3 h
    refine zr_iconst C dyX12_areAlike_50 zc_i_0 ?_
    exact zr_zret C rfl (zb.nar zb_0) dyX12_areAlike_51 ⟨rfl, rfl, _, rfl, h⟩
  · replace h := zif_pos hc_3 h
    refine zr_aload_n C dyX12_areAlike_15 rfl 0 rfl ?_
    refine zg_12_28 C hS dyX12_areAlike_16 ?_
    refine zr_iload_n C dyX12_areAlike_19 rfl 1 rfl ?_
    refine zr_iald C (hS _ _ zs_498) h.1 dyX12_areAlike_20 ?_
    replace h := h.2
    refine zr_aload_n C dyX12_areAlike_21 rfl 0 rfl ?_
    refine zg_12_53 C hS dyX12_areAlike_22 ?_
    refine zr_iload_n C dyX12_areAlike_25 rfl 2 rfl ?_
    refine zr_iald C (hS _ _ zs_506) h.1 dyX12_areAlike_26 ?_
    replace h := h.2
    refine zr_icmp_ne C dyX12_areAlike_27 (tgt := 50) (by decide) (fun hc_2 => ?_) (fun hc_2 => ?_)
    · replace h := zif_neg hc_2 h
      refine zr_iconst C dyX12_areAlike_50 zc_i_0 ?_
      exact zr_zret C rfl (zb.nar zb_0) dyX12_areAlike_51 ⟨rfl, rfl, _, rfl, h⟩
    · replace h := zif_pos hc_2 h
      refine zr_aload_n C dyX12_areAlike_30 rfl 0 rfl ?_
      refine zg_12_31 C hS dyX12_areAlike_31 ?_
      refine zr_iload_n C dyX12_areAlike_34 rfl 1 rfl ?_
      refine zr_lald C (hS _ _ zs_499) h.1 dyX12_areAlike_35 ?_
      replace h := h.2
      refine zr_aload_n C dyX12_areAlike_36 rfl 0 rfl ?_
      refine zg_12_56 C hS dyX12_areAlike_37 ?_
      refine zr_iload_n C dyX12_areAlike_40 rfl 2 rfl ?_
      refine zr_lald C (hS _ _ zs_507) h.1 dyX12_areAlike_41 ?_
      replace h := h.2
      refine zr_lcmp C dyX12_areAlike_42 ?_
      refine zr_if_ne C dyX12_areAlike_43 (tgt := 50) (by decide) (fun hc_1 => ?_) (fun hc_1 => ?_)
      · replace h := zif_neg hc_1 h
        refine zr_iconst C dyX12_areAlike_50 zc_i_0 ?_
        exact zr_zret C rfl (zb.nar zb_0) dyX12_areAlike_51 ⟨rfl, rfl, _, rfl, h⟩
      · replace h := zif_pos hc_1 h
        refine zr_iconst C dyX12_areAlike_46 zc_i_1 ?_
        refine zr_goto C dyX12_areAlike_47 (tgt := 51) (by decide) ?_
        exact zr_zret C rfl (zb.nar zb_1) dyX12_areAlike_51 ⟨rfl, rfl, _, rfl, h⟩
theorem zg_12_244 {p : Program} {l : Launch} {e : Env} {R : Room} {s : State} {m : MethodId} {args : Array Value} {below : List Frame} {meth : Method} {c : Code} {Q : State → Prop} {D : va_G} {B : Nat} {cA : Nat → ClassId} {ad : Nat → Nat} {cc : ByteArray} {nL : Nat} {ret : Option FieldType} {S : List zC} {I : zI} {lv : List (Nat × Value)} {st : List Value} {pc : Nat} (C : zCx p s m args meth c cc nL RX12 ret D B cA ad) (hS : zOkM S) (hd : decode cc pc = .ok (.getfield 244, 3)) (kk : zX p l e R s m args below meth c Q D B cA nL 0 0 S I lv (.int (I.1 491 19) :: st) (pc + 3)) : zX p l e R s m args below meth c Q D B cA nL 0 0 S I lv (.ref (B + 491) :: st) pc :=
  zr_geti C (ci := 12) (Cn := RX12) (T := TX12) (N := 82) (k := 491) (j := 19) (fs := [none, some (some 492), some (some 493), none, some (some 494), none, some (some 495), none, none, none, some (some 496), some (some 497), some (some 498), some (some 499), some (some 500), none, some (some 501), some (some 502), some (some 503), none, some (some 504), some (some 505), some (some 506), some (some 507), some (some 508), none, some (some 509), some (some 510), some (some 511), some (some 512), some (some 513), some (some 514), some (some 515), some (some 516), some (some 517), some (some 518), none, none, some (some 519), none, some (some 520), none, none, none, some (some 521), some (some 522), some (some 523), some (some 524), some (some 525), some (some 526), some (some 527), none, some (some 528), none, some (some 529), none, some (some 530), some (some 531), some (some 532), none, some (some 533), some (some 534), some (some 535), some (some 536), some (some 537), none, none, none, some (some 538), some (some 539), some (some 540), none, none, none, some (some 541), none, none, some (some 542), some (some 543), some (some 544), none, some (some 545)]) rfl zin_12 (Nat.le_of_ble_eq_true rfl) rfl (hS _ _ zs_491) rfl zk_fl_12_244 hd kk
theorem zp_12_325 {p : Program} {l : Launch} {e : Env} {R : Room} {s : State} {m : MethodId} {args : Array Value} {below : List Frame} {meth : Method} {c : Code} {Q : State → Prop} {D : va_G} {B : Nat} {cA : Nat → ClassId} {ad : Nat → Nat} {cc : ByteArray} {nL : Nat} {ret : Option FieldType} {S : List zC} {I : zI} {lv : List (Nat × Value)} {st : List Value} {pc : Nat} (C : zCx p s m args meth c cc nL RX12 ret D B cA ad) (hS : zOkM S) {v : Int32} (hd : decode cc pc = .ok (.putfield 325, 3)) (kk : zX p l e R s m args below meth c Q D B cA nL 0 0 S (zu I 491 66 v) lv st (pc + 3)) : zX p l e R s m args below meth c Q D B cA nL 0 0 S I lv (.int v :: .ref (B + 491) :: st) pc :=
  zr_puti C (ci := 12) (Cn := RX12) (T := TX12) (N := 82) (k := 491) (j := 66) (fs := [none, some (some 492), some (some 493), none, some (some 494), none, some (some 495), none, none, none, some (some 496), some (some 497), some (some 498), some (some 499), some (some 500), none, some (some 501), some (some 502), some (some 503), none, some (some 504), some (some 505), some (some 506), some (some 507), some (some 508), none, some (some 509), some (some 510), some (some 511), some (some 512), some (some 513), some (some 514), some (some 515), some (some 516), some (some 517), some (some 518), none, none, some (some 519), none, some (some 520), none, none, none, some (some 521), some (some 522), some (some 523), some (some 524), some (some 525), some (some 526), some (some 527), none, some (some 528), none, some (some 529), none, some (some 530), some (some 531), some (some 532), none, some (some 533), some (some 534), some (some 535), some (some 536), some (some 537), none, none, none, some (some 538), some (some 539), some (some 540), none, none, none, some (some 541), none, none, some (some 542), some (some 543), some (some 544), none, some (some 545)]) rfl zin_12 (Nat.le_of_ble_eq_true rfl) rfl (hS _ _ zs_491) rfl tyX12 tyX12_ok nmX12 (ty := .int) zpd_I rfl rfl rfl zk_fl_12_325 hd kk
theorem zg_12_325 {p : Program} {l : Launch} {e : Env} {R : Room} {s : State} {m : MethodId} {args : Array Value} {below : List Frame} {meth : Method} {c : Code} {Q : State → Prop} {D : va_G} {B : Nat} {cA : Nat → ClassId} {ad : Nat → Nat} {cc : ByteArray} {nL : Nat} {ret : Option FieldType} {S : List zC} {I : zI} {lv : List (Nat × Value)} {st : List Value} {pc : Nat} (C : zCx p s m args meth c cc nL RX12 ret D B cA ad) (hS : zOkM S) (hd : decode cc pc = .ok (.getfield 325, 3)) (kk : zX p l e R s m args below meth c Q D B cA nL 0 0 S I lv (.int (I.1 491 66) :: st) (pc + 3)) : zX p l e R s m args below meth c Q D B cA nL 0 0 S I lv (.ref (B + 491) :: st) pc :=
  zr_geti C (ci := 12) (Cn := RX12) (T := TX12) (N := 82) (k := 491) (j := 66) (fs := [none, some (some 492), some (some 493), none, some (some 494), none, some (some 495), none, none, none, some (some 496), some (some 497), some (some 498), some (some 499), some (some 500), none, some (some 501), some (some 502), some (some 503), none, some (some 504), some (some 505), some (some 506), some (some 507), some (some 508), none, some (some 509), some (some 510), some (some 511), some (some 512), some (some 513), some (some 514), some (some 515), some (some 516), some (some 517), some (some 518), none, none, some (some 519), none, some (some 520), none, none, none, some (some 521), some (some 522), some (some 523), some (some 524), some (some 525), some (some 526), some (some 527), none, some (some 528), none, some (some 529), none, some (some 530), some (some 531), some (some 532), none, some (some 533), some (some 534), some (some 535), some (some 536), some (some 537), none, none, none, some (some 538), some (some 539), some (some 540), none, none, none, some (some 541), none, none, some (some 542), some (some 543), some (some 544), none, some (some 545)]) rfl zin_12 (Nat.le_of_ble_eq_true rfl) rfl (hS _ _ zs_491) rfl zk_fl_12_325 hd kk
theorem zp_12_328 {p : Program} {l : Launch} {e : Env} {R : Room} {s : State} {m : MethodId} {args : Array Value} {below : List Frame} {meth : Method} {c : Code} {Q : State → Prop} {D : va_G} {B : Nat} {cA : Nat → ClassId} {ad : Nat → Nat} {cc : ByteArray} {nL : Nat} {ret : Option FieldType} {S : List zC} {I : zI} {lv : List (Nat × Value)} {st : List Value} {pc : Nat} (C : zCx p s m args meth c cc nL RX12 ret D B cA ad) (hS : zOkM S) {v : Int32} (hd : decode cc pc = .ok (.putfield 328, 3)) (kk : zX p l e R s m args below meth c Q D B cA nL 0 0 S (zu I 491 67 v) lv st (pc + 3)) : zX p l e R s m args below meth c Q D B cA nL 0 0 S I lv (.int v :: .ref (B + 491) :: st) pc :=
  zr_puti C (ci := 12) (Cn := RX12) (T := TX12) (N := 82) (k := 491) (j := 67) (fs := [none, some (some 492), some (some 493), none, some (some 494), none, some (some 495), none, none, none, some (some 496), some (some 497), some (some 498), some (some 499), some (some 500), none, some (some 501), some (some 502), some (some 503), none, some (some 504), some (some 505), some (some 506), some (some 507), some (some 508), none, some (some 509), some (some 510), some (some 511), some (some 512), some (some 513), some (some 514), some (some 515), some (some 516), some (some 517), some (some 518), none, none, some (some 519), none, some (some 520), none, none, none, some (some 521), some (some 522), some (some 523), some (some 524), some (some 525), some (some 526), some (some 527), none, some (some 528), none, some (some 529), none, some (some 530), some (some 531), some (some 532), none, some (some 533), some (some 534), some (some 535), some (some 536), some (some 537), none, none, none, some (some 538), some (some 539), some (some 540), none, none, none, some (some 541), none, none, some (some 542), some (some 543), some (some 544), none, some (some 545)]) rfl zin_12 (Nat.le_of_ble_eq_true rfl) rfl (hS _ _ zs_491) rfl tyX12 tyX12_ok nmX12 (ty := .int) zpd_I rfl rfl rfl zk_fl_12_328 hd kk
theorem zv_12_321 {p : Program} {l : Launch} {e : Env} {R : Room} {s : State} {m : MethodId} {args : Array Value} {below : List Frame} {meth : Method} {c : Code} {Q : State → Prop} {D : va_G} {B : Nat} {cA : Nat → ClassId} {ad : Nat → Nat} {cc : ByteArray} {nL : Nat} {ret : Option FieldType} {S : List zC} {I : zI} {lv : List (Nat × Value)} {st : List Value} {pc : Nat} (C : zCx p s m args meth c cc nL RX12 ret D B cA ad) {K : Int32 → Prop} {xa1 : Int32} {xa2 : Int32} (hS : zOkM S)  (h : w_M_areAlike xa1 xa2 I K) (hR : 0 + 1 ≤ R.frames ∧ 8 + (3 + 11) + (0) ≤ R.locals) (hw : (st.map fun v => v.category).sum ≤ 8) (hd : decode cc pc = .ok (.invokevirtual 321, 3)) (kk : ∀ v, K v → zX p l e R s m args below meth c Q D B cA nL 0 0 S I lv (.int v :: st) (pc + 3)) : zX p l e R s m args below meth c Q D B cA nL 0 0 S I lv (.int xa2 :: .int xa1 :: .ref (B + 491) :: st) pc :=
  have hf : 0 ≤ R.cells ∧ 0 ≤ R.slots := ⟨Nat.zero_le _, Nat.zero_le _⟩
  zc_VpI C (ci := 12) (q := (RX12, TX12, 82)) (k := 491) (fs := [none, some (some 492), some (some 493), none, some (some 494), none, some (some 495), none, none, none, some (some 496), some (some 497), some (some 498), some (some 499), some (some 500), none, some (some 501), some (some 502), some (some 503), none, some (some 504), some (some 505), some (some 506), some (some 507), some (some 508), none, some (some 509), some (some 510), some (some 511), some (some 512), some (some 513), some (some 514), some (some 515), some (some 516), some (some 517), some (some 518), none, none, some (some 519), none, some (some 520), none, none, none, some (some 521), some (some 522), some (some 523), some (some 524), some (some 525), some (some 526), some (some 527), none, some (some 528), none, some (some 529), none, some (some 530), some (some 531), some (some 532), none, some (some 533), some (some 534), some (some 535), some (some 536), some (some 537), none, none, none, some (some 538), some (some 539), some (some 540), none, none, none, some (some 541), none, none, some (some 542), some (some 543), some (some 544), none, some (some 545)]) (As := [.int xa1, .int xa2]) (st := st) rfl (hS _ _ zs_491) (c_M_areAlike hS h) (zgV zk_ml_12_321 zk_im_yX12_areAlike zk_se_yX12_areAlike zk_in_12 zk_cd_yX12_areAlike) zsg_yX12_areAlike hR rfl rfl hw hd hf kk
def w_M_fillsKept  (I : zI) (K : zI → Prop) : Prop :=
  ∀ v1_1, v1_1 = ((I.1 491 9) - 1) → ∀ v2_2, v2_2 = ((I.1 491 19) - 1) → ∀ (P16 : Int32 → Prop), (∀ (v3_3 : Int32), (∀ (P41 : Prop), ((∀ I_4, I_4 = (zu I 491 66 v3_3) → ∀ (P48 : Int32 → Prop), (∀ (v3_5 : Int32), (∀ (P91 : Prop), ((∀ I_6, I_6 = (zu I_4 491 67 (v3_5 + 1)) → K I_6) → P91) → (if (v1_1 - (I_4.1 491 66)) ≤ v3_5 then P91 else (if (v2_2 - (I_4.1 491 66)) ≤ v3_5 then P91 else (w_M_areAlike ((v1_1 - 1) - v3_5) ((v2_2 - 1) - v3_5) I_4 (fun r_7 => (if r_7 = 0 then P91 else (∀ v3_8, v3_8 = (v3_5 + 1) → P48 v3_8))))))) → P48 v3_5) → P48 0) → P41) → (if v1_1 ≤ v3_3 then P41 else (if v2_2 ≤ v3_3 then P41 else (w_M_areAlike v3_3 v3_3 I (fun r_12 => (if r_12 = 0 then P41 else (∀ v3_13, v3_13 = (v3_3 + 1) → P16 v3_13))))))) → P16 v3_3) → P16 0
theorem dyX12_fillsKept_0 : decode cX12_fillsKept 0 = .ok (.aload_n 0, 1) := by decide +kernel
theorem dyX12_fillsKept_1 : decode cX12_fillsKept 1 = .ok (.getfield 212, 3) := by decide +kernel
theorem dyX12_fillsKept_4 : decode cX12_fillsKept 4 = .ok (.iconst 1, 1) := by decide +kernel
theorem dyX12_fillsKept_5 : decode cX12_fillsKept 5 = .ok (.isub, 1) := by decide +kernel
theorem dyX12_fillsKept_6 : decode cX12_fillsKept 6 = .ok (.istore_n 1, 1) := by decide +kernel
theorem dyX12_fillsKept_7 : decode cX12_fillsKept 7 = .ok (.aload_n 0, 1) := by decide +kernel
theorem dyX12_fillsKept_8 : decode cX12_fillsKept 8 = .ok (.getfield 244, 3) := by decide +kernel
theorem dyX12_fillsKept_11 : decode cX12_fillsKept 11 = .ok (.iconst 1, 1) := by decide +kernel
theorem dyX12_fillsKept_12 : decode cX12_fillsKept 12 = .ok (.isub, 1) := by decide +kernel
theorem dyX12_fillsKept_13 : decode cX12_fillsKept 13 = .ok (.istore_n 2, 1) := by decide +kernel
theorem dyX12_fillsKept_14 : decode cX12_fillsKept 14 = .ok (.iconst 0, 1) := by decide +kernel
theorem dyX12_fillsKept_15 : decode cX12_fillsKept 15 = .ok (.istore_n 3, 1) := by decide +kernel
theorem dyX12_fillsKept_16 : decode cX12_fillsKept 16 = .ok (.iload_n 3, 1) := by decide +kernel
theorem dyX12_fillsKept_17 : decode cX12_fillsKept 17 = .ok (.iload_n 1, 1) := by decide +kernel
theorem dyX12_fillsKept_18 : decode cX12_fillsKept 18 = .ok (.if_icmp .ge 23, 3) := by decide +kernel
theorem dyX12_fillsKept_21 : decode cX12_fillsKept 21 = .ok (.iload_n 3, 1) := by decide +kernel
theorem dyX12_fillsKept_22 : decode cX12_fillsKept 22 = .ok (.iload_n 2, 1) := by decide +kernel
theorem dyX12_fillsKept_23 : decode cX12_fillsKept 23 = .ok (.if_icmp .ge 18, 3) := by decide +kernel
theorem dyX12_fillsKept_26 : decode cX12_fillsKept 26 = .ok (.aload_n 0, 1) := by decide +kernel
theorem dyX12_fillsKept_27 : decode cX12_fillsKept 27 = .ok (.iload_n 3, 1) := by decide +kernel
theorem dyX12_fillsKept_28 : decode cX12_fillsKept 28 = .ok (.iload_n 3, 1) := by decide +kernel
theorem dyX12_fillsKept_29 : decode cX12_fillsKept 29 = .ok (.invokevirtual 321, 3) := by decide +kernel
theorem dyX12_fillsKept_32 : decode cX12_fillsKept 32 = .ok (.ifCond .eq 9, 3) := by decide +kernel
theorem dyX12_fillsKept_35 : decode cX12_fillsKept 35 = .ok (.iinc 3 1, 3) := by decide +kernel
theorem dyX12_fillsKept_38 : decode cX12_fillsKept 38 = .ok (.goto (-22), 3) := by decide +kernel
theorem dyX12_fillsKept_41 : decode cX12_fillsKept 41 = .ok (.aload_n 0, 1) := by decide +kernel
theorem dyX12_fillsKept_42 : decode cX12_fillsKept 42 = .ok (.iload_n 3, 1) := by decide +kernel
theorem dyX12_fillsKept_43 : decode cX12_fillsKept 43 = .ok (.putfield 325, 3) := by decide +kernel
theorem dyX12_fillsKept_46 : decode cX12_fillsKept 46 = .ok (.iconst 0, 1) := by decide +kernel
theorem dyX12_fillsKept_47 : decode cX12_fillsKept 47 = .ok (.istore_n 3, 1) := by decide +kernel
theorem dyX12_fillsKept_48 : decode cX12_fillsKept 48 = .ok (.iload_n 3, 1) := by decide +kernel
theorem dyX12_fillsKept_49 : decode cX12_fillsKept 49 = .ok (.iload_n 1, 1) := by decide +kernel
theorem dyX12_fillsKept_50 : decode cX12_fillsKept 50 = .ok (.aload_n 0, 1) := by decide +kernel
theorem dyX12_fillsKept_51 : decode cX12_fillsKept 51 = .ok (.getfield 325, 3) := by decide +kernel
theorem dyX12_fillsKept_54 : decode cX12_fillsKept 54 = .ok (.isub, 1) := by decide +kernel
theorem dyX12_fillsKept_55 : decode cX12_fillsKept 55 = .ok (.if_icmp .ge 36, 3) := by decide +kernel
theorem dyX12_fillsKept_58 : decode cX12_fillsKept 58 = .ok (.iload_n 3, 1) := by decide +kernel
theorem dyX12_fillsKept_59 : decode cX12_fillsKept 59 = .ok (.iload_n 2, 1) := by decide +kernel
theorem dyX12_fillsKept_60 : decode cX12_fillsKept 60 = .ok (.aload_n 0, 1) := by decide +kernel
theorem dyX12_fillsKept_61 : decode cX12_fillsKept 61 = .ok (.getfield 325, 3) := by decide +kernel
theorem dyX12_fillsKept_64 : decode cX12_fillsKept 64 = .ok (.isub, 1) := by decide +kernel
theorem dyX12_fillsKept_65 : decode cX12_fillsKept 65 = .ok (.if_icmp .ge 26, 3) := by decide +kernel
theorem dyX12_fillsKept_68 : decode cX12_fillsKept 68 = .ok (.aload_n 0, 1) := by decide +kernel
theorem dyX12_fillsKept_69 : decode cX12_fillsKept 69 = .ok (.iload_n 1, 1) := by decide +kernel
theorem dyX12_fillsKept_70 : decode cX12_fillsKept 70 = .ok (.iconst 1, 1) := by decide +kernel
theorem dyX12_fillsKept_71 : decode cX12_fillsKept 71 = .ok (.isub, 1) := by decide +kernel
theorem dyX12_fillsKept_72 : decode cX12_fillsKept 72 = .ok (.iload_n 3, 1) := by decide +kernel
theorem dyX12_fillsKept_73 : decode cX12_fillsKept 73 = .ok (.isub, 1) := by decide +kernel
theorem dyX12_fillsKept_74 : decode cX12_fillsKept 74 = .ok (.iload_n 2, 1) := by decide +kernel
theorem dyX12_fillsKept_75 : decode cX12_fillsKept 75 = .ok (.iconst 1, 1) := by decide +kernel
theorem dyX12_fillsKept_76 : decode cX12_fillsKept 76 = .ok (.isub, 1) := by decide +kernel
theorem dyX12_fillsKept_77 : decode cX12_fillsKept 77 = .ok (.iload_n 3, 1) := by decide +kernel
theorem dyX12_fillsKept_78 : decode cX12_fillsKept 78 = .ok (.isub, 1) := by decide +kernel
theorem dyX12_fillsKept_79 : decode cX12_fillsKept 79 = .ok (.invokevirtual 321, 3) := by decide +kernel
theorem dyX12_fillsKept_82 : decode cX12_fillsKept 82 = .ok (.ifCond .eq 9, 3) := by decide +kernel
theorem dyX12_fillsKept_85 : decode cX12_fillsKept 85 = .ok (.iinc 3 1, 3) := by decide +kernel
theorem dyX12_fillsKept_88 : decode cX12_fillsKept 88 = .ok (.goto (-40), 3) := by decide +kernel
theorem dyX12_fillsKept_91 : decode cX12_fillsKept 91 = .ok (.aload_n 0, 1) := by decide +kernel
theorem dyX12_fillsKept_92 : decode cX12_fillsKept 92 = .ok (.iload_n 3, 1) := by decide +kernel
theorem dyX12_fillsKept_93 : decode cX12_fillsKept 93 = .ok (.iconst 1, 1) := by decide +kernel
theorem dyX12_fillsKept_94 : decode cX12_fillsKept 94 = .ok (.iadd, 1) := by decide +kernel
theorem dyX12_fillsKept_95 : decode cX12_fillsKept 95 = .ok (.putfield 328, 3) := by decide +kernel
theorem dyX12_fillsKept_98 : decode cX12_fillsKept 98 = .ok (.return_, 1) := by decide +kernel
theorem zsg_yX12_fillsKept : yX12_fillsKept.cls = RX12 ∧ yX12_fillsKept.cls ≠ "java/lang/invoke/MethodHandle" ∧ yX12_fillsKept.cls ≠ "java/lang/invoke/VarHandle" ∧ (parseMethodDescriptor yX12_fillsKept.desc).map (fun d => d.parameters.length) = some 0 := by decide +kernel
set_option maxRecDepth 20000 in
theorem c_M_fillsKept {l : Launch} {D : va_G} {B : Nat} {cA : Nat → ClassId} {ad : Nat → Nat} {S : List zC} (hS : zOkM S)  {I : zI} {K : zI → Prop}  (h : w_M_fillsKept  I K) : Met l yX12_fillsKept (zws yX12_fillsKept cX12_fillsKept 4 none) (zrm 1 22) (zPc D B cA ad [.ref (B + 491)] S I) (zQc D B cA (zqV S K)) 0 0 (fun q => B ≤ q) := by
  refine zm_of (cc := cX12_fillsKept) (maxL := 4) (ret := none) (by decide +kernel) rfl (Nat.le_of_ble_eq_true rfl) trivial ?_
  intro p e s m args below meth c C _
  unfold w_M_fillsKept at h
  show zX p l e (zrm 1 22) s m args below meth c (MQ below (zQc D B cA (zqV S K)) args s 0 0 (fun q => B ≤ q)) D B cA 4 0 0 S I [(0, .ref (B + 491))] [] 0
  refine zr_aload_n C dyX12_fillsKept_0 rfl 0 rfl ?_
  refine zg_12_212 C hS dyX12_fillsKept_1 ?_
  refine zr_iconst C dyX12_fillsKept_4 zc_i_1 ?_
  refine zr_isub C dyX12_fillsKept_5 ?_
  refine zn_istore_n C (fun v1_1 => [(1, .int v1_1), (0, .ref (B + 491))]) dyX12_fillsKept_6 rfl (Nat.le_of_ble_eq_true rfl) (fun _ => rfl) (fun v1_1 ev1_1 => ?_)
  replace h := h v1_1 ev1_1
  refine zr_aload_n C dyX12_fillsKept_7 rfl 1 rfl ?_
  refine zg_12_244 C hS dyX12_fillsKept_8 ?_
  refine zr_iconst C dyX12_fillsKept_11 zc_i_1 ?_
  refine zr_isub C dyX12_fillsKept_12 ?_
  refine zn_istore_n C (fun v2_2 => [(2, .int v2_2), (1, .int v1_1), (0, .ref (B + 491))]) dyX12_fillsKept_13 rfl (Nat.le_of_ble_eq_true rfl) (fun _ => rfl) (fun v2_2 ev2_2 => ?_)
  replace h := h v2_2 ev2_2
  refine zr_iconst C dyX12_fillsKept_14 zc_i_0 ?_
  refine zr_istore_n C dyX12_fillsKept_15 rfl (Nat.le_of_ble_eq_true rfl) (lv2 := [(3, .int 0), (2, .int v2_2), (1, .int v1_1), (0, .ref (B + 491))]) rfl ?_
  refine zjn (h (fun (v3_3 : Int32) => zX p l e (zrm 1 22) s m args below meth c (MQ below (zQc D B cA (zqV S K)) args s 0 0 (fun q => B ≤ q)) D B cA 4 0 0 S I [(3, .int v3_3), (2, .int v2_2), (1, .int v1_1), (0, .ref (B + 491))] [] 16) (fun v3_3 h => ?_)) (fun h => ?_)
  · refine zr_iload_n C dyX12_fillsKept_16 rfl 0 rfl ?_
    refine zr_iload_n C dyX12_fillsKept_17 rfl 2 rfl ?_
    refine zjn (h (zX p l e (zrm 1 22) s m args below meth c (MQ below (zQc D B cA (zqV S K)) args s 0 0 (fun q => B ≤ q)) D B cA 4 0 0 S I [(3, .int v3_3), (2, .int v2_2), (1, .int v1_1), (0, .ref (B + 491))] [] 41) (fun  h => ?_)) (fun h => ?_)
    · refine zr_aload_n C dyX12_fillsKept_41 rfl 3 rfl ?_
      refine zr_iload_n C dyX12_fillsKept_42 rfl 0 rfl ?_
      refine zp_12_325 C hS dyX12_fillsKept_43 ?_
      refine zn_mem C (fun I_4 eI_4 => ?_)
      replace h := h I_4 eI_4
      refine zr_iconst C dyX12_fillsKept_46 zc_i_0 ?_
      refine zr_istore_n C dyX12_fillsKept_47 rfl (Nat.le_of_ble_eq_true rfl) (lv2 := [(3, .int 0), (2, .int v2_2), (1, .int v1_1), (0, .ref (B + 491))]) rfl ?_
      refine zjn (h (fun (v3_5 : Int32) => zX p l e (zrm 1 22) s m args below meth c (MQ below (zQc D B cA (zqV S K)) args s 0 0 (fun q => B ≤ q)) D B cA 4 0 0 S I_4 [(3, .int v3_5), (2, .int v2_2), (1, .int v1_1), (0, .ref (B + 491))] [] 48) (fun v3_5 h => ?_)) (fun h => ?_)
      · refine zr_iload_n C dyX12_fillsKept_48 rfl 0 rfl ?_
        refine zr_iload_n C dyX12_fillsKept_49 rfl 2 rfl ?_
        refine zr_aload_n C dyX12_fillsKept_50 rfl 3 rfl ?_
        refine zg_12_325 C hS dyX12_fillsKept_51 ?_
        refine zr_isub C dyX12_fillsKept_54 ?_
        refine zjn (h (zX p l e (zrm 1 22) s m args below meth c (MQ below (zQc D B cA (zqV S K)) args s 0 0 (fun q => B ≤ q)) D B cA 4 0 0 S I_4 [(3, .int v3_5), (0, .ref (B + 491))] [] 91) (fun  h => ?_)) (fun h => ?_)
        · refine zr_aload_n C dyX12_fillsKept_91 rfl 1 rfl ?_
          refine zr_iload_n C dyX12_fillsKept_92 rfl 0 rfl ?_
          refine zr_iconst C dyX12_fillsKept_93 zc_i_1 ?_
          refine zr_iadd C dyX12_fillsKept_94 ?_
          refine zp_12_328 C hS dyX12_fillsKept_95 ?_
          refine zn_mem C (fun I_6 eI_6 => ?_)
          replace h := h I_6 eI_6
          exact zr_vret C rfl dyX12_fillsKept_98 ⟨rfl, rfl, h⟩
        refine zr_icmp_ge C dyX12_fillsKept_55 (tgt := 91) (by decide) (fun hc_11 => ?_) (fun hc_11 => ?_)
        · replace h := zif_pos hc_11 h
          refine zr_sub (lv2 := [(3, .int v3_5), (0, .ref (B + 491))]) [0, 3] rfl ?_
          exact h
        · replace h := zif_neg hc_11 h
          refine zr_iload_n C dyX12_fillsKept_58 rfl 0 rfl ?_
          refine zr_iload_n C dyX12_fillsKept_59 rfl 1 rfl ?_
          refine zr_aload_n C dyX12_fillsKept_60 rfl 3 rfl ?_
          refine zg_12_325 C hS dyX12_fillsKept_61 ?_
          refine zr_isub C dyX12_fillsKept_64 ?_
          refine zr_icmp_ge C dyX12_fillsKept_65 (tgt := 91) (by decide) (fun hc_10 => ?_) (fun hc_10 => ?_)
          · replace h := zif_pos hc_10 h
            refine zr_sub (lv2 := [(3, .int v3_5), (0, .ref (B + 491))]) [0, 3] rfl ?_
            exact h
          · replace h := zif_neg hc_10 h
            refine zr_aload_n C dyX12_fillsKept_68 rfl 3 rfl ?_
            refine zr_iload_n C dyX12_fillsKept_69 rfl 2 rfl ?_
            refine zr_iconst C dyX12_fillsKept_70 zc_i_1 ?_
            refine zr_isub C dyX12_fillsKept_71 ?_
            refine zr_iload_n C dyX12_fillsKept_72 rfl 0 rfl ?_
            refine zr_isub C dyX12_fillsKept_73 ?_
            refine zr_iload_n C dyX12_fillsKept_74 rfl 1 rfl ?_
            refine zr_iconst C dyX12_fillsKept_75 zc_i_1 ?_
            refine zr_isub C dyX12_fillsKept_76 ?_
            refine zr_iload_n C dyX12_fillsKept_77 rfl 0 rfl ?_
            refine zr_isub C dyX12_fillsKept_78 ?_
            refine zv_12_321 C hS (st := []) h ⟨Nat.le_of_ble_eq_true rfl, Nat.le_of_ble_eq_true rfl⟩ (Nat.le_of_ble_eq_true rfl) dyX12_fillsKept_79 (fun r_7 h => ?_)
            refine zr_if_eq C dyX12_fillsKept_82 (tgt := 91) (by decide) (fun hc_9 => ?_) (fun hc_9 => ?_)
            · replace h := zif_pos hc_9 h
              refine zr_sub (lv2 := [(3, .int v3_5), (0, .ref (B + 491))]) [0, 3] rfl ?_
              exact h
            · replace h := zif_neg hc_9 h
              refine zn_iinc C (fun v3_8 => [(3, .int v3_8), (2, .int v2_2), (1, .int v1_1), (0, .ref (B + 491))]) dyX12_fillsKept_85 0 rfl zc_i_1 (Nat.le_of_ble_eq_true rfl) (fun _ => rfl) (fun v3_8 ev3_8 => ?_)
              replace h := h v3_8 ev3_8
              refine zr_goto C dyX12_fillsKept_88 (tgt := 48) (by decide) ?_
              exact h
      exact h
    refine zr_icmp_ge C dyX12_fillsKept_18 (tgt := 41) (by decide) (fun hc_16 => ?_) (fun hc_16 => ?_)
    · replace h := zif_pos hc_16 h
      exact h
    · replace h := zif_neg hc_16 h
      refine zr_iload_n C dyX12_fillsKept_21 rfl 0 rfl ?_
      refine zr_iload_n C dyX12_fillsKept_22 rfl 1 rfl ?_
      refine zr_icmp_ge C dyX12_fillsKept_23 (tgt := 41) (by decide) (fun hc_15 => ?_) (fun hc_15 => ?_)
      · replace h := zif_pos hc_15 h
        exact h
      · replace h := zif_neg hc_15 h
        refine zr_aload_n C dyX12_fillsKept_26 rfl 3 rfl ?_
        refine zr_iload_n C dyX12_fillsKept_27 rfl 0 rfl ?_
        refine zr_iload_n C dyX12_fillsKept_28 rfl 0 rfl ?_
        refine zv_12_321 C hS (st := []) h ⟨Nat.le_of_ble_eq_true rfl, Nat.le_of_ble_eq_true rfl⟩ (Nat.le_of_ble_eq_true rfl) dyX12_fillsKept_29 (fun r_12 h => ?_)
        refine zr_if_eq C dyX12_fillsKept_32 (tgt := 41) (by decide) (fun hc_14 => ?_) (fun hc_14 => ?_)
        · replace h := zif_pos hc_14 h
          exact h
        · replace h := zif_neg hc_14 h
          refine zn_iinc C (fun v3_13 => [(3, .int v3_13), (2, .int v2_2), (1, .int v1_1), (0, .ref (B + 491))]) dyX12_fillsKept_35 0 rfl zc_i_1 (Nat.le_of_ble_eq_true rfl) (fun _ => rfl) (fun v3_13 ev3_13 => ?_)
          replace h := h v3_13 ev3_13
          refine zr_goto C dyX12_fillsKept_38 (tgt := 16) (by decide) ?_
          exact h
  exact h
theorem zg_12_328 {p : Program} {l : Launch} {e : Env} {R : Room} {s : State} {m : MethodId} {args : Array Value} {below : List Frame} {meth : Method} {c : Code} {Q : State → Prop} {D : va_G} {B : Nat} {cA : Nat → ClassId} {ad : Nat → Nat} {cc : ByteArray} {nL : Nat} {ret : Option FieldType} {S : List zC} {I : zI} {lv : List (Nat × Value)} {st : List Value} {pc : Nat} (C : zCx p s m args meth c cc nL RX12 ret D B cA ad) (hS : zOkM S) (hd : decode cc pc = .ok (.getfield 328, 3)) (kk : zX p l e R s m args below meth c Q D B cA nL 0 0 S I lv (.int (I.1 491 67) :: st) (pc + 3)) : zX p l e R s m args below meth c Q D B cA nL 0 0 S I lv (.ref (B + 491) :: st) pc :=
  zr_geti C (ci := 12) (Cn := RX12) (T := TX12) (N := 82) (k := 491) (j := 67) (fs := [none, some (some 492), some (some 493), none, some (some 494), none, some (some 495), none, none, none, some (some 496), some (some 497), some (some 498), some (some 499), some (some 500), none, some (some 501), some (some 502), some (some 503), none, some (some 504), some (some 505), some (some 506), some (some 507), some (some 508), none, some (some 509), some (some 510), some (some 511), some (some 512), some (some 513), some (some 514), some (some 515), some (some 516), some (some 517), some (some 518), none, none, some (some 519), none, some (some 520), none, none, none, some (some 521), some (some 522), some (some 523), some (some 524), some (some 525), some (some 526), some (some 527), none, some (some 528), none, some (some 529), none, some (some 530), some (some 531), some (some 532), none, some (some 533), some (some 534), some (some 535), some (some 536), some (some 537), none, none, none, some (some 538), some (some 539), some (some 540), none, none, none, some (some 541), none, none, some (some 542), some (some 543), some (some 544), none, some (some 545)]) rfl zin_12 (Nat.le_of_ble_eq_true rfl) rfl (hS _ _ zs_491) rfl zk_fl_12_328 hd kk
def w_M_wasOf (a1 : Int32) (I : zI) (K : Int32 → Prop) : Prop :=
  (if (I.1 491 66) ≤ a1 then (if a1 < ((I.1 491 9) - (I.1 491 67)) then (K (-1)) else (K ((a1 - (I.1 491 9)) + (I.1 491 19)))) else K a1)
theorem dyX12_wasOf_0 : decode cX12_wasOf 0 = .ok (.iload_n 1, 1) := by decide +kernel
theorem dyX12_wasOf_1 : decode cX12_wasOf 1 = .ok (.aload_n 0, 1) := by decide +kernel
theorem dyX12_wasOf_2 : decode cX12_wasOf 2 = .ok (.getfield 325, 3) := by decide +kernel
theorem dyX12_wasOf_5 : decode cX12_wasOf 5 = .ok (.if_icmp .ge 5, 3) := by decide +kernel
theorem dyX12_wasOf_8 : decode cX12_wasOf 8 = .ok (.iload_n 1, 1) := by decide +kernel
theorem dyX12_wasOf_9 : decode cX12_wasOf 9 = .ok (.ireturn, 1) := by decide +kernel
theorem dyX12_wasOf_10 : decode cX12_wasOf 10 = .ok (.iload_n 1, 1) := by decide +kernel
theorem dyX12_wasOf_11 : decode cX12_wasOf 11 = .ok (.aload_n 0, 1) := by decide +kernel
theorem dyX12_wasOf_12 : decode cX12_wasOf 12 = .ok (.getfield 212, 3) := by decide +kernel
theorem dyX12_wasOf_15 : decode cX12_wasOf 15 = .ok (.aload_n 0, 1) := by decide +kernel
theorem dyX12_wasOf_16 : decode cX12_wasOf 16 = .ok (.getfield 328, 3) := by decide +kernel
theorem dyX12_wasOf_19 : decode cX12_wasOf 19 = .ok (.isub, 1) := by decide +kernel
theorem dyX12_wasOf_20 : decode cX12_wasOf 20 = .ok (.if_icmp .lt 17, 3) := by decide +kernel
theorem dyX12_wasOf_23 : decode cX12_wasOf 23 = .ok (.iload_n 1, 1) := by decide +kernel
theorem dyX12_wasOf_24 : decode cX12_wasOf 24 = .ok (.aload_n 0, 1) := by decide +kernel
theorem dyX12_wasOf_25 : decode cX12_wasOf 25 = .ok (.getfield 212, 3) := by decide +kernel
theorem dyX12_wasOf_28 : decode cX12_wasOf 28 = .ok (.isub, 1) := by decide +kernel
theorem dyX12_wasOf_29 : decode cX12_wasOf 29 = .ok (.aload_n 0, 1) := by decide +kernel
theorem dyX12_wasOf_30 : decode cX12_wasOf 30 = .ok (.getfield 244, 3) := by decide +kernel
theorem dyX12_wasOf_33 : decode cX12_wasOf 33 = .ok (.iadd, 1) := by decide +kernel
theorem dyX12_wasOf_34 : decode cX12_wasOf 34 = .ok (.goto 4, 3) := by decide +kernel
theorem dyX12_wasOf_37 : decode cX12_wasOf 37 = .ok (.iconst (-1), 1) := by decide +kernel
theorem dyX12_wasOf_38 : decode cX12_wasOf 38 = .ok (.ireturn, 1) := by decide +kernel
theorem zsg_yX12_wasOf : yX12_wasOf.cls = RX12 ∧ yX12_wasOf.cls ≠ "java/lang/invoke/MethodHandle" ∧ yX12_wasOf.cls ≠ "java/lang/invoke/VarHandle" ∧ (parseMethodDescriptor yX12_wasOf.desc).map (fun d => d.parameters.length) = some 1 := by decide +kernel
set_option maxRecDepth 20000 in
theorem c_M_wasOf {l : Launch} {D : va_G} {B : Nat} {cA : Nat → ClassId} {ad : Nat → Nat} {S : List zC} (hS : zOkM S) {a1 : Int32} {I : zI} {K : Int32 → Prop}  (h : w_M_wasOf a1 I K) : Met l yX12_wasOf (zws yX12_wasOf cX12_wasOf 2 (some .int)) (zrm 0 0) (zPc D B cA ad [.ref (B + 491), .int a1] S I) (zQc D B cA (zpI S I K)) 0 0 (fun q => B ≤ q) := by
  refine zm_of (cc := cX12_wasOf) (maxL := 2) (ret := (some .int)) (by decide +kernel) rfl (Nat.le_of_ble_eq_true rfl) trivial ?_
  intro p e s m args below meth c C _
  unfold w_M_wasOf at h
  show zX p l e (zrm 0 0) s m args below meth c (MQ below (zQc D B cA (zpI S I K)) args s 0 0 (fun q => B ≤ q)) D B cA 2 0 0 S I [(0, .ref (B + 491)), (1, .int a1)] [] 0
  refine zr_iload_n C dyX12_wasOf_0 rfl 1 rfl ?_
  refine zr_aload_n C dyX12_wasOf_1 rfl 0 rfl ?_
  refine zg_12_325 C hS dyX12_wasOf_2 ?_
  refine zr_icmp_ge C dyX12_wasOf_5 (tgt := 10) (by decide) (fun hc_2 => ?_) (fun hc_2 => ?_)
  · replace h := zif_pos hc_2 h
    refine zr_iload_n C dyX12_wasOf_10 rfl 1 rfl ?_
    refine zr_aload_n C dyX12_wasOf_11 rfl 0 rfl ?_
    refine zg_12_212 C hS dyX12_wasOf_12 ?_
    refine zr_aload_n C dyX12_wasOf_15 rfl 0 rfl ?_
    refine zg_12_328 C hS dyX12_wasOf_16 ?_
    refine zr_isub C dyX12_wasOf_19 ?_
    refine zr_icmp_lt C dyX12_wasOf_20 (tgt := 37) (by decide) (fun hc_1 => ?_) (fun hc_1 => ?_)
    · replace h := zif_pos hc_1 h
      refine zr_iconst C dyX12_wasOf_37 zc_i_m1 ?_
      exact zr_iret C rfl dyX12_wasOf_38 ⟨rfl, rfl, _, rfl, h⟩
    · replace h := zif_neg hc_1 h
      refine zr_iload_n C dyX12_wasOf_23 rfl 1 rfl ?_
      refine zr_aload_n C dyX12_wasOf_24 rfl 0 rfl ?_
      refine zg_12_212 C hS dyX12_wasOf_25 ?_
      refine zr_isub C dyX12_wasOf_28 ?_
      refine zr_aload_n C dyX12_wasOf_29 rfl 0 rfl ?_
      refine zg_12_244 C hS dyX12_wasOf_30 ?_
      refine zr_iadd C dyX12_wasOf_33 ?_
      refine zr_goto C dyX12_wasOf_34 (tgt := 38) (by decide) ?_
      exact zr_iret C rfl dyX12_wasOf_38 ⟨rfl, rfl, _, rfl, h⟩
  · replace h := zif_neg hc_2 h
    refine zr_iload_n C dyX12_wasOf_8 rfl 1 rfl ?_
    exact zr_iret C rfl dyX12_wasOf_9 ⟨rfl, rfl, _, rfl, h⟩
def w_M_areTogether (a1 : Int32) (a2 : Int32) (I : zI) (K : Int32 → Prop) : Prop :=
  (if a2 < (I.1 491 66) then K 1 else (if a1 < ((I.1 491 19) - (I.1 491 67)) then (if (I.1 491 66) ≤ a1 then K 0 else (if a2 < ((I.1 491 19) - (I.1 491 67)) then K 0 else (if (I.1 491 66) = ((I.1 491 19) - (I.1 491 67)) then (if (I.1 491 9) = (I.1 491 19) then K 1 else K 0) else K 0))) else K 1))
theorem dyX12_areTogether_0 : decode cX12_areTogether 0 = .ok (.iload_n 2, 1) := by decide +kernel
theorem dyX12_areTogether_1 : decode cX12_areTogether 1 = .ok (.aload_n 0, 1) := by decide +kernel
theorem dyX12_areTogether_2 : decode cX12_areTogether 2 = .ok (.getfield 325, 3) := by decide +kernel
theorem dyX12_areTogether_5 : decode cX12_areTogether 5 = .ok (.if_icmp .lt 16, 3) := by decide +kernel
theorem dyX12_areTogether_8 : decode cX12_areTogether 8 = .ok (.iload_n 1, 1) := by decide +kernel
theorem dyX12_areTogether_9 : decode cX12_areTogether 9 = .ok (.aload_n 0, 1) := by decide +kernel
theorem dyX12_areTogether_10 : decode cX12_areTogether 10 = .ok (.getfield 244, 3) := by decide +kernel
theorem dyX12_areTogether_13 : decode cX12_areTogether 13 = .ok (.aload_n 0, 1) := by decide +kernel
theorem dyX12_areTogether_14 : decode cX12_areTogether 14 = .ok (.getfield 328, 3) := by decide +kernel
theorem dyX12_areTogether_17 : decode cX12_areTogether 17 = .ok (.isub, 1) := by decide +kernel
theorem dyX12_areTogether_18 : decode cX12_areTogether 18 = .ok (.if_icmp .lt 5, 3) := by decide +kernel
theorem dyX12_areTogether_21 : decode cX12_areTogether 21 = .ok (.iconst 1, 1) := by decide +kernel
theorem dyX12_areTogether_22 : decode cX12_areTogether 22 = .ok (.ireturn, 1) := by decide +kernel
theorem dyX12_areTogether_23 : decode cX12_areTogether 23 = .ok (.iload_n 1, 1) := by decide +kernel
theorem dyX12_areTogether_24 : decode cX12_areTogether 24 = .ok (.aload_n 0, 1) := by decide +kernel
theorem dyX12_areTogether_25 : decode cX12_areTogether 25 = .ok (.getfield 325, 3) := by decide +kernel
theorem dyX12_areTogether_28 : decode cX12_areTogether 28 = .ok (.if_icmp .ge 47, 3) := by decide +kernel
theorem dyX12_areTogether_31 : decode cX12_areTogether 31 = .ok (.iload_n 2, 1) := by decide +kernel
theorem dyX12_areTogether_32 : decode cX12_areTogether 32 = .ok (.aload_n 0, 1) := by decide +kernel
theorem dyX12_areTogether_33 : decode cX12_areTogether 33 = .ok (.getfield 244, 3) := by decide +kernel
theorem dyX12_areTogether_36 : decode cX12_areTogether 36 = .ok (.aload_n 0, 1) := by decide +kernel
theorem dyX12_areTogether_37 : decode cX12_areTogether 37 = .ok (.getfield 328, 3) := by decide +kernel
theorem dyX12_areTogether_40 : decode cX12_areTogether 40 = .ok (.isub, 1) := by decide +kernel
theorem dyX12_areTogether_41 : decode cX12_areTogether 41 = .ok (.if_icmp .lt 34, 3) := by decide +kernel
theorem dyX12_areTogether_44 : decode cX12_areTogether 44 = .ok (.aload_n 0, 1) := by decide +kernel
theorem dyX12_areTogether_45 : decode cX12_areTogether 45 = .ok (.getfield 325, 3) := by decide +kernel
theorem dyX12_areTogether_48 : decode cX12_areTogether 48 = .ok (.aload_n 0, 1) := by decide +kernel
theorem dyX12_areTogether_49 : decode cX12_areTogether 49 = .ok (.getfield 244, 3) := by decide +kernel
theorem dyX12_areTogether_52 : decode cX12_areTogether 52 = .ok (.aload_n 0, 1) := by decide +kernel
theorem dyX12_areTogether_53 : decode cX12_areTogether 53 = .ok (.getfield 328, 3) := by decide +kernel
theorem dyX12_areTogether_56 : decode cX12_areTogether 56 = .ok (.isub, 1) := by decide +kernel
theorem dyX12_areTogether_57 : decode cX12_areTogether 57 = .ok (.if_icmp .ne 18, 3) := by decide +kernel
theorem dyX12_areTogether_60 : decode cX12_areTogether 60 = .ok (.aload_n 0, 1) := by decide +kernel
theorem dyX12_areTogether_61 : decode cX12_areTogether 61 = .ok (.getfield 212, 3) := by decide +kernel
theorem dyX12_areTogether_64 : decode cX12_areTogether 64 = .ok (.aload_n 0, 1) := by decide +kernel
theorem dyX12_areTogether_65 : decode cX12_areTogether 65 = .ok (.getfield 244, 3) := by decide +kernel
theorem dyX12_areTogether_68 : decode cX12_areTogether 68 = .ok (.if_icmp .ne 7, 3) := by decide +kernel
theorem dyX12_areTogether_71 : decode cX12_areTogether 71 = .ok (.iconst 1, 1) := by decide +kernel
theorem dyX12_areTogether_72 : decode cX12_areTogether 72 = .ok (.goto 4, 3) := by decide +kernel
theorem dyX12_areTogether_75 : decode cX12_areTogether 75 = .ok (.iconst 0, 1) := by decide +kernel
theorem dyX12_areTogether_76 : decode cX12_areTogether 76 = .ok (.ireturn, 1) := by decide +kernel
theorem zsg_yX12_areTogether : yX12_areTogether.cls = RX12 ∧ yX12_areTogether.cls ≠ "java/lang/invoke/MethodHandle" ∧ yX12_areTogether.cls ≠ "java/lang/invoke/VarHandle" ∧ (parseMethodDescriptor yX12_areTogether.desc).map (fun d => d.parameters.length) = some 2 := by decide +kernel
set_option maxRecDepth 20000 in
theorem c_M_areTogether {l : Launch} {D : va_G} {B : Nat} {cA : Nat → ClassId} {ad : Nat → Nat} {S : List zC} (hS : zOkM S) {a1 : Int32} {a2 : Int32} {I : zI} {K : Int32 → Prop}  (h : w_M_areTogether a1 a2 I K) : Met l yX12_areTogether (zws yX12_areTogether cX12_areTogether 3 (some .boolean)) (zrm 0 0) (zPc D B cA ad [.ref (B + 491), .int a1, .int a2] S I) (zQc D B cA (zpI S I K)) 0 0 (fun q => B ≤ q) := by
  refine zm_of (cc := cX12_areTogether) (maxL := 3) (ret := (some .boolean)) (by decide +kernel) rfl (Nat.le_of_ble_eq_true rfl) trivial ?_
  intro p e s m args below meth c C _
  unfold w_M_areTogether at h
  show zX p l e (zrm 0 0) s m args below meth c (MQ below (zQc D B cA (zpI S I K)) args s 0 0 (fun q => B ≤ q)) D B cA 3 0 0 S I [(0, .ref (B + 491)), (1, .int a1), (2, .int a2)] [] 0
  refine zr_iload_n C dyX12_areTogether_0 rfl 2 rfl ?_
  refine zr_aload_n C dyX12_areTogether_1 rfl 0 rfl ?_
  refine zg_12_325 C hS dyX12_areTogether_2 ?_
  refine zr_icmp_lt C dyX12_areTogether_5 (tgt := 21) (by decide) (fun hc_6 => ?_) (fun hc_6 => ?_)
  · replace h := zif_pos hc_6 h
    refine zr_iconst C dyX12_areTogether_21 zc_i_1 ?_
    exact zr_zret C rfl (zb.nar zb_1) dyX12_areTogether_22 ⟨rfl, rfl, _, rfl, h⟩
  · replace h := zif_neg hc_6 h
    refine zr_iload_n C dyX12_areTogether_8 rfl 1 rfl ?_
    refine zr_aload_n C dyX12_areTogether_9 rfl 0 rfl ?_
    refine zg_12_244 C hS dyX12_areTogether_10 ?_
    refine zr_aload_n C dyX12_areTogether_13 rfl 0 rfl ?_
    refine zg_12_328 C hS dyX12_areTogether_14 ?_
    refine zr_isub C dyX12_areTogether_17 ?_
    refine zr_icmp_lt C dyX12_areTogether_18 (tgt := 23) (by decide) (fun hc_5 => ?_) (fun hc_5 => ?_)
    · replace h := zif_pos hc_5 h
      refine zr_iload_n C dyX12_areTogether_23 rfl 1 rfl ?_
      refine zr_aload_n C dyX12_areTogether_24 rfl 0 rfl ?_
      refine zg_12_325 C hS dyX12_areTogether_25 ?_
      refine zr_icmp_ge C dyX12_areTogether_28 (tgt := 75) (by decide) (fun hc_4 => ?_) (fun hc_4 => ?_)
      · replace h := zif_pos hc_4 h
        refine zr_iconst C dyX12_areTogether_75 zc_i_0 ?_
        exact zr_zret C rfl (zb.nar zb_0) dyX12_areTogether_76 ⟨rfl, rfl, _, rfl, h⟩
      · replace h := zif_neg hc_4 h
        refine zr_iload_n C dyX12_areTogether_31 rfl 2 rfl ?_
        refine zr_aload_n C dyX12_areTogether_32 rfl 0 rfl ?_
        refine zg_12_244 C hS dyX12_areTogether_33 ?_
        refine zr_aload_n C dyX12_areTogether_36 rfl 0 rfl ?_
        refine zg_12_328 C hS dyX12_areTogether_37 ?_
        refine zr_isub C dyX12_areTogether_40 ?_
        refine zr_icmp_lt C dyX12_areTogether_41 (tgt := 75) (by decide) (fun hc_3 => ?_) (fun hc_3 => ?_)
        · replace h := zif_pos hc_3 h
          refine zr_iconst C dyX12_areTogether_75 zc_i_0 ?_
          exact zr_zret C rfl (zb.nar zb_0) dyX12_areTogether_76 ⟨rfl, rfl, _, rfl, h⟩
        · replace h := zif_neg hc_3 h
          refine zr_aload_n C dyX12_areTogether_44 rfl 0 rfl ?_
          refine zg_12_325 C hS dyX12_areTogether_45 ?_
          refine zr_aload_n C dyX12_areTogether_48 rfl 0 rfl ?_
          refine zg_12_244 C hS dyX12_areTogether_49 ?_
          refine zr_aload_n C dyX12_areTogether_52 rfl 0 rfl ?_
          refine zg_12_328 C hS dyX12_areTogether_53 ?_
          refine zr_isub C dyX12_areTogether_56 ?_
          refine zr_icmp_ne C dyX12_areTogether_57 (tgt := 75) (by decide) (fun hc_2 => ?_) (fun hc_2 => ?_)
          · replace h := zif_neg hc_2 h
            refine zr_iconst C dyX12_areTogether_75 zc_i_0 ?_
            exact zr_zret C rfl (zb.nar zb_0) dyX12_areTogether_76 ⟨rfl, rfl, _, rfl, h⟩
          · replace h := zif_pos hc_2 h
            refine zr_aload_n C dyX12_areTogether_60 rfl 0 rfl ?_
            refine zg_12_212 C hS dyX12_areTogether_61 ?_
            refine zr_aload_n C dyX12_areTogether_64 rfl 0 rfl ?_
            refine zg_12_244 C hS dyX12_areTogether_65 ?_
            refine zr_icmp_ne C dyX12_areTogether_68 (tgt := 75) (by decide) (fun hc_1 => ?_) (fun hc_1 => ?_)
            · replace h := zif_neg hc_1 h
              refine zr_iconst C dyX12_areTogether_75 zc_i_0 ?_
              exact zr_zret C rfl (zb.nar zb_0) dyX12_areTogether_76 ⟨rfl, rfl, _, rfl, h⟩
            · replace h := zif_pos hc_1 h
              refine zr_iconst C dyX12_areTogether_71 zc_i_1 ?_
              refine zr_goto C dyX12_areTogether_72 (tgt := 76) (by decide) ?_
              exact zr_zret C rfl (zb.nar zb_1) dyX12_areTogether_76 ⟨rfl, rfl, _, rfl, h⟩
    · replace h := zif_neg hc_5 h
      refine zr_iconst C dyX12_areTogether_21 zc_i_1 ?_
      exact zr_zret C rfl (zb.nar zb_1) dyX12_areTogether_22 ⟨rfl, rfl, _, rfl, h⟩
theorem zg_12_59 {p : Program} {l : Launch} {e : Env} {R : Room} {s : State} {m : MethodId} {args : Array Value} {below : List Frame} {meth : Method} {c : Code} {Q : State → Prop} {D : va_G} {B : Nat} {cA : Nat → ClassId} {ad : Nat → Nat} {cc : ByteArray} {nL : Nat} {ret : Option FieldType} {S : List zC} {I : zI} {lv : List (Nat × Value)} {st : List Value} {pc : Nat} (C : zCx p s m args meth c cc nL RX12 ret D B cA ad) (hS : zOkM S) (hd : decode cc pc = .ok (.getfield 59, 3)) (kk : zX p l e R s m args below meth c Q D B cA nL 0 0 S I lv (.ref (B + 508) :: st) (pc + 3)) : zX p l e R s m args below meth c Q D B cA nL 0 0 S I lv (.ref (B + 491) :: st) pc :=
  zr_getr C (ci := 12) (Cn := RX12) (T := TX12) (N := 82) (k := 491) (j := 24) (fs := [none, some (some 492), some (some 493), none, some (some 494), none, some (some 495), none, none, none, some (some 496), some (some 497), some (some 498), some (some 499), some (some 500), none, some (some 501), some (some 502), some (some 503), none, some (some 504), some (some 505), some (some 506), some (some 507), some (some 508), none, some (some 509), some (some 510), some (some 511), some (some 512), some (some 513), some (some 514), some (some 515), some (some 516), some (some 517), some (some 518), none, none, some (some 519), none, some (some 520), none, none, none, some (some 521), some (some 522), some (some 523), some (some 524), some (some 525), some (some 526), some (some 527), none, some (some 528), none, some (some 529), none, some (some 530), some (some 531), some (some 532), none, some (some 533), some (some 534), some (some 535), some (some 536), some (some 537), none, none, none, some (some 538), some (some 539), some (some 540), none, none, none, some (some 541), none, none, some (some 542), some (some 543), some (some 544), none, some (some 545)]) rfl zin_12 (Nat.le_of_ble_eq_true rfl) rfl (hS _ _ zs_491) rfl zk_fl_12_59 hd kk
theorem zv_12_331 {p : Program} {l : Launch} {e : Env} {R : Room} {s : State} {m : MethodId} {args : Array Value} {below : List Frame} {meth : Method} {c : Code} {Q : State → Prop} {D : va_G} {B : Nat} {cA : Nat → ClassId} {ad : Nat → Nat} {cc : ByteArray} {nL : Nat} {ret : Option FieldType} {S : List zC} {I : zI} {lv : List (Nat × Value)} {st : List Value} {pc : Nat} (C : zCx p s m args meth c cc nL RX12 ret D B cA ad) {K : Int32 → Prop} {xa1 : Int32} {xa2 : Int32} (hS : zOkM S)  (h : w_M_areTogether xa1 xa2 I K) (hR : 0 + 1 ≤ R.frames ∧ 8 + (3 + 11) + (0) ≤ R.locals) (hw : (st.map fun v => v.category).sum ≤ 8) (hd : decode cc pc = .ok (.invokevirtual 331, 3)) (kk : ∀ v, K v → zX p l e R s m args below meth c Q D B cA nL 0 0 S I lv (.int v :: st) (pc + 3)) : zX p l e R s m args below meth c Q D B cA nL 0 0 S I lv (.int xa2 :: .int xa1 :: .ref (B + 491) :: st) pc :=
  have hf : 0 ≤ R.cells ∧ 0 ≤ R.slots := ⟨Nat.zero_le _, Nat.zero_le _⟩
  zc_VpI C (ci := 12) (q := (RX12, TX12, 82)) (k := 491) (fs := [none, some (some 492), some (some 493), none, some (some 494), none, some (some 495), none, none, none, some (some 496), some (some 497), some (some 498), some (some 499), some (some 500), none, some (some 501), some (some 502), some (some 503), none, some (some 504), some (some 505), some (some 506), some (some 507), some (some 508), none, some (some 509), some (some 510), some (some 511), some (some 512), some (some 513), some (some 514), some (some 515), some (some 516), some (some 517), some (some 518), none, none, some (some 519), none, some (some 520), none, none, none, some (some 521), some (some 522), some (some 523), some (some 524), some (some 525), some (some 526), some (some 527), none, some (some 528), none, some (some 529), none, some (some 530), some (some 531), some (some 532), none, some (some 533), some (some 534), some (some 535), some (some 536), some (some 537), none, none, none, some (some 538), some (some 539), some (some 540), none, none, none, some (some 541), none, none, some (some 542), some (some 543), some (some 544), none, some (some 545)]) (As := [.int xa1, .int xa2]) (st := st) rfl (hS _ _ zs_491) (c_M_areTogether hS h) (zgV zk_ml_12_331 zk_im_yX12_areTogether zk_se_yX12_areTogether zk_in_12 zk_cd_yX12_areTogether) zsg_yX12_areTogether hR rfl rfl hw hd hf kk
def w_M_takenFor (a1 : Int32) (a2 : Int32) (I : zI) (K : Int32 → Prop) : Prop :=
  vp_in a1 110 ∧ (vp_in (I.1 508 (Int32.toNatClampNeg a1)) 3700 ∧ (∀ v4_1, v4_1 = (I.1 524 (Int32.toNatClampNeg (I.1 508 (Int32.toNatClampNeg a1)))) → ∀ (P15 : Int32 → Int32 → Prop), (∀ (v3_2 : Int32) (v4_3 : Int32), ((if v4_3 < 0 then K v3_2 else (vp_in v4_3 3700 ∧ (if (I.1 526 (Int32.toNatClampNeg v4_3)) = a1 then (vp_in v4_3 3700 ∧ (∀ (P62 : Int32 → Prop), (∀ (v3_4 : Int32), (vp_in v4_3 3700 ∧ (∀ v4_5, v4_5 = (I.1 524 (Int32.toNatClampNeg v4_3)) → P15 v3_4 v4_5)) → P62 v3_4) → (if (I.1 514 (Int32.toNatClampNeg v4_3)) = a2 then (vp_in v4_3 3700 ∧ (w_M_areTogether a1 (a1 + (I.1 515 (Int32.toNatClampNeg v4_3))) I (fun r_6 => (if r_6 = 0 then P62 v3_2 else P62 v4_3)))) else P62 v3_2))) else K v3_2)))) → P15 v3_2 v4_3) → P15 (-1) v4_1))
theorem dyX12_takenFor_0 : decode cX12_takenFor 0 = .ok (.iconst (-1), 1) := by decide +kernel
theorem dyX12_takenFor_1 : decode cX12_takenFor 1 = .ok (.istore_n 3, 1) := by decide +kernel
theorem dyX12_takenFor_2 : decode cX12_takenFor 2 = .ok (.aload_n 0, 1) := by decide +kernel
theorem dyX12_takenFor_3 : decode cX12_takenFor 3 = .ok (.getfield 108, 3) := by decide +kernel
theorem dyX12_takenFor_6 : decode cX12_takenFor 6 = .ok (.aload_n 0, 1) := by decide +kernel
theorem dyX12_takenFor_7 : decode cX12_takenFor 7 = .ok (.getfield 59, 3) := by decide +kernel
theorem dyX12_takenFor_10 : decode cX12_takenFor 10 = .ok (.iload_n 1, 1) := by decide +kernel
theorem dyX12_takenFor_11 : decode cX12_takenFor 11 = .ok (.iaload, 1) := by decide +kernel
theorem dyX12_takenFor_12 : decode cX12_takenFor 12 = .ok (.iaload, 1) := by decide +kernel
theorem dyX12_takenFor_13 : decode cX12_takenFor 13 = .ok (.istore 4, 2) := by decide +kernel
theorem dyX12_takenFor_15 : decode cX12_takenFor 15 = .ok (.iload 4, 2) := by decide +kernel
theorem dyX12_takenFor_17 : decode cX12_takenFor 17 = .ok (.ifCond .lt 57, 3) := by decide +kernel
theorem dyX12_takenFor_20 : decode cX12_takenFor 20 = .ok (.aload_n 0, 1) := by decide +kernel
theorem dyX12_takenFor_21 : decode cX12_takenFor 21 = .ok (.getfield 114, 3) := by decide +kernel
theorem dyX12_takenFor_24 : decode cX12_takenFor 24 = .ok (.iload 4, 2) := by decide +kernel
theorem dyX12_takenFor_26 : decode cX12_takenFor 26 = .ok (.iaload, 1) := by decide +kernel
theorem dyX12_takenFor_27 : decode cX12_takenFor 27 = .ok (.iload_n 1, 1) := by decide +kernel
theorem dyX12_takenFor_28 : decode cX12_takenFor 28 = .ok (.if_icmp .ne 46, 3) := by decide +kernel
theorem dyX12_takenFor_31 : decode cX12_takenFor 31 = .ok (.aload_n 0, 1) := by decide +kernel
theorem dyX12_takenFor_32 : decode cX12_takenFor 32 = .ok (.getfield 77, 3) := by decide +kernel
theorem dyX12_takenFor_35 : decode cX12_takenFor 35 = .ok (.iload 4, 2) := by decide +kernel
theorem dyX12_takenFor_37 : decode cX12_takenFor 37 = .ok (.iaload, 1) := by decide +kernel
theorem dyX12_takenFor_38 : decode cX12_takenFor 38 = .ok (.iload_n 2, 1) := by decide +kernel
theorem dyX12_takenFor_39 : decode cX12_takenFor 39 = .ok (.if_icmp .ne 23, 3) := by decide +kernel
theorem dyX12_takenFor_42 : decode cX12_takenFor 42 = .ok (.aload_n 0, 1) := by decide +kernel
theorem dyX12_takenFor_43 : decode cX12_takenFor 43 = .ok (.iload_n 1, 1) := by decide +kernel
theorem dyX12_takenFor_44 : decode cX12_takenFor 44 = .ok (.iload_n 1, 1) := by decide +kernel
theorem dyX12_takenFor_45 : decode cX12_takenFor 45 = .ok (.aload_n 0, 1) := by decide +kernel
theorem dyX12_takenFor_46 : decode cX12_takenFor 46 = .ok (.getfield 80, 3) := by decide +kernel
theorem dyX12_takenFor_49 : decode cX12_takenFor 49 = .ok (.iload 4, 2) := by decide +kernel
theorem dyX12_takenFor_51 : decode cX12_takenFor 51 = .ok (.iaload, 1) := by decide +kernel
theorem dyX12_takenFor_52 : decode cX12_takenFor 52 = .ok (.iadd, 1) := by decide +kernel
theorem dyX12_takenFor_53 : decode cX12_takenFor 53 = .ok (.invokevirtual 331, 3) := by decide +kernel
theorem dyX12_takenFor_56 : decode cX12_takenFor 56 = .ok (.ifCond .eq 6, 3) := by decide +kernel
theorem dyX12_takenFor_59 : decode cX12_takenFor 59 = .ok (.iload 4, 2) := by decide +kernel
theorem dyX12_takenFor_61 : decode cX12_takenFor 61 = .ok (.istore_n 3, 1) := by decide +kernel
theorem dyX12_takenFor_62 : decode cX12_takenFor 62 = .ok (.aload_n 0, 1) := by decide +kernel
theorem dyX12_takenFor_63 : decode cX12_takenFor 63 = .ok (.getfield 108, 3) := by decide +kernel
theorem dyX12_takenFor_66 : decode cX12_takenFor 66 = .ok (.iload 4, 2) := by decide +kernel
theorem dyX12_takenFor_68 : decode cX12_takenFor 68 = .ok (.iaload, 1) := by decide +kernel
theorem dyX12_takenFor_69 : decode cX12_takenFor 69 = .ok (.istore 4, 2) := by decide +kernel
theorem dyX12_takenFor_71 : decode cX12_takenFor 71 = .ok (.goto (-56), 3) := by decide +kernel
theorem dyX12_takenFor_74 : decode cX12_takenFor 74 = .ok (.iload_n 3, 1) := by decide +kernel
theorem dyX12_takenFor_75 : decode cX12_takenFor 75 = .ok (.ireturn, 1) := by decide +kernel
theorem zsg_yX12_takenFor : yX12_takenFor.cls = RX12 ∧ yX12_takenFor.cls ≠ "java/lang/invoke/MethodHandle" ∧ yX12_takenFor.cls ≠ "java/lang/invoke/VarHandle" ∧ (parseMethodDescriptor yX12_takenFor.desc).map (fun d => d.parameters.length) = some 2 := by decide +kernel
set_option maxRecDepth 20000 in
theorem c_M_takenFor {l : Launch} {D : va_G} {B : Nat} {cA : Nat → ClassId} {ad : Nat → Nat} {S : List zC} (hS : zOkM S) {a1 : Int32} {a2 : Int32} {I : zI} {K : Int32 → Prop}  (h : w_M_takenFor a1 a2 I K) : Met l yX12_takenFor (zws yX12_takenFor cX12_takenFor 5 (some .int)) (zrm 1 22) (zPc D B cA ad [.ref (B + 491), .int a1, .int a2] S I) (zQc D B cA (zpI S I K)) 0 0 (fun q => B ≤ q) := by
  refine zm_of (cc := cX12_takenFor) (maxL := 5) (ret := (some .int)) (by decide +kernel) rfl (Nat.le_of_ble_eq_true rfl) trivial ?_
  intro p e s m args below meth c C _
  unfold w_M_takenFor at h
  show zX p l e (zrm 1 22) s m args below meth c (MQ below (zQc D B cA (zpI S I K)) args s 0 0 (fun q => B ≤ q)) D B cA 5 0 0 S I [(0, .ref (B + 491)), (1, .int a1), (2, .int a2)] [] 0
  refine zr_iconst C dyX12_takenFor_0 zc_i_m1 ?_
  refine zr_istore_n C dyX12_takenFor_1 rfl (Nat.le_of_ble_eq_true rfl) (lv2 := [(3, .int (-1)), (0, .ref (B + 491)), (1, .int a1), (2, .int a2)]) rfl ?_
  refine zr_aload_n C dyX12_takenFor_2 rfl 1 rfl ?_
  refine zg_12_108 C hS dyX12_takenFor_3 ?_
  refine zr_aload_n C dyX12_takenFor_6 rfl 1 rfl ?_
  refine zg_12_59 C hS dyX12_takenFor_7 ?_
  refine zr_iload_n C dyX12_takenFor_10 rfl 2 rfl ?_
  refine zr_iald C (hS _ _ zs_508) h.1 dyX12_takenFor_11 ?_
  replace h := h.2
  refine zr_iald C (hS _ _ zs_524) h.1 dyX12_takenFor_12 ?_
  replace h := h.2
  refine zn_istore C (fun v4_1 => [(4, .int v4_1), (3, .int (-1)), (0, .ref (B + 491)), (1, .int a1), (2, .int a2)]) dyX12_takenFor_13 (Nat.le_of_ble_eq_true rfl) (fun _ => rfl) (fun v4_1 ev4_1 => ?_)
  replace h := h v4_1 ev4_1
  refine zjn (h (fun (v3_2 : Int32) (v4_3 : Int32) => zX p l e (zrm 1 22) s m args below meth c (MQ below (zQc D B cA (zpI S I K)) args s 0 0 (fun q => B ≤ q)) D B cA 5 0 0 S I [(4, .int v4_3), (3, .int v3_2), (0, .ref (B + 491)), (1, .int a1), (2, .int a2)] [] 15) (fun v3_2 v4_3 h => ?_)) (fun h => ?_)
  · refine zr_iload C dyX12_takenFor_15 0 rfl ?_
    refine zr_if_lt C dyX12_takenFor_17 (tgt := 74) (by decide) (fun hc_10 => ?_) (fun hc_10 => ?_)
    · replace h := zif_pos hc_10 h
      refine zr_iload_n C dyX12_takenFor_74 rfl 1 rfl ?_
      exact zr_iret C rfl dyX12_takenFor_75 ⟨rfl, rfl, _, rfl, h⟩
    · replace h := zif_neg hc_10 h
      refine zr_aload_n C dyX12_takenFor_20 rfl 2 rfl ?_
      refine zg_12_114 C hS dyX12_takenFor_21 ?_
      refine zr_iload C dyX12_takenFor_24 0 rfl ?_
      refine zr_iald C (hS _ _ zs_526) h.1 dyX12_takenFor_26 ?_
      replace h := h.2
      refine zr_iload_n C dyX12_takenFor_27 rfl 3 rfl ?_
      refine zr_icmp_ne C dyX12_takenFor_28 (tgt := 74) (by decide) (fun hc_9 => ?_) (fun hc_9 => ?_)
      · replace h := zif_neg hc_9 h
        refine zr_iload_n C dyX12_takenFor_74 rfl 1 rfl ?_
        exact zr_iret C rfl dyX12_takenFor_75 ⟨rfl, rfl, _, rfl, h⟩
      · replace h := zif_pos hc_9 h
        refine zr_aload_n C dyX12_takenFor_31 rfl 2 rfl ?_
        refine zg_12_77 C hS dyX12_takenFor_32 ?_
        refine zr_iload C dyX12_takenFor_35 0 rfl ?_
        refine zr_iald C (hS _ _ zs_514) h.1 dyX12_takenFor_37 ?_
        replace h := h.2
        refine zr_iload_n C dyX12_takenFor_38 rfl 4 rfl ?_
        refine zjn (h (fun (v3_4 : Int32) => zX p l e (zrm 1 22) s m args below meth c (MQ below (zQc D B cA (zpI S I K)) args s 0 0 (fun q => B ≤ q)) D B cA 5 0 0 S I [(4, .int v4_3), (3, .int v3_4), (0, .ref (B + 491)), (1, .int a1), (2, .int a2)] [] 62) (fun v3_4 h => ?_)) (fun h => ?_)
        · refine zr_aload_n C dyX12_takenFor_62 rfl 2 rfl ?_
          refine zg_12_108 C hS dyX12_takenFor_63 ?_
          refine zr_iload C dyX12_takenFor_66 0 rfl ?_
          refine zr_iald C (hS _ _ zs_524) h.1 dyX12_takenFor_68 ?_
          replace h := h.2
          refine zn_istore C (fun v4_5 => [(4, .int v4_5), (3, .int v3_4), (0, .ref (B + 491)), (1, .int a1), (2, .int a2)]) dyX12_takenFor_69 (Nat.le_of_ble_eq_true rfl) (fun _ => rfl) (fun v4_5 ev4_5 => ?_)
          replace h := h v4_5 ev4_5
          refine zr_goto C dyX12_takenFor_71 (tgt := 15) (by decide) ?_
          exact h
        refine zr_icmp_ne C dyX12_takenFor_39 (tgt := 62) (by decide) (fun hc_8 => ?_) (fun hc_8 => ?_)
        · replace h := zif_neg hc_8 h
          exact h
        · replace h := zif_pos hc_8 h
          refine zr_aload_n C dyX12_takenFor_42 rfl 2 rfl ?_
          refine zr_iload_n C dyX12_takenFor_43 rfl 3 rfl ?_
          refine zr_iload_n C dyX12_takenFor_44 rfl 3 rfl ?_
          refine zr_aload_n C dyX12_takenFor_45 rfl 2 rfl ?_
          refine zg_12_80 C hS dyX12_takenFor_46 ?_
          refine zr_iload C dyX12_takenFor_49 0 rfl ?_
          refine zr_iald C (hS _ _ zs_515) h.1 dyX12_takenFor_51 ?_
          replace h := h.2
          refine zr_iadd C dyX12_takenFor_52 ?_
          refine zv_12_331 C hS (st := []) h ⟨Nat.le_of_ble_eq_true rfl, Nat.le_of_ble_eq_true rfl⟩ (Nat.le_of_ble_eq_true rfl) dyX12_takenFor_53 (fun r_6 h => ?_)
          refine zr_if_eq C dyX12_takenFor_56 (tgt := 62) (by decide) (fun hc_7 => ?_) (fun hc_7 => ?_)
          · replace h := zif_pos hc_7 h
            exact h
          · replace h := zif_neg hc_7 h
            refine zr_iload C dyX12_takenFor_59 0 rfl ?_
            refine zr_istore_n C dyX12_takenFor_61 rfl (Nat.le_of_ble_eq_true rfl) (lv2 := [(3, .int v4_3), (4, .int v4_3), (0, .ref (B + 491)), (1, .int a1), (2, .int a2)]) rfl ?_
            refine zr_sub (lv2 := [(4, .int v4_3), (3, .int v4_3), (0, .ref (B + 491)), (1, .int a1), (2, .int a2)]) [1, 0, 2, 3, 4] rfl ?_
            exact h
  exact h
theorem zg_12_156 {p : Program} {l : Launch} {e : Env} {R : Room} {s : State} {m : MethodId} {args : Array Value} {below : List Frame} {meth : Method} {c : Code} {Q : State → Prop} {D : va_G} {B : Nat} {cA : Nat → ClassId} {ad : Nat → Nat} {cc : ByteArray} {nL : Nat} {ret : Option FieldType} {S : List zC} {I : zI} {lv : List (Nat × Value)} {st : List Value} {pc : Nat} (C : zCx p s m args meth c cc nL RX12 ret D B cA ad) (hS : zOkM S) (hd : decode cc pc = .ok (.getfield 156, 3)) (kk : zX p l e R s m args below meth c Q D B cA nL 0 0 S I lv (.ref (B + 540) :: st) (pc + 3)) : zX p l e R s m args below meth c Q D B cA nL 0 0 S I lv (.ref (B + 491) :: st) pc :=
  zr_getr C (ci := 12) (Cn := RX12) (T := TX12) (N := 82) (k := 491) (j := 70) (fs := [none, some (some 492), some (some 493), none, some (some 494), none, some (some 495), none, none, none, some (some 496), some (some 497), some (some 498), some (some 499), some (some 500), none, some (some 501), some (some 502), some (some 503), none, some (some 504), some (some 505), some (some 506), some (some 507), some (some 508), none, some (some 509), some (some 510), some (some 511), some (some 512), some (some 513), some (some 514), some (some 515), some (some 516), some (some 517), some (some 518), none, none, some (some 519), none, some (some 520), none, none, none, some (some 521), some (some 522), some (some 523), some (some 524), some (some 525), some (some 526), some (some 527), none, some (some 528), none, some (some 529), none, some (some 530), some (some 531), some (some 532), none, some (some 533), some (some 534), some (some 535), some (some 536), some (some 537), none, none, none, some (some 538), some (some 539), some (some 540), none, none, none, some (some 541), none, none, some (some 542), some (some 543), some (some 544), none, some (some 545)]) rfl zin_12 (Nat.le_of_ble_eq_true rfl) rfl (hS _ _ zs_491) rfl zk_fl_12_156 hd kk
theorem zg_12_334 {p : Program} {l : Launch} {e : Env} {R : Room} {s : State} {m : MethodId} {args : Array Value} {below : List Frame} {meth : Method} {c : Code} {Q : State → Prop} {D : va_G} {B : Nat} {cA : Nat → ClassId} {ad : Nat → Nat} {cc : ByteArray} {nL : Nat} {ret : Option FieldType} {S : List zC} {I : zI} {lv : List (Nat × Value)} {st : List Value} {pc : Nat} (C : zCx p s m args meth c cc nL RX12 ret D B cA ad) (hS : zOkM S) (hd : decode cc pc = .ok (.getfield 334, 3)) (kk : zX p l e R s m args below meth c Q D B cA nL 0 0 S I lv (.int (I.1 491 71) :: st) (pc + 3)) : zX p l e R s m args below meth c Q D B cA nL 0 0 S I lv (.ref (B + 491) :: st) pc :=
  zr_geti C (ci := 12) (Cn := RX12) (T := TX12) (N := 82) (k := 491) (j := 71) (fs := [none, some (some 492), some (some 493), none, some (some 494), none, some (some 495), none, none, none, some (some 496), some (some 497), some (some 498), some (some 499), some (some 500), none, some (some 501), some (some 502), some (some 503), none, some (some 504), some (some 505), some (some 506), some (some 507), some (some 508), none, some (some 509), some (some 510), some (some 511), some (some 512), some (some 513), some (some 514), some (some 515), some (some 516), some (some 517), some (some 518), none, none, some (some 519), none, some (some 520), none, none, none, some (some 521), some (some 522), some (some 523), some (some 524), some (some 525), some (some 526), some (some 527), none, some (some 528), none, some (some 529), none, some (some 530), some (some 531), some (some 532), none, some (some 533), some (some 534), some (some 535), some (some 536), some (some 537), none, none, none, some (some 538), some (some 539), some (some 540), none, none, none, some (some 541), none, none, some (some 542), some (some 543), some (some 544), none, some (some 545)]) rfl zin_12 (Nat.le_of_ble_eq_true rfl) rfl (hS _ _ zs_491) rfl zk_fl_12_334 hd kk
theorem zg_12_153 {p : Program} {l : Launch} {e : Env} {R : Room} {s : State} {m : MethodId} {args : Array Value} {below : List Frame} {meth : Method} {c : Code} {Q : State → Prop} {D : va_G} {B : Nat} {cA : Nat → ClassId} {ad : Nat → Nat} {cc : ByteArray} {nL : Nat} {ret : Option FieldType} {S : List zC} {I : zI} {lv : List (Nat × Value)} {st : List Value} {pc : Nat} (C : zCx p s m args meth c cc nL RX12 ret D B cA ad) (hS : zOkM S) (hd : decode cc pc = .ok (.getfield 153, 3)) (kk : zX p l e R s m args below meth c Q D B cA nL 0 0 S I lv (.ref (B + 539) :: st) (pc + 3)) : zX p l e R s m args below meth c Q D B cA nL 0 0 S I lv (.ref (B + 491) :: st) pc :=
  zr_getr C (ci := 12) (Cn := RX12) (T := TX12) (N := 82) (k := 491) (j := 69) (fs := [none, some (some 492), some (some 493), none, some (some 494), none, some (some 495), none, none, none, some (some 496), some (some 497), some (some 498), some (some 499), some (some 500), none, some (some 501), some (some 502), some (some 503), none, some (some 504), some (some 505), some (some 506), some (some 507), some (some 508), none, some (some 509), some (some 510), some (some 511), some (some 512), some (some 513), some (some 514), some (some 515), some (some 516), some (some 517), some (some 518), none, none, some (some 519), none, some (some 520), none, none, none, some (some 521), some (some 522), some (some 523), some (some 524), some (some 525), some (some 526), some (some 527), none, some (some 528), none, some (some 529), none, some (some 530), some (some 531), some (some 532), none, some (some 533), some (some 534), some (some 535), some (some 536), some (some 537), none, none, none, some (some 538), some (some 539), some (some 540), none, none, none, some (some 541), none, none, some (some 542), some (some 543), some (some 544), none, some (some 545)]) rfl zin_12 (Nat.le_of_ble_eq_true rfl) rfl (hS _ _ zs_491) rfl zk_fl_12_153 hd kk
theorem zp_12_334 {p : Program} {l : Launch} {e : Env} {R : Room} {s : State} {m : MethodId} {args : Array Value} {below : List Frame} {meth : Method} {c : Code} {Q : State → Prop} {D : va_G} {B : Nat} {cA : Nat → ClassId} {ad : Nat → Nat} {cc : ByteArray} {nL : Nat} {ret : Option FieldType} {S : List zC} {I : zI} {lv : List (Nat × Value)} {st : List Value} {pc : Nat} (C : zCx p s m args meth c cc nL RX12 ret D B cA ad) (hS : zOkM S) {v : Int32} (hd : decode cc pc = .ok (.putfield 334, 3)) (kk : zX p l e R s m args below meth c Q D B cA nL 0 0 S (zu I 491 71 v) lv st (pc + 3)) : zX p l e R s m args below meth c Q D B cA nL 0 0 S I lv (.int v :: .ref (B + 491) :: st) pc :=
  zr_puti C (ci := 12) (Cn := RX12) (T := TX12) (N := 82) (k := 491) (j := 71) (fs := [none, some (some 492), some (some 493), none, some (some 494), none, some (some 495), none, none, none, some (some 496), some (some 497), some (some 498), some (some 499), some (some 500), none, some (some 501), some (some 502), some (some 503), none, some (some 504), some (some 505), some (some 506), some (some 507), some (some 508), none, some (some 509), some (some 510), some (some 511), some (some 512), some (some 513), some (some 514), some (some 515), some (some 516), some (some 517), some (some 518), none, none, some (some 519), none, some (some 520), none, none, none, some (some 521), some (some 522), some (some 523), some (some 524), some (some 525), some (some 526), some (some 527), none, some (some 528), none, some (some 529), none, some (some 530), some (some 531), some (some 532), none, some (some 533), some (some 534), some (some 535), some (some 536), some (some 537), none, none, none, some (some 538), some (some 539), some (some 540), none, none, none, some (some 541), none, none, some (some 542), some (some 543), some (some 544), none, some (some 545)]) rfl zin_12 (Nat.le_of_ble_eq_true rfl) rfl (hS _ _ zs_491) rfl tyX12 tyX12_ok nmX12 (ty := .int) zpd_I rfl rfl rfl zk_fl_12_334 hd kk
theorem zg_12_337 {p : Program} {l : Launch} {e : Env} {R : Room} {s : State} {m : MethodId} {args : Array Value} {below : List Frame} {meth : Method} {c : Code} {Q : State → Prop} {D : va_G} {B : Nat} {cA : Nat → ClassId} {ad : Nat → Nat} {cc : ByteArray} {nL : Nat} {ret : Option FieldType} {S : List zC} {I : zI} {lv : List (Nat × Value)} {st : List Value} {pc : Nat} (C : zCx p s m args meth c cc nL RX12 ret D B cA ad) (hS : zOkM S) (hd : decode cc pc = .ok (.getfield 337, 3)) (kk : zX p l e R s m args below meth c Q D B cA nL 0 0 S I lv (.int (I.1 491 72) :: st) (pc + 3)) : zX p l e R s m args below meth c Q D B cA nL 0 0 S I lv (.ref (B + 491) :: st) pc :=
  zr_geti C (ci := 12) (Cn := RX12) (T := TX12) (N := 82) (k := 491) (j := 72) (fs := [none, some (some 492), some (some 493), none, some (some 494), none, some (some 495), none, none, none, some (some 496), some (some 497), some (some 498), some (some 499), some (some 500), none, some (some 501), some (some 502), some (some 503), none, some (some 504), some (some 505), some (some 506), some (some 507), some (some 508), none, some (some 509), some (some 510), some (some 511), some (some 512), some (some 513), some (some 514), some (some 515), some (some 516), some (some 517), some (some 518), none, none, some (some 519), none, some (some 520), none, none, none, some (some 521), some (some 522), some (some 523), some (some 524), some (some 525), some (some 526), some (some 527), none, some (some 528), none, some (some 529), none, some (some 530), some (some 531), some (some 532), none, some (some 533), some (some 534), some (some 535), some (some 536), some (some 537), none, none, none, some (some 538), some (some 539), some (some 540), none, none, none, some (some 541), none, none, some (some 542), some (some 543), some (some 544), none, some (some 545)]) rfl zin_12 (Nat.le_of_ble_eq_true rfl) rfl (hS _ _ zs_491) rfl zk_fl_12_337 hd kk
theorem zp_12_337 {p : Program} {l : Launch} {e : Env} {R : Room} {s : State} {m : MethodId} {args : Array Value} {below : List Frame} {meth : Method} {c : Code} {Q : State → Prop} {D : va_G} {B : Nat} {cA : Nat → ClassId} {ad : Nat → Nat} {cc : ByteArray} {nL : Nat} {ret : Option FieldType} {S : List zC} {I : zI} {lv : List (Nat × Value)} {st : List Value} {pc : Nat} (C : zCx p s m args meth c cc nL RX12 ret D B cA ad) (hS : zOkM S) {v : Int32} (hd : decode cc pc = .ok (.putfield 337, 3)) (kk : zX p l e R s m args below meth c Q D B cA nL 0 0 S (zu I 491 72 v) lv st (pc + 3)) : zX p l e R s m args below meth c Q D B cA nL 0 0 S I lv (.int v :: .ref (B + 491) :: st) pc :=
  zr_puti C (ci := 12) (Cn := RX12) (T := TX12) (N := 82) (k := 491) (j := 72) (fs := [none, some (some 492), some (some 493), none, some (some 494), none, some (some 495), none, none, none, some (some 496), some (some 497), some (some 498), some (some 499), some (some 500), none, some (some 501), some (some 502), some (some 503), none, some (some 504), some (some 505), some (some 506), some (some 507), some (some 508), none, some (some 509), some (some 510), some (some 511), some (some 512), some (some 513), some (some 514), some (some 515), some (some 516), some (some 517), some (some 518), none, none, some (some 519), none, some (some 520), none, none, none, some (some 521), some (some 522), some (some 523), some (some 524), some (some 525), some (some 526), some (some 527), none, some (some 528), none, some (some 529), none, some (some 530), some (some 531), some (some 532), none, some (some 533), some (some 534), some (some 535), some (some 536), some (some 537), none, none, none, some (some 538), some (some 539), some (some 540), none, none, none, some (some 541), none, none, some (some 542), some (some 543), some (some 544), none, some (some 545)]) rfl zin_12 (Nat.le_of_ble_eq_true rfl) rfl (hS _ _ zs_491) rfl tyX12 tyX12_ok nmX12 (ty := .int) zpd_I rfl rfl rfl zk_fl_12_337 hd kk
def w_M_laysOn (a1 : Int32) (a2 : Int32) (I : zI) (K : zI → Prop) : Prop :=
  vp_in (I.1 491 71) 400 ∧ (∀ I_1, I_1 = (zu I 540 (Int32.toNatClampNeg (I.1 491 71)) a1) → vp_in (I_1.1 491 71) 400 ∧ (∀ I_2, I_2 = (zu I_1 539 (Int32.toNatClampNeg (I_1.1 491 71)) a2) → ∀ I_3, I_3 = (zu I_2 491 71 ((I_2.1 491 71) + 1)) → ∀ I_4, I_4 = (zu I_3 491 72 ((I_3.1 491 72) + 1)) → K I_4))
theorem dyX12_laysOn_0 : decode cX12_laysOn 0 = .ok (.aload_n 0, 1) := by decide +kernel
theorem dyX12_laysOn_1 : decode cX12_laysOn 1 = .ok (.getfield 156, 3) := by decide +kernel
theorem dyX12_laysOn_4 : decode cX12_laysOn 4 = .ok (.aload_n 0, 1) := by decide +kernel
theorem dyX12_laysOn_5 : decode cX12_laysOn 5 = .ok (.getfield 334, 3) := by decide +kernel
theorem dyX12_laysOn_8 : decode cX12_laysOn 8 = .ok (.iload_n 1, 1) := by decide +kernel
theorem dyX12_laysOn_9 : decode cX12_laysOn 9 = .ok (.iastore, 1) := by decide +kernel
theorem dyX12_laysOn_10 : decode cX12_laysOn 10 = .ok (.aload_n 0, 1) := by decide +kernel
theorem dyX12_laysOn_11 : decode cX12_laysOn 11 = .ok (.getfield 153, 3) := by decide +kernel
theorem dyX12_laysOn_14 : decode cX12_laysOn 14 = .ok (.aload_n 0, 1) := by decide +kernel
theorem dyX12_laysOn_15 : decode cX12_laysOn 15 = .ok (.getfield 334, 3) := by decide +kernel
theorem dyX12_laysOn_18 : decode cX12_laysOn 18 = .ok (.iload_n 2, 1) := by decide +kernel
theorem dyX12_laysOn_19 : decode cX12_laysOn 19 = .ok (.iastore, 1) := by decide +kernel
theorem dyX12_laysOn_20 : decode cX12_laysOn 20 = .ok (.aload_n 0, 1) := by decide +kernel
theorem dyX12_laysOn_21 : decode cX12_laysOn 21 = .ok (.dup, 1) := by decide +kernel
theorem dyX12_laysOn_22 : decode cX12_laysOn 22 = .ok (.getfield 334, 3) := by decide +kernel
theorem dyX12_laysOn_25 : decode cX12_laysOn 25 = .ok (.iconst 1, 1) := by decide +kernel
theorem dyX12_laysOn_26 : decode cX12_laysOn 26 = .ok (.iadd, 1) := by decide +kernel
theorem dyX12_laysOn_27 : decode cX12_laysOn 27 = .ok (.putfield 334, 3) := by decide +kernel
theorem dyX12_laysOn_30 : decode cX12_laysOn 30 = .ok (.aload_n 0, 1) := by decide +kernel
theorem dyX12_laysOn_31 : decode cX12_laysOn 31 = .ok (.dup, 1) := by decide +kernel
theorem dyX12_laysOn_32 : decode cX12_laysOn 32 = .ok (.getfield 337, 3) := by decide +kernel
theorem dyX12_laysOn_35 : decode cX12_laysOn 35 = .ok (.iconst 1, 1) := by decide +kernel
theorem dyX12_laysOn_36 : decode cX12_laysOn 36 = .ok (.iadd, 1) := by decide +kernel
theorem dyX12_laysOn_37 : decode cX12_laysOn 37 = .ok (.putfield 337, 3) := by decide +kernel
theorem dyX12_laysOn_40 : decode cX12_laysOn 40 = .ok (.return_, 1) := by decide +kernel
theorem zsg_yX12_laysOn : yX12_laysOn.cls = RX12 ∧ yX12_laysOn.cls ≠ "java/lang/invoke/MethodHandle" ∧ yX12_laysOn.cls ≠ "java/lang/invoke/VarHandle" ∧ (parseMethodDescriptor yX12_laysOn.desc).map (fun d => d.parameters.length) = some 2 := by decide +kernel
set_option maxRecDepth 20000 in
theorem c_M_laysOn {l : Launch} {D : va_G} {B : Nat} {cA : Nat → ClassId} {ad : Nat → Nat} {S : List zC} (hS : zOkM S) {a1 : Int32} {a2 : Int32} {I : zI} {K : zI → Prop}  (h : w_M_laysOn a1 a2 I K) : Met l yX12_laysOn (zws yX12_laysOn cX12_laysOn 3 none) (zrm 0 0) (zPc D B cA ad [.ref (B + 491), .int a1, .int a2] S I) (zQc D B cA (zqV S K)) 0 0 (fun q => B ≤ q) := by
  refine zm_of (cc := cX12_laysOn) (maxL := 3) (ret := none) (by decide +kernel) rfl (Nat.le_of_ble_eq_true rfl) trivial ?_
  intro p e s m args below meth c C _
  unfold w_M_laysOn at h
  show zX p l e (zrm 0 0) s m args below meth c (MQ below (zQc D B cA (zqV S K)) args s 0 0 (fun q => B ≤ q)) D B cA 3 0 0 S I [(0, .ref (B + 491)), (1, .int a1), (2, .int a2)] [] 0
  refine zr_aload_n C dyX12_laysOn_0 rfl 0 rfl ?_
  refine zg_12_156 C hS dyX12_laysOn_1 ?_
  refine zr_aload_n C dyX12_laysOn_4 rfl 0 rfl ?_
  refine zg_12_334 C hS dyX12_laysOn_5 ?_
  refine zr_iload_n C dyX12_laysOn_8 rfl 1 rfl ?_
  refine zr_iast C (hS _ _ zs_540) h.1 dyX12_laysOn_9 ?_
  replace h := h.2
  refine zn_mem C (fun I_1 eI_1 => ?_)
  replace h := h I_1 eI_1
  refine zr_aload_n C dyX12_laysOn_10 rfl 0 rfl ?_
  refine zg_12_153 C hS dyX12_laysOn_11 ?_
  refine zr_aload_n C dyX12_laysOn_14 rfl 0 rfl ?_
  refine zg_12_334 C hS dyX12_laysOn_15 ?_
  refine zr_iload_n C dyX12_laysOn_18 rfl 2 rfl ?_
  refine zr_iast C (hS _ _ zs_539) h.1 dyX12_laysOn_19 ?_
  replace h := h.2
  refine zn_mem C (fun I_2 eI_2 => ?_)
  replace h := h I_2 eI_2
  refine zr_aload_n C dyX12_laysOn_20 rfl 0 rfl ?_
  refine zr_dup C dyX12_laysOn_21 rfl ?_
  refine zg_12_334 C hS dyX12_laysOn_22 ?_
  refine zr_iconst C dyX12_laysOn_25 zc_i_1 ?_
  refine zr_iadd C dyX12_laysOn_26 ?_
  refine zp_12_334 C hS dyX12_laysOn_27 ?_
  refine zn_mem C (fun I_3 eI_3 => ?_)
  replace h := h I_3 eI_3
  refine zr_aload_n C dyX12_laysOn_30 rfl 0 rfl ?_
  refine zr_dup C dyX12_laysOn_31 rfl ?_
  refine zg_12_337 C hS dyX12_laysOn_32 ?_
  refine zr_iconst C dyX12_laysOn_35 zc_i_1 ?_
  refine zr_iadd C dyX12_laysOn_36 ?_
  refine zp_12_337 C hS dyX12_laysOn_37 ?_
  refine zn_mem C (fun I_4 eI_4 => ?_)
  replace h := h I_4 eI_4
  exact zr_vret C rfl dyX12_laysOn_40 ⟨rfl, rfl, h⟩
theorem zv_12_174 {p : Program} {l : Launch} {e : Env} {R : Room} {s : State} {m : MethodId} {args : Array Value} {below : List Frame} {meth : Method} {c : Code} {Q : State → Prop} {D : va_G} {B : Nat} {cA : Nat → ClassId} {ad : Nat → Nat} {cc : ByteArray} {nL : Nat} {ret : Option FieldType} {S : List zC} {I : zI} {lv : List (Nat × Value)} {st : List Value} {pc : Nat} (C : zCx p s m args meth c cc nL RX12 ret D B cA ad) {K : Int32 → zI → Prop} {xa1 : Int32} {xa2 : Int32} (hS : zOkM S)  (h : w_M_newNode xa1 xa2 I K) (hR : 0 + 1 ≤ R.frames ∧ 8 + (4 + 11) + (0) ≤ R.locals) (hw : (st.map fun v => v.category).sum ≤ 8) (hd : decode cc pc = .ok (.invokevirtual 174, 3)) (kk : ∀ v I2, K v I2 → zX p l e R s m args below meth c Q D B cA nL 0 0 S I2 lv (.int v :: st) (pc + 3)) : zX p l e R s m args below meth c Q D B cA nL 0 0 S I lv (.int xa2 :: .int xa1 :: .ref (B + 491) :: st) pc :=
  have hf : 0 ≤ R.cells ∧ 0 ≤ R.slots := ⟨Nat.zero_le _, Nat.zero_le _⟩
  zc_VqI C (ci := 12) (q := (RX12, TX12, 82)) (k := 491) (fs := [none, some (some 492), some (some 493), none, some (some 494), none, some (some 495), none, none, none, some (some 496), some (some 497), some (some 498), some (some 499), some (some 500), none, some (some 501), some (some 502), some (some 503), none, some (some 504), some (some 505), some (some 506), some (some 507), some (some 508), none, some (some 509), some (some 510), some (some 511), some (some 512), some (some 513), some (some 514), some (some 515), some (some 516), some (some 517), some (some 518), none, none, some (some 519), none, some (some 520), none, none, none, some (some 521), some (some 522), some (some 523), some (some 524), some (some 525), some (some 526), some (some 527), none, some (some 528), none, some (some 529), none, some (some 530), some (some 531), some (some 532), none, some (some 533), some (some 534), some (some 535), some (some 536), some (some 537), none, none, none, some (some 538), some (some 539), some (some 540), none, none, none, some (some 541), none, none, some (some 542), some (some 543), some (some 544), none, some (some 545)]) (As := [.int xa1, .int xa2]) (st := st) rfl (hS _ _ zs_491) (c_M_newNode hS h) (zgV zk_ml_12_174 zk_im_yX12_newNode zk_se_yX12_newNode zk_in_12 zk_cd_yX12_newNode) zsg_yX12_newNode hR rfl rfl hw hd hf kk
theorem zv_12_340 {p : Program} {l : Launch} {e : Env} {R : Room} {s : State} {m : MethodId} {args : Array Value} {below : List Frame} {meth : Method} {c : Code} {Q : State → Prop} {D : va_G} {B : Nat} {cA : Nat → ClassId} {ad : Nat → Nat} {cc : ByteArray} {nL : Nat} {ret : Option FieldType} {S : List zC} {I : zI} {lv : List (Nat × Value)} {st : List Value} {pc : Nat} (C : zCx p s m args meth c cc nL RX12 ret D B cA ad) {K : zI → Prop} {xa1 : Int32} {xa2 : Int32} (hS : zOkM S)  (h : w_M_laysOn xa1 xa2 I K) (hR : 0 + 1 ≤ R.frames ∧ 8 + (3 + 11) + (0) ≤ R.locals) (hw : (st.map fun v => v.category).sum ≤ 8) (hd : decode cc pc = .ok (.invokevirtual 340, 3)) (kk : ∀ I2, K I2 → zX p l e R s m args below meth c Q D B cA nL 0 0 S I2 lv st (pc + 3)) : zX p l e R s m args below meth c Q D B cA nL 0 0 S I lv (.int xa2 :: .int xa1 :: .ref (B + 491) :: st) pc :=
  have hf : 0 ≤ R.cells ∧ 0 ≤ R.slots := ⟨Nat.zero_le _, Nat.zero_le _⟩
  zc_VqV C (ci := 12) (q := (RX12, TX12, 82)) (k := 491) (fs := [none, some (some 492), some (some 493), none, some (some 494), none, some (some 495), none, none, none, some (some 496), some (some 497), some (some 498), some (some 499), some (some 500), none, some (some 501), some (some 502), some (some 503), none, some (some 504), some (some 505), some (some 506), some (some 507), some (some 508), none, some (some 509), some (some 510), some (some 511), some (some 512), some (some 513), some (some 514), some (some 515), some (some 516), some (some 517), some (some 518), none, none, some (some 519), none, some (some 520), none, none, none, some (some 521), some (some 522), some (some 523), some (some 524), some (some 525), some (some 526), some (some 527), none, some (some 528), none, some (some 529), none, some (some 530), some (some 531), some (some 532), none, some (some 533), some (some 534), some (some 535), some (some 536), some (some 537), none, none, none, some (some 538), some (some 539), some (some 540), none, none, none, some (some 541), none, none, some (some 542), some (some 543), some (some 544), none, some (some 545)]) (As := [.int xa1, .int xa2]) (st := st) rfl (hS _ _ zs_491) (c_M_laysOn hS h) (zgV zk_ml_12_340 zk_im_yX12_laysOn zk_se_yX12_laysOn zk_in_12 zk_cd_yX12_laysOn) zsg_yX12_laysOn hR rfl rfl hw hd hf kk
def w_M_makesBy (a1 : Int32) (I : zI) (K : zI → Prop) : Prop :=
  w_M_manyOf a1 I (fun r_1 => ∀ I_2, I_2 = (zu I 491 71 ((I.1 491 71) - r_1)) → w_M_newNode a1 0 I_2 (fun r_3 I_4 => vp_in r_3 3700 ∧ (∀ I_5, I_5 = (zu I_4 512 (Int32.toNatClampNeg r_3) r_1) → ∀ (P32 : Int32 → zI → Prop), (∀ (v4_6 : Int32) (I_7 : zI), ((if r_1 ≤ v4_6 then (vp_in ((I_7.1 491 71) - 1) 400 ∧ (vp_in r_3 3700 ∧ (∀ I_8, I_8 = (zu I_7 514 (Int32.toNatClampNeg r_3) (I_7.1 539 (Int32.toNatClampNeg ((I_7.1 491 71) - 1)))) → vp_in r_3 3700 ∧ (w_M_symbolOf a1 I_8 (fun r_9 => w_M_leads (I_8.1 514 (Int32.toNatClampNeg r_3)) r_9 I_8 (fun r_10 => w_M_laysOn r_3 r_10 I_8 (fun I_11 => K I_11))))))) else (vp_in ((I_7.1 491 71) + v4_6) 400 ∧ (∀ v5_12, v5_12 = (I_7.1 540 (Int32.toNatClampNeg ((I_7.1 491 71) + v4_6))) → vp_in ((4 * r_3) + v4_6) 14800 ∧ (∀ I_13, I_13 = (zu I_7 513 (Int32.toNatClampNeg ((4 * r_3) + v4_6)) v5_12) → vp_in r_3 3700 ∧ (vp_in v5_12 3700 ∧ (vp_in r_3 3700 ∧ (∀ I_14, I_14 = (zu I_13 515 (Int32.toNatClampNeg r_3) ((I_13.1 515 (Int32.toNatClampNeg r_3)) + (I_13.1 515 (Int32.toNatClampNeg v5_12)))) → ∀ v4_15, v4_15 = (v4_6 + 1) → P32 v4_15 I_14)))))))) → P32 v4_6 I_7) → P32 0 I_5)))
theorem dyX12_makesBy_0 : decode cX12_makesBy 0 = .ok (.iload_n 1, 1) := by decide +kernel
theorem dyX12_makesBy_1 : decode cX12_makesBy 1 = .ok (.invokestatic 256, 3) := by decide +kernel
theorem dyX12_makesBy_4 : decode cX12_makesBy 4 = .ok (.istore_n 2, 1) := by decide +kernel
theorem dyX12_makesBy_5 : decode cX12_makesBy 5 = .ok (.aload_n 0, 1) := by decide +kernel
theorem dyX12_makesBy_6 : decode cX12_makesBy 6 = .ok (.dup, 1) := by decide +kernel
theorem dyX12_makesBy_7 : decode cX12_makesBy 7 = .ok (.getfield 334, 3) := by decide +kernel
theorem dyX12_makesBy_10 : decode cX12_makesBy 10 = .ok (.iload_n 2, 1) := by decide +kernel
theorem dyX12_makesBy_11 : decode cX12_makesBy 11 = .ok (.isub, 1) := by decide +kernel
theorem dyX12_makesBy_12 : decode cX12_makesBy 12 = .ok (.putfield 334, 3) := by decide +kernel
theorem dyX12_makesBy_15 : decode cX12_makesBy 15 = .ok (.aload_n 0, 1) := by decide +kernel
theorem dyX12_makesBy_16 : decode cX12_makesBy 16 = .ok (.iload_n 1, 1) := by decide +kernel
theorem dyX12_makesBy_17 : decode cX12_makesBy 17 = .ok (.iconst 0, 1) := by decide +kernel
theorem dyX12_makesBy_18 : decode cX12_makesBy 18 = .ok (.invokevirtual 174, 3) := by decide +kernel
theorem dyX12_makesBy_21 : decode cX12_makesBy 21 = .ok (.istore_n 3, 1) := by decide +kernel
theorem dyX12_makesBy_22 : decode cX12_makesBy 22 = .ok (.aload_n 0, 1) := by decide +kernel
theorem dyX12_makesBy_23 : decode cX12_makesBy 23 = .ok (.getfield 71, 3) := by decide +kernel
theorem dyX12_makesBy_26 : decode cX12_makesBy 26 = .ok (.iload_n 3, 1) := by decide +kernel
theorem dyX12_makesBy_27 : decode cX12_makesBy 27 = .ok (.iload_n 2, 1) := by decide +kernel
theorem dyX12_makesBy_28 : decode cX12_makesBy 28 = .ok (.iastore, 1) := by decide +kernel
theorem dyX12_makesBy_29 : decode cX12_makesBy 29 = .ok (.iconst 0, 1) := by decide +kernel
theorem dyX12_makesBy_30 : decode cX12_makesBy 30 = .ok (.istore 4, 2) := by decide +kernel
theorem dyX12_makesBy_32 : decode cX12_makesBy 32 = .ok (.iload 4, 2) := by decide +kernel
theorem dyX12_makesBy_34 : decode cX12_makesBy 34 = .ok (.iload_n 2, 1) := by decide +kernel
theorem dyX12_makesBy_35 : decode cX12_makesBy 35 = .ok (.if_icmp .ge 52, 3) := by decide +kernel
theorem dyX12_makesBy_38 : decode cX12_makesBy 38 = .ok (.aload_n 0, 1) := by decide +kernel
theorem dyX12_makesBy_39 : decode cX12_makesBy 39 = .ok (.getfield 156, 3) := by decide +kernel
theorem dyX12_makesBy_42 : decode cX12_makesBy 42 = .ok (.aload_n 0, 1) := by decide +kernel
theorem dyX12_makesBy_43 : decode cX12_makesBy 43 = .ok (.getfield 334, 3) := by decide +kernel
theorem dyX12_makesBy_46 : decode cX12_makesBy 46 = .ok (.iload 4, 2) := by decide +kernel
theorem dyX12_makesBy_48 : decode cX12_makesBy 48 = .ok (.iadd, 1) := by decide +kernel
theorem dyX12_makesBy_49 : decode cX12_makesBy 49 = .ok (.iaload, 1) := by decide +kernel
theorem dyX12_makesBy_50 : decode cX12_makesBy 50 = .ok (.istore 5, 2) := by decide +kernel
theorem dyX12_makesBy_52 : decode cX12_makesBy 52 = .ok (.aload_n 0, 1) := by decide +kernel
theorem dyX12_makesBy_53 : decode cX12_makesBy 53 = .ok (.getfield 74, 3) := by decide +kernel
theorem dyX12_makesBy_56 : decode cX12_makesBy 56 = .ok (.iconst 4, 1) := by decide +kernel
theorem dyX12_makesBy_57 : decode cX12_makesBy 57 = .ok (.iload_n 3, 1) := by decide +kernel
theorem dyX12_makesBy_58 : decode cX12_makesBy 58 = .ok (.imul, 1) := by decide +kernel
theorem dyX12_makesBy_59 : decode cX12_makesBy 59 = .ok (.iload 4, 2) := by decide +kernel
theorem dyX12_makesBy_61 : decode cX12_makesBy 61 = .ok (.iadd, 1) := by decide +kernel
theorem dyX12_makesBy_62 : decode cX12_makesBy 62 = .ok (.iload 5, 2) := by decide +kernel
theorem dyX12_makesBy_64 : decode cX12_makesBy 64 = .ok (.iastore, 1) := by decide +kernel
theorem dyX12_makesBy_65 : decode cX12_makesBy 65 = .ok (.aload_n 0, 1) := by decide +kernel
theorem dyX12_makesBy_66 : decode cX12_makesBy 66 = .ok (.getfield 80, 3) := by decide +kernel
theorem dyX12_makesBy_69 : decode cX12_makesBy 69 = .ok (.iload_n 3, 1) := by decide +kernel
theorem dyX12_makesBy_70 : decode cX12_makesBy 70 = .ok (.dup2, 1) := by decide +kernel
theorem dyX12_makesBy_71 : decode cX12_makesBy 71 = .ok (.iaload, 1) := by decide +kernel
theorem dyX12_makesBy_72 : decode cX12_makesBy 72 = .ok (.aload_n 0, 1) := by decide +kernel
theorem dyX12_makesBy_73 : decode cX12_makesBy 73 = .ok (.getfield 80, 3) := by decide +kernel
theorem dyX12_makesBy_76 : decode cX12_makesBy 76 = .ok (.iload 5, 2) := by decide +kernel
theorem dyX12_makesBy_78 : decode cX12_makesBy 78 = .ok (.iaload, 1) := by decide +kernel
theorem dyX12_makesBy_79 : decode cX12_makesBy 79 = .ok (.iadd, 1) := by decide +kernel
theorem dyX12_makesBy_80 : decode cX12_makesBy 80 = .ok (.iastore, 1) := by decide +kernel
theorem dyX12_makesBy_81 : decode cX12_makesBy 81 = .ok (.iinc 4 1, 3) := by decide +kernel
theorem dyX12_makesBy_84 : decode cX12_makesBy 84 = .ok (.goto (-52), 3) := by decide +kernel
theorem dyX12_makesBy_87 : decode cX12_makesBy 87 = .ok (.aload_n 0, 1) := by decide +kernel
theorem dyX12_makesBy_88 : decode cX12_makesBy 88 = .ok (.getfield 77, 3) := by decide +kernel
theorem dyX12_makesBy_91 : decode cX12_makesBy 91 = .ok (.iload_n 3, 1) := by decide +kernel
theorem dyX12_makesBy_92 : decode cX12_makesBy 92 = .ok (.aload_n 0, 1) := by decide +kernel
theorem dyX12_makesBy_93 : decode cX12_makesBy 93 = .ok (.getfield 153, 3) := by decide +kernel
theorem dyX12_makesBy_96 : decode cX12_makesBy 96 = .ok (.aload_n 0, 1) := by decide +kernel
theorem dyX12_makesBy_97 : decode cX12_makesBy 97 = .ok (.getfield 334, 3) := by decide +kernel
theorem dyX12_makesBy_100 : decode cX12_makesBy 100 = .ok (.iconst 1, 1) := by decide +kernel
theorem dyX12_makesBy_101 : decode cX12_makesBy 101 = .ok (.isub, 1) := by decide +kernel
theorem dyX12_makesBy_102 : decode cX12_makesBy 102 = .ok (.iaload, 1) := by decide +kernel
theorem dyX12_makesBy_103 : decode cX12_makesBy 103 = .ok (.iastore, 1) := by decide +kernel
theorem dyX12_makesBy_104 : decode cX12_makesBy 104 = .ok (.aload_n 0, 1) := by decide +kernel
theorem dyX12_makesBy_105 : decode cX12_makesBy 105 = .ok (.iload_n 3, 1) := by decide +kernel
theorem dyX12_makesBy_106 : decode cX12_makesBy 106 = .ok (.aload_n 0, 1) := by decide +kernel
theorem dyX12_makesBy_107 : decode cX12_makesBy 107 = .ok (.getfield 77, 3) := by decide +kernel
theorem dyX12_makesBy_110 : decode cX12_makesBy 110 = .ok (.iload_n 3, 1) := by decide +kernel
theorem dyX12_makesBy_111 : decode cX12_makesBy 111 = .ok (.iaload, 1) := by decide +kernel
theorem dyX12_makesBy_112 : decode cX12_makesBy 112 = .ok (.iload_n 1, 1) := by decide +kernel
theorem dyX12_makesBy_113 : decode cX12_makesBy 113 = .ok (.invokestatic 259, 3) := by decide +kernel
theorem dyX12_makesBy_116 : decode cX12_makesBy 116 = .ok (.invokestatic 262, 3) := by decide +kernel
theorem dyX12_makesBy_119 : decode cX12_makesBy 119 = .ok (.invokevirtual 340, 3) := by decide +kernel
theorem dyX12_makesBy_122 : decode cX12_makesBy 122 = .ok (.return_, 1) := by decide +kernel
theorem zsg_yX12_makesBy : yX12_makesBy.cls = RX12 ∧ yX12_makesBy.cls ≠ "java/lang/invoke/MethodHandle" ∧ yX12_makesBy.cls ≠ "java/lang/invoke/VarHandle" ∧ (parseMethodDescriptor yX12_makesBy.desc).map (fun d => d.parameters.length) = some 1 := by decide +kernel
set_option maxRecDepth 20000 in
theorem c_M_makesBy {l : Launch} {D : va_G} {B : Nat} {cA : Nat → ClassId} {ad : Nat → Nat} {S : List zC} (hS : zOkM S) {a1 : Int32} {I : zI} {K : zI → Prop}  (h : w_M_makesBy a1 I K) : Met l yX12_makesBy (zws yX12_makesBy cX12_makesBy 6 none) (zrm 1 23) (zPc D B cA ad [.ref (B + 491), .int a1] S I) (zQc D B cA (zqV S K)) 0 0 (fun q => B ≤ q) := by
  refine zm_of (cc := cX12_makesBy) (maxL := 6) (ret := none) (by decide +kernel) rfl (Nat.le_of_ble_eq_true rfl) trivial ?_
  intro p e s m args below meth c C _
  unfold w_M_makesBy at h
  show zX p l e (zrm 1 23) s m args below meth c (MQ below (zQc D B cA (zqV S K)) args s 0 0 (fun q => B ≤ q)) D B cA 6 0 0 S I [(0, .ref (B + 491)), (1, .int a1)] [] 0
  refine zr_iload_n C dyX12_makesBy_0 rfl 1 rfl ?_
  refine zv_12_256 C hS (st := []) h ⟨Nat.le_of_ble_eq_true rfl, Nat.le_of_ble_eq_true rfl⟩ (Nat.le_of_ble_eq_true rfl) dyX12_makesBy_1 (fun r_1 h => ?_)
  refine zr_istore_n C dyX12_makesBy_4 rfl (Nat.le_of_ble_eq_true rfl) (lv2 := [(2, .int r_1), (0, .ref (B + 491)), (1, .int a1)]) rfl ?_
  refine zr_aload_n C dyX12_makesBy_5 rfl 1 rfl ?_
  refine zr_dup C dyX12_makesBy_6 rfl ?_
  refine zg_12_334 C hS dyX12_makesBy_7 ?_
  refine zr_iload_n C dyX12_makesBy_10 rfl 0 rfl ?_
  refine zr_isub C dyX12_makesBy_11 ?_
  refine zp_12_334 C hS dyX12_makesBy_12 ?_
  refine zn_mem C (fun I_2 eI_2 => ?_)
  replace h := h I_2 eI_2
  refine zr_aload_n C dyX12_makesBy_15 rfl 1 rfl ?_
  refine zr_iload_n C dyX12_makesBy_16 rfl 2 rfl ?_
  refine zr_iconst C dyX12_makesBy_17 zc_i_0 ?_
  refine zv_12_174 C hS (st := []) h ⟨Nat.le_of_ble_eq_true rfl, Nat.le_of_ble_eq_true rfl⟩ (Nat.le_of_ble_eq_true rfl) dyX12_makesBy_18 (fun r_3 I_4 h => ?_)
  refine zr_istore_n C dyX12_makesBy_21 rfl (Nat.le_of_ble_eq_true rfl) (lv2 := [(3, .int r_3), (2, .int r_1), (0, .ref (B + 491)), (1, .int a1)]) rfl ?_
  refine zr_aload_n C dyX12_makesBy_22 rfl 2 rfl ?_
  refine zg_12_71 C hS dyX12_makesBy_23 ?_
  refine zr_iload_n C dyX12_makesBy_26 rfl 0 rfl ?_
  refine zr_iload_n C dyX12_makesBy_27 rfl 1 rfl ?_
  refine zr_iast C (hS _ _ zs_512) h.1 dyX12_makesBy_28 ?_
  replace h := h.2
  refine zn_mem C (fun I_5 eI_5 => ?_)
  replace h := h I_5 eI_5
  refine zr_iconst C dyX12_makesBy_29 zc_i_0 ?_
  refine zr_istore C dyX12_makesBy_30 (Nat.le_of_ble_eq_true rfl) (lv2 := [(4, .int 0), (3, .int r_3), (2, .int r_1), (0, .ref (B + 491)), (1, .int a1)]) rfl ?_
  refine zjn (h (fun (v4_6 : Int32) (I_7 : zI) => zX p l e (zrm 1 23) s m args below meth c (MQ below (zQc D B cA (zqV S K)) args s 0 0 (fun q => B ≤ q)) D B cA 6 0 0 S I_7 [(4, .int v4_6), (3, .int r_3), (2, .int r_1), (0, .ref (B + 491)), (1, .int a1)] [] 32) (fun v4_6 I_7 h => ?_)) (fun h => ?_)
  · refine zr_iload C dyX12_makesBy_32 0 rfl ?_
    refine zr_iload_n C dyX12_makesBy_34 rfl 2 rfl ?_
    refine zr_icmp_ge C dyX12_makesBy_35 (tgt := 87) (by decide) (fun hc_16 => ?_) (fun hc_16 => ?_)
    · replace h := zif_pos hc_16 h
      refine zr_aload_n C dyX12_makesBy_87 rfl 3 rfl ?_
      refine zg_12_77 C hS dyX12_makesBy_88 ?_
      refine zr_iload_n C dyX12_makesBy_91 rfl 1 rfl ?_
      refine zr_aload_n C dyX12_makesBy_92 rfl 3 rfl ?_
      refine zg_12_153 C hS dyX12_makesBy_93 ?_
      refine zr_aload_n C dyX12_makesBy_96 rfl 3 rfl ?_
      refine zg_12_334 C hS dyX12_makesBy_97 ?_
      refine zr_iconst C dyX12_makesBy_100 zc_i_1 ?_
      refine zr_isub C dyX12_makesBy_101 ?_
      refine zr_iald C (hS _ _ zs_539) h.1 dyX12_makesBy_102 ?_
      replace h := h.2
      refine zr_iast C (hS _ _ zs_514) h.1 dyX12_makesBy_103 ?_
      replace h := h.2
      refine zn_mem C (fun I_8 eI_8 => ?_)
      replace h := h I_8 eI_8
      refine zr_aload_n C dyX12_makesBy_104 rfl 3 rfl ?_
      refine zr_iload_n C dyX12_makesBy_105 rfl 1 rfl ?_
      refine zr_aload_n C dyX12_makesBy_106 rfl 3 rfl ?_
      refine zg_12_77 C hS dyX12_makesBy_107 ?_
      refine zr_iload_n C dyX12_makesBy_110 rfl 1 rfl ?_
      refine zr_iald C (hS _ _ zs_514) h.1 dyX12_makesBy_111 ?_
      replace h := h.2
      refine zr_iload_n C dyX12_makesBy_112 rfl 4 rfl ?_
      refine zv_12_259 C hS (st := [.int (I_8.1 514 (Int32.toNatClampNeg r_3)), .int r_3, .ref (B + 491)]) h ⟨Nat.le_of_ble_eq_true rfl, Nat.le_of_ble_eq_true rfl⟩ (Nat.le_of_ble_eq_true rfl) dyX12_makesBy_113 (fun r_9 h => ?_)
      refine zv_12_262 C hS (st := [.int r_3, .ref (B + 491)]) h ⟨Nat.le_of_ble_eq_true rfl, Nat.le_of_ble_eq_true rfl⟩ (Nat.le_of_ble_eq_true rfl) dyX12_makesBy_116 (fun r_10 h => ?_)
      refine zv_12_340 C hS (st := []) h ⟨Nat.le_of_ble_eq_true rfl, Nat.le_of_ble_eq_true rfl⟩ (Nat.le_of_ble_eq_true rfl) dyX12_makesBy_119 (fun I_11 h => ?_)
      exact zr_vret C rfl dyX12_makesBy_122 ⟨rfl, rfl, h⟩
    · replace h := zif_neg hc_16 h
      refine zr_aload_n C dyX12_makesBy_38 rfl 3 rfl ?_
      refine zg_12_156 C hS dyX12_makesBy_39 ?_
      refine zr_aload_n C dyX12_makesBy_42 rfl 3 rfl ?_
      refine zg_12_334 C hS dyX12_makesBy_43 ?_
      refine zr_iload C dyX12_makesBy_46 0 rfl ?_
      refine zr_iadd C dyX12_makesBy_48 ?_
      refine zr_iald C (hS _ _ zs_540) h.1 dyX12_makesBy_49 ?_
      replace h := h.2
      refine zn_istore C (fun v5_12 => [(5, .int v5_12), (4, .int v4_6), (3, .int r_3), (2, .int r_1), (0, .ref (B + 491)), (1, .int a1)]) dyX12_makesBy_50 (Nat.le_of_ble_eq_true rfl) (fun _ => rfl) (fun v5_12 ev5_12 => ?_)
      replace h := h v5_12 ev5_12
      refine zr_aload_n C dyX12_makesBy_52 rfl 4 rfl ?_
      refine zg_12_74 C hS dyX12_makesBy_53 ?_
      refine zr_iconst C dyX12_makesBy_56 zc_i_4 ?_
      refine zr_iload_n C dyX12_makesBy_57 rfl 2 rfl ?_
      refine zr_imul C dyX12_makesBy_58 ?_
      refine zr_iload C dyX12_makesBy_59 1 rfl ?_
      refine zr_iadd C dyX12_makesBy_61 ?_
      refine zr_iload C dyX12_makesBy_62 0 rfl ?_
      refine zr_iast C (hS _ _ zs_513) h.1 dyX12_makesBy_64 ?_
      replace h := h.2
      refine zn_mem C (fun I_13 eI_13 => ?_)
      replace h := h I_13 eI_13
      refine zr_aload_n C dyX12_makesBy_65 rfl 4 rfl ?_
      refine zg_12_80 C hS dyX12_makesBy_66 ?_
      refine zr_iload_n C dyX12_makesBy_69 rfl 2 rfl ?_
      refine zr_dup2 C dyX12_makesBy_70 rfl rfl ?_
      refine zr_iald C (hS _ _ zs_515) h.1 dyX12_makesBy_71 ?_
      replace h := h.2
      refine zr_aload_n C dyX12_makesBy_72 rfl 4 rfl ?_
      refine zg_12_80 C hS dyX12_makesBy_73 ?_
      refine zr_iload C dyX12_makesBy_76 0 rfl ?_
      refine zr_iald C (hS _ _ zs_515) h.1 dyX12_makesBy_78 ?_
      replace h := h.2
      refine zr_iadd C dyX12_makesBy_79 ?_
      refine zr_iast C (hS _ _ zs_515) h.1 dyX12_makesBy_80 ?_
      replace h := h.2
      refine zn_mem C (fun I_14 eI_14 => ?_)
      replace h := h I_14 eI_14
      refine zn_iinc C (fun v4_15 => [(4, .int v4_15), (5, .int v5_12), (3, .int r_3), (2, .int r_1), (0, .ref (B + 491)), (1, .int a1)]) dyX12_makesBy_81 1 rfl zc_i_1 (Nat.le_of_ble_eq_true rfl) (fun _ => rfl) (fun v4_15 ev4_15 => ?_)
      replace h := h v4_15 ev4_15
      refine zr_goto C dyX12_makesBy_84 (tgt := 32) (by decide) ?_
      refine zr_sub (lv2 := [(4, .int v4_15), (3, .int r_3), (2, .int r_1), (0, .ref (B + 491)), (1, .int a1)]) [0, 2, 3, 4, 5] rfl ?_
      exact h
  exact h
theorem zp_12_344 {p : Program} {l : Launch} {e : Env} {R : Room} {s : State} {m : MethodId} {args : Array Value} {below : List Frame} {meth : Method} {c : Code} {Q : State → Prop} {D : va_G} {B : Nat} {cA : Nat → ClassId} {ad : Nat → Nat} {cc : ByteArray} {nL : Nat} {ret : Option FieldType} {S : List zC} {I : zI} {lv : List (Nat × Value)} {st : List Value} {pc : Nat} (C : zCx p s m args meth c cc nL RX12 ret D B cA ad) (hS : zOkM S) {v : Int32} (hd : decode cc pc = .ok (.putfield 344, 3)) (kk : zX p l e R s m args below meth c Q D B cA nL 0 0 S (zu I 491 73 v) lv st (pc + 3)) : zX p l e R s m args below meth c Q D B cA nL 0 0 S I lv (.int v :: .ref (B + 491) :: st) pc :=
  zr_puti C (ci := 12) (Cn := RX12) (T := TX12) (N := 82) (k := 491) (j := 73) (fs := [none, some (some 492), some (some 493), none, some (some 494), none, some (some 495), none, none, none, some (some 496), some (some 497), some (some 498), some (some 499), some (some 500), none, some (some 501), some (some 502), some (some 503), none, some (some 504), some (some 505), some (some 506), some (some 507), some (some 508), none, some (some 509), some (some 510), some (some 511), some (some 512), some (some 513), some (some 514), some (some 515), some (some 516), some (some 517), some (some 518), none, none, some (some 519), none, some (some 520), none, none, none, some (some 521), some (some 522), some (some 523), some (some 524), some (some 525), some (some 526), some (some 527), none, some (some 528), none, some (some 529), none, some (some 530), some (some 531), some (some 532), none, some (some 533), some (some 534), some (some 535), some (some 536), some (some 537), none, none, none, some (some 538), some (some 539), some (some 540), none, none, none, some (some 541), none, none, some (some 542), some (some 543), some (some 544), none, some (some 545)]) rfl zin_12 (Nat.le_of_ble_eq_true rfl) rfl (hS _ _ zs_491) rfl tyX12 tyX12_ok nmX12 (ty := .int) zpd_I rfl rfl rfl zk_fl_12_344 hd kk
theorem zv_12_347 {p : Program} {l : Launch} {e : Env} {R : Room} {s : State} {m : MethodId} {args : Array Value} {below : List Frame} {meth : Method} {c : Code} {Q : State → Prop} {D : va_G} {B : Nat} {cA : Nat → ClassId} {ad : Nat → Nat} {cc : ByteArray} {nL : Nat} {ret : Option FieldType} {S : List zC} {I : zI} {lv : List (Nat × Value)} {st : List Value} {pc : Nat} (C : zCx p s m args meth c cc nL RX12 ret D B cA ad) {K : Int32 → Prop} {xa1 : Int32} (hS : zOkM S)  (h : w_M_wasOf xa1 I K) (hR : 0 + 1 ≤ R.frames ∧ 8 + (2 + 11) + (0) ≤ R.locals) (hw : (st.map fun v => v.category).sum ≤ 8) (hd : decode cc pc = .ok (.invokevirtual 347, 3)) (kk : ∀ v, K v → zX p l e R s m args below meth c Q D B cA nL 0 0 S I lv (.int v :: st) (pc + 3)) : zX p l e R s m args below meth c Q D B cA nL 0 0 S I lv (.int xa1 :: .ref (B + 491) :: st) pc :=
  have hf : 0 ≤ R.cells ∧ 0 ≤ R.slots := ⟨Nat.zero_le _, Nat.zero_le _⟩
  zc_VpI C (ci := 12) (q := (RX12, TX12, 82)) (k := 491) (fs := [none, some (some 492), some (some 493), none, some (some 494), none, some (some 495), none, none, none, some (some 496), some (some 497), some (some 498), some (some 499), some (some 500), none, some (some 501), some (some 502), some (some 503), none, some (some 504), some (some 505), some (some 506), some (some 507), some (some 508), none, some (some 509), some (some 510), some (some 511), some (some 512), some (some 513), some (some 514), some (some 515), some (some 516), some (some 517), some (some 518), none, none, some (some 519), none, some (some 520), none, none, none, some (some 521), some (some 522), some (some 523), some (some 524), some (some 525), some (some 526), some (some 527), none, some (some 528), none, some (some 529), none, some (some 530), some (some 531), some (some 532), none, some (some 533), some (some 534), some (some 535), some (some 536), some (some 537), none, none, none, some (some 538), some (some 539), some (some 540), none, none, none, some (some 541), none, none, some (some 542), some (some 543), some (some 544), none, some (some 545)]) (As := [.int xa1]) (st := st) rfl (hS _ _ zs_491) (c_M_wasOf hS h) (zgV zk_ml_12_347 zk_im_yX12_wasOf zk_se_yX12_wasOf zk_in_12 zk_cd_yX12_wasOf) zsg_yX12_wasOf hR rfl rfl hw hd hf kk
theorem zv_12_353 {p : Program} {l : Launch} {e : Env} {R : Room} {s : State} {m : MethodId} {args : Array Value} {below : List Frame} {meth : Method} {c : Code} {Q : State → Prop} {D : va_G} {B : Nat} {cA : Nat → ClassId} {ad : Nat → Nat} {cc : ByteArray} {nL : Nat} {ret : Option FieldType} {S : List zC} {I : zI} {lv : List (Nat × Value)} {st : List Value} {pc : Nat} (C : zCx p s m args meth c cc nL RX12 ret D B cA ad) {K : zI → Prop} {xa1 : Int32} (hS : zOkM S)  (h : w_M_makesBy xa1 I K) (hR : 1 + 1 ≤ R.frames ∧ 8 + (6 + 11) + (23) ≤ R.locals) (hw : (st.map fun v => v.category).sum ≤ 8) (hd : decode cc pc = .ok (.invokevirtual 353, 3)) (kk : ∀ I2, K I2 → zX p l e R s m args below meth c Q D B cA nL 0 0 S I2 lv st (pc + 3)) : zX p l e R s m args below meth c Q D B cA nL 0 0 S I lv (.int xa1 :: .ref (B + 491) :: st) pc :=
  have hf : 0 ≤ R.cells ∧ 0 ≤ R.slots := ⟨Nat.zero_le _, Nat.zero_le _⟩
  zc_VqV C (ci := 12) (q := (RX12, TX12, 82)) (k := 491) (fs := [none, some (some 492), some (some 493), none, some (some 494), none, some (some 495), none, none, none, some (some 496), some (some 497), some (some 498), some (some 499), some (some 500), none, some (some 501), some (some 502), some (some 503), none, some (some 504), some (some 505), some (some 506), some (some 507), some (some 508), none, some (some 509), some (some 510), some (some 511), some (some 512), some (some 513), some (some 514), some (some 515), some (some 516), some (some 517), some (some 518), none, none, some (some 519), none, some (some 520), none, none, none, some (some 521), some (some 522), some (some 523), some (some 524), some (some 525), some (some 526), some (some 527), none, some (some 528), none, some (some 529), none, some (some 530), some (some 531), some (some 532), none, some (some 533), some (some 534), some (some 535), some (some 536), some (some 537), none, none, none, some (some 538), some (some 539), some (some 540), none, none, none, some (some 541), none, none, some (some 542), some (some 543), some (some 544), none, some (some 545)]) (As := [.int xa1]) (st := st) rfl (hS _ _ zs_491) (c_M_makesBy hS h) (zgV zk_ml_12_353 zk_im_yX12_makesBy zk_se_yX12_makesBy zk_in_12 zk_cd_yX12_makesBy) zsg_yX12_makesBy hR rfl rfl hw hd hf kk
theorem zg_12_35 {p : Program} {l : Launch} {e : Env} {R : Room} {s : State} {m : MethodId} {args : Array Value} {below : List Frame} {meth : Method} {c : Code} {Q : State → Prop} {D : va_G} {B : Nat} {cA : Nat → ClassId} {ad : Nat → Nat} {cc : ByteArray} {nL : Nat} {ret : Option FieldType} {S : List zC} {I : zI} {lv : List (Nat × Value)} {st : List Value} {pc : Nat} (C : zCx p s m args meth c cc nL RX12 ret D B cA ad) (hS : zOkM S) (hd : decode cc pc = .ok (.getfield 35, 3)) (kk : zX p l e R s m args below meth c Q D B cA nL 0 0 S I lv (.ref (B + 500) :: st) (pc + 3)) : zX p l e R s m args below meth c Q D B cA nL 0 0 S I lv (.ref (B + 491) :: st) pc :=
  zr_getr C (ci := 12) (Cn := RX12) (T := TX12) (N := 82) (k := 491) (j := 14) (fs := [none, some (some 492), some (some 493), none, some (some 494), none, some (some 495), none, none, none, some (some 496), some (some 497), some (some 498), some (some 499), some (some 500), none, some (some 501), some (some 502), some (some 503), none, some (some 504), some (some 505), some (some 506), some (some 507), some (some 508), none, some (some 509), some (some 510), some (some 511), some (some 512), some (some 513), some (some 514), some (some 515), some (some 516), some (some 517), some (some 518), none, none, some (some 519), none, some (some 520), none, none, none, some (some 521), some (some 522), some (some 523), some (some 524), some (some 525), some (some 526), some (some 527), none, some (some 528), none, some (some 529), none, some (some 530), some (some 531), some (some 532), none, some (some 533), some (some 534), some (some 535), some (some 536), some (some 537), none, none, none, some (some 538), some (some 539), some (some 540), none, none, none, some (some 541), none, none, some (some 542), some (some 543), some (some 544), none, some (some 545)]) rfl zin_12 (Nat.le_of_ble_eq_true rfl) rfl (hS _ _ zs_491) rfl zk_fl_12_35 hd kk
theorem zg_12_344 {p : Program} {l : Launch} {e : Env} {R : Room} {s : State} {m : MethodId} {args : Array Value} {below : List Frame} {meth : Method} {c : Code} {Q : State → Prop} {D : va_G} {B : Nat} {cA : Nat → ClassId} {ad : Nat → Nat} {cc : ByteArray} {nL : Nat} {ret : Option FieldType} {S : List zC} {I : zI} {lv : List (Nat × Value)} {st : List Value} {pc : Nat} (C : zCx p s m args meth c cc nL RX12 ret D B cA ad) (hS : zOkM S) (hd : decode cc pc = .ok (.getfield 344, 3)) (kk : zX p l e R s m args below meth c Q D B cA nL 0 0 S I lv (.int (I.1 491 73) :: st) (pc + 3)) : zX p l e R s m args below meth c Q D B cA nL 0 0 S I lv (.ref (B + 491) :: st) pc :=
  zr_geti C (ci := 12) (Cn := RX12) (T := TX12) (N := 82) (k := 491) (j := 73) (fs := [none, some (some 492), some (some 493), none, some (some 494), none, some (some 495), none, none, none, some (some 496), some (some 497), some (some 498), some (some 499), some (some 500), none, some (some 501), some (some 502), some (some 503), none, some (some 504), some (some 505), some (some 506), some (some 507), some (some 508), none, some (some 509), some (some 510), some (some 511), some (some 512), some (some 513), some (some 514), some (some 515), some (some 516), some (some 517), some (some 518), none, none, some (some 519), none, some (some 520), none, none, none, some (some 521), some (some 522), some (some 523), some (some 524), some (some 525), some (some 526), some (some 527), none, some (some 528), none, some (some 529), none, some (some 530), some (some 531), some (some 532), none, some (some 533), some (some 534), some (some 535), some (some 536), some (some 537), none, none, none, some (some 538), some (some 539), some (some 540), none, none, none, some (some 541), none, none, some (some 542), some (some 543), some (some 544), none, some (some 545)]) rfl zin_12 (Nat.le_of_ble_eq_true rfl) rfl (hS _ _ zs_491) rfl zk_fl_12_344 hd kk
theorem zv_12_350 {p : Program} {l : Launch} {e : Env} {R : Room} {s : State} {m : MethodId} {args : Array Value} {below : List Frame} {meth : Method} {c : Code} {Q : State → Prop} {D : va_G} {B : Nat} {cA : Nat → ClassId} {ad : Nat → Nat} {cc : ByteArray} {nL : Nat} {ret : Option FieldType} {S : List zC} {I : zI} {lv : List (Nat × Value)} {st : List Value} {pc : Nat} (C : zCx p s m args meth c cc nL RX12 ret D B cA ad) {K : Int32 → Prop} {xa1 : Int32} {xa2 : Int32} (hS : zOkM S)  (h : w_M_takenFor xa1 xa2 I K) (hR : 1 + 1 ≤ R.frames ∧ 8 + (5 + 11) + (22) ≤ R.locals) (hw : (st.map fun v => v.category).sum ≤ 8) (hd : decode cc pc = .ok (.invokevirtual 350, 3)) (kk : ∀ v, K v → zX p l e R s m args below meth c Q D B cA nL 0 0 S I lv (.int v :: st) (pc + 3)) : zX p l e R s m args below meth c Q D B cA nL 0 0 S I lv (.int xa2 :: .int xa1 :: .ref (B + 491) :: st) pc :=
  have hf : 0 ≤ R.cells ∧ 0 ≤ R.slots := ⟨Nat.zero_le _, Nat.zero_le _⟩
  zc_VpI C (ci := 12) (q := (RX12, TX12, 82)) (k := 491) (fs := [none, some (some 492), some (some 493), none, some (some 494), none, some (some 495), none, none, none, some (some 496), some (some 497), some (some 498), some (some 499), some (some 500), none, some (some 501), some (some 502), some (some 503), none, some (some 504), some (some 505), some (some 506), some (some 507), some (some 508), none, some (some 509), some (some 510), some (some 511), some (some 512), some (some 513), some (some 514), some (some 515), some (some 516), some (some 517), some (some 518), none, none, some (some 519), none, some (some 520), none, none, none, some (some 521), some (some 522), some (some 523), some (some 524), some (some 525), some (some 526), some (some 527), none, some (some 528), none, some (some 529), none, some (some 530), some (some 531), some (some 532), none, some (some 533), some (some 534), some (some 535), some (some 536), some (some 537), none, none, none, some (some 538), some (some 539), some (some 540), none, none, none, some (some 541), none, none, some (some 542), some (some 543), some (some 544), none, some (some 545)]) (As := [.int xa1, .int xa2]) (st := st) rfl (hS _ _ zs_491) (c_M_takenFor hS h) (zgV zk_ml_12_350 zk_im_yX12_takenFor zk_se_yX12_takenFor zk_in_12 zk_cd_yX12_takenFor) zsg_yX12_takenFor hR rfl rfl hw hd hf kk
def w_M_grows  (I : zI) (K : Int32 → zI → Prop) : Prop :=
  ∀ I_1, I_1 = (zu I 491 71 0) → ∀ I_2, I_2 = (zu I_1 491 72 0) → ∀ I_3, I_3 = (zu I_2 491 73 0) → w_M_laysOn (-1) 0 I_3 (fun I_4 => ∀ I_5, I_5 = (zu I_4 491 72 0) → ∀ (P28 : Int32 → zI → Prop), (∀ (v1_6 : Int32) (I_7 : zI), (vp_in ((I_7.1 491 71) - 1) 400 ∧ (∀ v2_8, v2_8 = (I_7.1 539 (Int32.toNatClampNeg ((I_7.1 491 71) - 1))) → w_M_wasOf v1_6 I_7 (fun r_9 => ∀ (P70 : Int32 → Prop), (∀ (t_10 : Int32), (vp_in v1_6 710 ∧ (w_M_shifts v2_8 (I_7.1 496 (Int32.toNatClampNeg v1_6)) I_7 (fun r_11 => w_M_ruleOf v2_8 I_7 (fun r_12 => (if t_10 < 0 then (if r_11 < 0 then (if r_12 < 0 then (vp_in v1_6 710 ∧ (if (I_7.1 496 (Int32.toNatClampNeg v1_6)) = 10 then (if v2_8 = 1 then (K (-1) I_7) else K v1_6 I_7) else K v1_6 I_7)) else (w_M_makesBy r_12 I_7 (fun I_15 => P28 v1_6 I_15))) else (vp_in v1_6 110 ∧ (∀ v7_17, v7_17 = (I_7.1 500 (Int32.toNatClampNeg v1_6)) → vp_in v7_17 3700 ∧ (∀ (P171 : zI → Prop), (∀ (I_18 : zI), (w_M_laysOn v7_17 r_11 I_18 (fun I_19 => ∀ v1_20, v1_20 = (v1_6 + 1) → P28 v1_20 I_19)) → P171 I_18) → (if (I_7.1 514 (Int32.toNatClampNeg v7_17)) = (-2) then (vp_in v7_17 3700 ∧ (∀ I_21, I_21 = (zu I_7 514 (Int32.toNatClampNeg v7_17) v2_8) → P171 I_21)) else P171 I_7))))) else (∀ I_24, I_24 = (zu I_7 491 73 ((I_7.1 491 73) + 1)) → vp_in t_10 3700 ∧ (w_M_symbolOf (I_24.1 509 (Int32.toNatClampNeg t_10)) I_24 (fun r_25 => w_M_leads v2_8 r_25 I_24 (fun r_26 => w_M_laysOn t_10 r_26 I_24 (fun I_27 => vp_in t_10 3700 ∧ (∀ v1_28, v1_28 = (v1_6 + (I_27.1 515 (Int32.toNatClampNeg t_10))) → P28 v1_28 I_27))))))))))) → P70 t_10) → ∀ (P69 : Prop), ((P70 (-1)) → P69) → (if r_9 < 0 then P69 else (if ((I_7.1 491 19) - 1) ≤ r_9 then P69 else (w_M_takenFor r_9 v2_8 I_7 (fun r_30 => P70 r_30))))))) → P28 v1_6 I_7) → P28 0 I_5)
theorem dyX12_grows_0 : decode cX12_grows 0 = .ok (.aload_n 0, 1) := by decide +kernel
theorem dyX12_grows_1 : decode cX12_grows 1 = .ok (.iconst 0, 1) := by decide +kernel
theorem dyX12_grows_2 : decode cX12_grows 2 = .ok (.putfield 334, 3) := by decide +kernel
theorem dyX12_grows_5 : decode cX12_grows 5 = .ok (.aload_n 0, 1) := by decide +kernel
theorem dyX12_grows_6 : decode cX12_grows 6 = .ok (.iconst 0, 1) := by decide +kernel
theorem dyX12_grows_7 : decode cX12_grows 7 = .ok (.putfield 337, 3) := by decide +kernel
theorem dyX12_grows_10 : decode cX12_grows 10 = .ok (.aload_n 0, 1) := by decide +kernel
theorem dyX12_grows_11 : decode cX12_grows 11 = .ok (.iconst 0, 1) := by decide +kernel
theorem dyX12_grows_12 : decode cX12_grows 12 = .ok (.putfield 344, 3) := by decide +kernel
theorem dyX12_grows_15 : decode cX12_grows 15 = .ok (.aload_n 0, 1) := by decide +kernel
theorem dyX12_grows_16 : decode cX12_grows 16 = .ok (.iconst (-1), 1) := by decide +kernel
theorem dyX12_grows_17 : decode cX12_grows 17 = .ok (.iconst 0, 1) := by decide +kernel
theorem dyX12_grows_18 : decode cX12_grows 18 = .ok (.invokevirtual 340, 3) := by decide +kernel
theorem dyX12_grows_21 : decode cX12_grows 21 = .ok (.aload_n 0, 1) := by decide +kernel
theorem dyX12_grows_22 : decode cX12_grows 22 = .ok (.iconst 0, 1) := by decide +kernel
theorem dyX12_grows_23 : decode cX12_grows 23 = .ok (.putfield 337, 3) := by decide +kernel
theorem dyX12_grows_26 : decode cX12_grows 26 = .ok (.iconst 0, 1) := by decide +kernel
theorem dyX12_grows_27 : decode cX12_grows 27 = .ok (.istore_n 1, 1) := by decide +kernel
theorem dyX12_grows_28 : decode cX12_grows 28 = .ok (.aload_n 0, 1) := by decide +kernel
theorem dyX12_grows_29 : decode cX12_grows 29 = .ok (.getfield 153, 3) := by decide +kernel
theorem dyX12_grows_32 : decode cX12_grows 32 = .ok (.aload_n 0, 1) := by decide +kernel
theorem dyX12_grows_33 : decode cX12_grows 33 = .ok (.getfield 334, 3) := by decide +kernel
theorem dyX12_grows_36 : decode cX12_grows 36 = .ok (.iconst 1, 1) := by decide +kernel
theorem dyX12_grows_37 : decode cX12_grows 37 = .ok (.isub, 1) := by decide +kernel
theorem dyX12_grows_38 : decode cX12_grows 38 = .ok (.iaload, 1) := by decide +kernel
theorem dyX12_grows_39 : decode cX12_grows 39 = .ok (.istore_n 2, 1) := by decide +kernel
theorem dyX12_grows_40 : decode cX12_grows 40 = .ok (.aload_n 0, 1) := by decide +kernel
theorem dyX12_grows_41 : decode cX12_grows 41 = .ok (.iload_n 1, 1) := by decide +kernel
theorem dyX12_grows_42 : decode cX12_grows 42 = .ok (.invokevirtual 347, 3) := by decide +kernel
theorem dyX12_grows_45 : decode cX12_grows 45 = .ok (.istore_n 3, 1) := by decide +kernel
theorem dyX12_grows_46 : decode cX12_grows 46 = .ok (.iload_n 3, 1) := by decide +kernel
theorem dyX12_grows_47 : decode cX12_grows 47 = .ok (.ifCond .lt 22, 3) := by decide +kernel
theorem dyX12_grows_50 : decode cX12_grows 50 = .ok (.iload_n 3, 1) := by decide +kernel
theorem dyX12_grows_51 : decode cX12_grows 51 = .ok (.aload_n 0, 1) := by decide +kernel
theorem dyX12_grows_52 : decode cX12_grows 52 = .ok (.getfield 244, 3) := by decide +kernel
theorem dyX12_grows_55 : decode cX12_grows 55 = .ok (.iconst 1, 1) := by decide +kernel
theorem dyX12_grows_56 : decode cX12_grows 56 = .ok (.isub, 1) := by decide +kernel
theorem dyX12_grows_57 : decode cX12_grows 57 = .ok (.if_icmp .ge 12, 3) := by decide +kernel
theorem dyX12_grows_60 : decode cX12_grows 60 = .ok (.aload_n 0, 1) := by decide +kernel
theorem dyX12_grows_61 : decode cX12_grows 61 = .ok (.iload_n 3, 1) := by decide +kernel
theorem dyX12_grows_62 : decode cX12_grows 62 = .ok (.iload_n 2, 1) := by decide +kernel
theorem dyX12_grows_63 : decode cX12_grows 63 = .ok (.invokevirtual 350, 3) := by decide +kernel
theorem dyX12_grows_66 : decode cX12_grows 66 = .ok (.goto 4, 3) := by decide +kernel
theorem dyX12_grows_69 : decode cX12_grows 69 = .ok (.iconst (-1), 1) := by decide +kernel
theorem dyX12_grows_70 : decode cX12_grows 70 = .ok (.istore 4, 2) := by decide +kernel
theorem dyX12_grows_72 : decode cX12_grows 72 = .ok (.iload_n 2, 1) := by decide +kernel
theorem dyX12_grows_73 : decode cX12_grows 73 = .ok (.aload_n 0, 1) := by decide +kernel
theorem dyX12_grows_74 : decode cX12_grows 74 = .ok (.getfield 22, 3) := by decide +kernel
theorem dyX12_grows_77 : decode cX12_grows 77 = .ok (.iload_n 1, 1) := by decide +kernel
theorem dyX12_grows_78 : decode cX12_grows 78 = .ok (.iaload, 1) := by decide +kernel
theorem dyX12_grows_79 : decode cX12_grows 79 = .ok (.invokestatic 268, 3) := by decide +kernel
theorem dyX12_grows_82 : decode cX12_grows 82 = .ok (.istore 5, 2) := by decide +kernel
theorem dyX12_grows_84 : decode cX12_grows 84 = .ok (.iload_n 2, 1) := by decide +kernel
theorem dyX12_grows_85 : decode cX12_grows 85 = .ok (.invokestatic 271, 3) := by decide +kernel
theorem dyX12_grows_88 : decode cX12_grows 88 = .ok (.istore 6, 2) := by decide +kernel
theorem dyX12_grows_90 : decode cX12_grows 90 = .ok (.iload 4, 2) := by decide +kernel
theorem dyX12_grows_92 : decode cX12_grows 92 = .ok (.ifCond .lt 46, 3) := by decide +kernel
theorem dyX12_grows_95 : decode cX12_grows 95 = .ok (.aload_n 0, 1) := by decide +kernel
theorem dyX12_grows_96 : decode cX12_grows 96 = .ok (.dup, 1) := by decide +kernel
theorem dyX12_grows_97 : decode cX12_grows 97 = .ok (.getfield 344, 3) := by decide +kernel
theorem dyX12_grows_100 : decode cX12_grows 100 = .ok (.iconst 1, 1) := by decide +kernel
theorem dyX12_grows_101 : decode cX12_grows 101 = .ok (.iadd, 1) := by decide +kernel
theorem dyX12_grows_102 : decode cX12_grows 102 = .ok (.putfield 344, 3) := by decide +kernel
theorem dyX12_grows_105 : decode cX12_grows 105 = .ok (.aload_n 0, 1) := by decide +kernel
theorem dyX12_grows_106 : decode cX12_grows 106 = .ok (.iload 4, 2) := by decide +kernel
theorem dyX12_grows_108 : decode cX12_grows 108 = .ok (.iload_n 2, 1) := by decide +kernel
theorem dyX12_grows_109 : decode cX12_grows 109 = .ok (.aload_n 0, 1) := by decide +kernel
theorem dyX12_grows_110 : decode cX12_grows 110 = .ok (.getfield 62, 3) := by decide +kernel
theorem dyX12_grows_113 : decode cX12_grows 113 = .ok (.iload 4, 2) := by decide +kernel
theorem dyX12_grows_115 : decode cX12_grows 115 = .ok (.iaload, 1) := by decide +kernel
theorem dyX12_grows_116 : decode cX12_grows 116 = .ok (.invokestatic 259, 3) := by decide +kernel
theorem dyX12_grows_119 : decode cX12_grows 119 = .ok (.invokestatic 262, 3) := by decide +kernel
theorem dyX12_grows_122 : decode cX12_grows 122 = .ok (.invokevirtual 340, 3) := by decide +kernel
theorem dyX12_grows_125 : decode cX12_grows 125 = .ok (.iload_n 1, 1) := by decide +kernel
theorem dyX12_grows_126 : decode cX12_grows 126 = .ok (.aload_n 0, 1) := by decide +kernel
theorem dyX12_grows_127 : decode cX12_grows 127 = .ok (.getfield 80, 3) := by decide +kernel
theorem dyX12_grows_130 : decode cX12_grows 130 = .ok (.iload 4, 2) := by decide +kernel
theorem dyX12_grows_132 : decode cX12_grows 132 = .ok (.iaload, 1) := by decide +kernel
theorem dyX12_grows_133 : decode cX12_grows 133 = .ok (.iadd, 1) := by decide +kernel
theorem dyX12_grows_134 : decode cX12_grows 134 = .ok (.istore_n 1, 1) := by decide +kernel
theorem dyX12_grows_135 : decode cX12_grows 135 = .ok (.goto 86, 3) := by decide +kernel
theorem dyX12_grows_138 : decode cX12_grows 138 = .ok (.iload 5, 2) := by decide +kernel
theorem dyX12_grows_140 : decode cX12_grows 140 = .ok (.ifCond .lt 45, 3) := by decide +kernel
theorem dyX12_grows_143 : decode cX12_grows 143 = .ok (.aload_n 0, 1) := by decide +kernel
theorem dyX12_grows_144 : decode cX12_grows 144 = .ok (.getfield 35, 3) := by decide +kernel
theorem dyX12_grows_147 : decode cX12_grows 147 = .ok (.iload_n 1, 1) := by decide +kernel
theorem dyX12_grows_148 : decode cX12_grows 148 = .ok (.iaload, 1) := by decide +kernel
theorem dyX12_grows_149 : decode cX12_grows 149 = .ok (.istore 7, 2) := by decide +kernel
theorem dyX12_grows_151 : decode cX12_grows 151 = .ok (.aload_n 0, 1) := by decide +kernel
theorem dyX12_grows_152 : decode cX12_grows 152 = .ok (.getfield 77, 3) := by decide +kernel
theorem dyX12_grows_155 : decode cX12_grows 155 = .ok (.iload 7, 2) := by decide +kernel
theorem dyX12_grows_157 : decode cX12_grows 157 = .ok (.iaload, 1) := by decide +kernel
theorem dyX12_grows_158 : decode cX12_grows 158 = .ok (.bipush (-2), 2) := by decide +kernel
theorem dyX12_grows_160 : decode cX12_grows 160 = .ok (.if_icmp .ne 11, 3) := by decide +kernel
theorem dyX12_grows_163 : decode cX12_grows 163 = .ok (.aload_n 0, 1) := by decide +kernel
theorem dyX12_grows_164 : decode cX12_grows 164 = .ok (.getfield 77, 3) := by decide +kernel
theorem dyX12_grows_167 : decode cX12_grows 167 = .ok (.iload 7, 2) := by decide +kernel
theorem dyX12_grows_169 : decode cX12_grows 169 = .ok (.iload_n 2, 1) := by decide +kernel
theorem dyX12_grows_170 : decode cX12_grows 170 = .ok (.iastore, 1) := by decide +kernel
theorem dyX12_grows_171 : decode cX12_grows 171 = .ok (.aload_n 0, 1) := by decide +kernel
theorem dyX12_grows_172 : decode cX12_grows 172 = .ok (.iload 7, 2) := by decide +kernel
theorem dyX12_grows_174 : decode cX12_grows 174 = .ok (.iload 5, 2) := by decide +kernel
theorem dyX12_grows_176 : decode cX12_grows 176 = .ok (.invokevirtual 340, 3) := by decide +kernel
theorem dyX12_grows_179 : decode cX12_grows 179 = .ok (.iinc 1 1, 3) := by decide +kernel
theorem dyX12_grows_182 : decode cX12_grows 182 = .ok (.goto 39, 3) := by decide +kernel
theorem dyX12_grows_185 : decode cX12_grows 185 = .ok (.iload 6, 2) := by decide +kernel
theorem dyX12_grows_187 : decode cX12_grows 187 = .ok (.ifCond .lt 12, 3) := by decide +kernel
theorem dyX12_grows_190 : decode cX12_grows 190 = .ok (.aload_n 0, 1) := by decide +kernel
theorem dyX12_grows_191 : decode cX12_grows 191 = .ok (.iload 6, 2) := by decide +kernel
theorem dyX12_grows_193 : decode cX12_grows 193 = .ok (.invokevirtual 353, 3) := by decide +kernel
theorem dyX12_grows_196 : decode cX12_grows 196 = .ok (.goto 25, 3) := by decide +kernel
theorem dyX12_grows_199 : decode cX12_grows 199 = .ok (.aload_n 0, 1) := by decide +kernel
theorem dyX12_grows_200 : decode cX12_grows 200 = .ok (.getfield 22, 3) := by decide +kernel
theorem dyX12_grows_203 : decode cX12_grows 203 = .ok (.iload_n 1, 1) := by decide +kernel
theorem dyX12_grows_204 : decode cX12_grows 204 = .ok (.iaload, 1) := by decide +kernel
theorem dyX12_grows_205 : decode cX12_grows 205 = .ok (.bipush 10, 2) := by decide +kernel
theorem dyX12_grows_207 : decode cX12_grows 207 = .ok (.if_icmp .ne 12, 3) := by decide +kernel
theorem dyX12_grows_210 : decode cX12_grows 210 = .ok (.iload_n 2, 1) := by decide +kernel
theorem dyX12_grows_211 : decode cX12_grows 211 = .ok (.iconst 1, 1) := by decide +kernel
theorem dyX12_grows_212 : decode cX12_grows 212 = .ok (.if_icmp .ne 7, 3) := by decide +kernel
theorem dyX12_grows_215 : decode cX12_grows 215 = .ok (.iconst (-1), 1) := by decide +kernel
theorem dyX12_grows_216 : decode cX12_grows 216 = .ok (.goto 4, 3) := by decide +kernel
theorem dyX12_grows_219 : decode cX12_grows 219 = .ok (.iload_n 1, 1) := by decide +kernel
theorem dyX12_grows_220 : decode cX12_grows 220 = .ok (.ireturn, 1) := by decide +kernel
theorem dyX12_grows_221 : decode cX12_grows 221 = .ok (.goto (-193), 3) := by decide +kernel
theorem zsg_yX12_grows : yX12_grows.cls = RX12 ∧ yX12_grows.cls ≠ "java/lang/invoke/MethodHandle" ∧ yX12_grows.cls ≠ "java/lang/invoke/VarHandle" ∧ (parseMethodDescriptor yX12_grows.desc).map (fun d => d.parameters.length) = some 0 := by decide +kernel
set_option maxRecDepth 20000 in
theorem c_M_grows {l : Launch} {D : va_G} {B : Nat} {cA : Nat → ClassId} {ad : Nat → Nat} {S : List zC} (hS : zOkM S)  {I : zI} {K : Int32 → zI → Prop}  (h : w_M_grows  I K) : Met l yX12_grows (zws yX12_grows cX12_grows 8 (some .int)) (zrm 2 48) (zPc D B cA ad [.ref (B + 491)] S I) (zQc D B cA (zqI S K)) 0 0 (fun q => B ≤ q) := by
  refine zm_of (cc := cX12_grows) (maxL := 8) (ret := (some .int)) (by decide +kernel) rfl (Nat.le_of_ble_eq_true rfl) trivial ?_
  intro p e s m args below meth c C _
  unfold w_M_grows at h
  show zX p l e (zrm 2 48) s m args below meth c (MQ below (zQc D B cA (zqI S K)) args s 0 0 (fun q => B ≤ q)) D B cA 8 0 0 S I [(0, .ref (B + 491))] [] 0
  refine zr_aload_n C dyX12_grows_0 rfl 0 rfl ?_
  refine zr_iconst C dyX12_grows_1 zc_i_0 ?_
  refine zp_12_334 C hS dyX12_grows_2 ?_
  refine zn_mem C (fun I_1 eI_1 => ?_)
  replace h := h I_1 eI_1
  refine zr_aload_n C dyX12_grows_5 rfl 0 rfl ?_
  refine zr_iconst C dyX12_grows_6 zc_i_0 ?_
  refine zp_12_337 C hS dyX12_grows_7 ?_
  refine zn_mem C (fun I_2 eI_2 => ?_)
  replace h := h I_2 eI_2
  refine zr_aload_n C dyX12_grows_10 rfl 0 rfl ?_
  refine zr_iconst C dyX12_grows_11 zc_i_0 ?_
  refine zp_12_344 C hS dyX12_grows_12 ?_
  refine zn_mem C (fun I_3 eI_3 => ?_)
  replace h := h I_3 eI_3
  refine zr_aload_n C dyX12_grows_15 rfl 0 rfl ?_
  refine zr_iconst C dyX12_grows_16 zc_i_m1 ?_
  refine zr_iconst C dyX12_grows_17 zc_i_0 ?_
  refine zv_12_340 C hS (st := []) h ⟨Nat.le_of_ble_eq_true rfl, Nat.le_of_ble_eq_true rfl⟩ (Nat.le_of_ble_eq_true rfl) dyX12_grows_18 (fun I_4 h => ?_)
  refine zr_aload_n C dyX12_grows_21 rfl 0 rfl ?_
  refine zr_iconst C dyX12_grows_22 zc_i_0 ?_
  refine zp_12_337 C hS dyX12_grows_23 ?_
  refine zn_mem C (fun I_5 eI_5 => ?_)
  replace h := h I_5 eI_5
  refine zr_iconst C dyX12_grows_26 zc_i_0 ?_
  refine zr_istore_n C dyX12_grows_27 rfl (Nat.le_of_ble_eq_true rfl) (lv2 := [(1, .int 0), (0, .ref (B + 491))]) rfl ?_
  refine zjn (h (fun (v1_6 : Int32) (I_7 : zI) => zX p l e (zrm 2 48) s m args below meth c (MQ below (zQc D B cA (zqI S K)) args s 0 0 (fun q => B ≤ q)) D B cA 8 0 0 S I_7 [(1, .int v1_6), (0, .ref (B + 491))] [] 28) (fun v1_6 I_7 h => ?_)) (fun h => ?_)
  · refine zr_aload_n C dyX12_grows_28 rfl 1 rfl ?_
    refine zg_12_153 C hS dyX12_grows_29 ?_
    refine zr_aload_n C dyX12_grows_32 rfl 1 rfl ?_
    refine zg_12_334 C hS dyX12_grows_33 ?_
    refine zr_iconst C dyX12_grows_36 zc_i_1 ?_
    refine zr_isub C dyX12_grows_37 ?_
    refine zr_iald C (hS _ _ zs_539) h.1 dyX12_grows_38 ?_
    replace h := h.2
    refine zn_istore_n C (fun v2_8 => [(2, .int v2_8), (1, .int v1_6), (0, .ref (B + 491))]) dyX12_grows_39 rfl (Nat.le_of_ble_eq_true rfl) (fun _ => rfl) (fun v2_8 ev2_8 => ?_)
    replace h := h v2_8 ev2_8
    refine zr_aload_n C dyX12_grows_40 rfl 2 rfl ?_
    refine zr_iload_n C dyX12_grows_41 rfl 1 rfl ?_
    refine zv_12_347 C hS (st := []) h ⟨Nat.le_of_ble_eq_true rfl, Nat.le_of_ble_eq_true rfl⟩ (Nat.le_of_ble_eq_true rfl) dyX12_grows_42 (fun r_9 h => ?_)
    refine zr_istore_n C dyX12_grows_45 rfl (Nat.le_of_ble_eq_true rfl) (lv2 := [(3, .int r_9), (2, .int v2_8), (1, .int v1_6), (0, .ref (B + 491))]) rfl ?_
    refine zr_iload_n C dyX12_grows_46 rfl 0 rfl ?_
    refine zjn (h (fun (t_10 : Int32) => zX p l e (zrm 2 48) s m args below meth c (MQ below (zQc D B cA (zqI S K)) args s 0 0 (fun q => B ≤ q)) D B cA 8 0 0 S I_7 [(2, .int v2_8), (1, .int v1_6), (0, .ref (B + 491))] [.int t_10] 70) (fun t_10 h => ?_)) (fun h => ?_)
    · refine zr_istore C dyX12_grows_70 (Nat.le_of_ble_eq_true rfl) (lv2 := [(4, .int t_10), (2, .int v2_8), (1, .int v1_6), (0, .ref (B + 491))]) rfl ?_
      refine zr_iload_n C dyX12_grows_72 rfl 1 rfl ?_
      refine zr_aload_n C dyX12_grows_73 rfl 3 rfl ?_
      refine zg_12_22 C hS dyX12_grows_74 ?_
      refine zr_iload_n C dyX12_grows_77 rfl 2 rfl ?_
      refine zr_iald C (hS _ _ zs_496) h.1 dyX12_grows_78 ?_
      replace h := h.2
      refine zv_12_268 C hS (st := []) h ⟨Nat.le_of_ble_eq_true rfl, Nat.le_of_ble_eq_true rfl⟩ (Nat.le_of_ble_eq_true rfl) dyX12_grows_79 (fun r_11 h => ?_)
      refine zr_istore C dyX12_grows_82 (Nat.le_of_ble_eq_true rfl) (lv2 := [(5, .int r_11), (4, .int t_10), (2, .int v2_8), (1, .int v1_6), (0, .ref (B + 491))]) rfl ?_
      refine zr_iload_n C dyX12_grows_84 rfl 2 rfl ?_
      refine zv_12_271 C hS (st := []) h ⟨Nat.le_of_ble_eq_true rfl, Nat.le_of_ble_eq_true rfl⟩ (Nat.le_of_ble_eq_true rfl) dyX12_grows_85 (fun r_12 h => ?_)
      refine zr_istore C dyX12_grows_88 (Nat.le_of_ble_eq_true rfl) (lv2 := [(6, .int r_12), (5, .int r_11), (4, .int t_10), (2, .int v2_8), (1, .int v1_6), (0, .ref (B + 491))]) rfl ?_
      refine zr_iload C dyX12_grows_90 2 rfl ?_
      refine zr_if_lt C dyX12_grows_92 (tgt := 138) (by decide) (fun hc_29 => ?_) (fun hc_29 => ?_)
      · replace h := zif_pos hc_29 h
        refine zr_iload C dyX12_grows_138 1 rfl ?_
        refine zr_if_lt C dyX12_grows_140 (tgt := 185) (by decide) (fun hc_23 => ?_) (fun hc_23 => ?_)
        · replace h := zif_pos hc_23 h
          refine zr_iload C dyX12_grows_185 0 rfl ?_
          refine zr_if_lt C dyX12_grows_187 (tgt := 199) (by decide) (fun hc_16 => ?_) (fun hc_16 => ?_)
          · replace h := zif_pos hc_16 h
            refine zr_aload_n C dyX12_grows_199 rfl 5 rfl ?_
            refine zg_12_22 C hS dyX12_grows_200 ?_
            refine zr_iload_n C dyX12_grows_203 rfl 4 rfl ?_
            refine zr_iald C (hS _ _ zs_496) h.1 dyX12_grows_204 ?_
            replace h := h.2
            refine zr_bipush C dyX12_grows_205 zc_b_10 ?_
            refine zr_icmp_ne C dyX12_grows_207 (tgt := 219) (by decide) (fun hc_14 => ?_) (fun hc_14 => ?_)
            · replace h := zif_neg hc_14 h
              refine zr_iload_n C dyX12_grows_219 rfl 4 rfl ?_
              exact zr_iret C rfl dyX12_grows_220 ⟨rfl, _, rfl, h⟩
            · replace h := zif_pos hc_14 h
              refine zr_iload_n C dyX12_grows_210 rfl 3 rfl ?_
              refine zr_iconst C dyX12_grows_211 zc_i_1 ?_
              refine zr_icmp_ne C dyX12_grows_212 (tgt := 219) (by decide) (fun hc_13 => ?_) (fun hc_13 => ?_)
              · replace h := zif_neg hc_13 h
                refine zr_iload_n C dyX12_grows_219 rfl 4 rfl ?_
                exact zr_iret C rfl dyX12_grows_220 ⟨rfl, _, rfl, h⟩
              · replace h := zif_pos hc_13 h
                refine zr_iconst C dyX12_grows_215 zc_i_m1 ?_
                refine zr_goto C dyX12_grows_216 (tgt := 220) (by decide) ?_
                exact zr_iret C rfl dyX12_grows_220 ⟨rfl, _, rfl, h⟩
          · replace h := zif_neg hc_16 h
            refine zr_aload_n C dyX12_grows_190 rfl 5 rfl ?_
            refine zr_iload C dyX12_grows_191 0 rfl ?_
            refine zv_12_353 C hS (st := []) h ⟨Nat.le_of_ble_eq_true rfl, Nat.le_of_ble_eq_true rfl⟩ (Nat.le_of_ble_eq_true rfl) dyX12_grows_193 (fun I_15 h => ?_)
            refine zr_goto C dyX12_grows_196 (tgt := 221) (by decide) ?_
            refine zr_goto C dyX12_grows_221 (tgt := 28) (by decide) ?_
            refine zr_sub (lv2 := [(1, .int v1_6), (0, .ref (B + 491))]) [4, 5] rfl ?_
            exact h
        · replace h := zif_neg hc_23 h
          refine zr_aload_n C dyX12_grows_143 rfl 5 rfl ?_
          refine zg_12_35 C hS dyX12_grows_144 ?_
          refine zr_iload_n C dyX12_grows_147 rfl 4 rfl ?_
          refine zr_iald C (hS _ _ zs_500) h.1 dyX12_grows_148 ?_
          replace h := h.2
          refine zn_istore C (fun v7_17 => [(7, .int v7_17), (6, .int r_12), (5, .int r_11), (4, .int t_10), (2, .int v2_8), (1, .int v1_6), (0, .ref (B + 491))]) dyX12_grows_149 (Nat.le_of_ble_eq_true rfl) (fun _ => rfl) (fun v7_17 ev7_17 => ?_)
          replace h := h v7_17 ev7_17
          refine zr_aload_n C dyX12_grows_151 rfl 6 rfl ?_
          refine zg_12_77 C hS dyX12_grows_152 ?_
          refine zr_iload C dyX12_grows_155 0 rfl ?_
          refine zr_iald C (hS _ _ zs_514) h.1 dyX12_grows_157 ?_
          replace h := h.2
          refine zr_bipush C dyX12_grows_158 zc_b_m2 ?_
          refine zjn (h (fun (I_18 : zI) => zX p l e (zrm 2 48) s m args below meth c (MQ below (zQc D B cA (zqI S K)) args s 0 0 (fun q => B ≤ q)) D B cA 8 0 0 S I_18 [(7, .int v7_17), (5, .int r_11), (1, .int v1_6), (0, .ref (B + 491))] [] 171) (fun I_18 h => ?_)) (fun h => ?_)
          · refine zr_aload_n C dyX12_grows_171 rfl 3 rfl ?_
            refine zr_iload C dyX12_grows_172 0 rfl ?_
            refine zr_iload C dyX12_grows_174 1 rfl ?_
            refine zv_12_340 C hS (st := []) h ⟨Nat.le_of_ble_eq_true rfl, Nat.le_of_ble_eq_true rfl⟩ (Nat.le_of_ble_eq_true rfl) dyX12_grows_176 (fun I_19 h => ?_)
            refine zn_iinc C (fun v1_20 => [(1, .int v1_20), (7, .int v7_17), (5, .int r_11), (0, .ref (B + 491))]) dyX12_grows_179 2 rfl zc_i_1 (Nat.le_of_ble_eq_true rfl) (fun _ => rfl) (fun v1_20 ev1_20 => ?_)
            replace h := h v1_20 ev1_20
            refine zr_goto C dyX12_grows_182 (tgt := 221) (by decide) ?_
            refine zr_goto C dyX12_grows_221 (tgt := 28) (by decide) ?_
            refine zr_sub (lv2 := [(1, .int v1_20), (0, .ref (B + 491))]) [0, 3] rfl ?_
            exact h
          refine zr_icmp_ne C dyX12_grows_160 (tgt := 171) (by decide) (fun hc_22 => ?_) (fun hc_22 => ?_)
          · replace h := zif_neg hc_22 h
            refine zr_sub (lv2 := [(7, .int v7_17), (5, .int r_11), (1, .int v1_6), (0, .ref (B + 491))]) [0, 2, 5, 6] rfl ?_
            exact h
          · replace h := zif_pos hc_22 h
            refine zr_aload_n C dyX12_grows_163 rfl 6 rfl ?_
            refine zg_12_77 C hS dyX12_grows_164 ?_
            refine zr_iload C dyX12_grows_167 0 rfl ?_
            refine zr_iload_n C dyX12_grows_169 rfl 4 rfl ?_
            refine zr_iast C (hS _ _ zs_514) h.1 dyX12_grows_170 ?_
            replace h := h.2
            refine zn_mem C (fun I_21 eI_21 => ?_)
            replace h := h I_21 eI_21
            refine zr_sub (lv2 := [(7, .int v7_17), (5, .int r_11), (1, .int v1_6), (0, .ref (B + 491))]) [0, 2, 5, 6] rfl ?_
            exact h
      · replace h := zif_neg hc_29 h
        refine zr_aload_n C dyX12_grows_95 rfl 5 rfl ?_
        refine zr_dup C dyX12_grows_96 rfl ?_
        refine zg_12_344 C hS dyX12_grows_97 ?_
        refine zr_iconst C dyX12_grows_100 zc_i_1 ?_
        refine zr_iadd C dyX12_grows_101 ?_
        refine zp_12_344 C hS dyX12_grows_102 ?_
        refine zn_mem C (fun I_24 eI_24 => ?_)
        replace h := h I_24 eI_24
        refine zr_aload_n C dyX12_grows_105 rfl 5 rfl ?_
        refine zr_iload C dyX12_grows_106 2 rfl ?_
        refine zr_iload_n C dyX12_grows_108 rfl 3 rfl ?_
        refine zr_aload_n C dyX12_grows_109 rfl 5 rfl ?_
        refine zg_12_62 C hS dyX12_grows_110 ?_
        refine zr_iload C dyX12_grows_113 2 rfl ?_
        refine zr_iald C (hS _ _ zs_509) h.1 dyX12_grows_115 ?_
        replace h := h.2
        refine zv_12_259 C hS (st := [.int v2_8, .int t_10, .ref (B + 491)]) h ⟨Nat.le_of_ble_eq_true rfl, Nat.le_of_ble_eq_true rfl⟩ (Nat.le_of_ble_eq_true rfl) dyX12_grows_116 (fun r_25 h => ?_)
        refine zv_12_262 C hS (st := [.int t_10, .ref (B + 491)]) h ⟨Nat.le_of_ble_eq_true rfl, Nat.le_of_ble_eq_true rfl⟩ (Nat.le_of_ble_eq_true rfl) dyX12_grows_119 (fun r_26 h => ?_)
        refine zv_12_340 C hS (st := []) h ⟨Nat.le_of_ble_eq_true rfl, Nat.le_of_ble_eq_true rfl⟩ (Nat.le_of_ble_eq_true rfl) dyX12_grows_122 (fun I_27 h => ?_)
        refine zr_iload_n C dyX12_grows_125 rfl 4 rfl ?_
        refine zr_aload_n C dyX12_grows_126 rfl 5 rfl ?_
        refine zg_12_80 C hS dyX12_grows_127 ?_
        refine zr_iload C dyX12_grows_130 2 rfl ?_
        refine zr_iald C (hS _ _ zs_515) h.1 dyX12_grows_132 ?_
        replace h := h.2
        refine zr_iadd C dyX12_grows_133 ?_
        refine zn_istore_n C (fun v1_28 => [(1, .int v1_28), (6, .int r_12), (5, .int r_11), (4, .int t_10), (2, .int v2_8), (0, .ref (B + 491))]) dyX12_grows_134 rfl (Nat.le_of_ble_eq_true rfl) (fun _ => rfl) (fun v1_28 ev1_28 => ?_)
        replace h := h v1_28 ev1_28
        refine zr_goto C dyX12_grows_135 (tgt := 221) (by decide) ?_
        refine zr_goto C dyX12_grows_221 (tgt := 28) (by decide) ?_
        refine zr_sub (lv2 := [(1, .int v1_28), (0, .ref (B + 491))]) [0, 5] rfl ?_
        exact h
    refine zjn (h (zX p l e (zrm 2 48) s m args below meth c (MQ below (zQc D B cA (zqI S K)) args s 0 0 (fun q => B ≤ q)) D B cA 8 0 0 S I_7 [(2, .int v2_8), (1, .int v1_6), (0, .ref (B + 491))] [] 69) (fun  h => ?_)) (fun h => ?_)
    · refine zr_iconst C dyX12_grows_69 zc_i_m1 ?_
      exact h
    refine zr_if_lt C dyX12_grows_47 (tgt := 69) (by decide) (fun hc_32 => ?_) (fun hc_32 => ?_)
    · replace h := zif_pos hc_32 h
      refine zr_sub (lv2 := [(2, .int v2_8), (1, .int v1_6), (0, .ref (B + 491))]) [1, 2, 3] rfl ?_
      exact h
    · replace h := zif_neg hc_32 h
      refine zr_iload_n C dyX12_grows_50 rfl 0 rfl ?_
      refine zr_aload_n C dyX12_grows_51 rfl 3 rfl ?_
      refine zg_12_244 C hS dyX12_grows_52 ?_
      refine zr_iconst C dyX12_grows_55 zc_i_1 ?_
      refine zr_isub C dyX12_grows_56 ?_
      refine zr_icmp_ge C dyX12_grows_57 (tgt := 69) (by decide) (fun hc_31 => ?_) (fun hc_31 => ?_)
      · replace h := zif_pos hc_31 h
        refine zr_sub (lv2 := [(2, .int v2_8), (1, .int v1_6), (0, .ref (B + 491))]) [1, 2, 3] rfl ?_
        exact h
      · replace h := zif_neg hc_31 h
        refine zr_aload_n C dyX12_grows_60 rfl 3 rfl ?_
        refine zr_iload_n C dyX12_grows_61 rfl 0 rfl ?_
        refine zr_iload_n C dyX12_grows_62 rfl 1 rfl ?_
        refine zv_12_350 C hS (st := []) h ⟨Nat.le_of_ble_eq_true rfl, Nat.le_of_ble_eq_true rfl⟩ (Nat.le_of_ble_eq_true rfl) dyX12_grows_63 (fun r_30 h => ?_)
        refine zr_goto C dyX12_grows_66 (tgt := 70) (by decide) ?_
        refine zr_sub (lv2 := [(2, .int v2_8), (1, .int v1_6), (0, .ref (B + 491))]) [1, 2, 3] rfl ?_
        exact h
  exact h
