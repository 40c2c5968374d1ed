def w_M_isGoodName (a1 : Int32) (I : zI) (K : Int32 → Prop) : Prop :=
  w_M_in a1 0 ((I.1 491 19) - 1) I (fun r_1 => (if r_1 = 0 then K 0 else (vp_in a1 110 ∧ (if (I.1 504 (Int32.toNatClampNeg a1)) = 0 then K 1 else K 0))))
theorem dyX12_isGoodName_0 : decode cX12_isGoodName 0 = .ok (.iload_n 1, 1) := by decide +kernel
theorem dyX12_isGoodName_1 : decode cX12_isGoodName 1 = .ok (.iconst 0, 1) := by decide +kernel
theorem dyX12_isGoodName_2 : decode cX12_isGoodName 2 = .ok (.aload_n 0, 1) := by decide +kernel
theorem dyX12_isGoodName_3 : decode cX12_isGoodName 3 = .ok (.getfield 244, 3) := by decide +kernel
theorem dyX12_isGoodName_6 : decode cX12_isGoodName 6 = .ok (.iconst 1, 1) := by decide +kernel
theorem dyX12_isGoodName_7 : decode cX12_isGoodName 7 = .ok (.isub, 1) := by decide +kernel
theorem dyX12_isGoodName_8 : decode cX12_isGoodName 8 = .ok (.invokestatic 286, 3) := by decide +kernel
theorem dyX12_isGoodName_11 : decode cX12_isGoodName 11 = .ok (.ifCond .eq 16, 3) := by decide +kernel
theorem dyX12_isGoodName_14 : decode cX12_isGoodName 14 = .ok (.aload_n 0, 1) := by decide +kernel
theorem dyX12_isGoodName_15 : decode cX12_isGoodName 15 = .ok (.getfield 47, 3) := by decide +kernel
theorem dyX12_isGoodName_18 : decode cX12_isGoodName 18 = .ok (.iload_n 1, 1) := by decide +kernel
theorem dyX12_isGoodName_19 : decode cX12_isGoodName 19 = .ok (.iaload, 1) := by decide +kernel
theorem dyX12_isGoodName_20 : decode cX12_isGoodName 20 = .ok (.ifCond .ne 7, 3) := by decide +kernel
theorem dyX12_isGoodName_23 : decode cX12_isGoodName 23 = .ok (.iconst 1, 1) := by decide +kernel
theorem dyX12_isGoodName_24 : decode cX12_isGoodName 24 = .ok (.goto 4, 3) := by decide +kernel
theorem dyX12_isGoodName_27 : decode cX12_isGoodName 27 = .ok (.iconst 0, 1) := by decide +kernel
theorem dyX12_isGoodName_28 : decode cX12_isGoodName 28 = .ok (.ireturn, 1) := by decide +kernel
theorem zsg_yX12_isGoodName : yX12_isGoodName.cls = RX12 ∧ yX12_isGoodName.cls ≠ "java/lang/invoke/MethodHandle" ∧ yX12_isGoodName.cls ≠ "java/lang/invoke/VarHandle" ∧ (parseMethodDescriptor yX12_isGoodName.desc).map (fun d => d.parameters.length) = some 1 := by decide +kernel
set_option maxRecDepth 20000 in
theorem c_M_isGoodName {l : Launch} {D : va_G} {B : Nat} {cA : Nat → ClassId} {ad : Nat → Nat} {S : List zC} (hS : zOkM S) {a1 : Int32} {I : zI} {K : Int32 → Prop}  (h : w_M_isGoodName a1 I K) : Met l yX12_isGoodName (zws yX12_isGoodName cX12_isGoodName 2 (some .boolean)) (zrm 1 22) (zPc D B cA ad [.ref (B + 491), .int a1] S I) (zQc D B cA (zpI S I K)) 0 0 (fun q => B ≤ q) := by
  refine zm_of (cc := cX12_isGoodName) (maxL := 2) (ret := (some .boolean)) (by decide +kernel) rfl (Nat.le_of_ble_eq_true rfl) trivial ?_
  intro p e s m args below meth c C _
  unfold w_M_isGoodName at h
  show zX p l e (zrm 1 22) s m args below meth c (MQ below (zQc D B cA (zpI S I K)) args s 0 0 (fun q => B ≤ q)) D B cA 2 0 0 S I [(0, .ref (B + 491)), (1, .int a1)] [] 0
  refine zr_iload_n C dyX12_isGoodName_0 rfl 1 rfl ?_
  refine zr_iconst C dyX12_isGoodName_1 zc_i_0 ?_
  refine zr_aload_n C dyX12_isGoodName_2 rfl 0 rfl ?_
  refine zg_12_244 C hS dyX12_isGoodName_3 ?_
  refine zr_iconst C dyX12_isGoodName_6 zc_i_1 ?_
  refine zr_isub C dyX12_isGoodName_7 ?_
  refine zv_12_286 C hS (st := []) h ⟨Nat.le_of_ble_eq_true rfl, Nat.le_of_ble_eq_true rfl⟩ (Nat.le_of_ble_eq_true rfl) dyX12_isGoodName_8 (fun r_1 h => ?_)
  refine zr_if_eq C dyX12_isGoodName_11 (tgt := 27) (by decide) (fun hc_3 => ?_) (fun hc_3 => ?_)
  · replace h := zif_pos hc_3 h
    refine zr_iconst C dyX12_isGoodName_27 zc_i_0 ?_
    exact zr_zret C rfl (zb.nar zb_0) dyX12_isGoodName_28 ⟨rfl, rfl, _, rfl, h⟩
  · replace h := zif_neg hc_3 h
    refine zr_aload_n C dyX12_isGoodName_14 rfl 0 rfl ?_
    refine zg_12_47 C hS dyX12_isGoodName_15 ?_
    refine zr_iload_n C dyX12_isGoodName_18 rfl 1 rfl ?_
    refine zr_iald C (hS _ _ zs_504) h.1 dyX12_isGoodName_19 ?_
    replace h := h.2
    refine zr_if_ne C dyX12_isGoodName_20 (tgt := 27) (by decide) (fun hc_2 => ?_) (fun hc_2 => ?_)
    · replace h := zif_neg hc_2 h
      refine zr_iconst C dyX12_isGoodName_27 zc_i_0 ?_
      exact zr_zret C rfl (zb.nar zb_0) dyX12_isGoodName_28 ⟨rfl, rfl, _, rfl, h⟩
    · replace h := zif_pos hc_2 h
      refine zr_iconst C dyX12_isGoodName_23 zc_i_1 ?_
      refine zr_goto C dyX12_isGoodName_24 (tgt := 28) (by decide) ?_
      exact zr_zret C rfl (zb.nar zb_1) dyX12_isGoodName_28 ⟨rfl, rfl, _, rfl, h⟩
theorem zv_12_394 {p : Program} {l : Launch} {e : Env} {R : Room} {s : State} {m : MethodId} {args : Array Value} {below : List Frame} {meth : Method} {c : Code} {Q : State → Prop} {D : va_G} {B : Nat} {cA : Nat → ClassId} {ad : Nat → Nat} {cc : ByteArray} {nL : Nat} {ret : Option FieldType} {S : List zC} {I : zI} {lv : List (Nat × Value)} {st : List Value} {pc : Nat} (C : zCx p s m args meth c cc nL RX12 ret D B cA ad) {K : Int32 → Prop} {xa1 : Int32} (hS : zOkM S)  (h : w_M_isGoodName xa1 I K) (hR : 1 + 1 ≤ R.frames ∧ 8 + (2 + 11) + (22) ≤ R.locals) (hw : (st.map fun v => v.category).sum ≤ 8) (hd : decode cc pc = .ok (.invokevirtual 394, 3)) (kk : ∀ v, K v → zX p l e R s m args below meth c Q D B cA nL 0 0 S I lv (.int v :: st) (pc + 3)) : zX p l e R s m args below meth c Q D B cA nL 0 0 S I lv (.int xa1 :: .ref (B + 491) :: st) pc :=
  have hf : 0 ≤ R.cells ∧ 0 ≤ R.slots := ⟨Nat.zero_le _, Nat.zero_le _⟩
  zc_VpI C (ci := 12) (q := (RX12, TX12, 82)) (k := 491) (fs := [none, some (some 492), some (some 493), none, some (some 494), none, some (some 495), none, none, none, some (some 496), some (some 497), some (some 498), some (some 499), some (some 500), none, some (some 501), some (some 502), some (some 503), none, some (some 504), some (some 505), some (some 506), some (some 507), some (some 508), none, some (some 509), some (some 510), some (some 511), some (some 512), some (some 513), some (some 514), some (some 515), some (some 516), some (some 517), some (some 518), none, none, some (some 519), none, some (some 520), none, none, none, some (some 521), some (some 522), some (some 523), some (some 524), some (some 525), some (some 526), some (some 527), none, some (some 528), none, some (some 529), none, some (some 530), some (some 531), some (some 532), none, some (some 533), some (some 534), some (some 535), some (some 536), some (some 537), none, none, none, some (some 538), some (some 539), some (some 540), none, none, none, some (some 541), none, none, some (some 542), some (some 543), some (some 544), none, some (some 545)]) (As := [.int xa1]) (st := st) rfl (hS _ _ zs_491) (c_M_isGoodName hS h) (zgV zk_ml_12_394 zk_im_yX12_isGoodName zk_se_yX12_isGoodName zk_in_12 zk_cd_yX12_isGoodName) zsg_yX12_isGoodName hR rfl rfl hw hd hf kk
theorem zv_12_397 {p : Program} {l : Launch} {e : Env} {R : Room} {s : State} {m : MethodId} {args : Array Value} {below : List Frame} {meth : Method} {c : Code} {Q : State → Prop} {D : va_G} {B : Nat} {cA : Nat → ClassId} {ad : Nat → Nat} {cc : ByteArray} {nL : Nat} {ret : Option FieldType} {S : List zC} {I : zI} {lv : List (Nat × Value)} {st : List Value} {pc : Nat} (C : zCx p s m args meth c cc nL RX12 ret D B cA ad) {K : Int32 → Prop}  (hS : zOkM S)  (h : w_M_isName I K) (hR : 1 + 1 ≤ R.frames ∧ 8 + (2 + 11) + (22) ≤ R.locals) (hw : (st.map fun v => v.category).sum ≤ 8) (hd : decode cc pc = .ok (.invokevirtual 397, 3)) (kk : ∀ v, K v → zX p l e R s m args below meth c Q D B cA nL 0 0 S I lv (.int v :: st) (pc + 3)) : zX p l e R s m args below meth c Q D B cA nL 0 0 S I lv (.ref (B + 491) :: st) pc :=
  have hf : 0 ≤ R.cells ∧ 0 ≤ R.slots := ⟨Nat.zero_le _, Nat.zero_le _⟩
  zc_VpI C (ci := 12) (q := (RX12, TX12, 82)) (k := 491) (fs := [none, some (some 492), some (some 493), none, some (some 494), none, some (some 495), none, none, none, some (some 496), some (some 497), some (some 498), some (some 499), some (some 500), none, some (some 501), some (some 502), some (some 503), none, some (some 504), some (some 505), some (some 506), some (some 507), some (some 508), none, some (some 509), some (some 510), some (some 511), some (some 512), some (some 513), some (some 514), some (some 515), some (some 516), some (some 517), some (some 518), none, none, some (some 519), none, some (some 520), none, none, none, some (some 521), some (some 522), some (some 523), some (some 524), some (some 525), some (some 526), some (some 527), none, some (some 528), none, some (some 529), none, some (some 530), some (some 531), some (some 532), none, some (some 533), some (some 534), some (some 535), some (some 536), some (some 537), none, none, none, some (some 538), some (some 539), some (some 540), none, none, none, some (some 541), none, none, some (some 542), some (some 543), some (some 544), none, some (some 545)]) (As := []) (st := st) rfl (hS _ _ zs_491) (c_M_isName hS h) (zgV zk_ml_12_397 zk_im_yX12_isName zk_se_yX12_isName zk_in_12 zk_cd_yX12_isName) zsg_yX12_isName hR rfl rfl hw hd hf kk
def w_M_rename (a1 : Int32) (I : zI) (K : Int32 → zI → Prop) : Prop :=
  (if (I.1 491 8) = 0 then (K (-1) I) else (w_M_isGoodName a1 I (fun r_1 => (if r_1 = 0 then (K (-1) I) else (w_M_isName I (fun r_2 => (if r_2 = 0 then (K (-1) I) else (∀ (P31 : Int32 → Int32 → Int32 → zI → Prop), (∀ (v2_3 : Int32) (v3_4 : Int32) (v4_5 : Int32) (I_6 : zI), (∀ (P40 : Int32 → Int32 → zI → Prop), (∀ (v2_7 : Int32) (v3_8 : Int32) (I_9 : zI), (vp_in v4_5 110 ∧ (if (I_9.1 505 (Int32.toNatClampNeg v4_5)) ≤ v3_8 then (vp_in v4_5 110 ∧ (∀ (P104 : Int32 → Prop), (∀ (t_10 : Int32), (∀ (P125 : Int32 → Prop), (∀ (t_11 : Int32), (∀ (P130 : Int32 → zI → Prop), (∀ (v7_12 : Int32) (I_13 : zI), ((if t_11 ≤ v7_12 then (∀ v2_14, v2_14 = (v2_7 + t_11) → vp_in v4_5 110 ∧ (∀ v3_15, v3_15 = (v3_8 + (I_13.1 506 (Int32.toNatClampNeg v4_5))) → (if v2_14 ≤ 400 then (∀ v4_16, v4_16 = (v4_5 + 1) → P31 v2_14 v3_15 v4_16 I_13) else (K (-1) I_13)))) else (∀ (P169 : Int32 → Prop), (∀ (t_18 : Int32), (vp_in (v2_7 + v7_12) 700 ∧ (∀ I_19, I_19 = (zu I_13 493 (Int32.toNatClampNeg (v2_7 + v7_12)) t_18) → ∀ v7_20, v7_20 = (v7_12 + 1) → P130 v7_20 I_19)) → P169 t_18) → (if t_10 = 0 then (vp_in (v3_8 + v7_12) 300 ∧ (P169 (I_13.1 495 (Int32.toNatClampNeg (v3_8 + v7_12))))) else (vp_in v7_12 220 ∧ (P169 (I_13.1 492 (Int32.toNatClampNeg v7_12)))))))) → P130 v7_12 I_13) → P130 0 I_9) → P125 t_11) → (if t_10 = 0 then (vp_in v4_5 110 ∧ (P125 (I_9.1 506 (Int32.toNatClampNeg v4_5)))) else (P125 (I_9.1 491 0)))) → P104 t_10) → ∀ (P103 : Prop), ((P104 0) → P103) → (if (I_9.1 504 (Int32.toNatClampNeg v4_5)) = 0 then (vp_in v4_5 110 ∧ (vp_in a1 110 ∧ (if (lg_cmp (I_9.2 507 (Int32.toNatClampNeg v4_5)) (I_9.2 507 (Int32.toNatClampNeg a1))) = 0 then P104 1 else P103))) else P103))) else (vp_in v3_8 300 ∧ (vp_in v2_7 700 ∧ (∀ I_26, I_26 = (zu I_9 493 (Int32.toNatClampNeg v2_7) (I_9.1 495 (Int32.toNatClampNeg v3_8))) → ∀ v2_27, v2_27 = (v2_7 + 1) → ∀ v3_28, v3_28 = (v3_8 + 1) → P40 v2_27 v3_28 I_26))))) → P40 v2_7 v3_8 I_9) → ∀ (P206 : Int32 → Int32 → zI → Prop), (∀ (v2_30 : Int32) (v3_31 : Int32) (I_32 : zI), ((if (I_32.1 491 7) ≤ v3_31 then (w_M_isRefused v2_30 I_32 (fun r_33 I_34 => (if r_33 = 0 then (∀ I_35, I_35 = (zu I_34 491 0 0) → w_M_edited I_35 (fun r_36 I_37 => K r_36 I_37)) else (K (-1) I_34)))) else (vp_in v3_31 300 ∧ (vp_in v2_30 700 ∧ (∀ I_39, I_39 = (zu I_32 493 (Int32.toNatClampNeg v2_30) (I_32.1 495 (Int32.toNatClampNeg v3_31))) → ∀ v2_40, v2_40 = (v2_30 + 1) → ∀ v3_41, v3_41 = (v3_31 + 1) → P206 v2_40 v3_41 I_39))))) → P206 v2_30 v3_31 I_32) → (if (I_6.1 491 19) ≤ v4_5 then P206 v2_3 v3_4 I_6 else P40 v2_3 v3_4 I_6)) → P31 v2_3 v3_4 v4_5 I_6) → P31 0 0 0 I))))))))
theorem dyX12_rename_0 : decode cX12_rename 0 = .ok (.aload_n 0, 1) := by decide +kernel
theorem dyX12_rename_1 : decode cX12_rename 1 = .ok (.getfield 182, 3) := by decide +kernel
theorem dyX12_rename_4 : decode cX12_rename 4 = .ok (.ifCond .eq 18, 3) := by decide +kernel
theorem dyX12_rename_7 : decode cX12_rename 7 = .ok (.aload_n 0, 1) := by decide +kernel
theorem dyX12_rename_8 : decode cX12_rename 8 = .ok (.iload_n 1, 1) := by decide +kernel
theorem dyX12_rename_9 : decode cX12_rename 9 = .ok (.invokevirtual 394, 3) := by decide +kernel
theorem dyX12_rename_12 : decode cX12_rename 12 = .ok (.ifCond .eq 10, 3) := by decide +kernel
theorem dyX12_rename_15 : decode cX12_rename 15 = .ok (.aload_n 0, 1) := by decide +kernel
theorem dyX12_rename_16 : decode cX12_rename 16 = .ok (.invokevirtual 397, 3) := by decide +kernel
theorem dyX12_rename_19 : decode cX12_rename 19 = .ok (.ifCond .ne 5, 3) := by decide +kernel
theorem dyX12_rename_22 : decode cX12_rename 22 = .ok (.iconst (-1), 1) := by decide +kernel
theorem dyX12_rename_23 : decode cX12_rename 23 = .ok (.ireturn, 1) := by decide +kernel
theorem dyX12_rename_24 : decode cX12_rename 24 = .ok (.iconst 0, 1) := by decide +kernel
theorem dyX12_rename_25 : decode cX12_rename 25 = .ok (.istore_n 2, 1) := by decide +kernel
theorem dyX12_rename_26 : decode cX12_rename 26 = .ok (.iconst 0, 1) := by decide +kernel
theorem dyX12_rename_27 : decode cX12_rename 27 = .ok (.istore_n 3, 1) := by decide +kernel
theorem dyX12_rename_28 : decode cX12_rename 28 = .ok (.iconst 0, 1) := by decide +kernel
theorem dyX12_rename_29 : decode cX12_rename 29 = .ok (.istore 4, 2) := by decide +kernel
theorem dyX12_rename_31 : decode cX12_rename 31 = .ok (.iload 4, 2) := by decide +kernel
theorem dyX12_rename_33 : decode cX12_rename 33 = .ok (.aload_n 0, 1) := by decide +kernel
theorem dyX12_rename_34 : decode cX12_rename 34 = .ok (.getfield 244, 3) := by decide +kernel
theorem dyX12_rename_37 : decode cX12_rename 37 = .ok (.if_icmp .ge 169, 3) := by decide +kernel
theorem dyX12_rename_40 : decode cX12_rename 40 = .ok (.iload_n 3, 1) := by decide +kernel
theorem dyX12_rename_41 : decode cX12_rename 41 = .ok (.aload_n 0, 1) := by decide +kernel
theorem dyX12_rename_42 : decode cX12_rename 42 = .ok (.getfield 50, 3) := by decide +kernel
theorem dyX12_rename_45 : decode cX12_rename 45 = .ok (.iload 4, 2) := by decide +kernel
theorem dyX12_rename_47 : decode cX12_rename 47 = .ok (.iaload, 1) := by decide +kernel
theorem dyX12_rename_48 : decode cX12_rename 48 = .ok (.if_icmp .ge 24, 3) := by decide +kernel
theorem dyX12_rename_51 : decode cX12_rename 51 = .ok (.aload_n 0, 1) := by decide +kernel
theorem dyX12_rename_52 : decode cX12_rename 52 = .ok (.getfield 13, 3) := by decide +kernel
theorem dyX12_rename_55 : decode cX12_rename 55 = .ok (.iload_n 2, 1) := by decide +kernel
theorem dyX12_rename_56 : decode cX12_rename 56 = .ok (.aload_n 0, 1) := by decide +kernel
theorem dyX12_rename_57 : decode cX12_rename 57 = .ok (.getfield 19, 3) := by decide +kernel
theorem dyX12_rename_60 : decode cX12_rename 60 = .ok (.iload_n 3, 1) := by decide +kernel
theorem dyX12_rename_61 : decode cX12_rename 61 = .ok (.iaload, 1) := by decide +kernel
theorem dyX12_rename_62 : decode cX12_rename 62 = .ok (.iastore, 1) := by decide +kernel
theorem dyX12_rename_63 : decode cX12_rename 63 = .ok (.iinc 2 1, 3) := by decide +kernel
theorem dyX12_rename_66 : decode cX12_rename 66 = .ok (.iinc 3 1, 3) := by decide +kernel
theorem dyX12_rename_69 : decode cX12_rename 69 = .ok (.goto (-29), 3) := by decide +kernel
theorem dyX12_rename_72 : decode cX12_rename 72 = .ok (.aload_n 0, 1) := by decide +kernel
theorem dyX12_rename_73 : decode cX12_rename 73 = .ok (.getfield 47, 3) := by decide +kernel
theorem dyX12_rename_76 : decode cX12_rename 76 = .ok (.iload 4, 2) := by decide +kernel
theorem dyX12_rename_78 : decode cX12_rename 78 = .ok (.iaload, 1) := by decide +kernel
theorem dyX12_rename_79 : decode cX12_rename 79 = .ok (.ifCond .ne 24, 3) := by decide +kernel
theorem dyX12_rename_82 : decode cX12_rename 82 = .ok (.aload_n 0, 1) := by decide +kernel
theorem dyX12_rename_83 : decode cX12_rename 83 = .ok (.getfield 56, 3) := by decide +kernel
theorem dyX12_rename_86 : decode cX12_rename 86 = .ok (.iload 4, 2) := by decide +kernel
theorem dyX12_rename_88 : decode cX12_rename 88 = .ok (.laload, 1) := by decide +kernel
theorem dyX12_rename_89 : decode cX12_rename 89 = .ok (.aload_n 0, 1) := by decide +kernel
theorem dyX12_rename_90 : decode cX12_rename 90 = .ok (.getfield 56, 3) := by decide +kernel
theorem dyX12_rename_93 : decode cX12_rename 93 = .ok (.iload_n 1, 1) := by decide +kernel
theorem dyX12_rename_94 : decode cX12_rename 94 = .ok (.laload, 1) := by decide +kernel
theorem dyX12_rename_95 : decode cX12_rename 95 = .ok (.lcmp, 1) := by decide +kernel
theorem dyX12_rename_96 : decode cX12_rename 96 = .ok (.ifCond .ne 7, 3) := by decide +kernel
theorem dyX12_rename_99 : decode cX12_rename 99 = .ok (.iconst 1, 1) := by decide +kernel
theorem dyX12_rename_100 : decode cX12_rename 100 = .ok (.goto 4, 3) := by decide +kernel
theorem dyX12_rename_103 : decode cX12_rename 103 = .ok (.iconst 0, 1) := by decide +kernel
theorem dyX12_rename_104 : decode cX12_rename 104 = .ok (.istore 5, 2) := by decide +kernel
theorem dyX12_rename_106 : decode cX12_rename 106 = .ok (.iload 5, 2) := by decide +kernel
theorem dyX12_rename_108 : decode cX12_rename 108 = .ok (.ifCond .eq 10, 3) := by decide +kernel
theorem dyX12_rename_111 : decode cX12_rename 111 = .ok (.aload_n 0, 1) := by decide +kernel
theorem dyX12_rename_112 : decode cX12_rename 112 = .ok (.getfield 199, 3) := by decide +kernel
theorem dyX12_rename_115 : decode cX12_rename 115 = .ok (.goto 10, 3) := by decide +kernel
theorem dyX12_rename_118 : decode cX12_rename 118 = .ok (.aload_n 0, 1) := by decide +kernel
theorem dyX12_rename_119 : decode cX12_rename 119 = .ok (.getfield 53, 3) := by decide +kernel
theorem dyX12_rename_122 : decode cX12_rename 122 = .ok (.iload 4, 2) := by decide +kernel
theorem dyX12_rename_124 : decode cX12_rename 124 = .ok (.iaload, 1) := by decide +kernel
theorem dyX12_rename_125 : decode cX12_rename 125 = .ok (.istore 6, 2) := by decide +kernel
theorem dyX12_rename_127 : decode cX12_rename 127 = .ok (.iconst 0, 1) := by decide +kernel
theorem dyX12_rename_128 : decode cX12_rename 128 = .ok (.istore 7, 2) := by decide +kernel
theorem dyX12_rename_130 : decode cX12_rename 130 = .ok (.iload 7, 2) := by decide +kernel
theorem dyX12_rename_132 : decode cX12_rename 132 = .ok (.iload 6, 2) := by decide +kernel
theorem dyX12_rename_134 : decode cX12_rename 134 = .ok (.if_icmp .ge 42, 3) := by decide +kernel
theorem dyX12_rename_137 : decode cX12_rename 137 = .ok (.aload_n 0, 1) := by decide +kernel
theorem dyX12_rename_138 : decode cX12_rename 138 = .ok (.getfield 13, 3) := by decide +kernel
theorem dyX12_rename_141 : decode cX12_rename 141 = .ok (.iload_n 2, 1) := by decide +kernel
theorem dyX12_rename_142 : decode cX12_rename 142 = .ok (.iload 7, 2) := by decide +kernel
theorem dyX12_rename_144 : decode cX12_rename 144 = .ok (.iadd, 1) := by decide +kernel
theorem dyX12_rename_145 : decode cX12_rename 145 = .ok (.iload 5, 2) := by decide +kernel
theorem dyX12_rename_147 : decode cX12_rename 147 = .ok (.ifCond .eq 13, 3) := by decide +kernel
theorem dyX12_rename_150 : decode cX12_rename 150 = .ok (.aload_n 0, 1) := by decide +kernel
theorem dyX12_rename_151 : decode cX12_rename 151 = .ok (.getfield 7, 3) := by decide +kernel
theorem dyX12_rename_154 : decode cX12_rename 154 = .ok (.iload 7, 2) := by decide +kernel
theorem dyX12_rename_156 : decode cX12_rename 156 = .ok (.iaload, 1) := by decide +kernel
theorem dyX12_rename_157 : decode cX12_rename 157 = .ok (.goto 12, 3) := by decide +kernel
theorem dyX12_rename_160 : decode cX12_rename 160 = .ok (.aload_n 0, 1) := by decide +kernel
theorem dyX12_rename_161 : decode cX12_rename 161 = .ok (.getfield 19, 3) := by decide +kernel
theorem dyX12_rename_164 : decode cX12_rename 164 = .ok (.iload_n 3, 1) := by decide +kernel
theorem dyX12_rename_165 : decode cX12_rename 165 = .ok (.iload 7, 2) := by decide +kernel
theorem dyX12_rename_167 : decode cX12_rename 167 = .ok (.iadd, 1) := by decide +kernel
theorem dyX12_rename_168 : decode cX12_rename 168 = .ok (.iaload, 1) := by decide +kernel
theorem dyX12_rename_169 : decode cX12_rename 169 = .ok (.iastore, 1) := by decide +kernel
theorem dyX12_rename_170 : decode cX12_rename 170 = .ok (.iinc 7 1, 3) := by decide +kernel
theorem dyX12_rename_173 : decode cX12_rename 173 = .ok (.goto (-43), 3) := by decide +kernel
theorem dyX12_rename_176 : decode cX12_rename 176 = .ok (.iload_n 2, 1) := by decide +kernel
theorem dyX12_rename_177 : decode cX12_rename 177 = .ok (.iload 6, 2) := by decide +kernel
theorem dyX12_rename_179 : decode cX12_rename 179 = .ok (.iadd, 1) := by decide +kernel
theorem dyX12_rename_180 : decode cX12_rename 180 = .ok (.istore_n 2, 1) := by decide +kernel
theorem dyX12_rename_181 : decode cX12_rename 181 = .ok (.iload_n 3, 1) := by decide +kernel
theorem dyX12_rename_182 : decode cX12_rename 182 = .ok (.aload_n 0, 1) := by decide +kernel
theorem dyX12_rename_183 : decode cX12_rename 183 = .ok (.getfield 53, 3) := by decide +kernel
theorem dyX12_rename_186 : decode cX12_rename 186 = .ok (.iload 4, 2) := by decide +kernel
theorem dyX12_rename_188 : decode cX12_rename 188 = .ok (.iaload, 1) := by decide +kernel
theorem dyX12_rename_189 : decode cX12_rename 189 = .ok (.iadd, 1) := by decide +kernel
theorem dyX12_rename_190 : decode cX12_rename 190 = .ok (.istore_n 3, 1) := by decide +kernel
theorem dyX12_rename_191 : decode cX12_rename 191 = .ok (.iload_n 2, 1) := by decide +kernel
theorem dyX12_rename_192 : decode cX12_rename 192 = .ok (.sipush 400, 3) := by decide +kernel
theorem dyX12_rename_195 : decode cX12_rename 195 = .ok (.if_icmp .le 5, 3) := by decide +kernel
theorem dyX12_rename_198 : decode cX12_rename 198 = .ok (.iconst (-1), 1) := by decide +kernel
theorem dyX12_rename_199 : decode cX12_rename 199 = .ok (.ireturn, 1) := by decide +kernel
theorem dyX12_rename_200 : decode cX12_rename 200 = .ok (.iinc 4 1, 3) := by decide +kernel
theorem dyX12_rename_203 : decode cX12_rename 203 = .ok (.goto (-172), 3) := by decide +kernel
theorem dyX12_rename_206 : decode cX12_rename 206 = .ok (.iload_n 3, 1) := by decide +kernel
theorem dyX12_rename_207 : decode cX12_rename 207 = .ok (.aload_n 0, 1) := by decide +kernel
theorem dyX12_rename_208 : decode cX12_rename 208 = .ok (.getfield 241, 3) := by decide +kernel
theorem dyX12_rename_211 : decode cX12_rename 211 = .ok (.if_icmp .ge 24, 3) := by decide +kernel
theorem dyX12_rename_214 : decode cX12_rename 214 = .ok (.aload_n 0, 1) := by decide +kernel
theorem dyX12_rename_215 : decode cX12_rename 215 = .ok (.getfield 13, 3) := by decide +kernel
theorem dyX12_rename_218 : decode cX12_rename 218 = .ok (.iload_n 2, 1) := by decide +kernel
theorem dyX12_rename_219 : decode cX12_rename 219 = .ok (.aload_n 0, 1) := by decide +kernel
theorem dyX12_rename_220 : decode cX12_rename 220 = .ok (.getfield 19, 3) := by decide +kernel
theorem dyX12_rename_223 : decode cX12_rename 223 = .ok (.iload_n 3, 1) := by decide +kernel
theorem dyX12_rename_224 : decode cX12_rename 224 = .ok (.iaload, 1) := by decide +kernel
theorem dyX12_rename_225 : decode cX12_rename 225 = .ok (.iastore, 1) := by decide +kernel
theorem dyX12_rename_226 : decode cX12_rename 226 = .ok (.iinc 2 1, 3) := by decide +kernel
theorem dyX12_rename_229 : decode cX12_rename 229 = .ok (.iinc 3 1, 3) := by decide +kernel
theorem dyX12_rename_232 : decode cX12_rename 232 = .ok (.goto (-26), 3) := by decide +kernel
theorem dyX12_rename_235 : decode cX12_rename 235 = .ok (.aload_n 0, 1) := by decide +kernel
theorem dyX12_rename_236 : decode cX12_rename 236 = .ok (.iload_n 2, 1) := by decide +kernel
theorem dyX12_rename_237 : decode cX12_rename 237 = .ok (.invokevirtual 388, 3) := by decide +kernel
theorem dyX12_rename_240 : decode cX12_rename 240 = .ok (.ifCond .eq 5, 3) := by decide +kernel
theorem dyX12_rename_243 : decode cX12_rename 243 = .ok (.iconst (-1), 1) := by decide +kernel
theorem dyX12_rename_244 : decode cX12_rename 244 = .ok (.ireturn, 1) := by decide +kernel
theorem dyX12_rename_245 : decode cX12_rename 245 = .ok (.aload_n 0, 1) := by decide +kernel
theorem dyX12_rename_246 : decode cX12_rename 246 = .ok (.iconst 0, 1) := by decide +kernel
theorem dyX12_rename_247 : decode cX12_rename 247 = .ok (.putfield 199, 3) := by decide +kernel
theorem dyX12_rename_250 : decode cX12_rename 250 = .ok (.aload_n 0, 1) := by decide +kernel
theorem dyX12_rename_251 : decode cX12_rename 251 = .ok (.invokevirtual 391, 3) := by decide +kernel
theorem dyX12_rename_254 : decode cX12_rename 254 = .ok (.ireturn, 1) := by decide +kernel
theorem zsg_yX12_rename : yX12_rename.cls = RX12 ∧ yX12_rename.cls ≠ "java/lang/invoke/MethodHandle" ∧ yX12_rename.cls ≠ "java/lang/invoke/VarHandle" ∧ (parseMethodDescriptor yX12_rename.desc).map (fun d => d.parameters.length) = some 1 := by decide +kernel
set_option maxRecDepth 20000 in
theorem c_M_rename {l : Launch} {D : va_G} {B : Nat} {cA : Nat → ClassId} {ad : Nat → Nat} {S : List zC} (hS : zOkM S) {a1 : Int32} {I : zI} {K : Int32 → zI → Prop}  (h : w_M_rename a1 I K) : Met l yX12_rename (zws yX12_rename cX12_rename 8 (some .int)) (zrm 4 104) (zPc D B cA ad [.ref (B + 491), .int a1] S I) (zQc D B cA (zqI S K)) 0 0 (fun q => B ≤ q) := by
  refine zm_of (cc := cX12_rename) (maxL := 8) (ret := (some .int)) (by decide +kernel) rfl (Nat.le_of_ble_eq_true rfl) trivial ?_
  intro p e s m args below meth c C _
  unfold w_M_rename at h
  show zX p l e (zrm 4 104) s m args below meth c (MQ below (zQc D B cA (zqI S K)) args s 0 0 (fun q => B ≤ q)) D B cA 8 0 0 S I [(0, .ref (B + 491)), (1, .int a1)] [] 0
  refine zr_aload_n C dyX12_rename_0 rfl 0 rfl ?_
  refine zg_12_182 C hS dyX12_rename_1 ?_
  refine zr_if_eq C dyX12_rename_4 (tgt := 22) (by decide) (fun hc_46 => ?_) (fun hc_46 => ?_)
  · replace h := zif_pos hc_46 h
    refine zr_iconst C dyX12_rename_22 zc_i_m1 ?_
    exact zr_iret C rfl dyX12_rename_23 ⟨rfl, _, rfl, h⟩
  · replace h := zif_neg hc_46 h
    refine zr_aload_n C dyX12_rename_7 rfl 0 rfl ?_
    refine zr_iload_n C dyX12_rename_8 rfl 1 rfl ?_
    refine zv_12_394 C hS (st := []) h ⟨Nat.le_of_ble_eq_true rfl, Nat.le_of_ble_eq_true rfl⟩ (Nat.le_of_ble_eq_true rfl) dyX12_rename_9 (fun r_1 h => ?_)
    refine zr_if_eq C dyX12_rename_12 (tgt := 22) (by decide) (fun hc_45 => ?_) (fun hc_45 => ?_)
    · replace h := zif_pos hc_45 h
      refine zr_iconst C dyX12_rename_22 zc_i_m1 ?_
      exact zr_iret C rfl dyX12_rename_23 ⟨rfl, _, rfl, h⟩
    · replace h := zif_neg hc_45 h
      refine zr_aload_n C dyX12_rename_15 rfl 0 rfl ?_
      refine zv_12_397 C hS (st := []) h ⟨Nat.le_of_ble_eq_true rfl, Nat.le_of_ble_eq_true rfl⟩ (Nat.le_of_ble_eq_true rfl) dyX12_rename_16 (fun r_2 h => ?_)
      refine zr_if_ne C dyX12_rename_19 (tgt := 24) (by decide) (fun hc_44 => ?_) (fun hc_44 => ?_)
      · replace h := zif_neg hc_44 h
        refine zr_iconst C dyX12_rename_24 zc_i_0 ?_
        refine zr_istore_n C dyX12_rename_25 rfl (Nat.le_of_ble_eq_true rfl) (lv2 := [(2, .int 0), (0, .ref (B + 491)), (1, .int a1)]) rfl ?_
        refine zr_iconst C dyX12_rename_26 zc_i_0 ?_
        refine zr_istore_n C dyX12_rename_27 rfl (Nat.le_of_ble_eq_true rfl) (lv2 := [(3, .int 0), (2, .int 0), (0, .ref (B + 491)), (1, .int a1)]) rfl ?_
        refine zr_iconst C dyX12_rename_28 zc_i_0 ?_
        refine zr_istore C dyX12_rename_29 (Nat.le_of_ble_eq_true rfl) (lv2 := [(4, .int 0), (3, .int 0), (2, .int 0), (0, .ref (B + 491)), (1, .int a1)]) rfl ?_
        refine zjn (h (fun (v2_3 : Int32) (v3_4 : Int32) (v4_5 : Int32) (I_6 : zI) => zX p l e (zrm 4 104) s m args below meth c (MQ below (zQc D B cA (zqI S K)) args s 0 0 (fun q => B ≤ q)) D B cA 8 0 0 S I_6 [(4, .int v4_5), (3, .int v3_4), (2, .int v2_3), (0, .ref (B + 491)), (1, .int a1)] [] 31) (fun v2_3 v3_4 v4_5 I_6 h => ?_)) (fun h => ?_)
        · refine zr_iload C dyX12_rename_31 0 rfl ?_
          refine zr_aload_n C dyX12_rename_33 rfl 3 rfl ?_
          refine zg_12_244 C hS dyX12_rename_34 ?_
          refine zjn (h (fun (v2_7 : Int32) (v3_8 : Int32) (I_9 : zI) => zX p l e (zrm 4 104) s m args below meth c (MQ below (zQc D B cA (zqI S K)) args s 0 0 (fun q => B ≤ q)) D B cA 8 0 0 S I_9 [(4, .int v4_5), (3, .int v3_8), (2, .int v2_7), (0, .ref (B + 491)), (1, .int a1)] [] 40) (fun v2_7 v3_8 I_9 h => ?_)) (fun h => ?_)
          · refine zr_iload_n C dyX12_rename_40 rfl 1 rfl ?_
            refine zr_aload_n C dyX12_rename_41 rfl 3 rfl ?_
            refine zg_12_50 C hS dyX12_rename_42 ?_
            refine zr_iload C dyX12_rename_45 0 rfl ?_
            refine zr_iald C (hS _ _ zs_505) h.1 dyX12_rename_47 ?_
            replace h := h.2
            refine zr_icmp_ge C dyX12_rename_48 (tgt := 72) (by decide) (fun hc_29 => ?_) (fun hc_29 => ?_)
            · replace h := zif_pos hc_29 h
              refine zr_aload_n C dyX12_rename_72 rfl 3 rfl ?_
              refine zg_12_47 C hS dyX12_rename_73 ?_
              refine zr_iload C dyX12_rename_76 0 rfl ?_
              refine zr_iald C (hS _ _ zs_504) h.1 dyX12_rename_78 ?_
              replace h := h.2
              refine zjn (h (fun (t_10 : Int32) => zX p l e (zrm 4 104) s m args below meth c (MQ below (zQc D B cA (zqI S K)) args s 0 0 (fun q => B ≤ q)) D B cA 8 0 0 S I_9 [(4, .int v4_5), (3, .int v3_8), (2, .int v2_7), (0, .ref (B + 491)), (1, .int a1)] [.int t_10] 104) (fun t_10 h => ?_)) (fun h => ?_)
              · refine zr_istore C dyX12_rename_104 (Nat.le_of_ble_eq_true rfl) (lv2 := [(5, .int t_10), (4, .int v4_5), (3, .int v3_8), (2, .int v2_7), (0, .ref (B + 491)), (1, .int a1)]) rfl ?_
                refine zr_iload C dyX12_rename_106 0 rfl ?_
                refine zjn (h (fun (t_11 : Int32) => zX p l e (zrm 4 104) s m args below meth c (MQ below (zQc D B cA (zqI S K)) args s 0 0 (fun q => B ≤ q)) D B cA 8 0 0 S I_9 [(5, .int t_10), (4, .int v4_5), (3, .int v3_8), (2, .int v2_7), (0, .ref (B + 491)), (1, .int a1)] [.int t_11] 125) (fun t_11 h => ?_)) (fun h => ?_)
                · refine zr_istore C dyX12_rename_125 (Nat.le_of_ble_eq_true rfl) (lv2 := [(6, .int t_11), (5, .int t_10), (4, .int v4_5), (3, .int v3_8), (2, .int v2_7), (0, .ref (B + 491)), (1, .int a1)]) rfl ?_
                  refine zr_iconst C dyX12_rename_127 zc_i_0 ?_
                  refine zr_istore C dyX12_rename_128 (Nat.le_of_ble_eq_true rfl) (lv2 := [(7, .int 0), (6, .int t_11), (5, .int t_10), (4, .int v4_5), (3, .int v3_8), (2, .int v2_7), (0, .ref (B + 491)), (1, .int a1)]) rfl ?_
                  refine zjn (h (fun (v7_12 : Int32) (I_13 : zI) => zX p l e (zrm 4 104) s m args below meth c (MQ below (zQc D B cA (zqI S K)) args s 0 0 (fun q => B ≤ q)) D B cA 8 0 0 S I_13 [(7, .int v7_12), (6, .int t_11), (5, .int t_10), (4, .int v4_5), (3, .int v3_8), (2, .int v2_7), (0, .ref (B + 491)), (1, .int a1)] [] 130) (fun v7_12 I_13 h => ?_)) (fun h => ?_)
                  · refine zr_iload C dyX12_rename_130 0 rfl ?_
                    refine zr_iload C dyX12_rename_132 1 rfl ?_
                    refine zr_icmp_ge C dyX12_rename_134 (tgt := 176) (by decide) (fun hc_22 => ?_) (fun hc_22 => ?_)
                    · replace h := zif_pos hc_22 h
                      refine zr_iload_n C dyX12_rename_176 rfl 5 rfl ?_
                      refine zr_iload C dyX12_rename_177 1 rfl ?_
                      refine zr_iadd C dyX12_rename_179 ?_
                      refine zn_istore_n C (fun v2_14 => [(2, .int v2_14), (7, .int v7_12), (6, .int t_11), (5, .int t_10), (4, .int v4_5), (3, .int v3_8), (0, .ref (B + 491)), (1, .int a1)]) dyX12_rename_180 rfl (Nat.le_of_ble_eq_true rfl) (fun _ => rfl) (fun v2_14 ev2_14 => ?_)
                      replace h := h v2_14 ev2_14
                      refine zr_iload_n C dyX12_rename_181 rfl 5 rfl ?_
                      refine zr_aload_n C dyX12_rename_182 rfl 6 rfl ?_
                      refine zg_12_53 C hS dyX12_rename_183 ?_
                      refine zr_iload C dyX12_rename_186 4 rfl ?_
                      refine zr_iald C (hS _ _ zs_506) h.1 dyX12_rename_188 ?_
                      replace h := h.2
                      refine zr_iadd C dyX12_rename_189 ?_
                      refine zn_istore_n C (fun v3_15 => [(3, .int v3_15), (2, .int v2_14), (7, .int v7_12), (6, .int t_11), (5, .int t_10), (4, .int v4_5), (0, .ref (B + 491)), (1, .int a1)]) dyX12_rename_190 rfl (Nat.le_of_ble_eq_true rfl) (fun _ => rfl) (fun v3_15 ev3_15 => ?_)
                      replace h := h v3_15 ev3_15
                      refine zr_iload_n C dyX12_rename_191 rfl 1 rfl ?_
                      refine zr_sipush C dyX12_rename_192 zc_s_400 ?_
                      refine zr_icmp_le C dyX12_rename_195 (tgt := 200) (by decide) (fun hc_17 => ?_) (fun hc_17 => ?_)
                      · replace h := zif_pos hc_17 h
                        refine zn_iinc C (fun v4_16 => [(4, .int v4_16), (3, .int v3_15), (2, .int v2_14), (7, .int v7_12), (6, .int t_11), (5, .int t_10), (0, .ref (B + 491)), (1, .int a1)]) dyX12_rename_200 5 rfl zc_i_1 (Nat.le_of_ble_eq_true rfl) (fun _ => rfl) (fun v4_16 ev4_16 => ?_)
                        replace h := h v4_16 ev4_16
                        refine zr_goto C dyX12_rename_203 (tgt := 31) (by decide) ?_
                        refine zr_sub (lv2 := [(4, .int v4_16), (3, .int v3_15), (2, .int v2_14), (0, .ref (B + 491)), (1, .int a1)]) [0, 1, 2, 6, 7] rfl ?_
                        exact h
                      · replace h := zif_neg hc_17 h
                        refine zr_iconst C dyX12_rename_198 zc_i_m1 ?_
                        exact zr_iret C rfl dyX12_rename_199 ⟨rfl, _, rfl, h⟩
                    · replace h := zif_neg hc_22 h
                      refine zr_aload_n C dyX12_rename_137 rfl 6 rfl ?_
                      refine zg_12_13 C hS dyX12_rename_138 ?_
                      refine zr_iload_n C dyX12_rename_141 rfl 5 rfl ?_
                      refine zr_iload C dyX12_rename_142 0 rfl ?_
                      refine zr_iadd C dyX12_rename_144 ?_
                      refine zr_iload C dyX12_rename_145 2 rfl ?_
                      refine zjn (h (fun (t_18 : Int32) => zX p l e (zrm 4 104) s m args below meth c (MQ below (zQc D B cA (zqI S K)) args s 0 0 (fun q => B ≤ q)) D B cA 8 0 0 S I_13 [(7, .int v7_12), (6, .int t_11), (5, .int t_10), (4, .int v4_5), (3, .int v3_8), (2, .int v2_7), (0, .ref (B + 491)), (1, .int a1)] [.int t_18, .int (v2_7 + v7_12), .ref (B + 493)] 169) (fun t_18 h => ?_)) (fun h => ?_)
                      · refine zr_iast C (hS _ _ zs_493) h.1 dyX12_rename_169 ?_
                        replace h := h.2
                        refine zn_mem C (fun I_19 eI_19 => ?_)
                        replace h := h I_19 eI_19
                        refine zn_iinc C (fun v7_20 => [(7, .int v7_20), (6, .int t_11), (5, .int t_10), (4, .int v4_5), (3, .int v3_8), (2, .int v2_7), (0, .ref (B + 491)), (1, .int a1)]) dyX12_rename_170 0 rfl zc_i_1 (Nat.le_of_ble_eq_true rfl) (fun _ => rfl) (fun v7_20 ev7_20 => ?_)
                        replace h := h v7_20 ev7_20
                        refine zr_goto C dyX12_rename_173 (tgt := 130) (by decide) ?_
                        exact h
                      refine zr_if_eq C dyX12_rename_147 (tgt := 160) (by decide) (fun hc_21 => ?_) (fun hc_21 => ?_)
                      · replace h := zif_pos hc_21 h
                        refine zr_aload_n C dyX12_rename_160 rfl 6 rfl ?_
                        refine zg_12_19 C hS dyX12_rename_161 ?_
                        refine zr_iload_n C dyX12_rename_164 rfl 4 rfl ?_
                        refine zr_iload C dyX12_rename_165 0 rfl ?_
                        refine zr_iadd C dyX12_rename_167 ?_
                        refine zr_iald C (hS _ _ zs_495) h.1 dyX12_rename_168 ?_
                        replace h := h.2
                        exact h
                      · replace h := zif_neg hc_21 h
                        refine zr_aload_n C dyX12_rename_150 rfl 6 rfl ?_
                        refine zg_12_7 C hS dyX12_rename_151 ?_
                        refine zr_iload C dyX12_rename_154 0 rfl ?_
                        refine zr_iald C (hS _ _ zs_492) h.1 dyX12_rename_156 ?_
                        replace h := h.2
                        refine zr_goto C dyX12_rename_157 (tgt := 169) (by decide) ?_
                        exact h
                  exact h
                refine zr_if_eq C dyX12_rename_108 (tgt := 118) (by decide) (fun hc_23 => ?_) (fun hc_23 => ?_)
                · replace h := zif_pos hc_23 h
                  refine zr_aload_n C dyX12_rename_118 rfl 4 rfl ?_
                  refine zg_12_53 C hS dyX12_rename_119 ?_
                  refine zr_iload C dyX12_rename_122 1 rfl ?_
                  refine zr_iald C (hS _ _ zs_506) h.1 dyX12_rename_124 ?_
                  replace h := h.2
                  exact h
                · replace h := zif_neg hc_23 h
                  refine zr_aload_n C dyX12_rename_111 rfl 4 rfl ?_
                  refine zg_12_199 C hS dyX12_rename_112 ?_
                  refine zr_goto C dyX12_rename_115 (tgt := 125) (by decide) ?_
                  exact h
              refine zjn (h (zX p l e (zrm 4 104) s m args below meth c (MQ below (zQc D B cA (zqI S K)) args s 0 0 (fun q => B ≤ q)) D B cA 8 0 0 S I_9 [(4, .int v4_5), (3, .int v3_8), (2, .int v2_7), (0, .ref (B + 491)), (1, .int a1)] [] 103) (fun  h => ?_)) (fun h => ?_)
              · refine zr_iconst C dyX12_rename_103 zc_i_0 ?_
                exact h
              refine zr_if_ne C dyX12_rename_79 (tgt := 103) (by decide) (fun hc_25 => ?_) (fun hc_25 => ?_)
              · replace h := zif_neg hc_25 h
                exact h
              · replace h := zif_pos hc_25 h
                refine zr_aload_n C dyX12_rename_82 rfl 3 rfl ?_
                refine zg_12_56 C hS dyX12_rename_83 ?_
                refine zr_iload C dyX12_rename_86 0 rfl ?_
                refine zr_lald C (hS _ _ zs_507) h.1 dyX12_rename_88 ?_
                replace h := h.2
                refine zr_aload_n C dyX12_rename_89 rfl 3 rfl ?_
                refine zg_12_56 C hS dyX12_rename_90 ?_
                refine zr_iload_n C dyX12_rename_93 rfl 4 rfl ?_
                refine zr_lald C (hS _ _ zs_507) h.1 dyX12_rename_94 ?_
                replace h := h.2
                refine zr_lcmp C dyX12_rename_95 ?_
                refine zr_if_ne C dyX12_rename_96 (tgt := 103) (by decide) (fun hc_24 => ?_) (fun hc_24 => ?_)
                · replace h := zif_neg hc_24 h
                  exact h
                · replace h := zif_pos hc_24 h
                  refine zr_iconst C dyX12_rename_99 zc_i_1 ?_
                  refine zr_goto C dyX12_rename_100 (tgt := 104) (by decide) ?_
                  exact h
            · replace h := zif_neg hc_29 h
              refine zr_aload_n C dyX12_rename_51 rfl 3 rfl ?_
              refine zg_12_13 C hS dyX12_rename_52 ?_
              refine zr_iload_n C dyX12_rename_55 rfl 2 rfl ?_
              refine zr_aload_n C dyX12_rename_56 rfl 3 rfl ?_
              refine zg_12_19 C hS dyX12_rename_57 ?_
              refine zr_iload_n C dyX12_rename_60 rfl 1 rfl ?_
              refine zr_iald C (hS _ _ zs_495) h.1 dyX12_rename_61 ?_
              replace h := h.2
              refine zr_iast C (hS _ _ zs_493) h.1 dyX12_rename_62 ?_
              replace h := h.2
              refine zn_mem C (fun I_26 eI_26 => ?_)
              replace h := h I_26 eI_26
              refine zn_iinc C (fun v2_27 => [(2, .int v2_27), (4, .int v4_5), (3, .int v3_8), (0, .ref (B + 491)), (1, .int a1)]) dyX12_rename_63 2 rfl zc_i_1 (Nat.le_of_ble_eq_true rfl) (fun _ => rfl) (fun v2_27 ev2_27 => ?_)
              replace h := h v2_27 ev2_27
              refine zn_iinc C (fun v3_28 => [(3, .int v3_28), (2, .int v2_27), (4, .int v4_5), (0, .ref (B + 491)), (1, .int a1)]) dyX12_rename_66 2 rfl zc_i_1 (Nat.le_of_ble_eq_true rfl) (fun _ => rfl) (fun v3_28 ev3_28 => ?_)
              replace h := h v3_28 ev3_28
              refine zr_goto C dyX12_rename_69 (tgt := 40) (by decide) ?_
              refine zr_sub (lv2 := [(4, .int v4_5), (3, .int v3_28), (2, .int v2_27), (0, .ref (B + 491)), (1, .int a1)]) [2, 0, 1, 3, 4] rfl ?_
              exact h
          refine zjn (h (fun (v2_30 : Int32) (v3_31 : Int32) (I_32 : zI) => zX p l e (zrm 4 104) s m args below meth c (MQ below (zQc D B cA (zqI S K)) args s 0 0 (fun q => B ≤ q)) D B cA 8 0 0 S I_32 [(3, .int v3_31), (2, .int v2_30), (0, .ref (B + 491))] [] 206) (fun v2_30 v3_31 I_32 h => ?_)) (fun h => ?_)
          · refine zr_iload_n C dyX12_rename_206 rfl 0 rfl ?_
            refine zr_aload_n C dyX12_rename_207 rfl 2 rfl ?_
            refine zg_12_241 C hS dyX12_rename_208 ?_
            refine zr_icmp_ge C dyX12_rename_211 (tgt := 235) (by decide) (fun hc_42 => ?_) (fun hc_42 => ?_)
            · replace h := zif_pos hc_42 h
              refine zr_aload_n C dyX12_rename_235 rfl 2 rfl ?_
              refine zr_iload_n C dyX12_rename_236 rfl 1 rfl ?_
              refine zv_12_388 C hS (st := []) h ⟨Nat.le_of_ble_eq_true rfl, Nat.le_of_ble_eq_true rfl⟩ (Nat.le_of_ble_eq_true rfl) dyX12_rename_237 (fun r_33 I_34 h => ?_)
              refine zr_if_eq C dyX12_rename_240 (tgt := 245) (by decide) (fun hc_38 => ?_) (fun hc_38 => ?_)
              · replace h := zif_pos hc_38 h
                refine zr_aload_n C dyX12_rename_245 rfl 2 rfl ?_
                refine zr_iconst C dyX12_rename_246 zc_i_0 ?_
                refine zp_12_199 C hS dyX12_rename_247 ?_
                refine zn_mem C (fun I_35 eI_35 => ?_)
                replace h := h I_35 eI_35
                refine zr_aload_n C dyX12_rename_250 rfl 2 rfl ?_
                refine zv_12_391 C hS (st := []) h ⟨Nat.le_of_ble_eq_true rfl, Nat.le_of_ble_eq_true rfl⟩ (Nat.le_of_ble_eq_true rfl) dyX12_rename_251 (fun r_36 I_37 h => ?_)
                exact zr_iret C rfl dyX12_rename_254 ⟨rfl, _, rfl, h⟩
              · replace h := zif_neg hc_38 h
                refine zr_iconst C dyX12_rename_243 zc_i_m1 ?_
                exact zr_iret C rfl dyX12_rename_244 ⟨rfl, _, rfl, h⟩
            · replace h := zif_neg hc_42 h
              refine zr_aload_n C dyX12_rename_214 rfl 2 rfl ?_
              refine zg_12_13 C hS dyX12_rename_215 ?_
              refine zr_iload_n C dyX12_rename_218 rfl 1 rfl ?_
              refine zr_aload_n C dyX12_rename_219 rfl 2 rfl ?_
              refine zg_12_19 C hS dyX12_rename_220 ?_
              refine zr_iload_n C dyX12_rename_223 rfl 0 rfl ?_
              refine zr_iald C (hS _ _ zs_495) h.1 dyX12_rename_224 ?_
              replace h := h.2
              refine zr_iast C (hS _ _ zs_493) h.1 dyX12_rename_225 ?_
              replace h := h.2
              refine zn_mem C (fun I_39 eI_39 => ?_)
              replace h := h I_39 eI_39
              refine zn_iinc C (fun v2_40 => [(2, .int v2_40), (3, .int v3_31), (0, .ref (B + 491))]) dyX12_rename_226 1 rfl zc_i_1 (Nat.le_of_ble_eq_true rfl) (fun _ => rfl) (fun v2_40 ev2_40 => ?_)
              replace h := h v2_40 ev2_40
              refine zn_iinc C (fun v3_41 => [(3, .int v3_41), (2, .int v2_40), (0, .ref (B + 491))]) dyX12_rename_229 1 rfl zc_i_1 (Nat.le_of_ble_eq_true rfl) (fun _ => rfl) (fun v3_41 ev3_41 => ?_)
              replace h := h v3_41 ev3_41
              refine zr_goto C dyX12_rename_232 (tgt := 206) (by decide) ?_
              exact h
          refine zr_icmp_ge C dyX12_rename_37 (tgt := 206) (by decide) (fun hc_43 => ?_) (fun hc_43 => ?_)
          · replace h := zif_pos hc_43 h
            refine zr_sub (lv2 := [(3, .int v3_4), (2, .int v2_3), (0, .ref (B + 491))]) [1, 2, 3] rfl ?_
            exact h
          · replace h := zif_neg hc_43 h
            exact h
        exact h
      · replace h := zif_pos hc_44 h
        refine zr_iconst C dyX12_rename_22 zc_i_m1 ?_
        exact zr_iret C rfl dyX12_rename_23 ⟨rfl, _, rfl, h⟩
def w_M_beginOf (a1 : Int32) (I : zI) (K : Int32 → Prop) : Prop :=
  vp_in a1 3700 ∧ (vp_in (I.1 526 (Int32.toNatClampNeg a1)) 110 ∧ (K (I.1 505 (Int32.toNatClampNeg (I.1 526 (Int32.toNatClampNeg a1))))))
theorem dyX12_beginOf_0 : decode cX12_beginOf 0 = .ok (.aload_n 0, 1) := by decide +kernel
theorem dyX12_beginOf_1 : decode cX12_beginOf 1 = .ok (.getfield 50, 3) := by decide +kernel
theorem dyX12_beginOf_4 : decode cX12_beginOf 4 = .ok (.aload_n 0, 1) := by decide +kernel
theorem dyX12_beginOf_5 : decode cX12_beginOf 5 = .ok (.getfield 114, 3) := by decide +kernel
theorem dyX12_beginOf_8 : decode cX12_beginOf 8 = .ok (.iload_n 1, 1) := by decide +kernel
theorem dyX12_beginOf_9 : decode cX12_beginOf 9 = .ok (.iaload, 1) := by decide +kernel
theorem dyX12_beginOf_10 : decode cX12_beginOf 10 = .ok (.iaload, 1) := by decide +kernel
theorem dyX12_beginOf_11 : decode cX12_beginOf 11 = .ok (.ireturn, 1) := by decide +kernel
theorem zsg_yX12_beginOf : yX12_beginOf.cls = RX12 ∧ yX12_beginOf.cls ≠ "java/lang/invoke/MethodHandle" ∧ yX12_beginOf.cls ≠ "java/lang/invoke/VarHandle" ∧ (parseMethodDescriptor yX12_beginOf.desc).map (fun d => d.parameters.length) = some 1 := by decide +kernel
set_option maxRecDepth 20000 in
theorem c_M_beginOf {l : Launch} {D : va_G} {B : Nat} {cA : Nat → ClassId} {ad : Nat → Nat} {S : List zC} (hS : zOkM S) {a1 : Int32} {I : zI} {K : Int32 → Prop}  (h : w_M_beginOf a1 I K) : Met l yX12_beginOf (zws yX12_beginOf cX12_beginOf 2 (some .int)) (zrm 0 0) (zPc D B cA ad [.ref (B + 491), .int a1] S I) (zQc D B cA (zpI S I K)) 0 0 (fun q => B ≤ q) := by
  refine zm_of (cc := cX12_beginOf) (maxL := 2) (ret := (some .int)) (by decide +kernel) rfl (Nat.le_of_ble_eq_true rfl) trivial ?_
  intro p e s m args below meth c C _
  unfold w_M_beginOf at h
  show zX p l e (zrm 0 0) s m args below meth c (MQ below (zQc D B cA (zpI S I K)) args s 0 0 (fun q => B ≤ q)) D B cA 2 0 0 S I [(0, .ref (B + 491)), (1, .int a1)] [] 0
  refine zr_aload_n C dyX12_beginOf_0 rfl 0 rfl ?_
  refine zg_12_50 C hS dyX12_beginOf_1 ?_
  refine zr_aload_n C dyX12_beginOf_4 rfl 0 rfl ?_
  refine zg_12_114 C hS dyX12_beginOf_5 ?_
  refine zr_iload_n C dyX12_beginOf_8 rfl 1 rfl ?_
  refine zr_iald C (hS _ _ zs_526) h.1 dyX12_beginOf_9 ?_
  replace h := h.2
  refine zr_iald C (hS _ _ zs_505) h.1 dyX12_beginOf_10 ?_
  replace h := h.2
  exact zr_iret C rfl dyX12_beginOf_11 ⟨rfl, rfl, _, rfl, h⟩
def w_M_endOf (a1 : Int32) (I : zI) (K : Int32 → Prop) : Prop :=
  vp_in a1 3700 ∧ (vp_in a1 3700 ∧ (∀ v2_1, v2_1 = (((I.1 526 (Int32.toNatClampNeg a1)) + (I.1 515 (Int32.toNatClampNeg a1))) - 1) → vp_in v2_1 110 ∧ (vp_in v2_1 110 ∧ (K ((I.1 505 (Int32.toNatClampNeg v2_1)) + (I.1 506 (Int32.toNatClampNeg v2_1)))))))
theorem dyX12_endOf_0 : decode cX12_endOf 0 = .ok (.aload_n 0, 1) := by decide +kernel
theorem dyX12_endOf_1 : decode cX12_endOf 1 = .ok (.getfield 114, 3) := by decide +kernel
theorem dyX12_endOf_4 : decode cX12_endOf 4 = .ok (.iload_n 1, 1) := by decide +kernel
theorem dyX12_endOf_5 : decode cX12_endOf 5 = .ok (.iaload, 1) := by decide +kernel
theorem dyX12_endOf_6 : decode cX12_endOf 6 = .ok (.aload_n 0, 1) := by decide +kernel
theorem dyX12_endOf_7 : decode cX12_endOf 7 = .ok (.getfield 80, 3) := by decide +kernel
theorem dyX12_endOf_10 : decode cX12_endOf 10 = .ok (.iload_n 1, 1) := by decide +kernel
theorem dyX12_endOf_11 : decode cX12_endOf 11 = .ok (.iaload, 1) := by decide +kernel
theorem dyX12_endOf_12 : decode cX12_endOf 12 = .ok (.iadd, 1) := by decide +kernel
theorem dyX12_endOf_13 : decode cX12_endOf 13 = .ok (.iconst 1, 1) := by decide +kernel
theorem dyX12_endOf_14 : decode cX12_endOf 14 = .ok (.isub, 1) := by decide +kernel
theorem dyX12_endOf_15 : decode cX12_endOf 15 = .ok (.istore_n 2, 1) := by decide +kernel
theorem dyX12_endOf_16 : decode cX12_endOf 16 = .ok (.aload_n 0, 1) := by decide +kernel
theorem dyX12_endOf_17 : decode cX12_endOf 17 = .ok (.getfield 50, 3) := by decide +kernel
theorem dyX12_endOf_20 : decode cX12_endOf 20 = .ok (.iload_n 2, 1) := by decide +kernel
theorem dyX12_endOf_21 : decode cX12_endOf 21 = .ok (.iaload, 1) := by decide +kernel
theorem dyX12_endOf_22 : decode cX12_endOf 22 = .ok (.aload_n 0, 1) := by decide +kernel
theorem dyX12_endOf_23 : decode cX12_endOf 23 = .ok (.getfield 53, 3) := by decide +kernel
theorem dyX12_endOf_26 : decode cX12_endOf 26 = .ok (.iload_n 2, 1) := by decide +kernel
theorem dyX12_endOf_27 : decode cX12_endOf 27 = .ok (.iaload, 1) := by decide +kernel
theorem dyX12_endOf_28 : decode cX12_endOf 28 = .ok (.iadd, 1) := by decide +kernel
theorem dyX12_endOf_29 : decode cX12_endOf 29 = .ok (.ireturn, 1) := by decide +kernel
theorem zsg_yX12_endOf : yX12_endOf.cls = RX12 ∧ yX12_endOf.cls ≠ "java/lang/invoke/MethodHandle" ∧ yX12_endOf.cls ≠ "java/lang/invoke/VarHandle" ∧ (parseMethodDescriptor yX12_endOf.desc).map (fun d => d.parameters.length) = some 1 := by decide +kernel
set_option maxRecDepth 20000 in
theorem c_M_endOf {l : Launch} {D : va_G} {B : Nat} {cA : Nat → ClassId} {ad : Nat → Nat} {S : List zC} (hS : zOkM S) {a1 : Int32} {I : zI} {K : Int32 → Prop}  (h : w_M_endOf a1 I K) : Met l yX12_endOf (zws yX12_endOf cX12_endOf 3 (some .int)) (zrm 0 0) (zPc D B cA ad [.ref (B + 491), .int a1] S I) (zQc D B cA (zpI S I K)) 0 0 (fun q => B ≤ q) := by
  refine zm_of (cc := cX12_endOf) (maxL := 3) (ret := (some .int)) (by decide +kernel) rfl (Nat.le_of_ble_eq_true rfl) trivial ?_
  intro p e s m args below meth c C _
  unfold w_M_endOf at h
  show zX p l e (zrm 0 0) s m args below meth c (MQ below (zQc D B cA (zpI S I K)) args s 0 0 (fun q => B ≤ q)) D B cA 3 0 0 S I [(0, .ref (B + 491)), (1, .int a1)] [] 0
  refine zr_aload_n C dyX12_endOf_0 rfl 0 rfl ?_
  refine zg_12_114 C hS dyX12_endOf_1 ?_
  refine zr_iload_n C dyX12_endOf_4 rfl 1 rfl ?_
  refine zr_iald C (hS _ _ zs_526) h.1 dyX12_endOf_5 ?_
  replace h := h.2
  refine zr_aload_n C dyX12_endOf_6 rfl 0 rfl ?_
  refine zg_12_80 C hS dyX12_endOf_7 ?_
  refine zr_iload_n C dyX12_endOf_10 rfl 1 rfl ?_
  refine zr_iald C (hS _ _ zs_515) h.1 dyX12_endOf_11 ?_
  replace h := h.2
  refine zr_iadd C dyX12_endOf_12 ?_
  refine zr_iconst C dyX12_endOf_13 zc_i_1 ?_
  refine zr_isub C dyX12_endOf_14 ?_
  refine zn_istore_n C (fun v2_1 => [(2, .int v2_1), (0, .ref (B + 491)), (1, .int a1)]) dyX12_endOf_15 rfl (Nat.le_of_ble_eq_true rfl) (fun _ => rfl) (fun v2_1 ev2_1 => ?_)
  replace h := h v2_1 ev2_1
  refine zr_aload_n C dyX12_endOf_16 rfl 1 rfl ?_
  refine zg_12_50 C hS dyX12_endOf_17 ?_
  refine zr_iload_n C dyX12_endOf_20 rfl 0 rfl ?_
  refine zr_iald C (hS _ _ zs_505) h.1 dyX12_endOf_21 ?_
  replace h := h.2
  refine zr_aload_n C dyX12_endOf_22 rfl 1 rfl ?_
  refine zg_12_53 C hS dyX12_endOf_23 ?_
  refine zr_iload_n C dyX12_endOf_26 rfl 0 rfl ?_
  refine zr_iald C (hS _ _ zs_506) h.1 dyX12_endOf_27 ?_
  replace h := h.2
  refine zr_iadd C dyX12_endOf_28 ?_
  exact zr_iret C rfl dyX12_endOf_29 ⟨rfl, rfl, _, rfl, h⟩
def w_M_copies (a1 : Int32) (a2 : Int32) (a3 : Int32) (I : zI) (K : Int32 → zI → Prop) : Prop :=
  ∀ (P3 : Int32 → zI → Prop), (∀ (v4_1 : Int32) (I_2 : zI), ((if a3 ≤ v4_1 then (K ((a1 + a3) - a2) I_2) else (vp_in v4_1 300 ∧ (vp_in ((a1 + v4_1) - a2) 700 ∧ (∀ I_3, I_3 = (zu I_2 493 (Int32.toNatClampNeg ((a1 + v4_1) - a2)) (I_2.1 495 (Int32.toNatClampNeg v4_1))) → ∀ v4_4, v4_4 = (v4_1 + 1) → P3 v4_4 I_3))))) → P3 v4_1 I_2) → P3 a2 I
theorem dyX12_copies_0 : decode cX12_copies 0 = .ok (.iload_n 2, 1) := by decide +kernel
theorem dyX12_copies_1 : decode cX12_copies 1 = .ok (.istore 4, 2) := by decide +kernel
theorem dyX12_copies_3 : decode cX12_copies 3 = .ok (.iload 4, 2) := by decide +kernel
theorem dyX12_copies_5 : decode cX12_copies 5 = .ok (.iload_n 3, 1) := by decide +kernel
theorem dyX12_copies_6 : decode cX12_copies 6 = .ok (.if_icmp .ge 27, 3) := by decide +kernel
theorem dyX12_copies_9 : decode cX12_copies 9 = .ok (.aload_n 0, 1) := by decide +kernel
theorem dyX12_copies_10 : decode cX12_copies 10 = .ok (.getfield 13, 3) := by decide +kernel
theorem dyX12_copies_13 : decode cX12_copies 13 = .ok (.iload_n 1, 1) := by decide +kernel
theorem dyX12_copies_14 : decode cX12_copies 14 = .ok (.iload 4, 2) := by decide +kernel
theorem dyX12_copies_16 : decode cX12_copies 16 = .ok (.iadd, 1) := by decide +kernel
theorem dyX12_copies_17 : decode cX12_copies 17 = .ok (.iload_n 2, 1) := by decide +kernel
theorem dyX12_copies_18 : decode cX12_copies 18 = .ok (.isub, 1) := by decide +kernel
theorem dyX12_copies_19 : decode cX12_copies 19 = .ok (.aload_n 0, 1) := by decide +kernel
theorem dyX12_copies_20 : decode cX12_copies 20 = .ok (.getfield 19, 3) := by decide +kernel
theorem dyX12_copies_23 : decode cX12_copies 23 = .ok (.iload 4, 2) := by decide +kernel
theorem dyX12_copies_25 : decode cX12_copies 25 = .ok (.iaload, 1) := by decide +kernel
theorem dyX12_copies_26 : decode cX12_copies 26 = .ok (.iastore, 1) := by decide +kernel
theorem dyX12_copies_27 : decode cX12_copies 27 = .ok (.iinc 4 1, 3) := by decide +kernel
theorem dyX12_copies_30 : decode cX12_copies 30 = .ok (.goto (-27), 3) := by decide +kernel
theorem dyX12_copies_33 : decode cX12_copies 33 = .ok (.iload_n 1, 1) := by decide +kernel
theorem dyX12_copies_34 : decode cX12_copies 34 = .ok (.iload_n 3, 1) := by decide +kernel
theorem dyX12_copies_35 : decode cX12_copies 35 = .ok (.iadd, 1) := by decide +kernel
theorem dyX12_copies_36 : decode cX12_copies 36 = .ok (.iload_n 2, 1) := by decide +kernel
theorem dyX12_copies_37 : decode cX12_copies 37 = .ok (.isub, 1) := by decide +kernel
theorem dyX12_copies_38 : decode cX12_copies 38 = .ok (.ireturn, 1) := by decide +kernel
theorem zsg_yX12_copies : yX12_copies.cls = RX12 ∧ yX12_copies.cls ≠ "java/lang/invoke/MethodHandle" ∧ yX12_copies.cls ≠ "java/lang/invoke/VarHandle" ∧ (parseMethodDescriptor yX12_copies.desc).map (fun d => d.parameters.length) = some 3 := by decide +kernel
set_option maxRecDepth 20000 in
theorem c_M_copies {l : Launch} {D : va_G} {B : Nat} {cA : Nat → ClassId} {ad : Nat → Nat} {S : List zC} (hS : zOkM S) {a1 : Int32} {a2 : Int32} {a3 : Int32} {I : zI} {K : Int32 → zI → Prop}  (h : w_M_copies a1 a2 a3 I K) : Met l yX12_copies (zws yX12_copies cX12_copies 5 (some .int)) (zrm 0 0) (zPc D B cA ad [.ref (B + 491), .int a1, .int a2, .int a3] S I) (zQc D B cA (zqI S K)) 0 0 (fun q => B ≤ q) := by
  refine zm_of (cc := cX12_copies) (maxL := 5) (ret := (some .int)) (by decide +kernel) rfl (Nat.le_of_ble_eq_true rfl) trivial ?_
  intro p e s m args below meth c C _
  unfold w_M_copies at h
  show zX p l e (zrm 0 0) s m args below meth c (MQ below (zQc D B cA (zqI S K)) args s 0 0 (fun q => B ≤ q)) D B cA 5 0 0 S I [(0, .ref (B + 491)), (1, .int a1), (2, .int a2), (3, .int a3)] [] 0
  refine zr_iload_n C dyX12_copies_0 rfl 2 rfl ?_
  refine zr_istore C dyX12_copies_1 (Nat.le_of_ble_eq_true rfl) (lv2 := [(4, .int a2), (0, .ref (B + 491)), (1, .int a1), (2, .int a2), (3, .int a3)]) rfl ?_
  refine zjn (h (fun (v4_1 : Int32) (I_2 : zI) => zX p l e (zrm 0 0) s m args below meth c (MQ below (zQc D B cA (zqI S K)) args s 0 0 (fun q => B ≤ q)) D B cA 5 0 0 S I_2 [(4, .int v4_1), (0, .ref (B + 491)), (1, .int a1), (2, .int a2), (3, .int a3)] [] 3) (fun v4_1 I_2 h => ?_)) (fun h => ?_)
  · refine zr_iload C dyX12_copies_3 0 rfl ?_
    refine zr_iload_n C dyX12_copies_5 rfl 4 rfl ?_
    refine zr_icmp_ge C dyX12_copies_6 (tgt := 33) (by decide) (fun hc_5 => ?_) (fun hc_5 => ?_)
    · replace h := zif_pos hc_5 h
      refine zr_iload_n C dyX12_copies_33 rfl 2 rfl ?_
      refine zr_iload_n C dyX12_copies_34 rfl 4 rfl ?_
      refine zr_iadd C dyX12_copies_35 ?_
      refine zr_iload_n C dyX12_copies_36 rfl 3 rfl ?_
      refine zr_isub C dyX12_copies_37 ?_
      exact zr_iret C rfl dyX12_copies_38 ⟨rfl, _, rfl, h⟩
    · replace h := zif_neg hc_5 h
      refine zr_aload_n C dyX12_copies_9 rfl 1 rfl ?_
      refine zg_12_13 C hS dyX12_copies_10 ?_
      refine zr_iload_n C dyX12_copies_13 rfl 2 rfl ?_
      refine zr_iload C dyX12_copies_14 0 rfl ?_
      refine zr_iadd C dyX12_copies_16 ?_
      refine zr_iload_n C dyX12_copies_17 rfl 3 rfl ?_
      refine zr_isub C dyX12_copies_18 ?_
      refine zr_aload_n C dyX12_copies_19 rfl 1 rfl ?_
      refine zg_12_19 C hS dyX12_copies_20 ?_
      refine zr_iload C dyX12_copies_23 0 rfl ?_
      refine zr_iald C (hS _ _ zs_495) h.1 dyX12_copies_25 ?_
      replace h := h.2
      refine zr_iast C (hS _ _ zs_493) h.1 dyX12_copies_26 ?_
      replace h := h.2
      refine zn_mem C (fun I_3 eI_3 => ?_)
      replace h := h I_3 eI_3
      refine zn_iinc C (fun v4_4 => [(4, .int v4_4), (0, .ref (B + 491)), (1, .int a1), (2, .int a2), (3, .int a3)]) dyX12_copies_27 0 rfl zc_i_1 (Nat.le_of_ble_eq_true rfl) (fun _ => rfl) (fun v4_4 ev4_4 => ?_)
      replace h := h v4_4 ev4_4
      refine zr_goto C dyX12_copies_30 (tgt := 3) (by decide) ?_
      exact h
  exact h
def w_M_isRun (a1 : Int32) (I : zI) (K : Int32 → Prop) : Prop :=
  w_M_in a1 0 ((I.1 491 51) - 1) I (fun r_1 => zb r_1 ∧ K r_1)
theorem dyX12_isRun_0 : decode cX12_isRun 0 = .ok (.iload_n 1, 1) := by decide +kernel
theorem dyX12_isRun_1 : decode cX12_isRun 1 = .ok (.iconst 0, 1) := by decide +kernel
theorem dyX12_isRun_2 : decode cX12_isRun 2 = .ok (.aload_n 0, 1) := by decide +kernel
theorem dyX12_isRun_3 : decode cX12_isRun 3 = .ok (.getfield 290, 3) := by decide +kernel
theorem dyX12_isRun_6 : decode cX12_isRun 6 = .ok (.iconst 1, 1) := by decide +kernel
theorem dyX12_isRun_7 : decode cX12_isRun 7 = .ok (.isub, 1) := by decide +kernel
theorem dyX12_isRun_8 : decode cX12_isRun 8 = .ok (.invokestatic 286, 3) := by decide +kernel
theorem dyX12_isRun_11 : decode cX12_isRun 11 = .ok (.ireturn, 1) := by decide +kernel
theorem zsg_yX12_isRun : yX12_isRun.cls = RX12 ∧ yX12_isRun.cls ≠ "java/lang/invoke/MethodHandle" ∧ yX12_isRun.cls ≠ "java/lang/invoke/VarHandle" ∧ (parseMethodDescriptor yX12_isRun.desc).map (fun d => d.parameters.length) = some 1 := by decide +kernel
set_option maxRecDepth 20000 in
theorem c_M_isRun {l : Launch} {D : va_G} {B : Nat} {cA : Nat → ClassId} {ad : Nat → Nat} {S : List zC} (hS : zOkM S) {a1 : Int32} {I : zI} {K : Int32 → Prop}  (h : w_M_isRun a1 I K) : Met l yX12_isRun (zws yX12_isRun cX12_isRun 2 (some .boolean)) (zrm 1 22) (zPc D B cA ad [.ref (B + 491), .int a1] S I) (zQc D B cA (zpI S I K)) 0 0 (fun q => B ≤ q) := by
  refine zm_of (cc := cX12_isRun) (maxL := 2) (ret := (some .boolean)) (by decide +kernel) rfl (Nat.le_of_ble_eq_true rfl) trivial ?_
  intro p e s m args below meth c C _
  unfold w_M_isRun at h
  show zX p l e (zrm 1 22) s m args below meth c (MQ below (zQc D B cA (zpI S I K)) args s 0 0 (fun q => B ≤ q)) D B cA 2 0 0 S I [(0, .ref (B + 491)), (1, .int a1)] [] 0
  refine zr_iload_n C dyX12_isRun_0 rfl 1 rfl ?_
  refine zr_iconst C dyX12_isRun_1 zc_i_0 ?_
  refine zr_aload_n C dyX12_isRun_2 rfl 0 rfl ?_
  refine zg_12_290 C hS dyX12_isRun_3 ?_
  refine zr_iconst C dyX12_isRun_6 zc_i_1 ?_
  refine zr_isub C dyX12_isRun_7 ?_
  refine zv_12_286 C hS (st := []) h ⟨Nat.le_of_ble_eq_true rfl, Nat.le_of_ble_eq_true rfl⟩ (Nat.le_of_ble_eq_true rfl) dyX12_isRun_8 (fun r_1 h => ?_)
  exact zr_zret C rfl (zb.nar h.1) dyX12_isRun_11 ⟨rfl, rfl, _, rfl, h.2⟩
theorem zv_12_401 {p : Program} {l : Launch} {e : Env} {R : Room} {s : State} {m : MethodId} {args : Array Value} {below : List Frame} {meth : Method} {c : Code} {Q : State → Prop} {D : va_G} {B : Nat} {cA : Nat → ClassId} {ad : Nat → Nat} {cc : ByteArray} {nL : Nat} {ret : Option FieldType} {S : List zC} {I : zI} {lv : List (Nat × Value)} {st : List Value} {pc : Nat} (C : zCx p s m args meth c cc nL RX12 ret D B cA ad) {K : Int32 → Prop} {xa1 : Int32} (hS : zOkM S)  (h : w_M_isRun xa1 I K) (hR : 1 + 1 ≤ R.frames ∧ 8 + (2 + 11) + (22) ≤ R.locals) (hw : (st.map fun v => v.category).sum ≤ 8) (hd : decode cc pc = .ok (.invokevirtual 401, 3)) (kk : ∀ v, K v → zX p l e R s m args below meth c Q D B cA nL 0 0 S I lv (.int v :: st) (pc + 3)) : zX p l e R s m args below meth c Q D B cA nL 0 0 S I lv (.int xa1 :: .ref (B + 491) :: st) pc :=
  have hf : 0 ≤ R.cells ∧ 0 ≤ R.slots := ⟨Nat.zero_le _, Nat.zero_le _⟩
  zc_VpI C (ci := 12) (q := (RX12, TX12, 82)) (k := 491) (fs := [none, some (some 492), some (some 493), none, some (some 494), none, some (some 495), none, none, none, some (some 496), some (some 497), some (some 498), some (some 499), some (some 500), none, some (some 501), some (some 502), some (some 503), none, some (some 504), some (some 505), some (some 506), some (some 507), some (some 508), none, some (some 509), some (some 510), some (some 511), some (some 512), some (some 513), some (some 514), some (some 515), some (some 516), some (some 517), some (some 518), none, none, some (some 519), none, some (some 520), none, none, none, some (some 521), some (some 522), some (some 523), some (some 524), some (some 525), some (some 526), some (some 527), none, some (some 528), none, some (some 529), none, some (some 530), some (some 531), some (some 532), none, some (some 533), some (some 534), some (some 535), some (some 536), some (some 537), none, none, none, some (some 538), some (some 539), some (some 540), none, none, none, some (some 541), none, none, some (some 542), some (some 543), some (some 544), none, some (some 545)]) (As := [.int xa1]) (st := st) rfl (hS _ _ zs_491) (c_M_isRun hS h) (zgV zk_ml_12_401 zk_im_yX12_isRun zk_se_yX12_isRun zk_in_12 zk_cd_yX12_isRun) zsg_yX12_isRun hR rfl rfl hw hd hf kk
theorem zv_12_404 {p : Program} {l : Launch} {e : Env} {R : Room} {s : State} {m : MethodId} {args : Array Value} {below : List Frame} {meth : Method} {c : Code} {Q : State → Prop} {D : va_G} {B : Nat} {cA : Nat → ClassId} {ad : Nat → Nat} {cc : ByteArray} {nL : Nat} {ret : Option FieldType} {S : List zC} {I : zI} {lv : List (Nat × Value)} {st : List Value} {pc : Nat} (C : zCx p s m args meth c cc nL RX12 ret D B cA ad) {K : Int32 → Prop} {xa1 : Int32} (hS : zOkM S)  (h : w_M_beginOf xa1 I K) (hR : 0 + 1 ≤ R.frames ∧ 8 + (2 + 11) + (0) ≤ R.locals) (hw : (st.map fun v => v.category).sum ≤ 8) (hd : decode cc pc = .ok (.invokevirtual 404, 3)) (kk : ∀ v, K v → zX p l e R s m args below meth c Q D B cA nL 0 0 S I lv (.int v :: st) (pc + 3)) : zX p l e R s m args below meth c Q D B cA nL 0 0 S I lv (.int xa1 :: .ref (B + 491) :: st) pc :=
  have hf : 0 ≤ R.cells ∧ 0 ≤ R.slots := ⟨Nat.zero_le _, Nat.zero_le _⟩
  zc_VpI C (ci := 12) (q := (RX12, TX12, 82)) (k := 491) (fs := [none, some (some 492), some (some 493), none, some (some 494), none, some (some 495), none, none, none, some (some 496), some (some 497), some (some 498), some (some 499), some (some 500), none, some (some 501), some (some 502), some (some 503), none, some (some 504), some (some 505), some (some 506), some (some 507), some (some 508), none, some (some 509), some (some 510), some (some 511), some (some 512), some (some 513), some (some 514), some (some 515), some (some 516), some (some 517), some (some 518), none, none, some (some 519), none, some (some 520), none, none, none, some (some 521), some (some 522), some (some 523), some (some 524), some (some 525), some (some 526), some (some 527), none, some (some 528), none, some (some 529), none, some (some 530), some (some 531), some (some 532), none, some (some 533), some (some 534), some (some 535), some (some 536), some (some 537), none, none, none, some (some 538), some (some 539), some (some 540), none, none, none, some (some 541), none, none, some (some 542), some (some 543), some (some 544), none, some (some 545)]) (As := [.int xa1]) (st := st) rfl (hS _ _ zs_491) (c_M_beginOf hS h) (zgV zk_ml_12_404 zk_im_yX12_beginOf zk_se_yX12_beginOf zk_in_12 zk_cd_yX12_beginOf) zsg_yX12_beginOf hR rfl rfl hw hd hf kk
theorem zv_12_407 {p : Program} {l : Launch} {e : Env} {R : Room} {s : State} {m : MethodId} {args : Array Value} {below : List Frame} {meth : Method} {c : Code} {Q : State → Prop} {D : va_G} {B : Nat} {cA : Nat → ClassId} {ad : Nat → Nat} {cc : ByteArray} {nL : Nat} {ret : Option FieldType} {S : List zC} {I : zI} {lv : List (Nat × Value)} {st : List Value} {pc : Nat} (C : zCx p s m args meth c cc nL RX12 ret D B cA ad) {K : Int32 → zI → Prop} {xa1 : Int32} {xa2 : Int32} {xa3 : Int32} (hS : zOkM S)  (h : w_M_copies xa1 xa2 xa3 I K) (hR : 0 + 1 ≤ R.frames ∧ 8 + (5 + 11) + (0) ≤ R.locals) (hw : (st.map fun v => v.category).sum ≤ 8) (hd : decode cc pc = .ok (.invokevirtual 407, 3)) (kk : ∀ v I2, K v I2 → zX p l e R s m args below meth c Q D B cA nL 0 0 S I2 lv (.int v :: st) (pc + 3)) : zX p l e R s m args below meth c Q D B cA nL 0 0 S I lv (.int xa3 :: .int xa2 :: .int xa1 :: .ref (B + 491) :: st) pc :=
  have hf : 0 ≤ R.cells ∧ 0 ≤ R.slots := ⟨Nat.zero_le _, Nat.zero_le _⟩
  zc_VqI C (ci := 12) (q := (RX12, TX12, 82)) (k := 491) (fs := [none, some (some 492), some (some 493), none, some (some 494), none, some (some 495), none, none, none, some (some 496), some (some 497), some (some 498), some (some 499), some (some 500), none, some (some 501), some (some 502), some (some 503), none, some (some 504), some (some 505), some (some 506), some (some 507), some (some 508), none, some (some 509), some (some 510), some (some 511), some (some 512), some (some 513), some (some 514), some (some 515), some (some 516), some (some 517), some (some 518), none, none, some (some 519), none, some (some 520), none, none, none, some (some 521), some (some 522), some (some 523), some (some 524), some (some 525), some (some 526), some (some 527), none, some (some 528), none, some (some 529), none, some (some 530), some (some 531), some (some 532), none, some (some 533), some (some 534), some (some 535), some (some 536), some (some 537), none, none, none, some (some 538), some (some 539), some (some 540), none, none, none, some (some 541), none, none, some (some 542), some (some 543), some (some 544), none, some (some 545)]) (As := [.int xa1, .int xa2, .int xa3]) (st := st) rfl (hS _ _ zs_491) (c_M_copies hS h) (zgV zk_ml_12_407 zk_im_yX12_copies zk_se_yX12_copies zk_in_12 zk_cd_yX12_copies) zsg_yX12_copies hR rfl rfl hw hd hf kk
theorem zv_12_411 {p : Program} {l : Launch} {e : Env} {R : Room} {s : State} {m : MethodId} {args : Array Value} {below : List Frame} {meth : Method} {c : Code} {Q : State → Prop} {D : va_G} {B : Nat} {cA : Nat → ClassId} {ad : Nat → Nat} {cc : ByteArray} {nL : Nat} {ret : Option FieldType} {S : List zC} {I : zI} {lv : List (Nat × Value)} {st : List Value} {pc : Nat} (C : zCx p s m args meth c cc nL RX12 ret D B cA ad) {K : Int32 → Prop} {xa1 : Int32} (hS : zOkM S)  (h : w_M_endOf xa1 I K) (hR : 0 + 1 ≤ R.frames ∧ 8 + (3 + 11) + (0) ≤ R.locals) (hw : (st.map fun v => v.category).sum ≤ 8) (hd : decode cc pc = .ok (.invokevirtual 411, 3)) (kk : ∀ v, K v → zX p l e R s m args below meth c Q D B cA nL 0 0 S I lv (.int v :: st) (pc + 3)) : zX p l e R s m args below meth c Q D B cA nL 0 0 S I lv (.int xa1 :: .ref (B + 491) :: st) pc :=
  have hf : 0 ≤ R.cells ∧ 0 ≤ R.slots := ⟨Nat.zero_le _, Nat.zero_le _⟩
  zc_VpI C (ci := 12) (q := (RX12, TX12, 82)) (k := 491) (fs := [none, some (some 492), some (some 493), none, some (some 494), none, some (some 495), none, none, none, some (some 496), some (some 497), some (some 498), some (some 499), some (some 500), none, some (some 501), some (some 502), some (some 503), none, some (some 504), some (some 505), some (some 506), some (some 507), some (some 508), none, some (some 509), some (some 510), some (some 511), some (some 512), some (some 513), some (some 514), some (some 515), some (some 516), some (some 517), some (some 518), none, none, some (some 519), none, some (some 520), none, none, none, some (some 521), some (some 522), some (some 523), some (some 524), some (some 525), some (some 526), some (some 527), none, some (some 528), none, some (some 529), none, some (some 530), some (some 531), some (some 532), none, some (some 533), some (some 534), some (some 535), some (some 536), some (some 537), none, none, none, some (some 538), some (some 539), some (some 540), none, none, none, some (some 541), none, none, some (some 542), some (some 543), some (some 544), none, some (some 545)]) (As := [.int xa1]) (st := st) rfl (hS _ _ zs_491) (c_M_endOf hS h) (zgV zk_ml_12_411 zk_im_yX12_endOf zk_se_yX12_endOf zk_in_12 zk_cd_yX12_endOf) zsg_yX12_endOf hR rfl rfl hw hd hf kk
def w_M_cut (a1 : Int32) (I : zI) (K : Int32 → zI → Prop) : Prop :=
  (if (I.1 491 8) = 0 then (K (-1) I) else (w_M_isRun a1 I (fun r_1 => (if r_1 = 0 then (K (-1) I) else (vp_in a1 110 ∧ (w_M_beginOf (I.1 528 (Int32.toNatClampNeg a1)) I (fun r_2 => w_M_copies 0 0 r_2 I (fun r_3 I_4 => vp_in a1 110 ∧ (w_M_endOf (I_4.1 528 (Int32.toNatClampNeg a1)) I_4 (fun r_5 => w_M_copies r_3 r_5 (I_4.1 491 7) I_4 (fun r_6 I_7 => w_M_isRefused r_6 I_7 (fun r_8 I_9 => (if r_8 = 0 then (w_M_edited I_9 (fun r_10 I_11 => K r_10 I_11)) else (K (-1) I_9))))))))))))))
theorem dyX12_cut_0 : decode cX12_cut 0 = .ok (.aload_n 0, 1) := by decide +kernel
theorem dyX12_cut_1 : decode cX12_cut 1 = .ok (.getfield 182, 3) := by decide +kernel
theorem dyX12_cut_4 : decode cX12_cut 4 = .ok (.ifCond .eq 11, 3) := by decide +kernel
theorem dyX12_cut_7 : decode cX12_cut 7 = .ok (.aload_n 0, 1) := by decide +kernel
theorem dyX12_cut_8 : decode cX12_cut 8 = .ok (.iload_n 1, 1) := by decide +kernel
theorem dyX12_cut_9 : decode cX12_cut 9 = .ok (.invokevirtual 401, 3) := by decide +kernel
theorem dyX12_cut_12 : decode cX12_cut 12 = .ok (.ifCond .ne 5, 3) := by decide +kernel
theorem dyX12_cut_15 : decode cX12_cut 15 = .ok (.iconst (-1), 1) := by decide +kernel
theorem dyX12_cut_16 : decode cX12_cut 16 = .ok (.ireturn, 1) := by decide +kernel
theorem dyX12_cut_17 : decode cX12_cut 17 = .ok (.aload_n 0, 1) := by decide +kernel
theorem dyX12_cut_18 : decode cX12_cut 18 = .ok (.iconst 0, 1) := by decide +kernel
theorem dyX12_cut_19 : decode cX12_cut 19 = .ok (.iconst 0, 1) := by decide +kernel
theorem dyX12_cut_20 : decode cX12_cut 20 = .ok (.aload_n 0, 1) := by decide +kernel
theorem dyX12_cut_21 : decode cX12_cut 21 = .ok (.aload_n 0, 1) := by decide +kernel
theorem dyX12_cut_22 : decode cX12_cut 22 = .ok (.getfield 120, 3) := by decide +kernel
theorem dyX12_cut_25 : decode cX12_cut 25 = .ok (.iload_n 1, 1) := by decide +kernel
theorem dyX12_cut_26 : decode cX12_cut 26 = .ok (.iaload, 1) := by decide +kernel
theorem dyX12_cut_27 : decode cX12_cut 27 = .ok (.invokevirtual 404, 3) := by decide +kernel
theorem dyX12_cut_30 : decode cX12_cut 30 = .ok (.invokevirtual 407, 3) := by decide +kernel
theorem dyX12_cut_33 : decode cX12_cut 33 = .ok (.istore_n 2, 1) := by decide +kernel
theorem dyX12_cut_34 : decode cX12_cut 34 = .ok (.aload_n 0, 1) := by decide +kernel
theorem dyX12_cut_35 : decode cX12_cut 35 = .ok (.iload_n 2, 1) := by decide +kernel
theorem dyX12_cut_36 : decode cX12_cut 36 = .ok (.aload_n 0, 1) := by decide +kernel
theorem dyX12_cut_37 : decode cX12_cut 37 = .ok (.aload_n 0, 1) := by decide +kernel
theorem dyX12_cut_38 : decode cX12_cut 38 = .ok (.getfield 120, 3) := by decide +kernel
theorem dyX12_cut_41 : decode cX12_cut 41 = .ok (.iload_n 1, 1) := by decide +kernel
theorem dyX12_cut_42 : decode cX12_cut 42 = .ok (.iaload, 1) := by decide +kernel
theorem dyX12_cut_43 : decode cX12_cut 43 = .ok (.invokevirtual 411, 3) := by decide +kernel
theorem dyX12_cut_46 : decode cX12_cut 46 = .ok (.aload_n 0, 1) := by decide +kernel
theorem dyX12_cut_47 : decode cX12_cut 47 = .ok (.getfield 241, 3) := by decide +kernel
theorem dyX12_cut_50 : decode cX12_cut 50 = .ok (.invokevirtual 407, 3) := by decide +kernel
theorem dyX12_cut_53 : decode cX12_cut 53 = .ok (.istore_n 2, 1) := by decide +kernel
theorem dyX12_cut_54 : decode cX12_cut 54 = .ok (.aload_n 0, 1) := by decide +kernel
theorem dyX12_cut_55 : decode cX12_cut 55 = .ok (.iload_n 2, 1) := by decide +kernel
theorem dyX12_cut_56 : decode cX12_cut 56 = .ok (.invokevirtual 388, 3) := by decide +kernel
theorem dyX12_cut_59 : decode cX12_cut 59 = .ok (.ifCond .eq 7, 3) := by decide +kernel
theorem dyX12_cut_62 : decode cX12_cut 62 = .ok (.iconst (-1), 1) := by decide +kernel
theorem dyX12_cut_63 : decode cX12_cut 63 = .ok (.goto 7, 3) := by decide +kernel
theorem dyX12_cut_66 : decode cX12_cut 66 = .ok (.aload_n 0, 1) := by decide +kernel
theorem dyX12_cut_67 : decode cX12_cut 67 = .ok (.invokevirtual 391, 3) := by decide +kernel
theorem dyX12_cut_70 : decode cX12_cut 70 = .ok (.ireturn, 1) := by decide +kernel
theorem zsg_yX12_cut : yX12_cut.cls = RX12 ∧ yX12_cut.cls ≠ "java/lang/invoke/MethodHandle" ∧ yX12_cut.cls ≠ "java/lang/invoke/VarHandle" ∧ (parseMethodDescriptor yX12_cut.desc).map (fun d => d.parameters.length) = some 1 := by decide +kernel
set_option maxRecDepth 20000 in
theorem c_M_cut {l : Launch} {D : va_G} {B : Nat} {cA : Nat → ClassId} {ad : Nat → Nat} {S : List zC} (hS : zOkM S) {a1 : Int32} {I : zI} {K : Int32 → zI → Prop}  (h : w_M_cut a1 I K) : Met l yX12_cut (zws yX12_cut cX12_cut 3 (some .int)) (zrm 4 104) (zPc D B cA ad [.ref (B + 491), .int a1] S I) (zQc D B cA (zqI S K)) 0 0 (fun q => B ≤ q) := by
  refine zm_of (cc := cX12_cut) (maxL := 3) (ret := (some .int)) (by decide +kernel) rfl (Nat.le_of_ble_eq_true rfl) trivial ?_
  intro p e s m args below meth c C _
  unfold w_M_cut at h
  show zX p l e (zrm 4 104) s m args below meth c (MQ below (zQc D B cA (zqI S K)) args s 0 0 (fun q => B ≤ q)) D B cA 3 0 0 S I [(0, .ref (B + 491)), (1, .int a1)] [] 0
  refine zr_aload_n C dyX12_cut_0 rfl 0 rfl ?_
  refine zg_12_182 C hS dyX12_cut_1 ?_
  refine zr_if_eq C dyX12_cut_4 (tgt := 15) (by decide) (fun hc_14 => ?_) (fun hc_14 => ?_)
  · replace h := zif_pos hc_14 h
    refine zr_iconst C dyX12_cut_15 zc_i_m1 ?_
    exact zr_iret C rfl dyX12_cut_16 ⟨rfl, _, rfl, h⟩
  · replace h := zif_neg hc_14 h
    refine zr_aload_n C dyX12_cut_7 rfl 0 rfl ?_
    refine zr_iload_n C dyX12_cut_8 rfl 1 rfl ?_
    refine zv_12_401 C hS (st := []) h ⟨Nat.le_of_ble_eq_true rfl, Nat.le_of_ble_eq_true rfl⟩ (Nat.le_of_ble_eq_true rfl) dyX12_cut_9 (fun r_1 h => ?_)
    refine zr_if_ne C dyX12_cut_12 (tgt := 17) (by decide) (fun hc_13 => ?_) (fun hc_13 => ?_)
    · replace h := zif_neg hc_13 h
      refine zr_aload_n C dyX12_cut_17 rfl 0 rfl ?_
      refine zr_iconst C dyX12_cut_18 zc_i_0 ?_
      refine zr_iconst C dyX12_cut_19 zc_i_0 ?_
      refine zr_aload_n C dyX12_cut_20 rfl 0 rfl ?_
      refine zr_aload_n C dyX12_cut_21 rfl 0 rfl ?_
      refine zg_12_120 C hS dyX12_cut_22 ?_
      refine zr_iload_n C dyX12_cut_25 rfl 1 rfl ?_
      refine zr_iald C (hS _ _ zs_528) h.1 dyX12_cut_26 ?_
      replace h := h.2
      refine zv_12_404 C hS (st := [.int 0, .int 0, .ref (B + 491)]) h ⟨Nat.le_of_ble_eq_true rfl, Nat.le_of_ble_eq_true rfl⟩ (Nat.le_of_ble_eq_true rfl) dyX12_cut_27 (fun r_2 h => ?_)
      refine zv_12_407 C hS (st := []) h ⟨Nat.le_of_ble_eq_true rfl, Nat.le_of_ble_eq_true rfl⟩ (Nat.le_of_ble_eq_true rfl) dyX12_cut_30 (fun r_3 I_4 h => ?_)
      refine zr_istore_n C dyX12_cut_33 rfl (Nat.le_of_ble_eq_true rfl) (lv2 := [(2, .int r_3), (0, .ref (B + 491)), (1, .int a1)]) rfl ?_
      refine zr_aload_n C dyX12_cut_34 rfl 1 rfl ?_
      refine zr_iload_n C dyX12_cut_35 rfl 0 rfl ?_
      refine zr_aload_n C dyX12_cut_36 rfl 1 rfl ?_
      refine zr_aload_n C dyX12_cut_37 rfl 1 rfl ?_
      refine zg_12_120 C hS dyX12_cut_38 ?_
      refine zr_iload_n C dyX12_cut_41 rfl 2 rfl ?_
      refine zr_iald C (hS _ _ zs_528) h.1 dyX12_cut_42 ?_
      replace h := h.2
      refine zv_12_411 C hS (st := [.int r_3, .ref (B + 491)]) h ⟨Nat.le_of_ble_eq_true rfl, Nat.le_of_ble_eq_true rfl⟩ (Nat.le_of_ble_eq_true rfl) dyX12_cut_43 (fun r_5 h => ?_)
      refine zr_aload_n C dyX12_cut_46 rfl 1 rfl ?_
      refine zg_12_241 C hS dyX12_cut_47 ?_
      refine zv_12_407 C hS (st := []) h ⟨Nat.le_of_ble_eq_true rfl, Nat.le_of_ble_eq_true rfl⟩ (Nat.le_of_ble_eq_true rfl) dyX12_cut_50 (fun r_6 I_7 h => ?_)
      refine zr_istore_n C dyX12_cut_53 rfl (Nat.le_of_ble_eq_true rfl) (lv2 := [(2, .int r_6), (0, .ref (B + 491)), (1, .int a1)]) rfl ?_
      refine zr_aload_n C dyX12_cut_54 rfl 1 rfl ?_
      refine zr_iload_n C dyX12_cut_55 rfl 0 rfl ?_
      refine zv_12_388 C hS (st := []) h ⟨Nat.le_of_ble_eq_true rfl, Nat.le_of_ble_eq_true rfl⟩ (Nat.le_of_ble_eq_true rfl) dyX12_cut_56 (fun r_8 I_9 h => ?_)
      refine zr_if_eq C dyX12_cut_59 (tgt := 66) (by decide) (fun hc_12 => ?_) (fun hc_12 => ?_)
      · replace h := zif_pos hc_12 h
        refine zr_aload_n C dyX12_cut_66 rfl 1 rfl ?_
        refine zv_12_391 C hS (st := []) h ⟨Nat.le_of_ble_eq_true rfl, Nat.le_of_ble_eq_true rfl⟩ (Nat.le_of_ble_eq_true rfl) dyX12_cut_67 (fun r_10 I_11 h => ?_)
        exact zr_iret C rfl dyX12_cut_70 ⟨rfl, _, rfl, h⟩
      · replace h := zif_neg hc_12 h
        refine zr_iconst C dyX12_cut_62 zc_i_m1 ?_
        refine zr_goto C dyX12_cut_63 (tgt := 70) (by decide) ?_
        exact zr_iret C rfl dyX12_cut_70 ⟨rfl, _, rfl, h⟩
    · replace h := zif_pos hc_13 h
      refine zr_iconst C dyX12_cut_15 zc_i_m1 ?_
      exact zr_iret C rfl dyX12_cut_16 ⟨rfl, _, rfl, h⟩
def w_M_twin (a1 : Int32) (I : zI) (K : Int32 → zI → Prop) : Prop :=
  (if (I.1 491 8) = 0 then (K (-1) I) else (w_M_isRun a1 I (fun r_1 => (if r_1 = 0 then (K (-1) I) else (vp_in a1 110 ∧ (w_M_endOf (I.1 528 (Int32.toNatClampNeg a1)) I (fun r_2 => w_M_copies 0 0 r_2 I (fun r_3 I_4 => vp_in a1 110 ∧ (w_M_beginOf (I_4.1 528 (Int32.toNatClampNeg a1)) I_4 (fun r_5 => w_M_copies r_3 r_5 (I_4.1 491 7) I_4 (fun r_6 I_7 => w_M_isRefused r_6 I_7 (fun r_8 I_9 => (if r_8 = 0 then (w_M_edited I_9 (fun r_10 I_11 => K r_10 I_11)) else (K (-1) I_9))))))))))))))
theorem dyX12_twin_0 : decode cX12_twin 0 = .ok (.aload_n 0, 1) := by decide +kernel
theorem dyX12_twin_1 : decode cX12_twin 1 = .ok (.getfield 182, 3) := by decide +kernel
theorem dyX12_twin_4 : decode cX12_twin 4 = .ok (.ifCond .eq 11, 3) := by decide +kernel
theorem dyX12_twin_7 : decode cX12_twin 7 = .ok (.aload_n 0, 1) := by decide +kernel
theorem dyX12_twin_8 : decode cX12_twin 8 = .ok (.iload_n 1, 1) := by decide +kernel
theorem dyX12_twin_9 : decode cX12_twin 9 = .ok (.invokevirtual 401, 3) := by decide +kernel
theorem dyX12_twin_12 : decode cX12_twin 12 = .ok (.ifCond .ne 5, 3) := by decide +kernel
theorem dyX12_twin_15 : decode cX12_twin 15 = .ok (.iconst (-1), 1) := by decide +kernel
theorem dyX12_twin_16 : decode cX12_twin 16 = .ok (.ireturn, 1) := by decide +kernel
theorem dyX12_twin_17 : decode cX12_twin 17 = .ok (.aload_n 0, 1) := by decide +kernel
theorem dyX12_twin_18 : decode cX12_twin 18 = .ok (.iconst 0, 1) := by decide +kernel
theorem dyX12_twin_19 : decode cX12_twin 19 = .ok (.iconst 0, 1) := by decide +kernel
theorem dyX12_twin_20 : decode cX12_twin 20 = .ok (.aload_n 0, 1) := by decide +kernel
theorem dyX12_twin_21 : decode cX12_twin 21 = .ok (.aload_n 0, 1) := by decide +kernel
theorem dyX12_twin_22 : decode cX12_twin 22 = .ok (.getfield 120, 3) := by decide +kernel
theorem dyX12_twin_25 : decode cX12_twin 25 = .ok (.iload_n 1, 1) := by decide +kernel
theorem dyX12_twin_26 : decode cX12_twin 26 = .ok (.iaload, 1) := by decide +kernel
theorem dyX12_twin_27 : decode cX12_twin 27 = .ok (.invokevirtual 411, 3) := by decide +kernel
theorem dyX12_twin_30 : decode cX12_twin 30 = .ok (.invokevirtual 407, 3) := by decide +kernel
theorem dyX12_twin_33 : decode cX12_twin 33 = .ok (.istore_n 2, 1) := by decide +kernel
theorem dyX12_twin_34 : decode cX12_twin 34 = .ok (.aload_n 0, 1) := by decide +kernel
theorem dyX12_twin_35 : decode cX12_twin 35 = .ok (.iload_n 2, 1) := by decide +kernel
theorem dyX12_twin_36 : decode cX12_twin 36 = .ok (.aload_n 0, 1) := by decide +kernel
theorem dyX12_twin_37 : decode cX12_twin 37 = .ok (.aload_n 0, 1) := by decide +kernel
theorem dyX12_twin_38 : decode cX12_twin 38 = .ok (.getfield 120, 3) := by decide +kernel
theorem dyX12_twin_41 : decode cX12_twin 41 = .ok (.iload_n 1, 1) := by decide +kernel
theorem dyX12_twin_42 : decode cX12_twin 42 = .ok (.iaload, 1) := by decide +kernel
theorem dyX12_twin_43 : decode cX12_twin 43 = .ok (.invokevirtual 404, 3) := by decide +kernel
theorem dyX12_twin_46 : decode cX12_twin 46 = .ok (.aload_n 0, 1) := by decide +kernel
theorem dyX12_twin_47 : decode cX12_twin 47 = .ok (.getfield 241, 3) := by decide +kernel
theorem dyX12_twin_50 : decode cX12_twin 50 = .ok (.invokevirtual 407, 3) := by decide +kernel
theorem dyX12_twin_53 : decode cX12_twin 53 = .ok (.istore_n 2, 1) := by decide +kernel
theorem dyX12_twin_54 : decode cX12_twin 54 = .ok (.aload_n 0, 1) := by decide +kernel
theorem dyX12_twin_55 : decode cX12_twin 55 = .ok (.iload_n 2, 1) := by decide +kernel
theorem dyX12_twin_56 : decode cX12_twin 56 = .ok (.invokevirtual 388, 3) := by decide +kernel
theorem dyX12_twin_59 : decode cX12_twin 59 = .ok (.ifCond .eq 7, 3) := by decide +kernel
theorem dyX12_twin_62 : decode cX12_twin 62 = .ok (.iconst (-1), 1) := by decide +kernel
theorem dyX12_twin_63 : decode cX12_twin 63 = .ok (.goto 7, 3) := by decide +kernel
theorem dyX12_twin_66 : decode cX12_twin 66 = .ok (.aload_n 0, 1) := by decide +kernel
theorem dyX12_twin_67 : decode cX12_twin 67 = .ok (.invokevirtual 391, 3) := by decide +kernel
theorem dyX12_twin_70 : decode cX12_twin 70 = .ok (.ireturn, 1) := by decide +kernel
theorem zsg_yX12_twin : yX12_twin.cls = RX12 ∧ yX12_twin.cls ≠ "java/lang/invoke/MethodHandle" ∧ yX12_twin.cls ≠ "java/lang/invoke/VarHandle" ∧ (parseMethodDescriptor yX12_twin.desc).map (fun d => d.parameters.length) = some 1 := by decide +kernel
set_option maxRecDepth 20000 in
theorem c_M_twin {l : Launch} {D : va_G} {B : Nat} {cA : Nat → ClassId} {ad : Nat → Nat} {S : List zC} (hS : zOkM S) {a1 : Int32} {I : zI} {K : Int32 → zI → Prop}  (h : w_M_twin a1 I K) : Met l yX12_twin (zws yX12_twin cX12_twin 3 (some .int)) (zrm 4 104) (zPc D B cA ad [.ref (B + 491), .int a1] S I) (zQc D B cA (zqI S K)) 0 0 (fun q => B ≤ q) := by
  refine zm_of (cc := cX12_twin) (maxL := 3) (ret := (some .int)) (by decide +kernel) rfl (Nat.le_of_ble_eq_true rfl) trivial ?_
  intro p e s m args below meth c C _
  unfold w_M_twin at h
  show zX p l e (zrm 4 104) s m args below meth c (MQ below (zQc D B cA (zqI S K)) args s 0 0 (fun q => B ≤ q)) D B cA 3 0 0 S I [(0, .ref (B + 491)), (1, .int a1)] [] 0
  refine zr_aload_n C dyX12_twin_0 rfl 0 rfl ?_
  refine zg_12_182 C hS dyX12_twin_1 ?_
  refine zr_if_eq C dyX12_twin_4 (tgt := 15) (by decide) (fun hc_14 => ?_) (fun hc_14 => ?_)
  · replace h := zif_pos hc_14 h
    refine zr_iconst C dyX12_twin_15 zc_i_m1 ?_
    exact zr_iret C rfl dyX12_twin_16 ⟨rfl, _, rfl, h⟩
  · replace h := zif_neg hc_14 h
    refine zr_aload_n C dyX12_twin_7 rfl 0 rfl ?_
    refine zr_iload_n C dyX12_twin_8 rfl 1 rfl ?_
    refine zv_12_401 C hS (st := []) h ⟨Nat.le_of_ble_eq_true rfl, Nat.le_of_ble_eq_true rfl⟩ (Nat.le_of_ble_eq_true rfl) dyX12_twin_9 (fun r_1 h => ?_)
    refine zr_if_ne C dyX12_twin_12 (tgt := 17) (by decide) (fun hc_13 => ?_) (fun hc_13 => ?_)
    · replace h := zif_neg hc_13 h
      refine zr_aload_n C dyX12_twin_17 rfl 0 rfl ?_
      refine zr_iconst C dyX12_twin_18 zc_i_0 ?_
      refine zr_iconst C dyX12_twin_19 zc_i_0 ?_
      refine zr_aload_n C dyX12_twin_20 rfl 0 rfl ?_
      refine zr_aload_n C dyX12_twin_21 rfl 0 rfl ?_
      refine zg_12_120 C hS dyX12_twin_22 ?_
      refine zr_iload_n C dyX12_twin_25 rfl 1 rfl ?_
      refine zr_iald C (hS _ _ zs_528) h.1 dyX12_twin_26 ?_
      replace h := h.2
      refine zv_12_411 C hS (st := [.int 0, .int 0, .ref (B + 491)]) h ⟨Nat.le_of_ble_eq_true rfl, Nat.le_of_ble_eq_true rfl⟩ (Nat.le_of_ble_eq_true rfl) dyX12_twin_27 (fun r_2 h => ?_)
      refine zv_12_407 C hS (st := []) h ⟨Nat.le_of_ble_eq_true rfl, Nat.le_of_ble_eq_true rfl⟩ (Nat.le_of_ble_eq_true rfl) dyX12_twin_30 (fun r_3 I_4 h => ?_)
      refine zr_istore_n C dyX12_twin_33 rfl (Nat.le_of_ble_eq_true rfl) (lv2 := [(2, .int r_3), (0, .ref (B + 491)), (1, .int a1)]) rfl ?_
      refine zr_aload_n C dyX12_twin_34 rfl 1 rfl ?_
      refine zr_iload_n C dyX12_twin_35 rfl 0 rfl ?_
      refine zr_aload_n C dyX12_twin_36 rfl 1 rfl ?_
      refine zr_aload_n C dyX12_twin_37 rfl 1 rfl ?_
      refine zg_12_120 C hS dyX12_twin_38 ?_
      refine zr_iload_n C dyX12_twin_41 rfl 2 rfl ?_
      refine zr_iald C (hS _ _ zs_528) h.1 dyX12_twin_42 ?_
      replace h := h.2
      refine zv_12_404 C hS (st := [.int r_3, .ref (B + 491)]) h ⟨Nat.le_of_ble_eq_true rfl, Nat.le_of_ble_eq_true rfl⟩ (Nat.le_of_ble_eq_true rfl) dyX12_twin_43 (fun r_5 h => ?_)
      refine zr_aload_n C dyX12_twin_46 rfl 1 rfl ?_
      refine zg_12_241 C hS dyX12_twin_47 ?_
      refine zv_12_407 C hS (st := []) h ⟨Nat.le_of_ble_eq_true rfl, Nat.le_of_ble_eq_true rfl⟩ (Nat.le_of_ble_eq_true rfl) dyX12_twin_50 (fun r_6 I_7 h => ?_)
      refine zr_istore_n C dyX12_twin_53 rfl (Nat.le_of_ble_eq_true rfl) (lv2 := [(2, .int r_6), (0, .ref (B + 491)), (1, .int a1)]) rfl ?_
      refine zr_aload_n C dyX12_twin_54 rfl 1 rfl ?_
      refine zr_iload_n C dyX12_twin_55 rfl 0 rfl ?_
      refine zv_12_388 C hS (st := []) h ⟨Nat.le_of_ble_eq_true rfl, Nat.le_of_ble_eq_true rfl⟩ (Nat.le_of_ble_eq_true rfl) dyX12_twin_56 (fun r_8 I_9 h => ?_)
      refine zr_if_eq C dyX12_twin_59 (tgt := 66) (by decide) (fun hc_12 => ?_) (fun hc_12 => ?_)
      · replace h := zif_pos hc_12 h
        refine zr_aload_n C dyX12_twin_66 rfl 1 rfl ?_
        refine zv_12_391 C hS (st := []) h ⟨Nat.le_of_ble_eq_true rfl, Nat.le_of_ble_eq_true rfl⟩ (Nat.le_of_ble_eq_true rfl) dyX12_twin_67 (fun r_10 I_11 h => ?_)
        exact zr_iret C rfl dyX12_twin_70 ⟨rfl, _, rfl, h⟩
      · replace h := zif_neg hc_12 h
        refine zr_iconst C dyX12_twin_62 zc_i_m1 ?_
        refine zr_goto C dyX12_twin_63 (tgt := 70) (by decide) ?_
        exact zr_iret C rfl dyX12_twin_70 ⟨rfl, _, rfl, h⟩
    · replace h := zif_pos hc_13 h
      refine zr_iconst C dyX12_twin_15 zc_i_m1 ?_
      exact zr_iret C rfl dyX12_twin_16 ⟨rfl, _, rfl, h⟩
def w_M_swap (a1 : Int32) (I : zI) (K : Int32 → zI → Prop) : Prop :=
  (if (I.1 491 8) = 0 then (K (-1) I) else (w_M_isRun a1 I (fun r_1 => (if r_1 = 0 then (K (-1) I) else (w_M_isRun (a1 + 1) I (fun r_2 => (if r_2 = 0 then (K (-1) I) else (vp_in a1 110 ∧ (∀ v2_3, v2_3 = (I.1 528 (Int32.toNatClampNeg a1)) → vp_in (a1 + 1) 110 ∧ (∀ v3_4, v3_4 = (I.1 528 (Int32.toNatClampNeg (a1 + 1))) → w_M_beginOf v2_3 I (fun r_5 => w_M_copies 0 0 r_5 I (fun r_6 I_7 => w_M_beginOf v3_4 I_7 (fun r_8 => w_M_endOf v3_4 I_7 (fun r_9 => w_M_copies r_6 r_8 r_9 I_7 (fun r_10 I_11 => w_M_endOf v2_3 I_11 (fun r_12 => w_M_beginOf v3_4 I_11 (fun r_13 => w_M_copies r_10 r_12 r_13 I_11 (fun r_14 I_15 => w_M_beginOf v2_3 I_15 (fun r_16 => w_M_endOf v2_3 I_15 (fun r_17 => w_M_copies r_14 r_16 r_17 I_15 (fun r_18 I_19 => w_M_endOf v3_4 I_19 (fun r_20 => w_M_copies r_18 r_20 (I_19.1 491 7) I_19 (fun r_21 I_22 => w_M_isRefused r_21 I_22 (fun r_23 I_24 => (if r_23 = 0 then (w_M_edited I_24 (fun r_25 I_26 => K r_25 I_26)) else (K (-1) I_24))))))))))))))))))))))))))
theorem dyX12_swap_0 : decode cX12_swap 0 = .ok (.aload_n 0, 1) := by decide +kernel
theorem dyX12_swap_1 : decode cX12_swap 1 = .ok (.getfield 182, 3) := by decide +kernel
theorem dyX12_swap_4 : decode cX12_swap 4 = .ok (.ifCond .eq 21, 3) := by decide +kernel
theorem dyX12_swap_7 : decode cX12_swap 7 = .ok (.aload_n 0, 1) := by decide +kernel
theorem dyX12_swap_8 : decode cX12_swap 8 = .ok (.iload_n 1, 1) := by decide +kernel
theorem dyX12_swap_9 : decode cX12_swap 9 = .ok (.invokevirtual 401, 3) := by decide +kernel
theorem dyX12_swap_12 : decode cX12_swap 12 = .ok (.ifCond .eq 13, 3) := by decide +kernel
theorem dyX12_swap_15 : decode cX12_swap 15 = .ok (.aload_n 0, 1) := by decide +kernel
theorem dyX12_swap_16 : decode cX12_swap 16 = .ok (.iload_n 1, 1) := by decide +kernel
theorem dyX12_swap_17 : decode cX12_swap 17 = .ok (.iconst 1, 1) := by decide +kernel
theorem dyX12_swap_18 : decode cX12_swap 18 = .ok (.iadd, 1) := by decide +kernel
theorem dyX12_swap_19 : decode cX12_swap 19 = .ok (.invokevirtual 401, 3) := by decide +kernel
theorem dyX12_swap_22 : decode cX12_swap 22 = .ok (.ifCond .ne 5, 3) := by decide +kernel
theorem dyX12_swap_25 : decode cX12_swap 25 = .ok (.iconst (-1), 1) := by decide +kernel
theorem dyX12_swap_26 : decode cX12_swap 26 = .ok (.ireturn, 1) := by decide +kernel
theorem dyX12_swap_27 : decode cX12_swap 27 = .ok (.aload_n 0, 1) := by decide +kernel
theorem dyX12_swap_28 : decode cX12_swap 28 = .ok (.getfield 120, 3) := by decide +kernel
theorem dyX12_swap_31 : decode cX12_swap 31 = .ok (.iload_n 1, 1) := by decide +kernel
theorem dyX12_swap_32 : decode cX12_swap 32 = .ok (.iaload, 1) := by decide +kernel
theorem dyX12_swap_33 : decode cX12_swap 33 = .ok (.istore_n 2, 1) := by decide +kernel
theorem dyX12_swap_34 : decode cX12_swap 34 = .ok (.aload_n 0, 1) := by decide +kernel
theorem dyX12_swap_35 : decode cX12_swap 35 = .ok (.getfield 120, 3) := by decide +kernel
theorem dyX12_swap_38 : decode cX12_swap 38 = .ok (.iload_n 1, 1) := by decide +kernel
theorem dyX12_swap_39 : decode cX12_swap 39 = .ok (.iconst 1, 1) := by decide +kernel
theorem dyX12_swap_40 : decode cX12_swap 40 = .ok (.iadd, 1) := by decide +kernel
theorem dyX12_swap_41 : decode cX12_swap 41 = .ok (.iaload, 1) := by decide +kernel
theorem dyX12_swap_42 : decode cX12_swap 42 = .ok (.istore_n 3, 1) := by decide +kernel
theorem dyX12_swap_43 : decode cX12_swap 43 = .ok (.aload_n 0, 1) := by decide +kernel
theorem dyX12_swap_44 : decode cX12_swap 44 = .ok (.iconst 0, 1) := by decide +kernel
theorem dyX12_swap_45 : decode cX12_swap 45 = .ok (.iconst 0, 1) := by decide +kernel
theorem dyX12_swap_46 : decode cX12_swap 46 = .ok (.aload_n 0, 1) := by decide +kernel
theorem dyX12_swap_47 : decode cX12_swap 47 = .ok (.iload_n 2, 1) := by decide +kernel
theorem dyX12_swap_48 : decode cX12_swap 48 = .ok (.invokevirtual 404, 3) := by decide +kernel
theorem dyX12_swap_51 : decode cX12_swap 51 = .ok (.invokevirtual 407, 3) := by decide +kernel
theorem dyX12_swap_54 : decode cX12_swap 54 = .ok (.istore 4, 2) := by decide +kernel
theorem dyX12_swap_56 : decode cX12_swap 56 = .ok (.aload_n 0, 1) := by decide +kernel
theorem dyX12_swap_57 : decode cX12_swap 57 = .ok (.iload 4, 2) := by decide +kernel
theorem dyX12_swap_59 : decode cX12_swap 59 = .ok (.aload_n 0, 1) := by decide +kernel
theorem dyX12_swap_60 : decode cX12_swap 60 = .ok (.iload_n 3, 1) := by decide +kernel
theorem dyX12_swap_61 : decode cX12_swap 61 = .ok (.invokevirtual 404, 3) := by decide +kernel
theorem dyX12_swap_64 : decode cX12_swap 64 = .ok (.aload_n 0, 1) := by decide +kernel
theorem dyX12_swap_65 : decode cX12_swap 65 = .ok (.iload_n 3, 1) := by decide +kernel
theorem dyX12_swap_66 : decode cX12_swap 66 = .ok (.invokevirtual 411, 3) := by decide +kernel
theorem dyX12_swap_69 : decode cX12_swap 69 = .ok (.invokevirtual 407, 3) := by decide +kernel
theorem dyX12_swap_72 : decode cX12_swap 72 = .ok (.istore 4, 2) := by decide +kernel
theorem dyX12_swap_74 : decode cX12_swap 74 = .ok (.aload_n 0, 1) := by decide +kernel
theorem dyX12_swap_75 : decode cX12_swap 75 = .ok (.iload 4, 2) := by decide +kernel
theorem dyX12_swap_77 : decode cX12_swap 77 = .ok (.aload_n 0, 1) := by decide +kernel
theorem dyX12_swap_78 : decode cX12_swap 78 = .ok (.iload_n 2, 1) := by decide +kernel
theorem dyX12_swap_79 : decode cX12_swap 79 = .ok (.invokevirtual 411, 3) := by decide +kernel
theorem dyX12_swap_82 : decode cX12_swap 82 = .ok (.aload_n 0, 1) := by decide +kernel
theorem dyX12_swap_83 : decode cX12_swap 83 = .ok (.iload_n 3, 1) := by decide +kernel
theorem dyX12_swap_84 : decode cX12_swap 84 = .ok (.invokevirtual 404, 3) := by decide +kernel
theorem dyX12_swap_87 : decode cX12_swap 87 = .ok (.invokevirtual 407, 3) := by decide +kernel
theorem dyX12_swap_90 : decode cX12_swap 90 = .ok (.istore 4, 2) := by decide +kernel
theorem dyX12_swap_92 : decode cX12_swap 92 = .ok (.aload_n 0, 1) := by decide +kernel
theorem dyX12_swap_93 : decode cX12_swap 93 = .ok (.iload 4, 2) := by decide +kernel
theorem dyX12_swap_95 : decode cX12_swap 95 = .ok (.aload_n 0, 1) := by decide +kernel
theorem dyX12_swap_96 : decode cX12_swap 96 = .ok (.iload_n 2, 1) := by decide +kernel
theorem dyX12_swap_97 : decode cX12_swap 97 = .ok (.invokevirtual 404, 3) := by decide +kernel
theorem dyX12_swap_100 : decode cX12_swap 100 = .ok (.aload_n 0, 1) := by decide +kernel
theorem dyX12_swap_101 : decode cX12_swap 101 = .ok (.iload_n 2, 1) := by decide +kernel
theorem dyX12_swap_102 : decode cX12_swap 102 = .ok (.invokevirtual 411, 3) := by decide +kernel
theorem dyX12_swap_105 : decode cX12_swap 105 = .ok (.invokevirtual 407, 3) := by decide +kernel
theorem dyX12_swap_108 : decode cX12_swap 108 = .ok (.istore 4, 2) := by decide +kernel
theorem dyX12_swap_110 : decode cX12_swap 110 = .ok (.aload_n 0, 1) := by decide +kernel
theorem dyX12_swap_111 : decode cX12_swap 111 = .ok (.iload 4, 2) := by decide +kernel
theorem dyX12_swap_113 : decode cX12_swap 113 = .ok (.aload_n 0, 1) := by decide +kernel
theorem dyX12_swap_114 : decode cX12_swap 114 = .ok (.iload_n 3, 1) := by decide +kernel
theorem dyX12_swap_115 : decode cX12_swap 115 = .ok (.invokevirtual 411, 3) := by decide +kernel
theorem dyX12_swap_118 : decode cX12_swap 118 = .ok (.aload_n 0, 1) := by decide +kernel
theorem dyX12_swap_119 : decode cX12_swap 119 = .ok (.getfield 241, 3) := by decide +kernel
theorem dyX12_swap_122 : decode cX12_swap 122 = .ok (.invokevirtual 407, 3) := by decide +kernel
theorem dyX12_swap_125 : decode cX12_swap 125 = .ok (.istore 4, 2) := by decide +kernel
theorem dyX12_swap_127 : decode cX12_swap 127 = .ok (.aload_n 0, 1) := by decide +kernel
theorem dyX12_swap_128 : decode cX12_swap 128 = .ok (.iload 4, 2) := by decide +kernel
theorem dyX12_swap_130 : decode cX12_swap 130 = .ok (.invokevirtual 388, 3) := by decide +kernel
theorem dyX12_swap_133 : decode cX12_swap 133 = .ok (.ifCond .eq 7, 3) := by decide +kernel
theorem dyX12_swap_136 : decode cX12_swap 136 = .ok (.iconst (-1), 1) := by decide +kernel
theorem dyX12_swap_137 : decode cX12_swap 137 = .ok (.goto 7, 3) := by decide +kernel
theorem dyX12_swap_140 : decode cX12_swap 140 = .ok (.aload_n 0, 1) := by decide +kernel
theorem dyX12_swap_141 : decode cX12_swap 141 = .ok (.invokevirtual 391, 3) := by decide +kernel
theorem dyX12_swap_144 : decode cX12_swap 144 = .ok (.ireturn, 1) := by decide +kernel
theorem zsg_yX12_swap : yX12_swap.cls = RX12 ∧ yX12_swap.cls ≠ "java/lang/invoke/MethodHandle" ∧ yX12_swap.cls ≠ "java/lang/invoke/VarHandle" ∧ (parseMethodDescriptor yX12_swap.desc).map (fun d => d.parameters.length) = some 1 := by decide +kernel
set_option maxRecDepth 20000 in
theorem c_M_swap {l : Launch} {D : va_G} {B : Nat} {cA : Nat → ClassId} {ad : Nat → Nat} {S : List zC} (hS : zOkM S) {a1 : Int32} {I : zI} {K : Int32 → zI → Prop}  (h : w_M_swap a1 I K) : Met l yX12_swap (zws yX12_swap cX12_swap 5 (some .int)) (zrm 4 104) (zPc D B cA ad [.ref (B + 491), .int a1] S I) (zQc D B cA (zqI S K)) 0 0 (fun q => B ≤ q) := by
  refine zm_of (cc := cX12_swap) (maxL := 5) (ret := (some .int)) (by decide +kernel) rfl (Nat.le_of_ble_eq_true rfl) trivial ?_
  intro p e s m args below meth c C _
  unfold w_M_swap at h
  show zX p l e (zrm 4 104) s m args below meth c (MQ below (zQc D B cA (zqI S K)) args s 0 0 (fun q => B ≤ q)) D B cA 5 0 0 S I [(0, .ref (B + 491)), (1, .int a1)] [] 0
  refine zr_aload_n C dyX12_swap_0 rfl 0 rfl ?_
  refine zg_12_182 C hS dyX12_swap_1 ?_
  refine zr_if_eq C dyX12_swap_4 (tgt := 25) (by decide) (fun hc_30 => ?_) (fun hc_30 => ?_)
  · replace h := zif_pos hc_30 h
    refine zr_iconst C dyX12_swap_25 zc_i_m1 ?_
    exact zr_iret C rfl dyX12_swap_26 ⟨rfl, _, rfl, h⟩
  · replace h := zif_neg hc_30 h
    refine zr_aload_n C dyX12_swap_7 rfl 0 rfl ?_
    refine zr_iload_n C dyX12_swap_8 rfl 1 rfl ?_
    refine zv_12_401 C hS (st := []) h ⟨Nat.le_of_ble_eq_true rfl, Nat.le_of_ble_eq_true rfl⟩ (Nat.le_of_ble_eq_true rfl) dyX12_swap_9 (fun r_1 h => ?_)
    refine zr_if_eq C dyX12_swap_12 (tgt := 25) (by decide) (fun hc_29 => ?_) (fun hc_29 => ?_)
    · replace h := zif_pos hc_29 h
      refine zr_iconst C dyX12_swap_25 zc_i_m1 ?_
      exact zr_iret C rfl dyX12_swap_26 ⟨rfl, _, rfl, h⟩
    · replace h := zif_neg hc_29 h
      refine zr_aload_n C dyX12_swap_15 rfl 0 rfl ?_
      refine zr_iload_n C dyX12_swap_16 rfl 1 rfl ?_
      refine zr_iconst C dyX12_swap_17 zc_i_1 ?_
      refine zr_iadd C dyX12_swap_18 ?_
      refine zv_12_401 C hS (st := []) h ⟨Nat.le_of_ble_eq_true rfl, Nat.le_of_ble_eq_true rfl⟩ (Nat.le_of_ble_eq_true rfl) dyX12_swap_19 (fun r_2 h => ?_)
      refine zr_if_ne C dyX12_swap_22 (tgt := 27) (by decide) (fun hc_28 => ?_) (fun hc_28 => ?_)
      · replace h := zif_neg hc_28 h
        refine zr_aload_n C dyX12_swap_27 rfl 0 rfl ?_
        refine zg_12_120 C hS dyX12_swap_28 ?_
        refine zr_iload_n C dyX12_swap_31 rfl 1 rfl ?_
        refine zr_iald C (hS _ _ zs_528) h.1 dyX12_swap_32 ?_
        replace h := h.2
        refine zn_istore_n C (fun v2_3 => [(2, .int v2_3), (0, .ref (B + 491)), (1, .int a1)]) dyX12_swap_33 rfl (Nat.le_of_ble_eq_true rfl) (fun _ => rfl) (fun v2_3 ev2_3 => ?_)
        replace h := h v2_3 ev2_3
        refine zr_aload_n C dyX12_swap_34 rfl 1 rfl ?_
        refine zg_12_120 C hS dyX12_swap_35 ?_
        refine zr_iload_n C dyX12_swap_38 rfl 2 rfl ?_
        refine zr_iconst C dyX12_swap_39 zc_i_1 ?_
        refine zr_iadd C dyX12_swap_40 ?_
        refine zr_iald C (hS _ _ zs_528) h.1 dyX12_swap_41 ?_
        replace h := h.2
        refine zn_istore_n C (fun v3_4 => [(3, .int v3_4), (2, .int v2_3), (0, .ref (B + 491)), (1, .int a1)]) dyX12_swap_42 rfl (Nat.le_of_ble_eq_true rfl) (fun _ => rfl) (fun v3_4 ev3_4 => ?_)
        replace h := h v3_4 ev3_4
        refine zr_aload_n C dyX12_swap_43 rfl 2 rfl ?_
        refine zr_iconst C dyX12_swap_44 zc_i_0 ?_
        refine zr_iconst C dyX12_swap_45 zc_i_0 ?_
        refine zr_aload_n C dyX12_swap_46 rfl 2 rfl ?_
        refine zr_iload_n C dyX12_swap_47 rfl 1 rfl ?_
        refine zv_12_404 C hS (st := [.int 0, .int 0, .ref (B + 491)]) h ⟨Nat.le_of_ble_eq_true rfl, Nat.le_of_ble_eq_true rfl⟩ (Nat.le_of_ble_eq_true rfl) dyX12_swap_48 (fun r_5 h => ?_)
        refine zv_12_407 C hS (st := []) h ⟨Nat.le_of_ble_eq_true rfl, Nat.le_of_ble_eq_true rfl⟩ (Nat.le_of_ble_eq_true rfl) dyX12_swap_51 (fun r_6 I_7 h => ?_)
        refine zr_istore C dyX12_swap_54 (Nat.le_of_ble_eq_true rfl) (lv2 := [(4, .int r_6), (3, .int v3_4), (2, .int v2_3), (0, .ref (B + 491)), (1, .int a1)]) rfl ?_
        refine zr_aload_n C dyX12_swap_56 rfl 3 rfl ?_
        refine zr_iload C dyX12_swap_57 0 rfl ?_
        refine zr_aload_n C dyX12_swap_59 rfl 3 rfl ?_
        refine zr_iload_n C dyX12_swap_60 rfl 1 rfl ?_
        refine zv_12_404 C hS (st := [.int r_6, .ref (B + 491)]) h ⟨Nat.le_of_ble_eq_true rfl, Nat.le_of_ble_eq_true rfl⟩ (Nat.le_of_ble_eq_true rfl) dyX12_swap_61 (fun r_8 h => ?_)
        refine zr_aload_n C dyX12_swap_64 rfl 3 rfl ?_
        refine zr_iload_n C dyX12_swap_65 rfl 1 rfl ?_
        refine zv_12_411 C hS (st := [.int r_8, .int r_6, .ref (B + 491)]) h ⟨Nat.le_of_ble_eq_true rfl, Nat.le_of_ble_eq_true rfl⟩ (Nat.le_of_ble_eq_true rfl) dyX12_swap_66 (fun r_9 h => ?_)
        refine zv_12_407 C hS (st := []) h ⟨Nat.le_of_ble_eq_true rfl, Nat.le_of_ble_eq_true rfl⟩ (Nat.le_of_ble_eq_true rfl) dyX12_swap_69 (fun r_10 I_11 h => ?_)
        refine zr_istore C dyX12_swap_72 (Nat.le_of_ble_eq_true rfl) (lv2 := [(4, .int r_10), (3, .int v3_4), (2, .int v2_3), (0, .ref (B + 491)), (1, .int a1)]) rfl ?_
        refine zr_aload_n C dyX12_swap_74 rfl 3 rfl ?_
        refine zr_iload C dyX12_swap_75 0 rfl ?_
        refine zr_aload_n C dyX12_swap_77 rfl 3 rfl ?_
        refine zr_iload_n C dyX12_swap_78 rfl 2 rfl ?_
        refine zv_12_411 C hS (st := [.int r_10, .ref (B + 491)]) h ⟨Nat.le_of_ble_eq_true rfl, Nat.le_of_ble_eq_true rfl⟩ (Nat.le_of_ble_eq_true rfl) dyX12_swap_79 (fun r_12 h => ?_)
        refine zr_aload_n C dyX12_swap_82 rfl 3 rfl ?_
        refine zr_iload_n C dyX12_swap_83 rfl 1 rfl ?_
        refine zv_12_404 C hS (st := [.int r_12, .int r_10, .ref (B + 491)]) h ⟨Nat.le_of_ble_eq_true rfl, Nat.le_of_ble_eq_true rfl⟩ (Nat.le_of_ble_eq_true rfl) dyX12_swap_84 (fun r_13 h => ?_)
        refine zv_12_407 C hS (st := []) h ⟨Nat.le_of_ble_eq_true rfl, Nat.le_of_ble_eq_true rfl⟩ (Nat.le_of_ble_eq_true rfl) dyX12_swap_87 (fun r_14 I_15 h => ?_)
        refine zr_istore C dyX12_swap_90 (Nat.le_of_ble_eq_true rfl) (lv2 := [(4, .int r_14), (3, .int v3_4), (2, .int v2_3), (0, .ref (B + 491)), (1, .int a1)]) rfl ?_
        refine zr_aload_n C dyX12_swap_92 rfl 3 rfl ?_
        refine zr_iload C dyX12_swap_93 0 rfl ?_
        refine zr_aload_n C dyX12_swap_95 rfl 3 rfl ?_
        refine zr_iload_n C dyX12_swap_96 rfl 2 rfl ?_
        refine zv_12_404 C hS (st := [.int r_14, .ref (B + 491)]) h ⟨Nat.le_of_ble_eq_true rfl, Nat.le_of_ble_eq_true rfl⟩ (Nat.le_of_ble_eq_true rfl) dyX12_swap_97 (fun r_16 h => ?_)
        refine zr_aload_n C dyX12_swap_100 rfl 3 rfl ?_
        refine zr_iload_n C dyX12_swap_101 rfl 2 rfl ?_
        refine zv_12_411 C hS (st := [.int r_16, .int r_14, .ref (B + 491)]) h ⟨Nat.le_of_ble_eq_true rfl, Nat.le_of_ble_eq_true rfl⟩ (Nat.le_of_ble_eq_true rfl) dyX12_swap_102 (fun r_17 h => ?_)
        refine zv_12_407 C hS (st := []) h ⟨Nat.le_of_ble_eq_true rfl, Nat.le_of_ble_eq_true rfl⟩ (Nat.le_of_ble_eq_true rfl) dyX12_swap_105 (fun r_18 I_19 h => ?_)
        refine zr_istore C dyX12_swap_108 (Nat.le_of_ble_eq_true rfl) (lv2 := [(4, .int r_18), (3, .int v3_4), (2, .int v2_3), (0, .ref (B + 491)), (1, .int a1)]) rfl ?_
        refine zr_aload_n C dyX12_swap_110 rfl 3 rfl ?_
        refine zr_iload C dyX12_swap_111 0 rfl ?_
        refine zr_aload_n C dyX12_swap_113 rfl 3 rfl ?_
        refine zr_iload_n C dyX12_swap_114 rfl 1 rfl ?_
        refine zv_12_411 C hS (st := [.int r_18, .ref (B + 491)]) h ⟨Nat.le_of_ble_eq_true rfl, Nat.le_of_ble_eq_true rfl⟩ (Nat.le_of_ble_eq_true rfl) dyX12_swap_115 (fun r_20 h => ?_)
        refine zr_aload_n C dyX12_swap_118 rfl 3 rfl ?_
        refine zg_12_241 C hS dyX12_swap_119 ?_
        refine zv_12_407 C hS (st := []) h ⟨Nat.le_of_ble_eq_true rfl, Nat.le_of_ble_eq_true rfl⟩ (Nat.le_of_ble_eq_true rfl) dyX12_swap_122 (fun r_21 I_22 h => ?_)
        refine zr_istore C dyX12_swap_125 (Nat.le_of_ble_eq_true rfl) (lv2 := [(4, .int r_21), (3, .int v3_4), (2, .int v2_3), (0, .ref (B + 491)), (1, .int a1)]) rfl ?_
        refine zr_aload_n C dyX12_swap_127 rfl 3 rfl ?_
        refine zr_iload C dyX12_swap_128 0 rfl ?_
        refine zv_12_388 C hS (st := []) h ⟨Nat.le_of_ble_eq_true rfl, Nat.le_of_ble_eq_true rfl⟩ (Nat.le_of_ble_eq_true rfl) dyX12_swap_130 (fun r_23 I_24 h => ?_)
        refine zr_if_eq C dyX12_swap_133 (tgt := 140) (by decide) (fun hc_27 => ?_) (fun hc_27 => ?_)
        · replace h := zif_pos hc_27 h
          refine zr_aload_n C dyX12_swap_140 rfl 3 rfl ?_
          refine zv_12_391 C hS (st := []) h ⟨Nat.le_of_ble_eq_true rfl, Nat.le_of_ble_eq_true rfl⟩ (Nat.le_of_ble_eq_true rfl) dyX12_swap_141 (fun r_25 I_26 h => ?_)
          exact zr_iret C rfl dyX12_swap_144 ⟨rfl, _, rfl, h⟩
        · replace h := zif_neg hc_27 h
          refine zr_iconst C dyX12_swap_136 zc_i_m1 ?_
          refine zr_goto C dyX12_swap_137 (tgt := 144) (by decide) ?_
          exact zr_iret C rfl dyX12_swap_144 ⟨rfl, _, rfl, h⟩
      · replace h := zif_pos hc_28 h
        refine zr_iconst C dyX12_swap_25 zc_i_m1 ?_
        exact zr_iret C rfl dyX12_swap_26 ⟨rfl, _, rfl, h⟩
def w_M_text (a1 : Int32) (I : zI) (K : Int32 → Prop) : Prop :=
  w_M_in a1 0 ((I.1 491 5) - 1) I (fun r_1 => (if r_1 = 0 then (K (-1)) else (vp_in a1 300 ∧ (K (I.1 494 (Int32.toNatClampNeg a1))))))
theorem dyX12_text_0 : decode cX12_text 0 = .ok (.iload_n 1, 1) := by decide +kernel
theorem dyX12_text_1 : decode cX12_text 1 = .ok (.iconst 0, 1) := by decide +kernel
theorem dyX12_text_2 : decode cX12_text 2 = .ok (.aload_n 0, 1) := by decide +kernel
theorem dyX12_text_3 : decode cX12_text 3 = .ok (.getfield 232, 3) := by decide +kernel
theorem dyX12_text_6 : decode cX12_text 6 = .ok (.iconst 1, 1) := by decide +kernel
theorem dyX12_text_7 : decode cX12_text 7 = .ok (.isub, 1) := by decide +kernel
theorem dyX12_text_8 : decode cX12_text 8 = .ok (.invokestatic 286, 3) := by decide +kernel
theorem dyX12_text_11 : decode cX12_text 11 = .ok (.ifCond .eq 12, 3) := by decide +kernel
theorem dyX12_text_14 : decode cX12_text 14 = .ok (.aload_n 0, 1) := by decide +kernel
theorem dyX12_text_15 : decode cX12_text 15 = .ok (.getfield 16, 3) := by decide +kernel
theorem dyX12_text_18 : decode cX12_text 18 = .ok (.iload_n 1, 1) := by decide +kernel
theorem dyX12_text_19 : decode cX12_text 19 = .ok (.iaload, 1) := by decide +kernel
theorem dyX12_text_20 : decode cX12_text 20 = .ok (.goto 4, 3) := by decide +kernel
theorem dyX12_text_23 : decode cX12_text 23 = .ok (.iconst (-1), 1) := by decide +kernel
theorem dyX12_text_24 : decode cX12_text 24 = .ok (.ireturn, 1) := by decide +kernel
theorem zsg_yX12_text : yX12_text.cls = RX12 ∧ yX12_text.cls ≠ "java/lang/invoke/MethodHandle" ∧ yX12_text.cls ≠ "java/lang/invoke/VarHandle" ∧ (parseMethodDescriptor yX12_text.desc).map (fun d => d.parameters.length) = some 1 := by decide +kernel
set_option maxRecDepth 20000 in
theorem c_M_text {l : Launch} {D : va_G} {B : Nat} {cA : Nat → ClassId} {ad : Nat → Nat} {S : List zC} (hS : zOkM S) {a1 : Int32} {I : zI} {K : Int32 → Prop}  (h : w_M_text a1 I K) : Met l yX12_text (zws yX12_text cX12_text 2 (some .int)) (zrm 1 22) (zPc D B cA ad [.ref (B + 491), .int a1] S I) (zQc D B cA (zpI S I K)) 0 0 (fun q => B ≤ q) := by
  refine zm_of (cc := cX12_text) (maxL := 2) (ret := (some .int)) (by decide +kernel) rfl (Nat.le_of_ble_eq_true rfl) trivial ?_
  intro p e s m args below meth c C _
  unfold w_M_text at h
  show zX p l e (zrm 1 22) s m args below meth c (MQ below (zQc D B cA (zpI S I K)) args s 0 0 (fun q => B ≤ q)) D B cA 2 0 0 S I [(0, .ref (B + 491)), (1, .int a1)] [] 0
  refine zr_iload_n C dyX12_text_0 rfl 1 rfl ?_
  refine zr_iconst C dyX12_text_1 zc_i_0 ?_
  refine zr_aload_n C dyX12_text_2 rfl 0 rfl ?_
  refine zg_12_232 C hS dyX12_text_3 ?_
  refine zr_iconst C dyX12_text_6 zc_i_1 ?_
  refine zr_isub C dyX12_text_7 ?_
  refine zv_12_286 C hS (st := []) h ⟨Nat.le_of_ble_eq_true rfl, Nat.le_of_ble_eq_true rfl⟩ (Nat.le_of_ble_eq_true rfl) dyX12_text_8 (fun r_1 h => ?_)
  refine zr_if_eq C dyX12_text_11 (tgt := 23) (by decide) (fun hc_2 => ?_) (fun hc_2 => ?_)
  · replace h := zif_pos hc_2 h
    refine zr_iconst C dyX12_text_23 zc_i_m1 ?_
    exact zr_iret C rfl dyX12_text_24 ⟨rfl, rfl, _, rfl, h⟩
  · replace h := zif_neg hc_2 h
    refine zr_aload_n C dyX12_text_14 rfl 0 rfl ?_
    refine zg_12_16 C hS dyX12_text_15 ?_
    refine zr_iload_n C dyX12_text_18 rfl 1 rfl ?_
    refine zr_iald C (hS _ _ zs_494) h.1 dyX12_text_19 ?_
    replace h := h.2
    refine zr_goto C dyX12_text_20 (tgt := 24) (by decide) ?_
    exact zr_iret C rfl dyX12_text_24 ⟨rfl, rfl, _, rfl, h⟩
def w_M_token (a1 : Int32) (a2 : Int32) (I : zI) (K : Int32 → Prop) : Prop :=
  w_M_in a1 0 ((I.1 491 15) - 1) I (fun r_1 => (if r_1 = 0 then (K (-1)) else (w_M_in a2 0 2 I (fun r_2 => (if r_2 = 0 then (K (-1)) else (if a2 = 0 then (vp_in a1 110 ∧ (K (I.1 501 (Int32.toNatClampNeg a1)))) else (if a2 = 1 then (vp_in a1 110 ∧ (K (I.1 502 (Int32.toNatClampNeg a1)))) else (vp_in a1 110 ∧ (K (I.1 503 (Int32.toNatClampNeg a1)))))))))))
theorem dyX12_token_0 : decode cX12_token 0 = .ok (.iload_n 1, 1) := by decide +kernel
theorem dyX12_token_1 : decode cX12_token 1 = .ok (.iconst 0, 1) := by decide +kernel
theorem dyX12_token_2 : decode cX12_token 2 = .ok (.aload_n 0, 1) := by decide +kernel
theorem dyX12_token_3 : decode cX12_token 3 = .ok (.getfield 235, 3) := by decide +kernel
theorem dyX12_token_6 : decode cX12_token 6 = .ok (.iconst 1, 1) := by decide +kernel
theorem dyX12_token_7 : decode cX12_token 7 = .ok (.isub, 1) := by decide +kernel
theorem dyX12_token_8 : decode cX12_token 8 = .ok (.invokestatic 286, 3) := by decide +kernel
theorem dyX12_token_11 : decode cX12_token 11 = .ok (.ifCond .eq 12, 3) := by decide +kernel
theorem dyX12_token_14 : decode cX12_token 14 = .ok (.iload_n 2, 1) := by decide +kernel
theorem dyX12_token_15 : decode cX12_token 15 = .ok (.iconst 0, 1) := by decide +kernel
theorem dyX12_token_16 : decode cX12_token 16 = .ok (.iconst 2, 1) := by decide +kernel
theorem dyX12_token_17 : decode cX12_token 17 = .ok (.invokestatic 286, 3) := by decide +kernel
theorem dyX12_token_20 : decode cX12_token 20 = .ok (.ifCond .ne 5, 3) := by decide +kernel
theorem dyX12_token_23 : decode cX12_token 23 = .ok (.iconst (-1), 1) := by decide +kernel
theorem dyX12_token_24 : decode cX12_token 24 = .ok (.ireturn, 1) := by decide +kernel
theorem dyX12_token_25 : decode cX12_token 25 = .ok (.iload_n 2, 1) := by decide +kernel
theorem dyX12_token_26 : decode cX12_token 26 = .ok (.ifCond .ne 12, 3) := by decide +kernel
theorem dyX12_token_29 : decode cX12_token 29 = .ok (.aload_n 0, 1) := by decide +kernel
theorem dyX12_token_30 : decode cX12_token 30 = .ok (.getfield 38, 3) := by decide +kernel
theorem dyX12_token_33 : decode cX12_token 33 = .ok (.iload_n 1, 1) := by decide +kernel
theorem dyX12_token_34 : decode cX12_token 34 = .ok (.iaload, 1) := by decide +kernel
theorem dyX12_token_35 : decode cX12_token 35 = .ok (.goto 23, 3) := by decide +kernel
theorem dyX12_token_38 : decode cX12_token 38 = .ok (.iload_n 2, 1) := by decide +kernel
theorem dyX12_token_39 : decode cX12_token 39 = .ok (.iconst 1, 1) := by decide +kernel
theorem dyX12_token_40 : decode cX12_token 40 = .ok (.if_icmp .ne 12, 3) := by decide +kernel
theorem dyX12_token_43 : decode cX12_token 43 = .ok (.aload_n 0, 1) := by decide +kernel
theorem dyX12_token_44 : decode cX12_token 44 = .ok (.getfield 41, 3) := by decide +kernel
theorem dyX12_token_47 : decode cX12_token 47 = .ok (.iload_n 1, 1) := by decide +kernel
theorem dyX12_token_48 : decode cX12_token 48 = .ok (.iaload, 1) := by decide +kernel
theorem dyX12_token_49 : decode cX12_token 49 = .ok (.goto 9, 3) := by decide +kernel
theorem dyX12_token_52 : decode cX12_token 52 = .ok (.aload_n 0, 1) := by decide +kernel
theorem dyX12_token_53 : decode cX12_token 53 = .ok (.getfield 44, 3) := by decide +kernel
theorem dyX12_token_56 : decode cX12_token 56 = .ok (.iload_n 1, 1) := by decide +kernel
theorem dyX12_token_57 : decode cX12_token 57 = .ok (.iaload, 1) := by decide +kernel
theorem dyX12_token_58 : decode cX12_token 58 = .ok (.ireturn, 1) := by decide +kernel
theorem zsg_yX12_token : yX12_token.cls = RX12 ∧ yX12_token.cls ≠ "java/lang/invoke/MethodHandle" ∧ yX12_token.cls ≠ "java/lang/invoke/VarHandle" ∧ (parseMethodDescriptor yX12_token.desc).map (fun d => d.parameters.length) = some 2 := by decide +kernel
set_option maxRecDepth 20000 in
theorem c_M_token {l : Launch} {D : va_G} {B : Nat} {cA : Nat → ClassId} {ad : Nat → Nat} {S : List zC} (hS : zOkM S) {a1 : Int32} {a2 : Int32} {I : zI} {K : Int32 → Prop}  (h : w_M_token a1 a2 I K) : Met l yX12_token (zws yX12_token cX12_token 3 (some .int)) (zrm 1 22) (zPc D B cA ad [.ref (B + 491), .int a1, .int a2] S I) (zQc D B cA (zpI S I K)) 0 0 (fun q => B ≤ q) := by
  refine zm_of (cc := cX12_token) (maxL := 3) (ret := (some .int)) (by decide +kernel) rfl (Nat.le_of_ble_eq_true rfl) trivial ?_
  intro p e s m args below meth c C _
  unfold w_M_token at h
  show zX p l e (zrm 1 22) s m args below meth c (MQ below (zQc D B cA (zpI S I K)) args s 0 0 (fun q => B ≤ q)) D B cA 3 0 0 S I [(0, .ref (B + 491)), (1, .int a1), (2, .int a2)] [] 0
  refine zr_iload_n C dyX12_token_0 rfl 1 rfl ?_
  refine zr_iconst C dyX12_token_1 zc_i_0 ?_
  refine zr_aload_n C dyX12_token_2 rfl 0 rfl ?_
  refine zg_12_235 C hS dyX12_token_3 ?_
  refine zr_iconst C dyX12_token_6 zc_i_1 ?_
  refine zr_isub C dyX12_token_7 ?_
  refine zv_12_286 C hS (st := []) h ⟨Nat.le_of_ble_eq_true rfl, Nat.le_of_ble_eq_true rfl⟩ (Nat.le_of_ble_eq_true rfl) dyX12_token_8 (fun r_1 h => ?_)
  refine zr_if_eq C dyX12_token_11 (tgt := 23) (by decide) (fun hc_6 => ?_) (fun hc_6 => ?_)
  · replace h := zif_pos hc_6 h
    refine zr_iconst C dyX12_token_23 zc_i_m1 ?_
    exact zr_iret C rfl dyX12_token_24 ⟨rfl, rfl, _, rfl, h⟩
  · replace h := zif_neg hc_6 h
    refine zr_iload_n C dyX12_token_14 rfl 2 rfl ?_
    refine zr_iconst C dyX12_token_15 zc_i_0 ?_
    refine zr_iconst C dyX12_token_16 zc_i_2 ?_
    refine zv_12_286 C hS (st := []) h ⟨Nat.le_of_ble_eq_true rfl, Nat.le_of_ble_eq_true rfl⟩ (Nat.le_of_ble_eq_true rfl) dyX12_token_17 (fun r_2 h => ?_)
    refine zr_if_ne C dyX12_token_20 (tgt := 25) (by decide) (fun hc_5 => ?_) (fun hc_5 => ?_)
    · replace h := zif_neg hc_5 h
      refine zr_iload_n C dyX12_token_25 rfl 2 rfl ?_
      refine zr_if_ne C dyX12_token_26 (tgt := 38) (by decide) (fun hc_4 => ?_) (fun hc_4 => ?_)
      · replace h := zif_neg hc_4 h
        refine zr_iload_n C dyX12_token_38 rfl 2 rfl ?_
        refine zr_iconst C dyX12_token_39 zc_i_1 ?_
        refine zr_icmp_ne C dyX12_token_40 (tgt := 52) (by decide) (fun hc_3 => ?_) (fun hc_3 => ?_)
        · replace h := zif_neg hc_3 h
          refine zr_aload_n C dyX12_token_52 rfl 0 rfl ?_
          refine zg_12_44 C hS dyX12_token_53 ?_
          refine zr_iload_n C dyX12_token_56 rfl 1 rfl ?_
          refine zr_iald C (hS _ _ zs_503) h.1 dyX12_token_57 ?_
          replace h := h.2
          exact zr_iret C rfl dyX12_token_58 ⟨rfl, rfl, _, rfl, h⟩
        · replace h := zif_pos hc_3 h
          refine zr_aload_n C dyX12_token_43 rfl 0 rfl ?_
          refine zg_12_41 C hS dyX12_token_44 ?_
          refine zr_iload_n C dyX12_token_47 rfl 1 rfl ?_
          refine zr_iald C (hS _ _ zs_502) h.1 dyX12_token_48 ?_
          replace h := h.2
          refine zr_goto C dyX12_token_49 (tgt := 58) (by decide) ?_
          exact zr_iret C rfl dyX12_token_58 ⟨rfl, rfl, _, rfl, h⟩
      · replace h := zif_pos hc_4 h
        refine zr_aload_n C dyX12_token_29 rfl 0 rfl ?_
        refine zg_12_38 C hS dyX12_token_30 ?_
        refine zr_iload_n C dyX12_token_33 rfl 1 rfl ?_
        refine zr_iald C (hS _ _ zs_501) h.1 dyX12_token_34 ?_
        replace h := h.2
        refine zr_goto C dyX12_token_35 (tgt := 58) (by decide) ?_
        exact zr_iret C rfl dyX12_token_58 ⟨rfl, rfl, _, rfl, h⟩
    · replace h := zif_pos hc_5 h
      refine zr_iconst C dyX12_token_23 zc_i_m1 ?_
      exact zr_iret C rfl dyX12_token_24 ⟨rfl, rfl, _, rfl, h⟩
def w_M_under (a1 : Int32) (I : zI) (K : Int32 → Prop) : Prop :=
  w_M_in a1 0 ((I.1 491 5) - 1) I (fun r_1 => (if r_1 = 0 then (K (-1)) else (∀ (P18 : Int32 → Prop), (∀ (v2_2 : Int32), ((if (I.1 491 15) ≤ v2_2 then (K (-2)) else (vp_in v2_2 110 ∧ (vp_in v2_2 110 ∧ (vp_in v2_2 110 ∧ (w_M_in a1 (I.1 502 (Int32.toNatClampNeg v2_2)) (((I.1 502 (Int32.toNatClampNeg v2_2)) + (I.1 503 (Int32.toNatClampNeg v2_2))) - 1) I (fun r_3 => (if r_3 = 0 then (∀ v2_4, v2_4 = (v2_2 + 1) → P18 v2_4) else K v2_2)))))))) → P18 v2_2) → P18 0)))
theorem dyX12_under_0 : decode cX12_under 0 = .ok (.iload_n 1, 1) := by decide +kernel
theorem dyX12_under_1 : decode cX12_under 1 = .ok (.iconst 0, 1) := by decide +kernel
theorem dyX12_under_2 : decode cX12_under 2 = .ok (.aload_n 0, 1) := by decide +kernel
theorem dyX12_under_3 : decode cX12_under 3 = .ok (.getfield 232, 3) := by decide +kernel
theorem dyX12_under_6 : decode cX12_under 6 = .ok (.iconst 1, 1) := by decide +kernel
theorem dyX12_under_7 : decode cX12_under 7 = .ok (.isub, 1) := by decide +kernel
theorem dyX12_under_8 : decode cX12_under 8 = .ok (.invokestatic 286, 3) := by decide +kernel
theorem dyX12_under_11 : decode cX12_under 11 = .ok (.ifCond .ne 5, 3) := by decide +kernel
theorem dyX12_under_14 : decode cX12_under 14 = .ok (.iconst (-1), 1) := by decide +kernel
theorem dyX12_under_15 : decode cX12_under 15 = .ok (.ireturn, 1) := by decide +kernel
theorem dyX12_under_16 : decode cX12_under 16 = .ok (.iconst 0, 1) := by decide +kernel
theorem dyX12_under_17 : decode cX12_under 17 = .ok (.istore_n 2, 1) := by decide +kernel
theorem dyX12_under_18 : decode cX12_under 18 = .ok (.iload_n 2, 1) := by decide +kernel
theorem dyX12_under_19 : decode cX12_under 19 = .ok (.aload_n 0, 1) := by decide +kernel
theorem dyX12_under_20 : decode cX12_under 20 = .ok (.getfield 235, 3) := by decide +kernel
theorem dyX12_under_23 : decode cX12_under 23 = .ok (.if_icmp .ge 39, 3) := by decide +kernel
theorem dyX12_under_26 : decode cX12_under 26 = .ok (.iload_n 1, 1) := by decide +kernel
theorem dyX12_under_27 : decode cX12_under 27 = .ok (.aload_n 0, 1) := by decide +kernel
theorem dyX12_under_28 : decode cX12_under 28 = .ok (.getfield 41, 3) := by decide +kernel
theorem dyX12_under_31 : decode cX12_under 31 = .ok (.iload_n 2, 1) := by decide +kernel
theorem dyX12_under_32 : decode cX12_under 32 = .ok (.iaload, 1) := by decide +kernel
theorem dyX12_under_33 : decode cX12_under 33 = .ok (.aload_n 0, 1) := by decide +kernel
theorem dyX12_under_34 : decode cX12_under 34 = .ok (.getfield 41, 3) := by decide +kernel
theorem dyX12_under_37 : decode cX12_under 37 = .ok (.iload_n 2, 1) := by decide +kernel
theorem dyX12_under_38 : decode cX12_under 38 = .ok (.iaload, 1) := by decide +kernel
theorem dyX12_under_39 : decode cX12_under 39 = .ok (.aload_n 0, 1) := by decide +kernel
theorem dyX12_under_40 : decode cX12_under 40 = .ok (.getfield 44, 3) := by decide +kernel
theorem dyX12_under_43 : decode cX12_under 43 = .ok (.iload_n 2, 1) := by decide +kernel
theorem dyX12_under_44 : decode cX12_under 44 = .ok (.iaload, 1) := by decide +kernel
theorem dyX12_under_45 : decode cX12_under 45 = .ok (.iadd, 1) := by decide +kernel
theorem dyX12_under_46 : decode cX12_under 46 = .ok (.iconst 1, 1) := by decide +kernel
theorem dyX12_under_47 : decode cX12_under 47 = .ok (.isub, 1) := by decide +kernel
theorem dyX12_under_48 : decode cX12_under 48 = .ok (.invokestatic 286, 3) := by decide +kernel
theorem dyX12_under_51 : decode cX12_under 51 = .ok (.ifCond .eq 5, 3) := by decide +kernel
theorem dyX12_under_54 : decode cX12_under 54 = .ok (.iload_n 2, 1) := by decide +kernel
theorem dyX12_under_55 : decode cX12_under 55 = .ok (.ireturn, 1) := by decide +kernel
theorem dyX12_under_56 : decode cX12_under 56 = .ok (.iinc 2 1, 3) := by decide +kernel
theorem dyX12_under_59 : decode cX12_under 59 = .ok (.goto (-41), 3) := by decide +kernel
theorem dyX12_under_62 : decode cX12_under 62 = .ok (.bipush (-2), 2) := by decide +kernel
theorem dyX12_under_64 : decode cX12_under 64 = .ok (.ireturn, 1) := by decide +kernel
theorem zsg_yX12_under : yX12_under.cls = RX12 ∧ yX12_under.cls ≠ "java/lang/invoke/MethodHandle" ∧ yX12_under.cls ≠ "java/lang/invoke/VarHandle" ∧ (parseMethodDescriptor yX12_under.desc).map (fun d => d.parameters.length) = some 1 := by decide +kernel
set_option maxRecDepth 20000 in
theorem c_M_under {l : Launch} {D : va_G} {B : Nat} {cA : Nat → ClassId} {ad : Nat → Nat} {S : List zC} (hS : zOkM S) {a1 : Int32} {I : zI} {K : Int32 → Prop}  (h : w_M_under a1 I K) : Met l yX12_under (zws yX12_under cX12_under 3 (some .int)) (zrm 1 22) (zPc D B cA ad [.ref (B + 491), .int a1] S I) (zQc D B cA (zpI S I K)) 0 0 (fun q => B ≤ q) := by
  refine zm_of (cc := cX12_under) (maxL := 3) (ret := (some .int)) (by decide +kernel) rfl (Nat.le_of_ble_eq_true rfl) trivial ?_
  intro p e s m args below meth c C _
  unfold w_M_under at h
  show zX p l e (zrm 1 22) s m args below meth c (MQ below (zQc D B cA (zpI S I K)) args s 0 0 (fun q => B ≤ q)) D B cA 3 0 0 S I [(0, .ref (B + 491)), (1, .int a1)] [] 0
  refine zr_iload_n C dyX12_under_0 rfl 1 rfl ?_
  refine zr_iconst C dyX12_under_1 zc_i_0 ?_
  refine zr_aload_n C dyX12_under_2 rfl 0 rfl ?_
  refine zg_12_232 C hS dyX12_under_3 ?_
  refine zr_iconst C dyX12_under_6 zc_i_1 ?_
  refine zr_isub C dyX12_under_7 ?_
  refine zv_12_286 C hS (st := []) h ⟨Nat.le_of_ble_eq_true rfl, Nat.le_of_ble_eq_true rfl⟩ (Nat.le_of_ble_eq_true rfl) dyX12_under_8 (fun r_1 h => ?_)
  refine zr_if_ne C dyX12_under_11 (tgt := 16) (by decide) (fun hc_7 => ?_) (fun hc_7 => ?_)
  · replace h := zif_neg hc_7 h
    refine zr_iconst C dyX12_under_16 zc_i_0 ?_
    refine zr_istore_n C dyX12_under_17 rfl (Nat.le_of_ble_eq_true rfl) (lv2 := [(2, .int 0), (0, .ref (B + 491)), (1, .int a1)]) rfl ?_
    refine zjn (h (fun (v2_2 : Int32) => zX p l e (zrm 1 22) s m args below meth c (MQ below (zQc D B cA (zpI S I K)) args s 0 0 (fun q => B ≤ q)) D B cA 3 0 0 S I [(2, .int v2_2), (0, .ref (B + 491)), (1, .int a1)] [] 18) (fun v2_2 h => ?_)) (fun h => ?_)
    · refine zr_iload_n C dyX12_under_18 rfl 0 rfl ?_
      refine zr_aload_n C dyX12_under_19 rfl 1 rfl ?_
      refine zg_12_235 C hS dyX12_under_20 ?_
      refine zr_icmp_ge C dyX12_under_23 (tgt := 62) (by decide) (fun hc_6 => ?_) (fun hc_6 => ?_)
      · replace h := zif_pos hc_6 h
        refine zr_bipush C dyX12_under_62 zc_b_m2 ?_
        exact zr_iret C rfl dyX12_under_64 ⟨rfl, rfl, _, rfl, h⟩
      · replace h := zif_neg hc_6 h
        refine zr_iload_n C dyX12_under_26 rfl 2 rfl ?_
        refine zr_aload_n C dyX12_under_27 rfl 1 rfl ?_
        refine zg_12_41 C hS dyX12_under_28 ?_
        refine zr_iload_n C dyX12_under_31 rfl 0 rfl ?_
        refine zr_iald C (hS _ _ zs_502) h.1 dyX12_under_32 ?_
        replace h := h.2
        refine zr_aload_n C dyX12_under_33 rfl 1 rfl ?_
        refine zg_12_41 C hS dyX12_under_34 ?_
        refine zr_iload_n C dyX12_under_37 rfl 0 rfl ?_
        refine zr_iald C (hS _ _ zs_502) h.1 dyX12_under_38 ?_
        replace h := h.2
        refine zr_aload_n C dyX12_under_39 rfl 1 rfl ?_
        refine zg_12_44 C hS dyX12_under_40 ?_
        refine zr_iload_n C dyX12_under_43 rfl 0 rfl ?_
        refine zr_iald C (hS _ _ zs_503) h.1 dyX12_under_44 ?_
        replace h := h.2
        refine zr_iadd C dyX12_under_45 ?_
        refine zr_iconst C dyX12_under_46 zc_i_1 ?_
        refine zr_isub C dyX12_under_47 ?_
        refine zv_12_286 C hS (st := []) h ⟨Nat.le_of_ble_eq_true rfl, Nat.le_of_ble_eq_true rfl⟩ (Nat.le_of_ble_eq_true rfl) dyX12_under_48 (fun r_3 h => ?_)
        refine zr_if_eq C dyX12_under_51 (tgt := 56) (by decide) (fun hc_5 => ?_) (fun hc_5 => ?_)
        · replace h := zif_pos hc_5 h
          refine zn_iinc C (fun v2_4 => [(2, .int v2_4), (0, .ref (B + 491)), (1, .int a1)]) dyX12_under_56 0 rfl zc_i_1 (Nat.le_of_ble_eq_true rfl) (fun _ => rfl) (fun v2_4 ev2_4 => ?_)
          replace h := h v2_4 ev2_4
          refine zr_goto C dyX12_under_59 (tgt := 18) (by decide) ?_
          exact h
        · replace h := zif_neg hc_5 h
          refine zr_iload_n C dyX12_under_54 rfl 0 rfl ?_
          exact zr_iret C rfl dyX12_under_55 ⟨rfl, rfl, _, rfl, h⟩
    exact h
  · replace h := zif_pos hc_7 h
    refine zr_iconst C dyX12_under_14 zc_i_m1 ?_
    exact zr_iret C rfl dyX12_under_15 ⟨rfl, rfl, _, rfl, h⟩
def w_M_isToken (a1 : Int32) (I : zI) (K : Int32 → Prop) : Prop :=
  w_M_in a1 0 ((I.1 491 19) - 1) I (fun r_1 => zb r_1 ∧ K r_1)
theorem dyX12_isToken_0 : decode cX12_isToken 0 = .ok (.iload_n 1, 1) := by decide +kernel
theorem dyX12_isToken_1 : decode cX12_isToken 1 = .ok (.iconst 0, 1) := by decide +kernel
theorem dyX12_isToken_2 : decode cX12_isToken 2 = .ok (.aload_n 0, 1) := by decide +kernel
theorem dyX12_isToken_3 : decode cX12_isToken 3 = .ok (.getfield 244, 3) := by decide +kernel
theorem dyX12_isToken_6 : decode cX12_isToken 6 = .ok (.iconst 1, 1) := by decide +kernel
theorem dyX12_isToken_7 : decode cX12_isToken 7 = .ok (.isub, 1) := by decide +kernel
theorem dyX12_isToken_8 : decode cX12_isToken 8 = .ok (.invokestatic 286, 3) := by decide +kernel
theorem dyX12_isToken_11 : decode cX12_isToken 11 = .ok (.ireturn, 1) := by decide +kernel
theorem zsg_yX12_isToken : yX12_isToken.cls = RX12 ∧ yX12_isToken.cls ≠ "java/lang/invoke/MethodHandle" ∧ yX12_isToken.cls ≠ "java/lang/invoke/VarHandle" ∧ (parseMethodDescriptor yX12_isToken.desc).map (fun d => d.parameters.length) = some 1 := by decide +kernel
set_option maxRecDepth 20000 in
theorem c_M_isToken {l : Launch} {D : va_G} {B : Nat} {cA : Nat → ClassId} {ad : Nat → Nat} {S : List zC} (hS : zOkM S) {a1 : Int32} {I : zI} {K : Int32 → Prop}  (h : w_M_isToken a1 I K) : Met l yX12_isToken (zws yX12_isToken cX12_isToken 2 (some .boolean)) (zrm 1 22) (zPc D B cA ad [.ref (B + 491), .int a1] S I) (zQc D B cA (zpI S I K)) 0 0 (fun q => B ≤ q) := by
  refine zm_of (cc := cX12_isToken) (maxL := 2) (ret := (some .boolean)) (by decide +kernel) rfl (Nat.le_of_ble_eq_true rfl) trivial ?_
  intro p e s m args below meth c C _
  unfold w_M_isToken at h
  show zX p l e (zrm 1 22) s m args below meth c (MQ below (zQc D B cA (zpI S I K)) args s 0 0 (fun q => B ≤ q)) D B cA 2 0 0 S I [(0, .ref (B + 491)), (1, .int a1)] [] 0
  refine zr_iload_n C dyX12_isToken_0 rfl 1 rfl ?_
  refine zr_iconst C dyX12_isToken_1 zc_i_0 ?_
  refine zr_aload_n C dyX12_isToken_2 rfl 0 rfl ?_
  refine zg_12_244 C hS dyX12_isToken_3 ?_
  refine zr_iconst C dyX12_isToken_6 zc_i_1 ?_
  refine zr_isub C dyX12_isToken_7 ?_
  refine zv_12_286 C hS (st := []) h ⟨Nat.le_of_ble_eq_true rfl, Nat.le_of_ble_eq_true rfl⟩ (Nat.le_of_ble_eq_true rfl) dyX12_isToken_8 (fun r_1 h => ?_)
  exact zr_zret C rfl (zb.nar h.1) dyX12_isToken_11 ⟨rfl, rfl, _, rfl, h.2⟩
def w_M_isInner (a1 : Int32) (I : zI) (K : Int32 → Prop) : Prop :=
  w_M_in a1 0 ((I.1 491 19) - 2) I (fun r_1 => zb r_1 ∧ K r_1)
theorem dyX12_isInner_0 : decode cX12_isInner 0 = .ok (.iload_n 1, 1) := by decide +kernel
theorem dyX12_isInner_1 : decode cX12_isInner 1 = .ok (.iconst 0, 1) := by decide +kernel
theorem dyX12_isInner_2 : decode cX12_isInner 2 = .ok (.aload_n 0, 1) := by decide +kernel
theorem dyX12_isInner_3 : decode cX12_isInner 3 = .ok (.getfield 244, 3) := by decide +kernel
theorem dyX12_isInner_6 : decode cX12_isInner 6 = .ok (.iconst 2, 1) := by decide +kernel
theorem dyX12_isInner_7 : decode cX12_isInner 7 = .ok (.isub, 1) := by decide +kernel
theorem dyX12_isInner_8 : decode cX12_isInner 8 = .ok (.invokestatic 286, 3) := by decide +kernel
theorem dyX12_isInner_11 : decode cX12_isInner 11 = .ok (.ireturn, 1) := by decide +kernel
theorem zsg_yX12_isInner : yX12_isInner.cls = RX12 ∧ yX12_isInner.cls ≠ "java/lang/invoke/MethodHandle" ∧ yX12_isInner.cls ≠ "java/lang/invoke/VarHandle" ∧ (parseMethodDescriptor yX12_isInner.desc).map (fun d => d.parameters.length) = some 1 := by decide +kernel
set_option maxRecDepth 20000 in
theorem c_M_isInner {l : Launch} {D : va_G} {B : Nat} {cA : Nat → ClassId} {ad : Nat → Nat} {S : List zC} (hS : zOkM S) {a1 : Int32} {I : zI} {K : Int32 → Prop}  (h : w_M_isInner a1 I K) : Met l yX12_isInner (zws yX12_isInner cX12_isInner 2 (some .boolean)) (zrm 1 22) (zPc D B cA ad [.ref (B + 491), .int a1] S I) (zQc D B cA (zpI S I K)) 0 0 (fun q => B ≤ q) := by
  refine zm_of (cc := cX12_isInner) (maxL := 2) (ret := (some .boolean)) (by decide +kernel) rfl (Nat.le_of_ble_eq_true rfl) trivial ?_
  intro p e s m args below meth c C _
  unfold w_M_isInner at h
  show zX p l e (zrm 1 22) s m args below meth c (MQ below (zQc D B cA (zpI S I K)) args s 0 0 (fun q => B ≤ q)) D B cA 2 0 0 S I [(0, .ref (B + 491)), (1, .int a1)] [] 0
  refine zr_iload_n C dyX12_isInner_0 rfl 1 rfl ?_
  refine zr_iconst C dyX12_isInner_1 zc_i_0 ?_
  refine zr_aload_n C dyX12_isInner_2 rfl 0 rfl ?_
  refine zg_12_244 C hS dyX12_isInner_3 ?_
  refine zr_iconst C dyX12_isInner_6 zc_i_2 ?_
  refine zr_isub C dyX12_isInner_7 ?_
  refine zv_12_286 C hS (st := []) h ⟨Nat.le_of_ble_eq_true rfl, Nat.le_of_ble_eq_true rfl⟩ (Nat.le_of_ble_eq_true rfl) dyX12_isInner_8 (fun r_1 h => ?_)
  exact zr_zret C rfl (zb.nar h.1) dyX12_isInner_11 ⟨rfl, rfl, _, rfl, h.2⟩
theorem zv_12_414 {p : Program} {l : Launch} {e : Env} {R : Room} {s : State} {m : MethodId} {args : Array Value} {below : List Frame} {meth : Method} {c : Code} {Q : State → Prop} {D : va_G} {B : Nat} {cA : Nat → ClassId} {ad : Nat → Nat} {cc : ByteArray} {nL : Nat} {ret : Option FieldType} {S : List zC} {I : zI} {lv : List (Nat × Value)} {st : List Value} {pc : Nat} (C : zCx p s m args meth c cc nL RX12 ret D B cA ad) {K : Int32 → Prop} {xa1 : Int32} (hS : zOkM S)  (h : w_M_isToken xa1 I K) (hR : 1 + 1 ≤ R.frames ∧ 8 + (2 + 11) + (22) ≤ R.locals) (hw : (st.map fun v => v.category).sum ≤ 8) (hd : decode cc pc = .ok (.invokevirtual 414, 3)) (kk : ∀ v, K v → zX p l e R s m args below meth c Q D B cA nL 0 0 S I lv (.int v :: st) (pc + 3)) : zX p l e R s m args below meth c Q D B cA nL 0 0 S I lv (.int xa1 :: .ref (B + 491) :: st) pc :=
  have hf : 0 ≤ R.cells ∧ 0 ≤ R.slots := ⟨Nat.zero_le _, Nat.zero_le _⟩
  zc_VpI C (ci := 12) (q := (RX12, TX12, 82)) (k := 491) (fs := [none, some (some 492), some (some 493), none, some (some 494), none, some (some 495), none, none, none, some (some 496), some (some 497), some (some 498), some (some 499), some (some 500), none, some (some 501), some (some 502), some (some 503), none, some (some 504), some (some 505), some (some 506), some (some 507), some (some 508), none, some (some 509), some (some 510), some (some 511), some (some 512), some (some 513), some (some 514), some (some 515), some (some 516), some (some 517), some (some 518), none, none, some (some 519), none, some (some 520), none, none, none, some (some 521), some (some 522), some (some 523), some (some 524), some (some 525), some (some 526), some (some 527), none, some (some 528), none, some (some 529), none, some (some 530), some (some 531), some (some 532), none, some (some 533), some (some 534), some (some 535), some (some 536), some (some 537), none, none, none, some (some 538), some (some 539), some (some 540), none, none, none, some (some 541), none, none, some (some 542), some (some 543), some (some 544), none, some (some 545)]) (As := [.int xa1]) (st := st) rfl (hS _ _ zs_491) (c_M_isToken hS h) (zgV zk_ml_12_414 zk_im_yX12_isToken zk_se_yX12_isToken zk_in_12 zk_cd_yX12_isToken) zsg_yX12_isToken hR rfl rfl hw hd hf kk
def w_M_good (a1 : Int32) (I : zI) (K : Int32 → Prop) : Prop :=
  w_M_isToken a1 I (fun r_1 => (if r_1 = 0 then (K (-1)) else (vp_in a1 110 ∧ (K (I.1 508 (Int32.toNatClampNeg a1))))))
theorem dyX12_good_0 : decode cX12_good 0 = .ok (.aload_n 0, 1) := by decide +kernel
theorem dyX12_good_1 : decode cX12_good 1 = .ok (.iload_n 1, 1) := by decide +kernel
theorem dyX12_good_2 : decode cX12_good 2 = .ok (.invokevirtual 414, 3) := by decide +kernel
theorem dyX12_good_5 : decode cX12_good 5 = .ok (.ifCond .eq 12, 3) := by decide +kernel
theorem dyX12_good_8 : decode cX12_good 8 = .ok (.aload_n 0, 1) := by decide +kernel
theorem dyX12_good_9 : decode cX12_good 9 = .ok (.getfield 59, 3) := by decide +kernel
theorem dyX12_good_12 : decode cX12_good 12 = .ok (.iload_n 1, 1) := by decide +kernel
theorem dyX12_good_13 : decode cX12_good 13 = .ok (.iaload, 1) := by decide +kernel
theorem dyX12_good_14 : decode cX12_good 14 = .ok (.goto 4, 3) := by decide +kernel
theorem dyX12_good_17 : decode cX12_good 17 = .ok (.iconst (-1), 1) := by decide +kernel
theorem dyX12_good_18 : decode cX12_good 18 = .ok (.ireturn, 1) := by decide +kernel
theorem zsg_yX12_good : yX12_good.cls = RX12 ∧ yX12_good.cls ≠ "java/lang/invoke/MethodHandle" ∧ yX12_good.cls ≠ "java/lang/invoke/VarHandle" ∧ (parseMethodDescriptor yX12_good.desc).map (fun d => d.parameters.length) = some 1 := by decide +kernel
set_option maxRecDepth 20000 in
theorem c_M_good {l : Launch} {D : va_G} {B : Nat} {cA : Nat → ClassId} {ad : Nat → Nat} {S : List zC} (hS : zOkM S) {a1 : Int32} {I : zI} {K : Int32 → Prop}  (h : w_M_good a1 I K) : Met l yX12_good (zws yX12_good cX12_good 2 (some .int)) (zrm 2 43) (zPc D B cA ad [.ref (B + 491), .int a1] S I) (zQc D B cA (zpI S I K)) 0 0 (fun q => B ≤ q) := by
  refine zm_of (cc := cX12_good) (maxL := 2) (ret := (some .int)) (by decide +kernel) rfl (Nat.le_of_ble_eq_true rfl) trivial ?_
  intro p e s m args below meth c C _
  unfold w_M_good at h
  show zX p l e (zrm 2 43) s m args below meth c (MQ below (zQc D B cA (zpI S I K)) args s 0 0 (fun q => B ≤ q)) D B cA 2 0 0 S I [(0, .ref (B + 491)), (1, .int a1)] [] 0
  refine zr_aload_n C dyX12_good_0 rfl 0 rfl ?_
  refine zr_iload_n C dyX12_good_1 rfl 1 rfl ?_
  refine zv_12_414 C hS (st := []) h ⟨Nat.le_of_ble_eq_true rfl, Nat.le_of_ble_eq_true rfl⟩ (Nat.le_of_ble_eq_true rfl) dyX12_good_2 (fun r_1 h => ?_)
  refine zr_if_eq C dyX12_good_5 (tgt := 17) (by decide) (fun hc_2 => ?_) (fun hc_2 => ?_)
  · replace h := zif_pos hc_2 h
    refine zr_iconst C dyX12_good_17 zc_i_m1 ?_
    exact zr_iret C rfl dyX12_good_18 ⟨rfl, rfl, _, rfl, h⟩
  · replace h := zif_neg hc_2 h
    refine zr_aload_n C dyX12_good_8 rfl 0 rfl ?_
    refine zg_12_59 C hS dyX12_good_9 ?_
    refine zr_iload_n C dyX12_good_12 rfl 1 rfl ?_
    refine zr_iald C (hS _ _ zs_508) h.1 dyX12_good_13 ?_
    replace h := h.2
    refine zr_goto C dyX12_good_14 (tgt := 18) (by decide) ?_
    exact zr_iret C rfl dyX12_good_18 ⟨rfl, rfl, _, rfl, h⟩
def w_M_node (a1 : Int32) (a2 : Int32) (I : zI) (K : Int32 → Prop) : Prop :=
  w_M_in a1 0 ((I.1 491 25) - 1) I (fun r_1 => (if r_1 = 0 then (K (-1000)) else (w_M_in a2 0 8 I (fun r_2 => (if r_2 = 0 then (K (-1000)) else (vp_in a1 3700 ∧ (∀ (P42 : Int32 → Prop), (∀ (t_3 : Int32), ((if a2 = 0 then (vp_in a1 3700 ∧ (K (I.1 509 (Int32.toNatClampNeg a1)))) else (if a2 = 1 then (vp_in a1 3700 ∧ (if 0 ≤ (I.1 509 (Int32.toNatClampNeg a1)) then (vp_in a1 3700 ∧ (w_M_symbolOf (I.1 509 (Int32.toNatClampNeg a1)) I (fun r_6 => K r_6))) else (vp_in a1 3700 ∧ (K (5 + (I.1 510 (Int32.toNatClampNeg a1))))))) else (if a2 = 2 then (vp_in a1 3700 ∧ (K (I.1 512 (Int32.toNatClampNeg a1)))) else (if a2 = 3 then (vp_in a1 3700 ∧ (K (I.1 514 (Int32.toNatClampNeg a1)))) else (if a2 = 4 then (vp_in a1 3700 ∧ (K (I.1 515 (Int32.toNatClampNeg a1)))) else (if a2 = 5 then (vp_in a1 3700 ∧ (K (I.1 516 (Int32.toNatClampNeg a1)))) else (if a2 = 6 then (if t_3 = 0 then (if a1 = 0 then K 1 else K 0) else K 1) else (if a2 = 7 then (if t_3 = 0 then (K (-2)) else (vp_in a1 3700 ∧ (K (I.1 524 (Int32.toNatClampNeg a1))))) else (if a1 = 0 then (K ((I.1 491 19) - 1)) else (if t_3 = 0 then (K (-2)) else (vp_in a1 3700 ∧ (if (I.1 515 (Int32.toNatClampNeg a1)) ≤ 0 then (K (-2)) else (vp_in a1 3700 ∧ (K (I.1 526 (Int32.toNatClampNeg a1))))))))))))))))) → P42 t_3) → (if (I.1 523 (Int32.toNatClampNeg a1)) < 0 then P42 0 else P42 1))))))))
theorem dyX12_node_0 : decode cX12_node 0 = .ok (.iload_n 1, 1) := by decide +kernel
theorem dyX12_node_1 : decode cX12_node 1 = .ok (.iconst 0, 1) := by decide +kernel
theorem dyX12_node_2 : decode cX12_node 2 = .ok (.aload_n 0, 1) := by decide +kernel
theorem dyX12_node_3 : decode cX12_node 3 = .ok (.getfield 247, 3) := by decide +kernel
theorem dyX12_node_6 : decode cX12_node 6 = .ok (.iconst 1, 1) := by decide +kernel
theorem dyX12_node_7 : decode cX12_node 7 = .ok (.isub, 1) := by decide +kernel
theorem dyX12_node_8 : decode cX12_node 8 = .ok (.invokestatic 286, 3) := by decide +kernel
theorem dyX12_node_11 : decode cX12_node 11 = .ok (.ifCond .eq 13, 3) := by decide +kernel
theorem dyX12_node_14 : decode cX12_node 14 = .ok (.iload_n 2, 1) := by decide +kernel
theorem dyX12_node_15 : decode cX12_node 15 = .ok (.iconst 0, 1) := by decide +kernel
theorem dyX12_node_16 : decode cX12_node 16 = .ok (.bipush 8, 2) := by decide +kernel
theorem dyX12_node_18 : decode cX12_node 18 = .ok (.invokestatic 286, 3) := by decide +kernel
theorem dyX12_node_21 : decode cX12_node 21 = .ok (.ifCond .ne 7, 3) := by decide +kernel
theorem dyX12_node_24 : decode cX12_node 24 = .ok (.sipush (-1000), 3) := by decide +kernel
theorem dyX12_node_27 : decode cX12_node 27 = .ok (.ireturn, 1) := by decide +kernel
theorem dyX12_node_28 : decode cX12_node 28 = .ok (.aload_n 0, 1) := by decide +kernel
theorem dyX12_node_29 : decode cX12_node 29 = .ok (.getfield 105, 3) := by decide +kernel
theorem dyX12_node_32 : decode cX12_node 32 = .ok (.iload_n 1, 1) := by decide +kernel
theorem dyX12_node_33 : decode cX12_node 33 = .ok (.iaload, 1) := by decide +kernel
theorem dyX12_node_34 : decode cX12_node 34 = .ok (.ifCond .lt 7, 3) := by decide +kernel
theorem dyX12_node_37 : decode cX12_node 37 = .ok (.iconst 1, 1) := by decide +kernel
theorem dyX12_node_38 : decode cX12_node 38 = .ok (.goto 4, 3) := by decide +kernel
theorem dyX12_node_41 : decode cX12_node 41 = .ok (.iconst 0, 1) := by decide +kernel
theorem dyX12_node_42 : decode cX12_node 42 = .ok (.istore_n 3, 1) := by decide +kernel
theorem dyX12_node_43 : decode cX12_node 43 = .ok (.iload_n 2, 1) := by decide +kernel
theorem dyX12_node_44 : decode cX12_node 44 = .ok (.tableswitch 143 0 7 #[48, 55, 85, 92, 99, 106, 113, 127], 48) := by decide +kernel
theorem dyX12_node_92 : decode cX12_node 92 = .ok (.aload_n 0, 1) := by decide +kernel
theorem dyX12_node_93 : decode cX12_node 93 = .ok (.getfield 62, 3) := by decide +kernel
theorem dyX12_node_96 : decode cX12_node 96 = .ok (.iload_n 1, 1) := by decide +kernel
theorem dyX12_node_97 : decode cX12_node 97 = .ok (.iaload, 1) := by decide +kernel
theorem dyX12_node_98 : decode cX12_node 98 = .ok (.ireturn, 1) := by decide +kernel
theorem dyX12_node_99 : decode cX12_node 99 = .ok (.aload_n 0, 1) := by decide +kernel
theorem dyX12_node_100 : decode cX12_node 100 = .ok (.getfield 62, 3) := by decide +kernel
theorem dyX12_node_103 : decode cX12_node 103 = .ok (.iload_n 1, 1) := by decide +kernel
theorem dyX12_node_104 : decode cX12_node 104 = .ok (.iaload, 1) := by decide +kernel
theorem dyX12_node_105 : decode cX12_node 105 = .ok (.ifCond .ge 14, 3) := by decide +kernel
theorem dyX12_node_108 : decode cX12_node 108 = .ok (.iconst 5, 1) := by decide +kernel
theorem dyX12_node_109 : decode cX12_node 109 = .ok (.aload_n 0, 1) := by decide +kernel
theorem dyX12_node_110 : decode cX12_node 110 = .ok (.getfield 65, 3) := by decide +kernel
theorem dyX12_node_113 : decode cX12_node 113 = .ok (.iload_n 1, 1) := by decide +kernel
theorem dyX12_node_114 : decode cX12_node 114 = .ok (.iaload, 1) := by decide +kernel
theorem dyX12_node_115 : decode cX12_node 115 = .ok (.iadd, 1) := by decide +kernel
theorem dyX12_node_116 : decode cX12_node 116 = .ok (.goto 12, 3) := by decide +kernel
theorem dyX12_node_119 : decode cX12_node 119 = .ok (.aload_n 0, 1) := by decide +kernel
theorem dyX12_node_120 : decode cX12_node 120 = .ok (.getfield 62, 3) := by decide +kernel
theorem dyX12_node_123 : decode cX12_node 123 = .ok (.iload_n 1, 1) := by decide +kernel
theorem dyX12_node_124 : decode cX12_node 124 = .ok (.iaload, 1) := by decide +kernel
theorem dyX12_node_125 : decode cX12_node 125 = .ok (.invokestatic 259, 3) := by decide +kernel
theorem dyX12_node_128 : decode cX12_node 128 = .ok (.ireturn, 1) := by decide +kernel
theorem dyX12_node_129 : decode cX12_node 129 = .ok (.aload_n 0, 1) := by decide +kernel
theorem dyX12_node_130 : decode cX12_node 130 = .ok (.getfield 71, 3) := by decide +kernel
theorem dyX12_node_133 : decode cX12_node 133 = .ok (.iload_n 1, 1) := by decide +kernel
theorem dyX12_node_134 : decode cX12_node 134 = .ok (.iaload, 1) := by decide +kernel
theorem dyX12_node_135 : decode cX12_node 135 = .ok (.ireturn, 1) := by decide +kernel
theorem dyX12_node_136 : decode cX12_node 136 = .ok (.aload_n 0, 1) := by decide +kernel
theorem dyX12_node_137 : decode cX12_node 137 = .ok (.getfield 77, 3) := by decide +kernel
theorem dyX12_node_140 : decode cX12_node 140 = .ok (.iload_n 1, 1) := by decide +kernel
theorem dyX12_node_141 : decode cX12_node 141 = .ok (.iaload, 1) := by decide +kernel
theorem dyX12_node_142 : decode cX12_node 142 = .ok (.ireturn, 1) := by decide +kernel
theorem dyX12_node_143 : decode cX12_node 143 = .ok (.aload_n 0, 1) := by decide +kernel
theorem dyX12_node_144 : decode cX12_node 144 = .ok (.getfield 80, 3) := by decide +kernel
theorem dyX12_node_147 : decode cX12_node 147 = .ok (.iload_n 1, 1) := by decide +kernel
theorem dyX12_node_148 : decode cX12_node 148 = .ok (.iaload, 1) := by decide +kernel
theorem dyX12_node_149 : decode cX12_node 149 = .ok (.ireturn, 1) := by decide +kernel
theorem dyX12_node_150 : decode cX12_node 150 = .ok (.aload_n 0, 1) := by decide +kernel
theorem dyX12_node_151 : decode cX12_node 151 = .ok (.getfield 83, 3) := by decide +kernel
theorem dyX12_node_154 : decode cX12_node 154 = .ok (.iload_n 1, 1) := by decide +kernel
theorem dyX12_node_155 : decode cX12_node 155 = .ok (.iaload, 1) := by decide +kernel
theorem dyX12_node_156 : decode cX12_node 156 = .ok (.ireturn, 1) := by decide +kernel
theorem dyX12_node_157 : decode cX12_node 157 = .ok (.iload_n 3, 1) := by decide +kernel
theorem dyX12_node_158 : decode cX12_node 158 = .ok (.ifCond .ne 7, 3) := by decide +kernel
theorem dyX12_node_161 : decode cX12_node 161 = .ok (.iload_n 1, 1) := by decide +kernel
theorem dyX12_node_162 : decode cX12_node 162 = .ok (.ifCond .ne 7, 3) := by decide +kernel
theorem dyX12_node_165 : decode cX12_node 165 = .ok (.iconst 1, 1) := by decide +kernel
theorem dyX12_node_166 : decode cX12_node 166 = .ok (.goto 4, 3) := by decide +kernel
theorem dyX12_node_169 : decode cX12_node 169 = .ok (.iconst 0, 1) := by decide +kernel
theorem dyX12_node_170 : decode cX12_node 170 = .ok (.ireturn, 1) := by decide +kernel
theorem dyX12_node_171 : decode cX12_node 171 = .ok (.iload_n 3, 1) := by decide +kernel
theorem dyX12_node_172 : decode cX12_node 172 = .ok (.ifCond .eq 12, 3) := by decide +kernel
theorem dyX12_node_175 : decode cX12_node 175 = .ok (.aload_n 0, 1) := by decide +kernel
theorem dyX12_node_176 : decode cX12_node 176 = .ok (.getfield 108, 3) := by decide +kernel
theorem dyX12_node_179 : decode cX12_node 179 = .ok (.iload_n 1, 1) := by decide +kernel
theorem dyX12_node_180 : decode cX12_node 180 = .ok (.iaload, 1) := by decide +kernel
theorem dyX12_node_181 : decode cX12_node 181 = .ok (.goto 5, 3) := by decide +kernel
theorem dyX12_node_184 : decode cX12_node 184 = .ok (.bipush (-2), 2) := by decide +kernel
theorem dyX12_node_186 : decode cX12_node 186 = .ok (.ireturn, 1) := by decide +kernel
theorem dyX12_node_187 : decode cX12_node 187 = .ok (.iload_n 1, 1) := by decide +kernel
theorem dyX12_node_188 : decode cX12_node 188 = .ok (.ifCond .ne 12, 3) := by decide +kernel
theorem dyX12_node_191 : decode cX12_node 191 = .ok (.aload_n 0, 1) := by decide +kernel
theorem dyX12_node_192 : decode cX12_node 192 = .ok (.getfield 244, 3) := by decide +kernel
theorem dyX12_node_195 : decode cX12_node 195 = .ok (.iconst 1, 1) := by decide +kernel
theorem dyX12_node_196 : decode cX12_node 196 = .ok (.isub, 1) := by decide +kernel
theorem dyX12_node_197 : decode cX12_node 197 = .ok (.goto 27, 3) := by decide +kernel
theorem dyX12_node_200 : decode cX12_node 200 = .ok (.iload_n 3, 1) := by decide +kernel
theorem dyX12_node_201 : decode cX12_node 201 = .ok (.ifCond .eq 21, 3) := by decide +kernel
theorem dyX12_node_204 : decode cX12_node 204 = .ok (.aload_n 0, 1) := by decide +kernel
theorem dyX12_node_205 : decode cX12_node 205 = .ok (.getfield 80, 3) := by decide +kernel
theorem dyX12_node_208 : decode cX12_node 208 = .ok (.iload_n 1, 1) := by decide +kernel
theorem dyX12_node_209 : decode cX12_node 209 = .ok (.iaload, 1) := by decide +kernel
theorem dyX12_node_210 : decode cX12_node 210 = .ok (.ifCond .le 12, 3) := by decide +kernel
theorem dyX12_node_213 : decode cX12_node 213 = .ok (.aload_n 0, 1) := by decide +kernel
theorem dyX12_node_214 : decode cX12_node 214 = .ok (.getfield 114, 3) := by decide +kernel
theorem dyX12_node_217 : decode cX12_node 217 = .ok (.iload_n 1, 1) := by decide +kernel
theorem dyX12_node_218 : decode cX12_node 218 = .ok (.iaload, 1) := by decide +kernel
theorem dyX12_node_219 : decode cX12_node 219 = .ok (.goto 5, 3) := by decide +kernel
theorem dyX12_node_222 : decode cX12_node 222 = .ok (.bipush (-2), 2) := by decide +kernel
theorem dyX12_node_224 : decode cX12_node 224 = .ok (.ireturn, 1) := by decide +kernel
theorem zsg_yX12_node : yX12_node.cls = RX12 ∧ yX12_node.cls ≠ "java/lang/invoke/MethodHandle" ∧ yX12_node.cls ≠ "java/lang/invoke/VarHandle" ∧ (parseMethodDescriptor yX12_node.desc).map (fun d => d.parameters.length) = some 2 := by decide +kernel
set_option maxRecDepth 20000 in
theorem c_M_node {l : Launch} {D : va_G} {B : Nat} {cA : Nat → ClassId} {ad : Nat → Nat} {S : List zC} (hS : zOkM S) {a1 : Int32} {a2 : Int32} {I : zI} {K : Int32 → Prop}  (h : w_M_node a1 a2 I K) : Met l yX12_node (zws yX12_node cX12_node 4 (some .int)) (zrm 1 22) (zPc D B cA ad [.ref (B + 491), .int a1, .int a2] S I) (zQc D B cA (zpI S I K)) 0 0 (fun q => B ≤ q) := by
  refine zm_of (cc := cX12_node) (maxL := 4) (ret := (some .int)) (by decide +kernel) rfl (Nat.le_of_ble_eq_true rfl) trivial ?_
  intro p e s m args below meth c C _
  unfold w_M_node at h
  show zX p l e (zrm 1 22) s m args below meth c (MQ below (zQc D B cA (zpI S I K)) args s 0 0 (fun q => B ≤ q)) D B cA 4 0 0 S I [(0, .ref (B + 491)), (1, .int a1), (2, .int a2)] [] 0
  refine zr_iload_n C dyX12_node_0 rfl 1 rfl ?_
  refine zr_iconst C dyX12_node_1 zc_i_0 ?_
  refine zr_aload_n C dyX12_node_2 rfl 0 rfl ?_
  refine zg_12_247 C hS dyX12_node_3 ?_
  refine zr_iconst C dyX12_node_6 zc_i_1 ?_
  refine zr_isub C dyX12_node_7 ?_
  refine zv_12_286 C hS (st := []) h ⟨Nat.le_of_ble_eq_true rfl, Nat.le_of_ble_eq_true rfl⟩ (Nat.le_of_ble_eq_true rfl) dyX12_node_8 (fun r_1 h => ?_)
  refine zr_if_eq C dyX12_node_11 (tgt := 24) (by decide) (fun hc_22 => ?_) (fun hc_22 => ?_)
  · replace h := zif_pos hc_22 h
    refine zr_sipush C dyX12_node_24 zc_s_m1000 ?_
    exact zr_iret C rfl dyX12_node_27 ⟨rfl, rfl, _, rfl, h⟩
  · replace h := zif_neg hc_22 h
    refine zr_iload_n C dyX12_node_14 rfl 2 rfl ?_
    refine zr_iconst C dyX12_node_15 zc_i_0 ?_
    refine zr_bipush C dyX12_node_16 zc_b_8 ?_
    refine zv_12_286 C hS (st := []) h ⟨Nat.le_of_ble_eq_true rfl, Nat.le_of_ble_eq_true rfl⟩ (Nat.le_of_ble_eq_true rfl) dyX12_node_18 (fun r_2 h => ?_)
    refine zr_if_ne C dyX12_node_21 (tgt := 28) (by decide) (fun hc_21 => ?_) (fun hc_21 => ?_)
    · replace h := zif_neg hc_21 h
      refine zr_aload_n C dyX12_node_28 rfl 0 rfl ?_
      refine zg_12_105 C hS dyX12_node_29 ?_
      refine zr_iload_n C dyX12_node_32 rfl 1 rfl ?_
      refine zr_iald C (hS _ _ zs_523) h.1 dyX12_node_33 ?_
      replace h := h.2
      refine zjn (h (fun (t_3 : Int32) => zX p l e (zrm 1 22) s m args below meth c (MQ below (zQc D B cA (zpI S I K)) args s 0 0 (fun q => B ≤ q)) D B cA 4 0 0 S I [(0, .ref (B + 491)), (1, .int a1), (2, .int a2)] [.int t_3] 42) (fun t_3 h => ?_)) (fun h => ?_)
      · refine zr_istore_n C dyX12_node_42 rfl (Nat.le_of_ble_eq_true rfl) (lv2 := [(3, .int t_3), (0, .ref (B + 491)), (1, .int a1), (2, .int a2)]) rfl ?_
        refine zr_iload_n C dyX12_node_43 rfl 3 rfl ?_
        by_cases hc_4 : a2 = 0
        · replace h := zif_pos hc_4 h
          refine zr_tableIn C dyX12_node_44 (by rw [hc_4]; decide) (by rw [hc_4]; decide) (off := 48) (by rw [hc_4]; decide) (tgt := 92) (by decide) ?_
          refine zr_aload_n C dyX12_node_92 rfl 1 rfl ?_
          refine zg_12_62 C hS dyX12_node_93 ?_
          refine zr_iload_n C dyX12_node_96 rfl 2 rfl ?_
          refine zr_iald C (hS _ _ zs_509) h.1 dyX12_node_97 ?_
          replace h := h.2
          exact zr_iret C rfl dyX12_node_98 ⟨rfl, rfl, _, rfl, h⟩
        replace h := zif_neg hc_4 h
        by_cases hc_5 : a2 = 1
        · replace h := zif_pos hc_5 h
          refine zr_tableIn C dyX12_node_44 (by rw [hc_5]; decide) (by rw [hc_5]; decide) (off := 55) (by rw [hc_5]; decide) (tgt := 99) (by decide) ?_
          refine zr_aload_n C dyX12_node_99 rfl 1 rfl ?_
          refine zg_12_62 C hS dyX12_node_100 ?_
          refine zr_iload_n C dyX12_node_103 rfl 2 rfl ?_
          refine zr_iald C (hS _ _ zs_509) h.1 dyX12_node_104 ?_
          replace h := h.2
          refine zr_if_ge C dyX12_node_105 (tgt := 119) (by decide) (fun hc_7 => ?_) (fun hc_7 => ?_)
          · replace h := zif_pos hc_7 h
            refine zr_aload_n C dyX12_node_119 rfl 1 rfl ?_
            refine zg_12_62 C hS dyX12_node_120 ?_
            refine zr_iload_n C dyX12_node_123 rfl 2 rfl ?_
            refine zr_iald C (hS _ _ zs_509) h.1 dyX12_node_124 ?_
            replace h := h.2
            refine zv_12_259 C hS (st := []) h ⟨Nat.le_of_ble_eq_true rfl, Nat.le_of_ble_eq_true rfl⟩ (Nat.le_of_ble_eq_true rfl) dyX12_node_125 (fun r_6 h => ?_)
            exact zr_iret C rfl dyX12_node_128 ⟨rfl, rfl, _, rfl, h⟩
          · replace h := zif_neg hc_7 h
            refine zr_iconst C dyX12_node_108 zc_i_5 ?_
            refine zr_aload_n C dyX12_node_109 rfl 1 rfl ?_
            refine zg_12_65 C hS dyX12_node_110 ?_
            refine zr_iload_n C dyX12_node_113 rfl 2 rfl ?_
            refine zr_iald C (hS _ _ zs_510) h.1 dyX12_node_114 ?_
            replace h := h.2
            refine zr_iadd C dyX12_node_115 ?_
            refine zr_goto C dyX12_node_116 (tgt := 128) (by decide) ?_
            exact zr_iret C rfl dyX12_node_128 ⟨rfl, rfl, _, rfl, h⟩
        replace h := zif_neg hc_5 h
        by_cases hc_8 : a2 = 2
        · replace h := zif_pos hc_8 h
          refine zr_tableIn C dyX12_node_44 (by rw [hc_8]; decide) (by rw [hc_8]; decide) (off := 85) (by rw [hc_8]; decide) (tgt := 129) (by decide) ?_
          refine zr_aload_n C dyX12_node_129 rfl 1 rfl ?_
          refine zg_12_71 C hS dyX12_node_130 ?_
          refine zr_iload_n C dyX12_node_133 rfl 2 rfl ?_
          refine zr_iald C (hS _ _ zs_512) h.1 dyX12_node_134 ?_
          replace h := h.2
          exact zr_iret C rfl dyX12_node_135 ⟨rfl, rfl, _, rfl, h⟩
        replace h := zif_neg hc_8 h
        by_cases hc_9 : a2 = 3
        · replace h := zif_pos hc_9 h
          refine zr_tableIn C dyX12_node_44 (by rw [hc_9]; decide) (by rw [hc_9]; decide) (off := 92) (by rw [hc_9]; decide) (tgt := 136) (by decide) ?_
          refine zr_aload_n C dyX12_node_136 rfl 1 rfl ?_
          refine zg_12_77 C hS dyX12_node_137 ?_
          refine zr_iload_n C dyX12_node_140 rfl 2 rfl ?_
          refine zr_iald C (hS _ _ zs_514) h.1 dyX12_node_141 ?_
          replace h := h.2
          exact zr_iret C rfl dyX12_node_142 ⟨rfl, rfl, _, rfl, h⟩
        replace h := zif_neg hc_9 h
        by_cases hc_10 : a2 = 4
        · replace h := zif_pos hc_10 h
          refine zr_tableIn C dyX12_node_44 (by rw [hc_10]; decide) (by rw [hc_10]; decide) (off := 99) (by rw [hc_10]; decide) (tgt := 143) (by decide) ?_
          refine zr_aload_n C dyX12_node_143 rfl 1 rfl ?_
          refine zg_12_80 C hS dyX12_node_144 ?_
          refine zr_iload_n C dyX12_node_147 rfl 2 rfl ?_
          refine zr_iald C (hS _ _ zs_515) h.1 dyX12_node_148 ?_
          replace h := h.2
          exact zr_iret C rfl dyX12_node_149 ⟨rfl, rfl, _, rfl, h⟩
        replace h := zif_neg hc_10 h
        by_cases hc_11 : a2 = 5
        · replace h := zif_pos hc_11 h
          refine zr_tableIn C dyX12_node_44 (by rw [hc_11]; decide) (by rw [hc_11]; decide) (off := 106) (by rw [hc_11]; decide) (tgt := 150) (by decide) ?_
          refine zr_aload_n C dyX12_node_150 rfl 1 rfl ?_
          refine zg_12_83 C hS dyX12_node_151 ?_
          refine zr_iload_n C dyX12_node_154 rfl 2 rfl ?_
          refine zr_iald C (hS _ _ zs_516) h.1 dyX12_node_155 ?_
          replace h := h.2
          exact zr_iret C rfl dyX12_node_156 ⟨rfl, rfl, _, rfl, h⟩
        replace h := zif_neg hc_11 h
        by_cases hc_12 : a2 = 6
        · replace h := zif_pos hc_12 h
          refine zr_tableIn C dyX12_node_44 (by rw [hc_12]; decide) (by rw [hc_12]; decide) (off := 113) (by rw [hc_12]; decide) (tgt := 157) (by decide) ?_
          refine zr_iload_n C dyX12_node_157 rfl 0 rfl ?_
          refine zr_if_ne C dyX12_node_158 (tgt := 165) (by decide) (fun hc_14 => ?_) (fun hc_14 => ?_)
          · replace h := zif_neg hc_14 h
            refine zr_iconst C dyX12_node_165 zc_i_1 ?_
            refine zr_goto C dyX12_node_166 (tgt := 170) (by decide) ?_
            exact zr_iret C rfl dyX12_node_170 ⟨rfl, rfl, _, rfl, h⟩
          · replace h := zif_pos hc_14 h
            refine zr_iload_n C dyX12_node_161 rfl 2 rfl ?_
            refine zr_if_ne C dyX12_node_162 (tgt := 169) (by decide) (fun hc_13 => ?_) (fun hc_13 => ?_)
            · replace h := zif_neg hc_13 h
              refine zr_iconst C dyX12_node_169 zc_i_0 ?_
              exact zr_iret C rfl dyX12_node_170 ⟨rfl, rfl, _, rfl, h⟩
            · replace h := zif_pos hc_13 h
              refine zr_iconst C dyX12_node_165 zc_i_1 ?_
              refine zr_goto C dyX12_node_166 (tgt := 170) (by decide) ?_
              exact zr_iret C rfl dyX12_node_170 ⟨rfl, rfl, _, rfl, h⟩
        replace h := zif_neg hc_12 h
        by_cases hc_15 : a2 = 7
        · replace h := zif_pos hc_15 h
          refine zr_tableIn C dyX12_node_44 (by rw [hc_15]; decide) (by rw [hc_15]; decide) (off := 127) (by rw [hc_15]; decide) (tgt := 171) (by decide) ?_
          refine zr_iload_n C dyX12_node_171 rfl 0 rfl ?_
          refine zr_if_eq C dyX12_node_172 (tgt := 184) (by decide) (fun hc_16 => ?_) (fun hc_16 => ?_)
          · replace h := zif_pos hc_16 h
            refine zr_bipush C dyX12_node_184 zc_b_m2 ?_
            exact zr_iret C rfl dyX12_node_186 ⟨rfl, rfl, _, rfl, h⟩
          · replace h := zif_neg hc_16 h
            refine zr_aload_n C dyX12_node_175 rfl 1 rfl ?_
            refine zg_12_108 C hS dyX12_node_176 ?_
            refine zr_iload_n C dyX12_node_179 rfl 2 rfl ?_
            refine zr_iald C (hS _ _ zs_524) h.1 dyX12_node_180 ?_
            replace h := h.2
            refine zr_goto C dyX12_node_181 (tgt := 186) (by decide) ?_
            exact zr_iret C rfl dyX12_node_186 ⟨rfl, rfl, _, rfl, h⟩
        replace h := zif_neg hc_15 h
        refine zr_tableOut C dyX12_node_44 (ztab_out (fun i h1 h2 => ?_)) (tgt := 187) (by decide) ?_
        · rcases (by omega : i = 0 ∨ i = 1 ∨ i = 2 ∨ i = 3 ∨ i = 4 ∨ i = 5 ∨ i = 6 ∨ i = 7) with rfl | rfl | rfl | rfl | rfl | rfl | rfl | rfl
          · exact hc_4
          · exact hc_5
          · exact hc_8
          · exact hc_9
          · exact hc_10
          · exact hc_11
          · exact hc_12
          · exact hc_15
        refine zr_iload_n C dyX12_node_187 rfl 2 rfl ?_
        refine zr_if_ne C dyX12_node_188 (tgt := 200) (by decide) (fun hc_19 => ?_) (fun hc_19 => ?_)
        · replace h := zif_neg hc_19 h
          refine zr_iload_n C dyX12_node_200 rfl 0 rfl ?_
          refine zr_if_eq C dyX12_node_201 (tgt := 222) (by decide) (fun hc_18 => ?_) (fun hc_18 => ?_)
          · replace h := zif_pos hc_18 h
            refine zr_bipush C dyX12_node_222 zc_b_m2 ?_
            exact zr_iret C rfl dyX12_node_224 ⟨rfl, rfl, _, rfl, h⟩
          · replace h := zif_neg hc_18 h
            refine zr_aload_n C dyX12_node_204 rfl 1 rfl ?_
            refine zg_12_80 C hS dyX12_node_205 ?_
            refine zr_iload_n C dyX12_node_208 rfl 2 rfl ?_
            refine zr_iald C (hS _ _ zs_515) h.1 dyX12_node_209 ?_
            replace h := h.2
            refine zr_if_le C dyX12_node_210 (tgt := 222) (by decide) (fun hc_17 => ?_) (fun hc_17 => ?_)
            · replace h := zif_pos hc_17 h
              refine zr_bipush C dyX12_node_222 zc_b_m2 ?_
              exact zr_iret C rfl dyX12_node_224 ⟨rfl, rfl, _, rfl, h⟩
            · replace h := zif_neg hc_17 h
              refine zr_aload_n C dyX12_node_213 rfl 1 rfl ?_
              refine zg_12_114 C hS dyX12_node_214 ?_
              refine zr_iload_n C dyX12_node_217 rfl 2 rfl ?_
              refine zr_iald C (hS _ _ zs_526) h.1 dyX12_node_218 ?_
              replace h := h.2
              refine zr_goto C dyX12_node_219 (tgt := 224) (by decide) ?_
              exact zr_iret C rfl dyX12_node_224 ⟨rfl, rfl, _, rfl, h⟩
        · replace h := zif_pos hc_19 h
          refine zr_aload_n C dyX12_node_191 rfl 1 rfl ?_
          refine zg_12_244 C hS dyX12_node_192 ?_
          refine zr_iconst C dyX12_node_195 zc_i_1 ?_
          refine zr_isub C dyX12_node_196 ?_
          refine zr_goto C dyX12_node_197 (tgt := 224) (by decide) ?_
          exact zr_iret C rfl dyX12_node_224 ⟨rfl, rfl, _, rfl, h⟩
      refine zr_if_lt C dyX12_node_34 (tgt := 41) (by decide) (fun hc_20 => ?_) (fun hc_20 => ?_)
      · replace h := zif_pos hc_20 h
        refine zr_iconst C dyX12_node_41 zc_i_0 ?_
        exact h
      · replace h := zif_neg hc_20 h
        refine zr_iconst C dyX12_node_37 zc_i_1 ?_
        refine zr_goto C dyX12_node_38 (tgt := 42) (by decide) ?_
        exact h
    · replace h := zif_pos hc_21 h
      refine zr_sipush C dyX12_node_24 zc_s_m1000 ?_
      exact zr_iret C rfl dyX12_node_27 ⟨rfl, rfl, _, rfl, h⟩
def w_M_child (a1 : Int32) (a2 : Int32) (I : zI) (K : Int32 → Prop) : Prop :=
  w_M_in a1 0 ((I.1 491 25) - 1) I (fun r_1 => (if r_1 = 0 then (K (-1)) else (vp_in a1 3700 ∧ (w_M_in a2 0 ((I.1 512 (Int32.toNatClampNeg a1)) - 1) I (fun r_2 => (if r_2 = 0 then (K (-1)) else (w_M_childOf a1 a2 I (fun r_3 => K r_3))))))))
theorem dyX12_child_0 : decode cX12_child 0 = .ok (.iload_n 1, 1) := by decide +kernel
theorem dyX12_child_1 : decode cX12_child 1 = .ok (.iconst 0, 1) := by decide +kernel
theorem dyX12_child_2 : decode cX12_child 2 = .ok (.aload_n 0, 1) := by decide +kernel
theorem dyX12_child_3 : decode cX12_child 3 = .ok (.getfield 247, 3) := by decide +kernel
theorem dyX12_child_6 : decode cX12_child 6 = .ok (.iconst 1, 1) := by decide +kernel
theorem dyX12_child_7 : decode cX12_child 7 = .ok (.isub, 1) := by decide +kernel
theorem dyX12_child_8 : decode cX12_child 8 = .ok (.invokestatic 286, 3) := by decide +kernel
theorem dyX12_child_11 : decode cX12_child 11 = .ok (.ifCond .eq 28, 3) := by decide +kernel
theorem dyX12_child_14 : decode cX12_child 14 = .ok (.iload_n 2, 1) := by decide +kernel
theorem dyX12_child_15 : decode cX12_child 15 = .ok (.iconst 0, 1) := by decide +kernel
theorem dyX12_child_16 : decode cX12_child 16 = .ok (.aload_n 0, 1) := by decide +kernel
theorem dyX12_child_17 : decode cX12_child 17 = .ok (.getfield 71, 3) := by decide +kernel
theorem dyX12_child_20 : decode cX12_child 20 = .ok (.iload_n 1, 1) := by decide +kernel
theorem dyX12_child_21 : decode cX12_child 21 = .ok (.iaload, 1) := by decide +kernel
theorem dyX12_child_22 : decode cX12_child 22 = .ok (.iconst 1, 1) := by decide +kernel
theorem dyX12_child_23 : decode cX12_child 23 = .ok (.isub, 1) := by decide +kernel
theorem dyX12_child_24 : decode cX12_child 24 = .ok (.invokestatic 286, 3) := by decide +kernel
theorem dyX12_child_27 : decode cX12_child 27 = .ok (.ifCond .eq 12, 3) := by decide +kernel
theorem dyX12_child_30 : decode cX12_child 30 = .ok (.aload_n 0, 1) := by decide +kernel
theorem dyX12_child_31 : decode cX12_child 31 = .ok (.iload_n 1, 1) := by decide +kernel
theorem dyX12_child_32 : decode cX12_child 32 = .ok (.iload_n 2, 1) := by decide +kernel
theorem dyX12_child_33 : decode cX12_child 33 = .ok (.invokevirtual 299, 3) := by decide +kernel
theorem dyX12_child_36 : decode cX12_child 36 = .ok (.goto 4, 3) := by decide +kernel
theorem dyX12_child_39 : decode cX12_child 39 = .ok (.iconst (-1), 1) := by decide +kernel
theorem dyX12_child_40 : decode cX12_child 40 = .ok (.ireturn, 1) := by decide +kernel
theorem zsg_yX12_child : yX12_child.cls = RX12 ∧ yX12_child.cls ≠ "java/lang/invoke/MethodHandle" ∧ yX12_child.cls ≠ "java/lang/invoke/VarHandle" ∧ (parseMethodDescriptor yX12_child.desc).map (fun d => d.parameters.length) = some 2 := by decide +kernel
set_option maxRecDepth 20000 in
theorem c_M_child {l : Launch} {D : va_G} {B : Nat} {cA : Nat → ClassId} {ad : Nat → Nat} {S : List zC} (hS : zOkM S) {a1 : Int32} {a2 : Int32} {I : zI} {K : Int32 → Prop}  (h : w_M_child a1 a2 I K) : Met l yX12_child (zws yX12_child cX12_child 3 (some .int)) (zrm 1 22) (zPc D B cA ad [.ref (B + 491), .int a1, .int a2] S I) (zQc D B cA (zpI S I K)) 0 0 (fun q => B ≤ q) := by
  refine zm_of (cc := cX12_child) (maxL := 3) (ret := (some .int)) (by decide +kernel) rfl (Nat.le_of_ble_eq_true rfl) trivial ?_
  intro p e s m args below meth c C _
  unfold w_M_child at h
  show zX p l e (zrm 1 22) s m args below meth c (MQ below (zQc D B cA (zpI S I K)) args s 0 0 (fun q => B ≤ q)) D B cA 3 0 0 S I [(0, .ref (B + 491)), (1, .int a1), (2, .int a2)] [] 0
  refine zr_iload_n C dyX12_child_0 rfl 1 rfl ?_
  refine zr_iconst C dyX12_child_1 zc_i_0 ?_
  refine zr_aload_n C dyX12_child_2 rfl 0 rfl ?_
  refine zg_12_247 C hS dyX12_child_3 ?_
  refine zr_iconst C dyX12_child_6 zc_i_1 ?_
  refine zr_isub C dyX12_child_7 ?_
  refine zv_12_286 C hS (st := []) h ⟨Nat.le_of_ble_eq_true rfl, Nat.le_of_ble_eq_true rfl⟩ (Nat.le_of_ble_eq_true rfl) dyX12_child_8 (fun r_1 h => ?_)
  refine zr_if_eq C dyX12_child_11 (tgt := 39) (by decide) (fun hc_5 => ?_) (fun hc_5 => ?_)
  · replace h := zif_pos hc_5 h
    refine zr_iconst C dyX12_child_39 zc_i_m1 ?_
    exact zr_iret C rfl dyX12_child_40 ⟨rfl, rfl, _, rfl, h⟩
  · replace h := zif_neg hc_5 h
    refine zr_iload_n C dyX12_child_14 rfl 2 rfl ?_
    refine zr_iconst C dyX12_child_15 zc_i_0 ?_
    refine zr_aload_n C dyX12_child_16 rfl 0 rfl ?_
    refine zg_12_71 C hS dyX12_child_17 ?_
    refine zr_iload_n C dyX12_child_20 rfl 1 rfl ?_
    refine zr_iald C (hS _ _ zs_512) h.1 dyX12_child_21 ?_
    replace h := h.2
    refine zr_iconst C dyX12_child_22 zc_i_1 ?_
    refine zr_isub C dyX12_child_23 ?_
    refine zv_12_286 C hS (st := []) h ⟨Nat.le_of_ble_eq_true rfl, Nat.le_of_ble_eq_true rfl⟩ (Nat.le_of_ble_eq_true rfl) dyX12_child_24 (fun r_2 h => ?_)
    refine zr_if_eq C dyX12_child_27 (tgt := 39) (by decide) (fun hc_4 => ?_) (fun hc_4 => ?_)
    · replace h := zif_pos hc_4 h
      refine zr_iconst C dyX12_child_39 zc_i_m1 ?_
      exact zr_iret C rfl dyX12_child_40 ⟨rfl, rfl, _, rfl, h⟩
    · replace h := zif_neg hc_4 h
      refine zr_aload_n C dyX12_child_30 rfl 0 rfl ?_
      refine zr_iload_n C dyX12_child_31 rfl 1 rfl ?_
      refine zr_iload_n C dyX12_child_32 rfl 2 rfl ?_
      refine zv_12_299 C hS (st := []) h ⟨Nat.le_of_ble_eq_true rfl, Nat.le_of_ble_eq_true rfl⟩ (Nat.le_of_ble_eq_true rfl) dyX12_child_33 (fun r_3 h => ?_)
      refine zr_goto C dyX12_child_36 (tgt := 40) (by decide) ?_
      exact zr_iret C rfl dyX12_child_40 ⟨rfl, rfl, _, rfl, h⟩
theorem zv_12_417 {p : Program} {l : Launch} {e : Env} {R : Room} {s : State} {m : MethodId} {args : Array Value} {below : List Frame} {meth : Method} {c : Code} {Q : State → Prop} {D : va_G} {B : Nat} {cA : Nat → ClassId} {ad : Nat → Nat} {cc : ByteArray} {nL : Nat} {ret : Option FieldType} {S : List zC} {I : zI} {lv : List (Nat × Value)} {st : List Value} {pc : Nat} (C : zCx p s m args meth c cc nL RX12 ret D B cA ad) {K : Int32 → Prop} {xa1 : Int32} (hS : zOkM S)  (h : w_M_isIn xa1 I K) (hR : 1 + 1 ≤ R.frames ∧ 8 + (2 + 11) + (22) ≤ R.locals) (hw : (st.map fun v => v.category).sum ≤ 8) (hd : decode cc pc = .ok (.invokevirtual 417, 3)) (kk : ∀ v, K v → zX p l e R s m args below meth c Q D B cA nL 0 0 S I lv (.int v :: st) (pc + 3)) : zX p l e R s m args below meth c Q D B cA nL 0 0 S I lv (.int xa1 :: .ref (B + 491) :: st) pc :=
  have hf : 0 ≤ R.cells ∧ 0 ≤ R.slots := ⟨Nat.zero_le _, Nat.zero_le _⟩
  zc_VpI C (ci := 12) (q := (RX12, TX12, 82)) (k := 491) (fs := [none, some (some 492), some (some 493), none, some (some 494), none, some (some 495), none, none, none, some (some 496), some (some 497), some (some 498), some (some 499), some (some 500), none, some (some 501), some (some 502), some (some 503), none, some (some 504), some (some 505), some (some 506), some (some 507), some (some 508), none, some (some 509), some (some 510), some (some 511), some (some 512), some (some 513), some (some 514), some (some 515), some (some 516), some (some 517), some (some 518), none, none, some (some 519), none, some (some 520), none, none, none, some (some 521), some (some 522), some (some 523), some (some 524), some (some 525), some (some 526), some (some 527), none, some (some 528), none, some (some 529), none, some (some 530), some (some 531), some (some 532), none, some (some 533), some (some 534), some (some 535), some (some 536), some (some 537), none, none, none, some (some 538), some (some 539), some (some 540), none, none, none, some (some 541), none, none, some (some 542), some (some 543), some (some 544), none, some (some 545)]) (As := [.int xa1]) (st := st) rfl (hS _ _ zs_491) (c_M_isIn hS h) (zgV zk_ml_12_417 zk_im_yX12_isIn zk_se_yX12_isIn zk_in_12 zk_cd_yX12_isIn) zsg_yX12_isIn hR rfl rfl hw hd hf kk
def w_M_besideOf (a1 : Int32) (a2 : Int32) (I : zI) (K : Int32 → Prop) : Prop :=
  w_M_isIn a1 I (fun r_1 => (if r_1 = 0 then (K (-2)) else (vp_in a1 3700 ∧ (if 0 ≤ (I.1 524 (Int32.toNatClampNeg a1)) then (vp_in a1 3700 ∧ (∀ v3_2, v3_2 = ((I.1 525 (Int32.toNatClampNeg a1)) + a2) → vp_in a1 3700 ∧ (vp_in (I.1 524 (Int32.toNatClampNeg a1)) 3700 ∧ (w_M_in v3_2 0 ((I.1 512 (Int32.toNatClampNeg (I.1 524 (Int32.toNatClampNeg a1)))) - 1) I (fun r_3 => (if r_3 = 0 then (K (-2)) else (vp_in a1 3700 ∧ (w_M_childOf (I.1 524 (Int32.toNatClampNeg a1)) v3_2 I (fun r_4 => K r_4))))))))) else (K (-2))))))
theorem dyX12_besideOf_0 : decode cX12_besideOf 0 = .ok (.aload_n 0, 1) := by decide +kernel
theorem dyX12_besideOf_1 : decode cX12_besideOf 1 = .ok (.iload_n 1, 1) := by decide +kernel
theorem dyX12_besideOf_2 : decode cX12_besideOf 2 = .ok (.invokevirtual 417, 3) := by decide +kernel
theorem dyX12_besideOf_5 : decode cX12_besideOf 5 = .ok (.ifCond .eq 12, 3) := by decide +kernel
theorem dyX12_besideOf_8 : decode cX12_besideOf 8 = .ok (.aload_n 0, 1) := by decide +kernel
theorem dyX12_besideOf_9 : decode cX12_besideOf 9 = .ok (.getfield 108, 3) := by decide +kernel
theorem dyX12_besideOf_12 : decode cX12_besideOf 12 = .ok (.iload_n 1, 1) := by decide +kernel
theorem dyX12_besideOf_13 : decode cX12_besideOf 13 = .ok (.iaload, 1) := by decide +kernel
theorem dyX12_besideOf_14 : decode cX12_besideOf 14 = .ok (.ifCond .ge 6, 3) := by decide +kernel
theorem dyX12_besideOf_17 : decode cX12_besideOf 17 = .ok (.bipush (-2), 2) := by decide +kernel
theorem dyX12_besideOf_19 : decode cX12_besideOf 19 = .ok (.ireturn, 1) := by decide +kernel
theorem dyX12_besideOf_20 : decode cX12_besideOf 20 = .ok (.aload_n 0, 1) := by decide +kernel
theorem dyX12_besideOf_21 : decode cX12_besideOf 21 = .ok (.getfield 111, 3) := by decide +kernel
theorem dyX12_besideOf_24 : decode cX12_besideOf 24 = .ok (.iload_n 1, 1) := by decide +kernel
theorem dyX12_besideOf_25 : decode cX12_besideOf 25 = .ok (.iaload, 1) := by decide +kernel
theorem dyX12_besideOf_26 : decode cX12_besideOf 26 = .ok (.iload_n 2, 1) := by decide +kernel
theorem dyX12_besideOf_27 : decode cX12_besideOf 27 = .ok (.iadd, 1) := by decide +kernel
theorem dyX12_besideOf_28 : decode cX12_besideOf 28 = .ok (.istore_n 3, 1) := by decide +kernel
theorem dyX12_besideOf_29 : decode cX12_besideOf 29 = .ok (.iload_n 3, 1) := by decide +kernel
theorem dyX12_besideOf_30 : decode cX12_besideOf 30 = .ok (.iconst 0, 1) := by decide +kernel
theorem dyX12_besideOf_31 : decode cX12_besideOf 31 = .ok (.aload_n 0, 1) := by decide +kernel
theorem dyX12_besideOf_32 : decode cX12_besideOf 32 = .ok (.getfield 71, 3) := by decide +kernel
theorem dyX12_besideOf_35 : decode cX12_besideOf 35 = .ok (.aload_n 0, 1) := by decide +kernel
theorem dyX12_besideOf_36 : decode cX12_besideOf 36 = .ok (.getfield 108, 3) := by decide +kernel
theorem dyX12_besideOf_39 : decode cX12_besideOf 39 = .ok (.iload_n 1, 1) := by decide +kernel
theorem dyX12_besideOf_40 : decode cX12_besideOf 40 = .ok (.iaload, 1) := by decide +kernel
theorem dyX12_besideOf_41 : decode cX12_besideOf 41 = .ok (.iaload, 1) := by decide +kernel
theorem dyX12_besideOf_42 : decode cX12_besideOf 42 = .ok (.iconst 1, 1) := by decide +kernel
theorem dyX12_besideOf_43 : decode cX12_besideOf 43 = .ok (.isub, 1) := by decide +kernel
theorem dyX12_besideOf_44 : decode cX12_besideOf 44 = .ok (.invokestatic 286, 3) := by decide +kernel
theorem dyX12_besideOf_47 : decode cX12_besideOf 47 = .ok (.ifCond .eq 17, 3) := by decide +kernel
theorem dyX12_besideOf_50 : decode cX12_besideOf 50 = .ok (.aload_n 0, 1) := by decide +kernel
theorem dyX12_besideOf_51 : decode cX12_besideOf 51 = .ok (.aload_n 0, 1) := by decide +kernel
theorem dyX12_besideOf_52 : decode cX12_besideOf 52 = .ok (.getfield 108, 3) := by decide +kernel
theorem dyX12_besideOf_55 : decode cX12_besideOf 55 = .ok (.iload_n 1, 1) := by decide +kernel
theorem dyX12_besideOf_56 : decode cX12_besideOf 56 = .ok (.iaload, 1) := by decide +kernel
theorem dyX12_besideOf_57 : decode cX12_besideOf 57 = .ok (.iload_n 3, 1) := by decide +kernel
theorem dyX12_besideOf_58 : decode cX12_besideOf 58 = .ok (.invokevirtual 299, 3) := by decide +kernel
theorem dyX12_besideOf_61 : decode cX12_besideOf 61 = .ok (.goto 5, 3) := by decide +kernel
theorem dyX12_besideOf_64 : decode cX12_besideOf 64 = .ok (.bipush (-2), 2) := by decide +kernel
theorem dyX12_besideOf_66 : decode cX12_besideOf 66 = .ok (.ireturn, 1) := by decide +kernel
theorem zsg_yX12_besideOf : yX12_besideOf.cls = RX12 ∧ yX12_besideOf.cls ≠ "java/lang/invoke/MethodHandle" ∧ yX12_besideOf.cls ≠ "java/lang/invoke/VarHandle" ∧ (parseMethodDescriptor yX12_besideOf.desc).map (fun d => d.parameters.length) = some 2 := by decide +kernel
set_option maxRecDepth 20000 in
theorem c_M_besideOf {l : Launch} {D : va_G} {B : Nat} {cA : Nat → ClassId} {ad : Nat → Nat} {S : List zC} (hS : zOkM S) {a1 : Int32} {a2 : Int32} {I : zI} {K : Int32 → Prop}  (h : w_M_besideOf a1 a2 I K) : Met l yX12_besideOf (zws yX12_besideOf cX12_besideOf 4 (some .int)) (zrm 2 43) (zPc D B cA ad [.ref (B + 491), .int a1, .int a2] S I) (zQc D B cA (zpI S I K)) 0 0 (fun q => B ≤ q) := by
  refine zm_of (cc := cX12_besideOf) (maxL := 4) (ret := (some .int)) (by decide +kernel) rfl (Nat.le_of_ble_eq_true rfl) trivial ?_
  intro p e s m args below meth c C _
  unfold w_M_besideOf at h
  show zX p l e (zrm 2 43) s m args below meth c (MQ below (zQc D B cA (zpI S I K)) args s 0 0 (fun q => B ≤ q)) D B cA 4 0 0 S I [(0, .ref (B + 491)), (1, .int a1), (2, .int a2)] [] 0
  refine zr_aload_n C dyX12_besideOf_0 rfl 0 rfl ?_
  refine zr_iload_n C dyX12_besideOf_1 rfl 1 rfl ?_
  refine zv_12_417 C hS (st := []) h ⟨Nat.le_of_ble_eq_true rfl, Nat.le_of_ble_eq_true rfl⟩ (Nat.le_of_ble_eq_true rfl) dyX12_besideOf_2 (fun r_1 h => ?_)
  refine zr_if_eq C dyX12_besideOf_5 (tgt := 17) (by decide) (fun hc_7 => ?_) (fun hc_7 => ?_)
  · replace h := zif_pos hc_7 h
    refine zr_bipush C dyX12_besideOf_17 zc_b_m2 ?_
    exact zr_iret C rfl dyX12_besideOf_19 ⟨rfl, rfl, _, rfl, h⟩
  · replace h := zif_neg hc_7 h
    refine zr_aload_n C dyX12_besideOf_8 rfl 0 rfl ?_
    refine zg_12_108 C hS dyX12_besideOf_9 ?_
    refine zr_iload_n C dyX12_besideOf_12 rfl 1 rfl ?_
    refine zr_iald C (hS _ _ zs_524) h.1 dyX12_besideOf_13 ?_
    replace h := h.2
    refine zr_if_ge C dyX12_besideOf_14 (tgt := 20) (by decide) (fun hc_6 => ?_) (fun hc_6 => ?_)
    · replace h := zif_pos hc_6 h
      refine zr_aload_n C dyX12_besideOf_20 rfl 0 rfl ?_
      refine zg_12_111 C hS dyX12_besideOf_21 ?_
      refine zr_iload_n C dyX12_besideOf_24 rfl 1 rfl ?_
      refine zr_iald C (hS _ _ zs_525) h.1 dyX12_besideOf_25 ?_
      replace h := h.2
      refine zr_iload_n C dyX12_besideOf_26 rfl 2 rfl ?_
      refine zr_iadd C dyX12_besideOf_27 ?_
      refine zn_istore_n C (fun v3_2 => [(3, .int v3_2), (0, .ref (B + 491)), (1, .int a1), (2, .int a2)]) dyX12_besideOf_28 rfl (Nat.le_of_ble_eq_true rfl) (fun _ => rfl) (fun v3_2 ev3_2 => ?_)
      replace h := h v3_2 ev3_2
      refine zr_iload_n C dyX12_besideOf_29 rfl 0 rfl ?_
      refine zr_iconst C dyX12_besideOf_30 zc_i_0 ?_
      refine zr_aload_n C dyX12_besideOf_31 rfl 1 rfl ?_
      refine zg_12_71 C hS dyX12_besideOf_32 ?_
      refine zr_aload_n C dyX12_besideOf_35 rfl 1 rfl ?_
      refine zg_12_108 C hS dyX12_besideOf_36 ?_
      refine zr_iload_n C dyX12_besideOf_39 rfl 2 rfl ?_
      refine zr_iald C (hS _ _ zs_524) h.1 dyX12_besideOf_40 ?_
      replace h := h.2
      refine zr_iald C (hS _ _ zs_512) h.1 dyX12_besideOf_41 ?_
      replace h := h.2
      refine zr_iconst C dyX12_besideOf_42 zc_i_1 ?_
      refine zr_isub C dyX12_besideOf_43 ?_
      refine zv_12_286 C hS (st := []) h ⟨Nat.le_of_ble_eq_true rfl, Nat.le_of_ble_eq_true rfl⟩ (Nat.le_of_ble_eq_true rfl) dyX12_besideOf_44 (fun r_3 h => ?_)
      refine zr_if_eq C dyX12_besideOf_47 (tgt := 64) (by decide) (fun hc_5 => ?_) (fun hc_5 => ?_)
      · replace h := zif_pos hc_5 h
        refine zr_bipush C dyX12_besideOf_64 zc_b_m2 ?_
        exact zr_iret C rfl dyX12_besideOf_66 ⟨rfl, rfl, _, rfl, h⟩
      · replace h := zif_neg hc_5 h
        refine zr_aload_n C dyX12_besideOf_50 rfl 1 rfl ?_
        refine zr_aload_n C dyX12_besideOf_51 rfl 1 rfl ?_
        refine zg_12_108 C hS dyX12_besideOf_52 ?_
        refine zr_iload_n C dyX12_besideOf_55 rfl 2 rfl ?_
        refine zr_iald C (hS _ _ zs_524) h.1 dyX12_besideOf_56 ?_
        replace h := h.2
        refine zr_iload_n C dyX12_besideOf_57 rfl 0 rfl ?_
        refine zv_12_299 C hS (st := []) h ⟨Nat.le_of_ble_eq_true rfl, Nat.le_of_ble_eq_true rfl⟩ (Nat.le_of_ble_eq_true rfl) dyX12_besideOf_58 (fun r_4 h => ?_)
        refine zr_goto C dyX12_besideOf_61 (tgt := 66) (by decide) ?_
        exact zr_iret C rfl dyX12_besideOf_66 ⟨rfl, rfl, _, rfl, h⟩
    · replace h := zif_neg hc_6 h
      refine zr_bipush C dyX12_besideOf_17 zc_b_m2 ?_
      exact zr_iret C rfl dyX12_besideOf_19 ⟨rfl, rfl, _, rfl, h⟩
theorem zv_12_420 {p : Program} {l : Launch} {e : Env} {R : Room} {s : State} {m : MethodId} {args : Array Value} {below : List Frame} {meth : Method} {c : Code} {Q : State → Prop} {D : va_G} {B : Nat} {cA : Nat → ClassId} {ad : Nat → Nat} {cc : ByteArray} {nL : Nat} {ret : Option FieldType} {S : List zC} {I : zI} {lv : List (Nat × Value)} {st : List Value} {pc : Nat} (C : zCx p s m args meth c cc nL RX12 ret D B cA ad) {K : Int32 → Prop} {xa1 : Int32} {xa2 : Int32} (hS : zOkM S)  (h : w_M_besideOf xa1 xa2 I K) (hR : 2 + 1 ≤ R.frames ∧ 8 + (4 + 11) + (43) ≤ R.locals) (hw : (st.map fun v => v.category).sum ≤ 8) (hd : decode cc pc = .ok (.invokevirtual 420, 3)) (kk : ∀ v, K v → zX p l e R s m args below meth c Q D B cA nL 0 0 S I lv (.int v :: st) (pc + 3)) : zX p l e R s m args below meth c Q D B cA nL 0 0 S I lv (.int xa2 :: .int xa1 :: .ref (B + 491) :: st) pc :=
  have hf : 0 ≤ R.cells ∧ 0 ≤ R.slots := ⟨Nat.zero_le _, Nat.zero_le _⟩
  zc_VpI C (ci := 12) (q := (RX12, TX12, 82)) (k := 491) (fs := [none, some (some 492), some (some 493), none, some (some 494), none, some (some 495), none, none, none, some (some 496), some (some 497), some (some 498), some (some 499), some (some 500), none, some (some 501), some (some 502), some (some 503), none, some (some 504), some (some 505), some (some 506), some (some 507), some (some 508), none, some (some 509), some (some 510), some (some 511), some (some 512), some (some 513), some (some 514), some (some 515), some (some 516), some (some 517), some (some 518), none, none, some (some 519), none, some (some 520), none, none, none, some (some 521), some (some 522), some (some 523), some (some 524), some (some 525), some (some 526), some (some 527), none, some (some 528), none, some (some 529), none, some (some 530), some (some 531), some (some 532), none, some (some 533), some (some 534), some (some 535), some (some 536), some (some 537), none, none, none, some (some 538), some (some 539), some (some 540), none, none, none, some (some 541), none, none, some (some 542), some (some 543), some (some 544), none, some (some 545)]) (As := [.int xa1, .int xa2]) (st := st) rfl (hS _ _ zs_491) (c_M_besideOf hS h) (zgV zk_ml_12_420 zk_im_yX12_besideOf zk_se_yX12_besideOf zk_in_12 zk_cd_yX12_besideOf) zsg_yX12_besideOf hR rfl rfl hw hd hf kk
def w_M_beside (a1 : Int32) (I : zI) (K : Int32 → Prop) : Prop :=
  w_M_besideOf a1 1 I (fun r_1 => K r_1)
theorem dyX12_beside_0 : decode cX12_beside 0 = .ok (.aload_n 0, 1) := by decide +kernel
theorem dyX12_beside_1 : decode cX12_beside 1 = .ok (.iload_n 1, 1) := by decide +kernel
theorem dyX12_beside_2 : decode cX12_beside 2 = .ok (.iconst 1, 1) := by decide +kernel
theorem dyX12_beside_3 : decode cX12_beside 3 = .ok (.invokevirtual 420, 3) := by decide +kernel
theorem dyX12_beside_6 : decode cX12_beside 6 = .ok (.ireturn, 1) := by decide +kernel
theorem zsg_yX12_beside : yX12_beside.cls = RX12 ∧ yX12_beside.cls ≠ "java/lang/invoke/MethodHandle" ∧ yX12_beside.cls ≠ "java/lang/invoke/VarHandle" ∧ (parseMethodDescriptor yX12_beside.desc).map (fun d => d.parameters.length) = some 1 := by decide +kernel
set_option maxRecDepth 20000 in
theorem c_M_beside {l : Launch} {D : va_G} {B : Nat} {cA : Nat → ClassId} {ad : Nat → Nat} {S : List zC} (hS : zOkM S) {a1 : Int32} {I : zI} {K : Int32 → Prop}  (h : w_M_beside a1 I K) : Met l yX12_beside (zws yX12_beside cX12_beside 2 (some .int)) (zrm 3 66) (zPc D B cA ad [.ref (B + 491), .int a1] S I) (zQc D B cA (zpI S I K)) 0 0 (fun q => B ≤ q) := by
  refine zm_of (cc := cX12_beside) (maxL := 2) (ret := (some .int)) (by decide +kernel) rfl (Nat.le_of_ble_eq_true rfl) trivial ?_
  intro p e s m args below meth c C _
  unfold w_M_beside at h
  show zX p l e (zrm 3 66) s m args below meth c (MQ below (zQc D B cA (zpI S I K)) args s 0 0 (fun q => B ≤ q)) D B cA 2 0 0 S I [(0, .ref (B + 491)), (1, .int a1)] [] 0
  refine zr_aload_n C dyX12_beside_0 rfl 0 rfl ?_
  refine zr_iload_n C dyX12_beside_1 rfl 1 rfl ?_
  refine zr_iconst C dyX12_beside_2 zc_i_1 ?_
  refine zv_12_420 C hS (st := []) h ⟨Nat.le_of_ble_eq_true rfl, Nat.le_of_ble_eq_true rfl⟩ (Nat.le_of_ble_eq_true rfl) dyX12_beside_3 (fun r_1 h => ?_)
  exact zr_iret C rfl dyX12_beside_6 ⟨rfl, rfl, _, rfl, h⟩
def w_M_before (a1 : Int32) (I : zI) (K : Int32 → Prop) : Prop :=
  w_M_besideOf a1 (-1) I (fun r_1 => K r_1)
theorem dyX12_before_0 : decode cX12_before 0 = .ok (.aload_n 0, 1) := by decide +kernel
theorem dyX12_before_1 : decode cX12_before 1 = .ok (.iload_n 1, 1) := by decide +kernel
theorem dyX12_before_2 : decode cX12_before 2 = .ok (.iconst (-1), 1) := by decide +kernel
theorem dyX12_before_3 : decode cX12_before 3 = .ok (.invokevirtual 420, 3) := by decide +kernel
theorem dyX12_before_6 : decode cX12_before 6 = .ok (.ireturn, 1) := by decide +kernel
theorem zsg_yX12_before : yX12_before.cls = RX12 ∧ yX12_before.cls ≠ "java/lang/invoke/MethodHandle" ∧ yX12_before.cls ≠ "java/lang/invoke/VarHandle" ∧ (parseMethodDescriptor yX12_before.desc).map (fun d => d.parameters.length) = some 1 := by decide +kernel
set_option maxRecDepth 20000 in
theorem c_M_before {l : Launch} {D : va_G} {B : Nat} {cA : Nat → ClassId} {ad : Nat → Nat} {S : List zC} (hS : zOkM S) {a1 : Int32} {I : zI} {K : Int32 → Prop}  (h : w_M_before a1 I K) : Met l yX12_before (zws yX12_before cX12_before 2 (some .int)) (zrm 3 66) (zPc D B cA ad [.ref (B + 491), .int a1] S I) (zQc D B cA (zpI S I K)) 0 0 (fun q => B ≤ q) := by
  refine zm_of (cc := cX12_before) (maxL := 2) (ret := (some .int)) (by decide +kernel) rfl (Nat.le_of_ble_eq_true rfl) trivial ?_
  intro p e s m args below meth c C _
  unfold w_M_before at h
  show zX p l e (zrm 3 66) s m args below meth c (MQ below (zQc D B cA (zpI S I K)) args s 0 0 (fun q => B ≤ q)) D B cA 2 0 0 S I [(0, .ref (B + 491)), (1, .int a1)] [] 0
  refine zr_aload_n C dyX12_before_0 rfl 0 rfl ?_
  refine zr_iload_n C dyX12_before_1 rfl 1 rfl ?_
  refine zr_iconst C dyX12_before_2 zc_i_m1 ?_
  refine zv_12_420 C hS (st := []) h ⟨Nat.le_of_ble_eq_true rfl, Nat.le_of_ble_eq_true rfl⟩ (Nat.le_of_ble_eq_true rfl) dyX12_before_3 (fun r_1 h => ?_)
  exact zr_iret C rfl dyX12_before_6 ⟨rfl, rfl, _, rfl, h⟩
