theorem zg_12_7 {p : Program} {l : Launch} {e : Env} {R : Room} {s : State} {m : MethodId} {args : Array Value} {below : List Frame} {meth : Method} {c : Code} {Q : State → Prop} {D : va_G} {B : Nat} {cA : Nat → ClassId} {ad : Nat → Nat} {cc : ByteArray} {nL : Nat} {ret : Option FieldType} {S : List zC} {I : zI} {lv : List (Nat × Value)} {st : List Value} {pc : Nat} (C : zCx p s m args meth c cc nL RX12 ret D B cA ad) (hS : zOkM S) (hd : decode cc pc = .ok (.getfield 7, 3)) (kk : zX p l e R s m args below meth c Q D B cA nL 0 0 S I lv (.ref (B + 492) :: st) (pc + 3)) : zX p l e R s m args below meth c Q D B cA nL 0 0 S I lv (.ref (B + 491) :: st) pc :=
  zr_getr C (ci := 12) (Cn := RX12) (T := TX12) (N := 82) (k := 491) (j := 1) (fs := [none, some (some 492), some (some 493), none, some (some 494), none, some (some 495), none, none, none, some (some 496), some (some 497), some (some 498), some (some 499), some (some 500), none, some (some 501), some (some 502), some (some 503), none, some (some 504), some (some 505), some (some 506), some (some 507), some (some 508), none, some (some 509), some (some 510), some (some 511), some (some 512), some (some 513), some (some 514), some (some 515), some (some 516), some (some 517), some (some 518), none, none, some (some 519), none, some (some 520), none, none, none, some (some 521), some (some 522), some (some 523), some (some 524), some (some 525), some (some 526), some (some 527), none, some (some 528), none, some (some 529), none, some (some 530), some (some 531), some (some 532), none, some (some 533), some (some 534), some (some 535), some (some 536), some (some 537), none, none, none, some (some 538), some (some 539), some (some 540), none, none, none, some (some 541), none, none, some (some 542), some (some 543), some (some 544), none, some (some 545)]) rfl zin_12 (Nat.le_of_ble_eq_true rfl) rfl (hS _ _ zs_491) rfl zk_fl_12_7 hd kk
theorem zg_12_199 {p : Program} {l : Launch} {e : Env} {R : Room} {s : State} {m : MethodId} {args : Array Value} {below : List Frame} {meth : Method} {c : Code} {Q : State → Prop} {D : va_G} {B : Nat} {cA : Nat → ClassId} {ad : Nat → Nat} {cc : ByteArray} {nL : Nat} {ret : Option FieldType} {S : List zC} {I : zI} {lv : List (Nat × Value)} {st : List Value} {pc : Nat} (C : zCx p s m args meth c cc nL RX12 ret D B cA ad) (hS : zOkM S) (hd : decode cc pc = .ok (.getfield 199, 3)) (kk : zX p l e R s m args below meth c Q D B cA nL 0 0 S I lv (.int (I.1 491 0) :: st) (pc + 3)) : zX p l e R s m args below meth c Q D B cA nL 0 0 S I lv (.ref (B + 491) :: st) pc :=
  zr_geti C (ci := 12) (Cn := RX12) (T := TX12) (N := 82) (k := 491) (j := 0) (fs := [none, some (some 492), some (some 493), none, some (some 494), none, some (some 495), none, none, none, some (some 496), some (some 497), some (some 498), some (some 499), some (some 500), none, some (some 501), some (some 502), some (some 503), none, some (some 504), some (some 505), some (some 506), some (some 507), some (some 508), none, some (some 509), some (some 510), some (some 511), some (some 512), some (some 513), some (some 514), some (some 515), some (some 516), some (some 517), some (some 518), none, none, some (some 519), none, some (some 520), none, none, none, some (some 521), some (some 522), some (some 523), some (some 524), some (some 525), some (some 526), some (some 527), none, some (some 528), none, some (some 529), none, some (some 530), some (some 531), some (some 532), none, some (some 533), some (some 534), some (some 535), some (some 536), some (some 537), none, none, none, some (some 538), some (some 539), some (some 540), none, none, none, some (some 541), none, none, some (some 542), some (some 543), some (some 544), none, some (some 545)]) rfl zin_12 (Nat.le_of_ble_eq_true rfl) rfl (hS _ _ zs_491) rfl zk_fl_12_199 hd kk
theorem zp_12_199 {p : Program} {l : Launch} {e : Env} {R : Room} {s : State} {m : MethodId} {args : Array Value} {below : List Frame} {meth : Method} {c : Code} {Q : State → Prop} {D : va_G} {B : Nat} {cA : Nat → ClassId} {ad : Nat → Nat} {cc : ByteArray} {nL : Nat} {ret : Option FieldType} {S : List zC} {I : zI} {lv : List (Nat × Value)} {st : List Value} {pc : Nat} (C : zCx p s m args meth c cc nL RX12 ret D B cA ad) (hS : zOkM S) {v : Int32} (hd : decode cc pc = .ok (.putfield 199, 3)) (kk : zX p l e R s m args below meth c Q D B cA nL 0 0 S (zu I 491 0 v) lv st (pc + 3)) : zX p l e R s m args below meth c Q D B cA nL 0 0 S I lv (.int v :: .ref (B + 491) :: st) pc :=
  zr_puti C (ci := 12) (Cn := RX12) (T := TX12) (N := 82) (k := 491) (j := 0) (fs := [none, some (some 492), some (some 493), none, some (some 494), none, some (some 495), none, none, none, some (some 496), some (some 497), some (some 498), some (some 499), some (some 500), none, some (some 501), some (some 502), some (some 503), none, some (some 504), some (some 505), some (some 506), some (some 507), some (some 508), none, some (some 509), some (some 510), some (some 511), some (some 512), some (some 513), some (some 514), some (some 515), some (some 516), some (some 517), some (some 518), none, none, some (some 519), none, some (some 520), none, none, none, some (some 521), some (some 522), some (some 523), some (some 524), some (some 525), some (some 526), some (some 527), none, some (some 528), none, some (some 529), none, some (some 530), some (some 531), some (some 532), none, some (some 533), some (some 534), some (some 535), some (some 536), some (some 537), none, none, none, some (some 538), some (some 539), some (some 540), none, none, none, some (some 541), none, none, some (some 542), some (some 543), some (some 544), none, some (some 545)]) rfl zin_12 (Nat.le_of_ble_eq_true rfl) rfl (hS _ _ zs_491) rfl tyX12 tyX12_ok nmX12 (ty := .int) zpd_I rfl rfl rfl zk_fl_12_199 hd kk
def w_M_lays (a1 : Int32) (I : zI) (K : zI → Prop) : Prop :=
  ∀ (P3 : Int32 → zI → Prop), (∀ (v2_1 : Int32) (I_2 : zI), ((if v2_1 < 0 then K I_2 else (vp_in (I_2.1 491 0) 220 ∧ (∀ I_3, I_3 = (zu I_2 492 (Int32.toNatClampNeg (I_2.1 491 0)) ((a1 >>> (v2_1 &&& 31)) &&& 255)) → ∀ I_4, I_4 = (zu I_3 491 0 ((I_3.1 491 0) + 1)) → ∀ v2_5, v2_5 = (v2_1 + (-8)) → P3 v2_5 I_4)))) → P3 v2_1 I_2) → P3 24 I
theorem dyX12_lays_0 : decode cX12_lays 0 = .ok (.bipush 24, 2) := by decide +kernel
theorem dyX12_lays_2 : decode cX12_lays 2 = .ok (.istore_n 2, 1) := by decide +kernel
theorem dyX12_lays_3 : decode cX12_lays 3 = .ok (.iload_n 2, 1) := by decide +kernel
theorem dyX12_lays_4 : decode cX12_lays 4 = .ok (.ifCond .lt 35, 3) := by decide +kernel
theorem dyX12_lays_7 : decode cX12_lays 7 = .ok (.aload_n 0, 1) := by decide +kernel
theorem dyX12_lays_8 : decode cX12_lays 8 = .ok (.getfield 7, 3) := by decide +kernel
theorem dyX12_lays_11 : decode cX12_lays 11 = .ok (.aload_n 0, 1) := by decide +kernel
theorem dyX12_lays_12 : decode cX12_lays 12 = .ok (.getfield 199, 3) := by decide +kernel
theorem dyX12_lays_15 : decode cX12_lays 15 = .ok (.iload_n 1, 1) := by decide +kernel
theorem dyX12_lays_16 : decode cX12_lays 16 = .ok (.iload_n 2, 1) := by decide +kernel
theorem dyX12_lays_17 : decode cX12_lays 17 = .ok (.ishr, 1) := by decide +kernel
theorem dyX12_lays_18 : decode cX12_lays 18 = .ok (.sipush 255, 3) := by decide +kernel
theorem dyX12_lays_21 : decode cX12_lays 21 = .ok (.iand, 1) := by decide +kernel
theorem dyX12_lays_22 : decode cX12_lays 22 = .ok (.iastore, 1) := by decide +kernel
theorem dyX12_lays_23 : decode cX12_lays 23 = .ok (.aload_n 0, 1) := by decide +kernel
theorem dyX12_lays_24 : decode cX12_lays 24 = .ok (.dup, 1) := by decide +kernel
theorem dyX12_lays_25 : decode cX12_lays 25 = .ok (.getfield 199, 3) := by decide +kernel
theorem dyX12_lays_28 : decode cX12_lays 28 = .ok (.iconst 1, 1) := by decide +kernel
theorem dyX12_lays_29 : decode cX12_lays 29 = .ok (.iadd, 1) := by decide +kernel
theorem dyX12_lays_30 : decode cX12_lays 30 = .ok (.putfield 199, 3) := by decide +kernel
theorem dyX12_lays_33 : decode cX12_lays 33 = .ok (.iinc 2 (-8), 3) := by decide +kernel
theorem dyX12_lays_36 : decode cX12_lays 36 = .ok (.goto (-33), 3) := by decide +kernel
theorem dyX12_lays_39 : decode cX12_lays 39 = .ok (.return_, 1) := by decide +kernel
theorem zsg_yX12_lays : yX12_lays.cls = RX12 ∧ yX12_lays.cls ≠ "java/lang/invoke/MethodHandle" ∧ yX12_lays.cls ≠ "java/lang/invoke/VarHandle" ∧ (parseMethodDescriptor yX12_lays.desc).map (fun d => d.parameters.length) = some 1 := by decide +kernel
set_option maxRecDepth 20000 in
theorem c_M_lays {l : Launch} {D : va_G} {B : Nat} {cA : Nat → ClassId} {ad : Nat → Nat} {S : List zC} (hS : zOkM S) {a1 : Int32} {I : zI} {K : zI → Prop}  (h : w_M_lays a1 I K) : Met l yX12_lays (zws yX12_lays cX12_lays 3 none) (zrm 0 0) (zPc D B cA ad [.ref (B + 491), .int a1] S I) (zQc D B cA (zqV S K)) 0 0 (fun q => B ≤ q) := by
  refine zm_of (cc := cX12_lays) (maxL := 3) (ret := none) (by decide +kernel) rfl (Nat.le_of_ble_eq_true rfl) trivial ?_
  intro p e s m args below meth c C _
  unfold w_M_lays at h
  show zX p l e (zrm 0 0) s m args below meth c (MQ below (zQc D B cA (zqV S K)) args s 0 0 (fun q => B ≤ q)) D B cA 3 0 0 S I [(0, .ref (B + 491)), (1, .int a1)] [] 0
  refine zr_bipush C dyX12_lays_0 zc_b_24 ?_
  refine zr_istore_n C dyX12_lays_2 rfl (Nat.le_of_ble_eq_true rfl) (lv2 := [(2, .int 24), (0, .ref (B + 491)), (1, .int a1)]) rfl ?_
  refine zjn (h (fun (v2_1 : Int32) (I_2 : zI) => zX p l e (zrm 0 0) s m args below meth c (MQ below (zQc D B cA (zqV S K)) args s 0 0 (fun q => B ≤ q)) D B cA 3 0 0 S I_2 [(2, .int v2_1), (0, .ref (B + 491)), (1, .int a1)] [] 3) (fun v2_1 I_2 h => ?_)) (fun h => ?_)
  · refine zr_iload_n C dyX12_lays_3 rfl 0 rfl ?_
    refine zr_if_lt C dyX12_lays_4 (tgt := 39) (by decide) (fun hc_6 => ?_) (fun hc_6 => ?_)
    · replace h := zif_pos hc_6 h
      exact zr_vret C rfl dyX12_lays_39 ⟨rfl, rfl, h⟩
    · replace h := zif_neg hc_6 h
      refine zr_aload_n C dyX12_lays_7 rfl 1 rfl ?_
      refine zg_12_7 C hS dyX12_lays_8 ?_
      refine zr_aload_n C dyX12_lays_11 rfl 1 rfl ?_
      refine zg_12_199 C hS dyX12_lays_12 ?_
      refine zr_iload_n C dyX12_lays_15 rfl 2 rfl ?_
      refine zr_iload_n C dyX12_lays_16 rfl 0 rfl ?_
      refine zr_ishr C dyX12_lays_17 ?_
      refine zr_sipush C dyX12_lays_18 zc_s_255 ?_
      refine zr_iand C dyX12_lays_21 ?_
      refine zr_iast C (hS _ _ zs_492) h.1 dyX12_lays_22 ?_
      replace h := h.2
      refine zn_mem C (fun I_3 eI_3 => ?_)
      replace h := h I_3 eI_3
      refine zr_aload_n C dyX12_lays_23 rfl 1 rfl ?_
      refine zr_dup C dyX12_lays_24 rfl ?_
      refine zg_12_199 C hS dyX12_lays_25 ?_
      refine zr_iconst C dyX12_lays_28 zc_i_1 ?_
      refine zr_iadd C dyX12_lays_29 ?_
      refine zp_12_199 C hS dyX12_lays_30 ?_
      refine zn_mem C (fun I_4 eI_4 => ?_)
      replace h := h I_4 eI_4
      refine zn_iinc C (fun v2_5 => [(2, .int v2_5), (0, .ref (B + 491)), (1, .int a1)]) dyX12_lays_33 0 rfl zc_i_m8 (Nat.le_of_ble_eq_true rfl) (fun _ => rfl) (fun v2_5 ev2_5 => ?_)
      replace h := h v2_5 ev2_5
      refine zr_goto C dyX12_lays_36 (tgt := 3) (by decide) ?_
      exact h
  exact h
theorem zv_12_202 {p : Program} {l : Launch} {e : Env} {R : Room} {s : State} {m : MethodId} {args : Array Value} {below : List Frame} {meth : Method} {c : Code} {Q : State → Prop} {D : va_G} {B : Nat} {cA : Nat → ClassId} {ad : Nat → Nat} {cc : ByteArray} {nL : Nat} {ret : Option FieldType} {S : List zC} {I : zI} {lv : List (Nat × Value)} {st : List Value} {pc : Nat} (C : zCx p s m args meth c cc nL RX12 ret D B cA ad) {K : zI → Prop} {xa1 : Int32} (hS : zOkM S)  (h : w_M_lays xa1 I K) (hR : 0 + 1 ≤ R.frames ∧ 8 + (3 + 11) + (0) ≤ R.locals) (hw : (st.map fun v => v.category).sum ≤ 8) (hd : decode cc pc = .ok (.invokevirtual 202, 3)) (kk : ∀ I2, K I2 → zX p l e R s m args below meth c Q D B cA nL 0 0 S I2 lv st (pc + 3)) : zX p l e R s m args below meth c Q D B cA nL 0 0 S I lv (.int xa1 :: .ref (B + 491) :: st) pc :=
  have hf : 0 ≤ R.cells ∧ 0 ≤ R.slots := ⟨Nat.zero_le _, Nat.zero_le _⟩
  zc_VqV C (ci := 12) (q := (RX12, TX12, 82)) (k := 491) (fs := [none, some (some 492), some (some 493), none, some (some 494), none, some (some 495), none, none, none, some (some 496), some (some 497), some (some 498), some (some 499), some (some 500), none, some (some 501), some (some 502), some (some 503), none, some (some 504), some (some 505), some (some 506), some (some 507), some (some 508), none, some (some 509), some (some 510), some (some 511), some (some 512), some (some 513), some (some 514), some (some 515), some (some 516), some (some 517), some (some 518), none, none, some (some 519), none, some (some 520), none, none, none, some (some 521), some (some 522), some (some 523), some (some 524), some (some 525), some (some 526), some (some 527), none, some (some 528), none, some (some 529), none, some (some 530), some (some 531), some (some 532), none, some (some 533), some (some 534), some (some 535), some (some 536), some (some 537), none, none, none, some (some 538), some (some 539), some (some 540), none, none, none, some (some 541), none, none, some (some 542), some (some 543), some (some 544), none, some (some 545)]) (As := [.int xa1]) (st := st) rfl (hS _ _ zs_491) (c_M_lays hS h) (zgV zk_ml_12_202 zk_im_yX12_lays zk_se_yX12_lays zk_in_12 zk_cd_yX12_lays) zsg_yX12_lays hR rfl rfl hw hd hf kk
def w_M_feed (a1 : Int32) (a2 : Int32) (a3 : Int32) (a4 : Int32) (a5 : Int32) (I : zI) (K : Int32 → zI → Prop) : Prop :=
  (if ((I.1 491 0) + 20) ≤ 200 then (w_M_lays a1 I (fun I_1 => w_M_lays a2 I_1 (fun I_2 => w_M_lays a3 I_2 (fun I_3 => w_M_lays a4 I_3 (fun I_4 => w_M_lays a5 I_4 (fun I_5 => K (I_5.1 491 0) I_5)))))) else (K (-1) I))
theorem dyX12_feed_0 : decode cX12_feed 0 = .ok (.aload_n 0, 1) := by decide +kernel
theorem dyX12_feed_1 : decode cX12_feed 1 = .ok (.getfield 199, 3) := by decide +kernel
theorem dyX12_feed_4 : decode cX12_feed 4 = .ok (.bipush 20, 2) := by decide +kernel
theorem dyX12_feed_6 : decode cX12_feed 6 = .ok (.iadd, 1) := by decide +kernel
theorem dyX12_feed_7 : decode cX12_feed 7 = .ok (.sipush 200, 3) := by decide +kernel
theorem dyX12_feed_10 : decode cX12_feed 10 = .ok (.if_icmp .le 5, 3) := by decide +kernel
theorem dyX12_feed_13 : decode cX12_feed 13 = .ok (.iconst (-1), 1) := by decide +kernel
theorem dyX12_feed_14 : decode cX12_feed 14 = .ok (.ireturn, 1) := by decide +kernel
theorem dyX12_feed_15 : decode cX12_feed 15 = .ok (.aload_n 0, 1) := by decide +kernel
theorem dyX12_feed_16 : decode cX12_feed 16 = .ok (.iload_n 1, 1) := by decide +kernel
theorem dyX12_feed_17 : decode cX12_feed 17 = .ok (.invokevirtual 202, 3) := by decide +kernel
theorem dyX12_feed_20 : decode cX12_feed 20 = .ok (.aload_n 0, 1) := by decide +kernel
theorem dyX12_feed_21 : decode cX12_feed 21 = .ok (.iload_n 2, 1) := by decide +kernel
theorem dyX12_feed_22 : decode cX12_feed 22 = .ok (.invokevirtual 202, 3) := by decide +kernel
theorem dyX12_feed_25 : decode cX12_feed 25 = .ok (.aload_n 0, 1) := by decide +kernel
theorem dyX12_feed_26 : decode cX12_feed 26 = .ok (.iload_n 3, 1) := by decide +kernel
theorem dyX12_feed_27 : decode cX12_feed 27 = .ok (.invokevirtual 202, 3) := by decide +kernel
theorem dyX12_feed_30 : decode cX12_feed 30 = .ok (.aload_n 0, 1) := by decide +kernel
theorem dyX12_feed_31 : decode cX12_feed 31 = .ok (.iload 4, 2) := by decide +kernel
theorem dyX12_feed_33 : decode cX12_feed 33 = .ok (.invokevirtual 202, 3) := by decide +kernel
theorem dyX12_feed_36 : decode cX12_feed 36 = .ok (.aload_n 0, 1) := by decide +kernel
theorem dyX12_feed_37 : decode cX12_feed 37 = .ok (.iload 5, 2) := by decide +kernel
theorem dyX12_feed_39 : decode cX12_feed 39 = .ok (.invokevirtual 202, 3) := by decide +kernel
theorem dyX12_feed_42 : decode cX12_feed 42 = .ok (.aload_n 0, 1) := by decide +kernel
theorem dyX12_feed_43 : decode cX12_feed 43 = .ok (.getfield 199, 3) := by decide +kernel
theorem dyX12_feed_46 : decode cX12_feed 46 = .ok (.ireturn, 1) := by decide +kernel
theorem zsg_yX12_feed : yX12_feed.cls = RX12 ∧ yX12_feed.cls ≠ "java/lang/invoke/MethodHandle" ∧ yX12_feed.cls ≠ "java/lang/invoke/VarHandle" ∧ (parseMethodDescriptor yX12_feed.desc).map (fun d => d.parameters.length) = some 5 := by decide +kernel
set_option maxRecDepth 20000 in
theorem c_M_feed {l : Launch} {D : va_G} {B : Nat} {cA : Nat → ClassId} {ad : Nat → Nat} {S : List zC} (hS : zOkM S) {a1 : Int32} {a2 : Int32} {a3 : Int32} {a4 : Int32} {a5 : Int32} {I : zI} {K : Int32 → zI → Prop}  (h : w_M_feed a1 a2 a3 a4 a5 I K) : Met l yX12_feed (zws yX12_feed cX12_feed 6 (some .int)) (zrm 1 22) (zPc D B cA ad [.ref (B + 491), .int a1, .int a2, .int a3, .int a4, .int a5] S I) (zQc D B cA (zqI S K)) 0 0 (fun q => B ≤ q) := by
  refine zm_of (cc := cX12_feed) (maxL := 6) (ret := (some .int)) (by decide +kernel) rfl (Nat.le_of_ble_eq_true rfl) trivial ?_
  intro p e s m args below meth c C _
  unfold w_M_feed at h
  show zX p l e (zrm 1 22) s m args below meth c (MQ below (zQc D B cA (zqI S K)) args s 0 0 (fun q => B ≤ q)) D B cA 6 0 0 S I [(0, .ref (B + 491)), (1, .int a1), (2, .int a2), (3, .int a3), (4, .int a4), (5, .int a5)] [] 0
  refine zr_aload_n C dyX12_feed_0 rfl 0 rfl ?_
  refine zg_12_199 C hS dyX12_feed_1 ?_
  refine zr_bipush C dyX12_feed_4 zc_b_20 ?_
  refine zr_iadd C dyX12_feed_6 ?_
  refine zr_sipush C dyX12_feed_7 zc_s_200 ?_
  refine zr_icmp_le C dyX12_feed_10 (tgt := 15) (by decide) (fun hc_6 => ?_) (fun hc_6 => ?_)
  · replace h := zif_pos hc_6 h
    refine zr_aload_n C dyX12_feed_15 rfl 0 rfl ?_
    refine zr_iload_n C dyX12_feed_16 rfl 1 rfl ?_
    refine zv_12_202 C hS (st := []) h ⟨Nat.le_of_ble_eq_true rfl, Nat.le_of_ble_eq_true rfl⟩ (Nat.le_of_ble_eq_true rfl) dyX12_feed_17 (fun I_1 h => ?_)
    refine zr_aload_n C dyX12_feed_20 rfl 0 rfl ?_
    refine zr_iload_n C dyX12_feed_21 rfl 2 rfl ?_
    refine zv_12_202 C hS (st := []) h ⟨Nat.le_of_ble_eq_true rfl, Nat.le_of_ble_eq_true rfl⟩ (Nat.le_of_ble_eq_true rfl) dyX12_feed_22 (fun I_2 h => ?_)
    refine zr_aload_n C dyX12_feed_25 rfl 0 rfl ?_
    refine zr_iload_n C dyX12_feed_26 rfl 3 rfl ?_
    refine zv_12_202 C hS (st := []) h ⟨Nat.le_of_ble_eq_true rfl, Nat.le_of_ble_eq_true rfl⟩ (Nat.le_of_ble_eq_true rfl) dyX12_feed_27 (fun I_3 h => ?_)
    refine zr_aload_n C dyX12_feed_30 rfl 0 rfl ?_
    refine zr_iload C dyX12_feed_31 4 rfl ?_
    refine zv_12_202 C hS (st := []) h ⟨Nat.le_of_ble_eq_true rfl, Nat.le_of_ble_eq_true rfl⟩ (Nat.le_of_ble_eq_true rfl) dyX12_feed_33 (fun I_4 h => ?_)
    refine zr_aload_n C dyX12_feed_36 rfl 0 rfl ?_
    refine zr_iload C dyX12_feed_37 5 rfl ?_
    refine zv_12_202 C hS (st := []) h ⟨Nat.le_of_ble_eq_true rfl, Nat.le_of_ble_eq_true rfl⟩ (Nat.le_of_ble_eq_true rfl) dyX12_feed_39 (fun I_5 h => ?_)
    refine zr_aload_n C dyX12_feed_42 rfl 0 rfl ?_
    refine zg_12_199 C hS dyX12_feed_43 ?_
    exact zr_iret C rfl dyX12_feed_46 ⟨rfl, _, rfl, h⟩
  · replace h := zif_neg hc_6 h
    refine zr_iconst C dyX12_feed_13 zc_i_m1 ?_
    exact zr_iret C rfl dyX12_feed_14 ⟨rfl, _, rfl, h⟩
def w_M_back (a1 : Int32) (I : zI) (K : Int32 → zI → Prop) : Prop :=
  (if a1 < 0 then (K (-1) I) else (if a1 ≤ (I.1 491 0) then (∀ I_1, I_1 = (zu I 491 0 ((I.1 491 0) - a1)) → K (I_1.1 491 0) I_1) else (K (-1) I)))
theorem dyX12_back_0 : decode cX12_back 0 = .ok (.iload_n 1, 1) := by decide +kernel
theorem dyX12_back_1 : decode cX12_back 1 = .ok (.ifCond .lt 11, 3) := by decide +kernel
theorem dyX12_back_4 : decode cX12_back 4 = .ok (.iload_n 1, 1) := by decide +kernel
theorem dyX12_back_5 : decode cX12_back 5 = .ok (.aload_n 0, 1) := by decide +kernel
theorem dyX12_back_6 : decode cX12_back 6 = .ok (.getfield 199, 3) := by decide +kernel
theorem dyX12_back_9 : decode cX12_back 9 = .ok (.if_icmp .le 5, 3) := by decide +kernel
theorem dyX12_back_12 : decode cX12_back 12 = .ok (.iconst (-1), 1) := by decide +kernel
theorem dyX12_back_13 : decode cX12_back 13 = .ok (.ireturn, 1) := by decide +kernel
theorem dyX12_back_14 : decode cX12_back 14 = .ok (.aload_n 0, 1) := by decide +kernel
theorem dyX12_back_15 : decode cX12_back 15 = .ok (.dup, 1) := by decide +kernel
theorem dyX12_back_16 : decode cX12_back 16 = .ok (.getfield 199, 3) := by decide +kernel
theorem dyX12_back_19 : decode cX12_back 19 = .ok (.iload_n 1, 1) := by decide +kernel
theorem dyX12_back_20 : decode cX12_back 20 = .ok (.isub, 1) := by decide +kernel
theorem dyX12_back_21 : decode cX12_back 21 = .ok (.putfield 199, 3) := by decide +kernel
theorem dyX12_back_24 : decode cX12_back 24 = .ok (.aload_n 0, 1) := by decide +kernel
theorem dyX12_back_25 : decode cX12_back 25 = .ok (.getfield 199, 3) := by decide +kernel
theorem dyX12_back_28 : decode cX12_back 28 = .ok (.ireturn, 1) := by decide +kernel
theorem zsg_yX12_back : yX12_back.cls = RX12 ∧ yX12_back.cls ≠ "java/lang/invoke/MethodHandle" ∧ yX12_back.cls ≠ "java/lang/invoke/VarHandle" ∧ (parseMethodDescriptor yX12_back.desc).map (fun d => d.parameters.length) = some 1 := by decide +kernel
set_option maxRecDepth 20000 in
theorem c_M_back {l : Launch} {D : va_G} {B : Nat} {cA : Nat → ClassId} {ad : Nat → Nat} {S : List zC} (hS : zOkM S) {a1 : Int32} {I : zI} {K : Int32 → zI → Prop}  (h : w_M_back a1 I K) : Met l yX12_back (zws yX12_back cX12_back 2 (some .int)) (zrm 0 0) (zPc D B cA ad [.ref (B + 491), .int a1] S I) (zQc D B cA (zqI S K)) 0 0 (fun q => B ≤ q) := by
  refine zm_of (cc := cX12_back) (maxL := 2) (ret := (some .int)) (by decide +kernel) rfl (Nat.le_of_ble_eq_true rfl) trivial ?_
  intro p e s m args below meth c C _
  unfold w_M_back at h
  show zX p l e (zrm 0 0) s m args below meth c (MQ below (zQc D B cA (zqI S K)) args s 0 0 (fun q => B ≤ q)) D B cA 2 0 0 S I [(0, .ref (B + 491)), (1, .int a1)] [] 0
  refine zr_iload_n C dyX12_back_0 rfl 1 rfl ?_
  refine zr_if_lt C dyX12_back_1 (tgt := 12) (by decide) (fun hc_3 => ?_) (fun hc_3 => ?_)
  · replace h := zif_pos hc_3 h
    refine zr_iconst C dyX12_back_12 zc_i_m1 ?_
    exact zr_iret C rfl dyX12_back_13 ⟨rfl, _, rfl, h⟩
  · replace h := zif_neg hc_3 h
    refine zr_iload_n C dyX12_back_4 rfl 1 rfl ?_
    refine zr_aload_n C dyX12_back_5 rfl 0 rfl ?_
    refine zg_12_199 C hS dyX12_back_6 ?_
    refine zr_icmp_le C dyX12_back_9 (tgt := 14) (by decide) (fun hc_2 => ?_) (fun hc_2 => ?_)
    · replace h := zif_pos hc_2 h
      refine zr_aload_n C dyX12_back_14 rfl 0 rfl ?_
      refine zr_dup C dyX12_back_15 rfl ?_
      refine zg_12_199 C hS dyX12_back_16 ?_
      refine zr_iload_n C dyX12_back_19 rfl 1 rfl ?_
      refine zr_isub C dyX12_back_20 ?_
      refine zp_12_199 C hS dyX12_back_21 ?_
      refine zn_mem C (fun I_1 eI_1 => ?_)
      replace h := h I_1 eI_1
      refine zr_aload_n C dyX12_back_24 rfl 0 rfl ?_
      refine zg_12_199 C hS dyX12_back_25 ?_
      exact zr_iret C rfl dyX12_back_28 ⟨rfl, _, rfl, h⟩
    · replace h := zif_neg hc_2 h
      refine zr_iconst C dyX12_back_12 zc_i_m1 ?_
      exact zr_iret C rfl dyX12_back_13 ⟨rfl, _, rfl, h⟩
def w_M_in (a0 : Int32) (a1 : Int32) (a2 : Int32) (I : zI) (K : Int32 → Prop) : Prop :=
  (if a0 < a1 then K 0 else (if a2 < a0 then K 0 else K 1))
theorem dyX12_in_0 : decode cX12_in 0 = .ok (.iload_n 0, 1) := by decide +kernel
theorem dyX12_in_1 : decode cX12_in 1 = .ok (.iload_n 1, 1) := by decide +kernel
theorem dyX12_in_2 : decode cX12_in 2 = .ok (.if_icmp .lt 12, 3) := by decide +kernel
theorem dyX12_in_5 : decode cX12_in 5 = .ok (.iload_n 0, 1) := by decide +kernel
theorem dyX12_in_6 : decode cX12_in 6 = .ok (.iload_n 2, 1) := by decide +kernel
theorem dyX12_in_7 : decode cX12_in 7 = .ok (.if_icmp .gt 7, 3) := by decide +kernel
theorem dyX12_in_10 : decode cX12_in 10 = .ok (.iconst 1, 1) := by decide +kernel
theorem dyX12_in_11 : decode cX12_in 11 = .ok (.goto 4, 3) := by decide +kernel
theorem dyX12_in_14 : decode cX12_in 14 = .ok (.iconst 0, 1) := by decide +kernel
theorem dyX12_in_15 : decode cX12_in 15 = .ok (.ireturn, 1) := by decide +kernel
theorem zsg_yX12_in : yX12_in.cls ≠ "java/lang/invoke/MethodHandle" ∧ yX12_in.cls ≠ "java/lang/invoke/VarHandle" ∧ (parseMethodDescriptor yX12_in.desc).map (fun d => d.parameters.length) = some 3 := by decide +kernel
set_option maxRecDepth 20000 in
theorem c_M_in {l : Launch} {D : va_G} {B : Nat} {cA : Nat → ClassId} {ad : Nat → Nat} {S : List zC} (hS : zOkM S) {a0 : Int32} {a1 : Int32} {a2 : Int32} {I : zI} {K : Int32 → Prop}  (h : w_M_in a0 a1 a2 I K) : Met l yX12_in (zws yX12_in cX12_in 3 (some .boolean)) (zrm 0 0) (zPc D B cA ad [.int a0, .int a1, .int a2] S I) (zQc D B cA (zpI S I K)) 0 0 (fun q => B ≤ q) := by
  refine zm_of (cc := cX12_in) (maxL := 3) (ret := (some .boolean)) (by decide +kernel) rfl (Nat.le_of_ble_eq_true rfl) trivial ?_
  intro p e s m args below meth c C _
  unfold w_M_in at h
  show zX p l e (zrm 0 0) s m args below meth c (MQ below (zQc D B cA (zpI S I K)) args s 0 0 (fun q => B ≤ q)) D B cA 3 0 0 S I [(0, .int a0), (1, .int a1), (2, .int a2)] [] 0
  refine zr_iload_n C dyX12_in_0 rfl 0 rfl ?_
  refine zr_iload_n C dyX12_in_1 rfl 1 rfl ?_
  refine zr_icmp_lt C dyX12_in_2 (tgt := 14) (by decide) (fun hc_2 => ?_) (fun hc_2 => ?_)
  · replace h := zif_pos hc_2 h
    refine zr_iconst C dyX12_in_14 zc_i_0 ?_
    exact zr_zret C rfl (zb.nar zb_0) dyX12_in_15 ⟨rfl, rfl, _, rfl, h⟩
  · replace h := zif_neg hc_2 h
    refine zr_iload_n C dyX12_in_5 rfl 0 rfl ?_
    refine zr_iload_n C dyX12_in_6 rfl 2 rfl ?_
    refine zr_icmp_gt C dyX12_in_7 (tgt := 14) (by decide) (fun hc_1 => ?_) (fun hc_1 => ?_)
    · replace h := zif_pos hc_1 h
      refine zr_iconst C dyX12_in_14 zc_i_0 ?_
      exact zr_zret C rfl (zb.nar zb_0) dyX12_in_15 ⟨rfl, rfl, _, rfl, h⟩
    · replace h := zif_neg hc_1 h
      refine zr_iconst C dyX12_in_10 zc_i_1 ?_
      refine zr_goto C dyX12_in_11 (tgt := 15) (by decide) ?_
      exact zr_zret C rfl (zb.nar zb_1) dyX12_in_15 ⟨rfl, rfl, _, rfl, h⟩
def w_M_isLetter (a0 : Int32) (I : zI) (K : Int32 → Prop) : Prop :=
  (if a0 < 97 then K 0 else (if 122 < a0 then K 0 else K 1))
theorem dyX12_isLetter_0 : decode cX12_isLetter 0 = .ok (.iload_n 0, 1) := by decide +kernel
theorem dyX12_isLetter_1 : decode cX12_isLetter 1 = .ok (.bipush 97, 2) := by decide +kernel
theorem dyX12_isLetter_3 : decode cX12_isLetter 3 = .ok (.if_icmp .lt 13, 3) := by decide +kernel
theorem dyX12_isLetter_6 : decode cX12_isLetter 6 = .ok (.iload_n 0, 1) := by decide +kernel
theorem dyX12_isLetter_7 : decode cX12_isLetter 7 = .ok (.bipush 122, 2) := by decide +kernel
theorem dyX12_isLetter_9 : decode cX12_isLetter 9 = .ok (.if_icmp .gt 7, 3) := by decide +kernel
theorem dyX12_isLetter_12 : decode cX12_isLetter 12 = .ok (.iconst 1, 1) := by decide +kernel
theorem dyX12_isLetter_13 : decode cX12_isLetter 13 = .ok (.goto 4, 3) := by decide +kernel
theorem dyX12_isLetter_16 : decode cX12_isLetter 16 = .ok (.iconst 0, 1) := by decide +kernel
theorem dyX12_isLetter_17 : decode cX12_isLetter 17 = .ok (.ireturn, 1) := by decide +kernel
theorem zsg_yX12_isLetter : yX12_isLetter.cls ≠ "java/lang/invoke/MethodHandle" ∧ yX12_isLetter.cls ≠ "java/lang/invoke/VarHandle" ∧ (parseMethodDescriptor yX12_isLetter.desc).map (fun d => d.parameters.length) = some 1 := by decide +kernel
set_option maxRecDepth 20000 in
theorem c_M_isLetter {l : Launch} {D : va_G} {B : Nat} {cA : Nat → ClassId} {ad : Nat → Nat} {S : List zC} (hS : zOkM S) {a0 : Int32} {I : zI} {K : Int32 → Prop}  (h : w_M_isLetter a0 I K) : Met l yX12_isLetter (zws yX12_isLetter cX12_isLetter 1 (some .boolean)) (zrm 0 0) (zPc D B cA ad [.int a0] S I) (zQc D B cA (zpI S I K)) 0 0 (fun q => B ≤ q) := by
  refine zm_of (cc := cX12_isLetter) (maxL := 1) (ret := (some .boolean)) (by decide +kernel) rfl (Nat.le_of_ble_eq_true rfl) trivial ?_
  intro p e s m args below meth c C _
  unfold w_M_isLetter at h
  show zX p l e (zrm 0 0) s m args below meth c (MQ below (zQc D B cA (zpI S I K)) args s 0 0 (fun q => B ≤ q)) D B cA 1 0 0 S I [(0, .int a0)] [] 0
  refine zr_iload_n C dyX12_isLetter_0 rfl 0 rfl ?_
  refine zr_bipush C dyX12_isLetter_1 zc_b_97 ?_
  refine zr_icmp_lt C dyX12_isLetter_3 (tgt := 16) (by decide) (fun hc_2 => ?_) (fun hc_2 => ?_)
  · replace h := zif_pos hc_2 h
    refine zr_iconst C dyX12_isLetter_16 zc_i_0 ?_
    exact zr_zret C rfl (zb.nar zb_0) dyX12_isLetter_17 ⟨rfl, rfl, _, rfl, h⟩
  · replace h := zif_neg hc_2 h
    refine zr_iload_n C dyX12_isLetter_6 rfl 0 rfl ?_
    refine zr_bipush C dyX12_isLetter_7 zc_b_122 ?_
    refine zr_icmp_gt C dyX12_isLetter_9 (tgt := 16) (by decide) (fun hc_1 => ?_) (fun hc_1 => ?_)
    · replace h := zif_pos hc_1 h
      refine zr_iconst C dyX12_isLetter_16 zc_i_0 ?_
      exact zr_zret C rfl (zb.nar zb_0) dyX12_isLetter_17 ⟨rfl, rfl, _, rfl, h⟩
    · replace h := zif_neg hc_1 h
      refine zr_iconst C dyX12_isLetter_12 zc_i_1 ?_
      refine zr_goto C dyX12_isLetter_13 (tgt := 17) (by decide) ?_
      exact zr_zret C rfl (zb.nar zb_1) dyX12_isLetter_17 ⟨rfl, rfl, _, rfl, h⟩
def w_M_isDigit (a0 : Int32) (I : zI) (K : Int32 → Prop) : Prop :=
  (if a0 < 48 then K 0 else (if 57 < a0 then K 0 else K 1))
theorem dyX12_isDigit_0 : decode cX12_isDigit 0 = .ok (.iload_n 0, 1) := by decide +kernel
theorem dyX12_isDigit_1 : decode cX12_isDigit 1 = .ok (.bipush 48, 2) := by decide +kernel
theorem dyX12_isDigit_3 : decode cX12_isDigit 3 = .ok (.if_icmp .lt 13, 3) := by decide +kernel
theorem dyX12_isDigit_6 : decode cX12_isDigit 6 = .ok (.iload_n 0, 1) := by decide +kernel
theorem dyX12_isDigit_7 : decode cX12_isDigit 7 = .ok (.bipush 57, 2) := by decide +kernel
theorem dyX12_isDigit_9 : decode cX12_isDigit 9 = .ok (.if_icmp .gt 7, 3) := by decide +kernel
theorem dyX12_isDigit_12 : decode cX12_isDigit 12 = .ok (.iconst 1, 1) := by decide +kernel
theorem dyX12_isDigit_13 : decode cX12_isDigit 13 = .ok (.goto 4, 3) := by decide +kernel
theorem dyX12_isDigit_16 : decode cX12_isDigit 16 = .ok (.iconst 0, 1) := by decide +kernel
theorem dyX12_isDigit_17 : decode cX12_isDigit 17 = .ok (.ireturn, 1) := by decide +kernel
theorem zsg_yX12_isDigit : yX12_isDigit.cls ≠ "java/lang/invoke/MethodHandle" ∧ yX12_isDigit.cls ≠ "java/lang/invoke/VarHandle" ∧ (parseMethodDescriptor yX12_isDigit.desc).map (fun d => d.parameters.length) = some 1 := by decide +kernel
set_option maxRecDepth 20000 in
theorem c_M_isDigit {l : Launch} {D : va_G} {B : Nat} {cA : Nat → ClassId} {ad : Nat → Nat} {S : List zC} (hS : zOkM S) {a0 : Int32} {I : zI} {K : Int32 → Prop}  (h : w_M_isDigit a0 I K) : Met l yX12_isDigit (zws yX12_isDigit cX12_isDigit 1 (some .boolean)) (zrm 0 0) (zPc D B cA ad [.int a0] S I) (zQc D B cA (zpI S I K)) 0 0 (fun q => B ≤ q) := by
  refine zm_of (cc := cX12_isDigit) (maxL := 1) (ret := (some .boolean)) (by decide +kernel) rfl (Nat.le_of_ble_eq_true rfl) trivial ?_
  intro p e s m args below meth c C _
  unfold w_M_isDigit at h
  show zX p l e (zrm 0 0) s m args below meth c (MQ below (zQc D B cA (zpI S I K)) args s 0 0 (fun q => B ≤ q)) D B cA 1 0 0 S I [(0, .int a0)] [] 0
  refine zr_iload_n C dyX12_isDigit_0 rfl 0 rfl ?_
  refine zr_bipush C dyX12_isDigit_1 zc_b_48 ?_
  refine zr_icmp_lt C dyX12_isDigit_3 (tgt := 16) (by decide) (fun hc_2 => ?_) (fun hc_2 => ?_)
  · replace h := zif_pos hc_2 h
    refine zr_iconst C dyX12_isDigit_16 zc_i_0 ?_
    exact zr_zret C rfl (zb.nar zb_0) dyX12_isDigit_17 ⟨rfl, rfl, _, rfl, h⟩
  · replace h := zif_neg hc_2 h
    refine zr_iload_n C dyX12_isDigit_6 rfl 0 rfl ?_
    refine zr_bipush C dyX12_isDigit_7 zc_b_57 ?_
    refine zr_icmp_gt C dyX12_isDigit_9 (tgt := 16) (by decide) (fun hc_1 => ?_) (fun hc_1 => ?_)
    · replace h := zif_pos hc_1 h
      refine zr_iconst C dyX12_isDigit_16 zc_i_0 ?_
      exact zr_zret C rfl (zb.nar zb_0) dyX12_isDigit_17 ⟨rfl, rfl, _, rfl, h⟩
    · replace h := zif_neg hc_1 h
      refine zr_iconst C dyX12_isDigit_12 zc_i_1 ?_
      refine zr_goto C dyX12_isDigit_13 (tgt := 17) (by decide) ?_
      exact zr_zret C rfl (zb.nar zb_1) dyX12_isDigit_17 ⟨rfl, rfl, _, rfl, h⟩
theorem zg_12_205 {p : Program} {l : Launch} {e : Env} {R : Room} {s : State} {m : MethodId} {args : Array Value} {below : List Frame} {meth : Method} {c : Code} {Q : State → Prop} {D : va_G} {B : Nat} {cA : Nat → ClassId} {ad : Nat → Nat} {cc : ByteArray} {nL : Nat} {ret : Option FieldType} {S : List zC} {I : zI} {lv : List (Nat × Value)} {st : List Value} {pc : Nat} (C : zCx p s m args meth c cc nL RX12 ret D B cA ad) (hS : zOkM S) (hd : decode cc pc = .ok (.getfield 205, 3)) (kk : zX p l e R s m args below meth c Q D B cA nL 0 0 S I lv (.int (I.1 491 3) :: st) (pc + 3)) : zX p l e R s m args below meth c Q D B cA nL 0 0 S I lv (.ref (B + 491) :: st) pc :=
  zr_geti C (ci := 12) (Cn := RX12) (T := TX12) (N := 82) (k := 491) (j := 3) (fs := [none, some (some 492), some (some 493), none, some (some 494), none, some (some 495), none, none, none, some (some 496), some (some 497), some (some 498), some (some 499), some (some 500), none, some (some 501), some (some 502), some (some 503), none, some (some 504), some (some 505), some (some 506), some (some 507), some (some 508), none, some (some 509), some (some 510), some (some 511), some (some 512), some (some 513), some (some 514), some (some 515), some (some 516), some (some 517), some (some 518), none, none, some (some 519), none, some (some 520), none, none, none, some (some 521), some (some 522), some (some 523), some (some 524), some (some 525), some (some 526), some (some 527), none, some (some 528), none, some (some 529), none, some (some 530), some (some 531), some (some 532), none, some (some 533), some (some 534), some (some 535), some (some 536), some (some 537), none, none, none, some (some 538), some (some 539), some (some 540), none, none, none, some (some 541), none, none, some (some 542), some (some 543), some (some 544), none, some (some 545)]) rfl zin_12 (Nat.le_of_ble_eq_true rfl) rfl (hS _ _ zs_491) rfl zk_fl_12_205 hd kk
theorem zg_12_13 {p : Program} {l : Launch} {e : Env} {R : Room} {s : State} {m : MethodId} {args : Array Value} {below : List Frame} {meth : Method} {c : Code} {Q : State → Prop} {D : va_G} {B : Nat} {cA : Nat → ClassId} {ad : Nat → Nat} {cc : ByteArray} {nL : Nat} {ret : Option FieldType} {S : List zC} {I : zI} {lv : List (Nat × Value)} {st : List Value} {pc : Nat} (C : zCx p s m args meth c cc nL RX12 ret D B cA ad) (hS : zOkM S) (hd : decode cc pc = .ok (.getfield 13, 3)) (kk : zX p l e R s m args below meth c Q D B cA nL 0 0 S I lv (.ref (B + 493) :: st) (pc + 3)) : zX p l e R s m args below meth c Q D B cA nL 0 0 S I lv (.ref (B + 491) :: st) pc :=
  zr_getr C (ci := 12) (Cn := RX12) (T := TX12) (N := 82) (k := 491) (j := 2) (fs := [none, some (some 492), some (some 493), none, some (some 494), none, some (some 495), none, none, none, some (some 496), some (some 497), some (some 498), some (some 499), some (some 500), none, some (some 501), some (some 502), some (some 503), none, some (some 504), some (some 505), some (some 506), some (some 507), some (some 508), none, some (some 509), some (some 510), some (some 511), some (some 512), some (some 513), some (some 514), some (some 515), some (some 516), some (some 517), some (some 518), none, none, some (some 519), none, some (some 520), none, none, none, some (some 521), some (some 522), some (some 523), some (some 524), some (some 525), some (some 526), some (some 527), none, some (some 528), none, some (some 529), none, some (some 530), some (some 531), some (some 532), none, some (some 533), some (some 534), some (some 535), some (some 536), some (some 537), none, none, none, some (some 538), some (some 539), some (some 540), none, none, none, some (some 541), none, none, some (some 542), some (some 543), some (some 544), none, some (some 545)]) rfl zin_12 (Nat.le_of_ble_eq_true rfl) rfl (hS _ _ zs_491) rfl zk_fl_12_13 hd kk
def w_M_byteAt (a1 : Int32) (I : zI) (K : Int32 → Prop) : Prop :=
  (if (I.1 491 3) ≤ a1 then K 0 else (vp_in a1 700 ∧ (K (I.1 493 (Int32.toNatClampNeg a1)))))
theorem dyX12_byteAt_0 : decode cX12_byteAt 0 = .ok (.iload_n 1, 1) := by decide +kernel
theorem dyX12_byteAt_1 : decode cX12_byteAt 1 = .ok (.aload_n 0, 1) := by decide +kernel
theorem dyX12_byteAt_2 : decode cX12_byteAt 2 = .ok (.getfield 205, 3) := by decide +kernel
theorem dyX12_byteAt_5 : decode cX12_byteAt 5 = .ok (.if_icmp .ge 12, 3) := by decide +kernel
theorem dyX12_byteAt_8 : decode cX12_byteAt 8 = .ok (.aload_n 0, 1) := by decide +kernel
theorem dyX12_byteAt_9 : decode cX12_byteAt 9 = .ok (.getfield 13, 3) := by decide +kernel
theorem dyX12_byteAt_12 : decode cX12_byteAt 12 = .ok (.iload_n 1, 1) := by decide +kernel
theorem dyX12_byteAt_13 : decode cX12_byteAt 13 = .ok (.iaload, 1) := by decide +kernel
theorem dyX12_byteAt_14 : decode cX12_byteAt 14 = .ok (.goto 4, 3) := by decide +kernel
theorem dyX12_byteAt_17 : decode cX12_byteAt 17 = .ok (.iconst 0, 1) := by decide +kernel
theorem dyX12_byteAt_18 : decode cX12_byteAt 18 = .ok (.ireturn, 1) := by decide +kernel
theorem zsg_yX12_byteAt : yX12_byteAt.cls = RX12 ∧ yX12_byteAt.cls ≠ "java/lang/invoke/MethodHandle" ∧ yX12_byteAt.cls ≠ "java/lang/invoke/VarHandle" ∧ (parseMethodDescriptor yX12_byteAt.desc).map (fun d => d.parameters.length) = some 1 := by decide +kernel
set_option maxRecDepth 20000 in
theorem c_M_byteAt {l : Launch} {D : va_G} {B : Nat} {cA : Nat → ClassId} {ad : Nat → Nat} {S : List zC} (hS : zOkM S) {a1 : Int32} {I : zI} {K : Int32 → Prop}  (h : w_M_byteAt a1 I K) : Met l yX12_byteAt (zws yX12_byteAt cX12_byteAt 2 (some .int)) (zrm 0 0) (zPc D B cA ad [.ref (B + 491), .int a1] S I) (zQc D B cA (zpI S I K)) 0 0 (fun q => B ≤ q) := by
  refine zm_of (cc := cX12_byteAt) (maxL := 2) (ret := (some .int)) (by decide +kernel) rfl (Nat.le_of_ble_eq_true rfl) trivial ?_
  intro p e s m args below meth c C _
  unfold w_M_byteAt at h
  show zX p l e (zrm 0 0) s m args below meth c (MQ below (zQc D B cA (zpI S I K)) args s 0 0 (fun q => B ≤ q)) D B cA 2 0 0 S I [(0, .ref (B + 491)), (1, .int a1)] [] 0
  refine zr_iload_n C dyX12_byteAt_0 rfl 1 rfl ?_
  refine zr_aload_n C dyX12_byteAt_1 rfl 0 rfl ?_
  refine zg_12_205 C hS dyX12_byteAt_2 ?_
  refine zr_icmp_ge C dyX12_byteAt_5 (tgt := 17) (by decide) (fun hc_1 => ?_) (fun hc_1 => ?_)
  · replace h := zif_pos hc_1 h
    refine zr_iconst C dyX12_byteAt_17 zc_i_0 ?_
    exact zr_iret C rfl dyX12_byteAt_18 ⟨rfl, rfl, _, rfl, h⟩
  · replace h := zif_neg hc_1 h
    refine zr_aload_n C dyX12_byteAt_8 rfl 0 rfl ?_
    refine zg_12_13 C hS dyX12_byteAt_9 ?_
    refine zr_iload_n C dyX12_byteAt_12 rfl 1 rfl ?_
    refine zr_iald C (hS _ _ zs_493) h.1 dyX12_byteAt_13 ?_
    replace h := h.2
    refine zr_goto C dyX12_byteAt_14 (tgt := 18) (by decide) ?_
    exact zr_iret C rfl dyX12_byteAt_18 ⟨rfl, rfl, _, rfl, h⟩
def w_M_kindOf (a0 : Int32) (I : zI) (K : Int32 → Prop) : Prop :=
  (if a0 = 40 then K 6 else (if a0 = 41 then K 7 else (if a0 = 42 then K 5 else (if a0 = 43 then K 4 else (if a0 = 59 then K 3 else (if a0 = 61 then K 2 else (if a0 = 123 then K 8 else (if a0 = 125 then K 9 else K 11))))))))
theorem dyX12_kindOf_0 : decode cX12_kindOf 0 = .ok (.iload_n 0, 1) := by decide +kernel
theorem dyX12_kindOf_1 : decode cX12_kindOf 1 = .ok (.lookupswitch 95 #[(40, 83), (41, 86), (42, 81), (43, 79), (59, 77), (61, 75), (123, 89), (125, 92)], 75) := by decide +kernel
theorem dyX12_kindOf_76 : decode cX12_kindOf 76 = .ok (.iconst 2, 1) := by decide +kernel
theorem dyX12_kindOf_77 : decode cX12_kindOf 77 = .ok (.ireturn, 1) := by decide +kernel
theorem dyX12_kindOf_78 : decode cX12_kindOf 78 = .ok (.iconst 3, 1) := by decide +kernel
theorem dyX12_kindOf_79 : decode cX12_kindOf 79 = .ok (.ireturn, 1) := by decide +kernel
theorem dyX12_kindOf_80 : decode cX12_kindOf 80 = .ok (.iconst 4, 1) := by decide +kernel
theorem dyX12_kindOf_81 : decode cX12_kindOf 81 = .ok (.ireturn, 1) := by decide +kernel
theorem dyX12_kindOf_82 : decode cX12_kindOf 82 = .ok (.iconst 5, 1) := by decide +kernel
theorem dyX12_kindOf_83 : decode cX12_kindOf 83 = .ok (.ireturn, 1) := by decide +kernel
theorem dyX12_kindOf_84 : decode cX12_kindOf 84 = .ok (.bipush 6, 2) := by decide +kernel
theorem dyX12_kindOf_86 : decode cX12_kindOf 86 = .ok (.ireturn, 1) := by decide +kernel
theorem dyX12_kindOf_87 : decode cX12_kindOf 87 = .ok (.bipush 7, 2) := by decide +kernel
theorem dyX12_kindOf_89 : decode cX12_kindOf 89 = .ok (.ireturn, 1) := by decide +kernel
theorem dyX12_kindOf_90 : decode cX12_kindOf 90 = .ok (.bipush 8, 2) := by decide +kernel
theorem dyX12_kindOf_92 : decode cX12_kindOf 92 = .ok (.ireturn, 1) := by decide +kernel
theorem dyX12_kindOf_93 : decode cX12_kindOf 93 = .ok (.bipush 9, 2) := by decide +kernel
theorem dyX12_kindOf_95 : decode cX12_kindOf 95 = .ok (.ireturn, 1) := by decide +kernel
theorem dyX12_kindOf_96 : decode cX12_kindOf 96 = .ok (.bipush 11, 2) := by decide +kernel
theorem dyX12_kindOf_98 : decode cX12_kindOf 98 = .ok (.ireturn, 1) := by decide +kernel
theorem zsg_yX12_kindOf : yX12_kindOf.cls ≠ "java/lang/invoke/MethodHandle" ∧ yX12_kindOf.cls ≠ "java/lang/invoke/VarHandle" ∧ (parseMethodDescriptor yX12_kindOf.desc).map (fun d => d.parameters.length) = some 1 := by decide +kernel
set_option maxRecDepth 20000 in
theorem c_M_kindOf {l : Launch} {D : va_G} {B : Nat} {cA : Nat → ClassId} {ad : Nat → Nat} {S : List zC} (hS : zOkM S) {a0 : Int32} {I : zI} {K : Int32 → Prop}  (h : w_M_kindOf a0 I K) : Met l yX12_kindOf (zws yX12_kindOf cX12_kindOf 1 (some .int)) (zrm 0 0) (zPc D B cA ad [.int a0] S I) (zQc D B cA (zpI S I K)) 0 0 (fun q => B ≤ q) := by
  refine zm_of (cc := cX12_kindOf) (maxL := 1) (ret := (some .int)) (by decide +kernel) rfl (Nat.le_of_ble_eq_true rfl) trivial ?_
  intro p e s m args below meth c C _
  unfold w_M_kindOf at h
  show zX p l e (zrm 0 0) s m args below meth c (MQ below (zQc D B cA (zpI S I K)) args s 0 0 (fun q => B ≤ q)) D B cA 1 0 0 S I [(0, .int a0)] [] 0
  refine zr_iload_n C dyX12_kindOf_0 rfl 0 rfl ?_
  by_cases hc_1 : a0 = 40
  · replace h := zif_pos hc_1 h
    refine zr_lookup C dyX12_kindOf_1 (by decide) (off := 83) (by rw [hc_1]; decide) (tgt := 84) (by decide) ?_
    refine zr_bipush C dyX12_kindOf_84 zc_b_6 ?_
    exact zr_iret C rfl dyX12_kindOf_86 ⟨rfl, rfl, _, rfl, h⟩
  replace h := zif_neg hc_1 h
  by_cases hc_2 : a0 = 41
  · replace h := zif_pos hc_2 h
    refine zr_lookup C dyX12_kindOf_1 (by decide) (off := 86) (by rw [hc_2]; decide) (tgt := 87) (by decide) ?_
    refine zr_bipush C dyX12_kindOf_87 zc_b_7 ?_
    exact zr_iret C rfl dyX12_kindOf_89 ⟨rfl, rfl, _, rfl, h⟩
  replace h := zif_neg hc_2 h
  by_cases hc_3 : a0 = 42
  · replace h := zif_pos hc_3 h
    refine zr_lookup C dyX12_kindOf_1 (by decide) (off := 81) (by rw [hc_3]; decide) (tgt := 82) (by decide) ?_
    refine zr_iconst C dyX12_kindOf_82 zc_i_5 ?_
    exact zr_iret C rfl dyX12_kindOf_83 ⟨rfl, rfl, _, rfl, h⟩
  replace h := zif_neg hc_3 h
  by_cases hc_4 : a0 = 43
  · replace h := zif_pos hc_4 h
    refine zr_lookup C dyX12_kindOf_1 (by decide) (off := 79) (by rw [hc_4]; decide) (tgt := 80) (by decide) ?_
    refine zr_iconst C dyX12_kindOf_80 zc_i_4 ?_
    exact zr_iret C rfl dyX12_kindOf_81 ⟨rfl, rfl, _, rfl, h⟩
  replace h := zif_neg hc_4 h
  by_cases hc_5 : a0 = 59
  · replace h := zif_pos hc_5 h
    refine zr_lookup C dyX12_kindOf_1 (by decide) (off := 77) (by rw [hc_5]; decide) (tgt := 78) (by decide) ?_
    refine zr_iconst C dyX12_kindOf_78 zc_i_3 ?_
    exact zr_iret C rfl dyX12_kindOf_79 ⟨rfl, rfl, _, rfl, h⟩
  replace h := zif_neg hc_5 h
  by_cases hc_6 : a0 = 61
  · replace h := zif_pos hc_6 h
    refine zr_lookup C dyX12_kindOf_1 (by decide) (off := 75) (by rw [hc_6]; decide) (tgt := 76) (by decide) ?_
    refine zr_iconst C dyX12_kindOf_76 zc_i_2 ?_
    exact zr_iret C rfl dyX12_kindOf_77 ⟨rfl, rfl, _, rfl, h⟩
  replace h := zif_neg hc_6 h
  by_cases hc_7 : a0 = 123
  · replace h := zif_pos hc_7 h
    refine zr_lookup C dyX12_kindOf_1 (by decide) (off := 89) (by rw [hc_7]; decide) (tgt := 90) (by decide) ?_
    refine zr_bipush C dyX12_kindOf_90 zc_b_8 ?_
    exact zr_iret C rfl dyX12_kindOf_92 ⟨rfl, rfl, _, rfl, h⟩
  replace h := zif_neg hc_7 h
  by_cases hc_8 : a0 = 125
  · replace h := zif_pos hc_8 h
    refine zr_lookup C dyX12_kindOf_1 (by decide) (off := 92) (by rw [hc_8]; decide) (tgt := 93) (by decide) ?_
    refine zr_bipush C dyX12_kindOf_93 zc_b_9 ?_
    exact zr_iret C rfl dyX12_kindOf_95 ⟨rfl, rfl, _, rfl, h⟩
  replace h := zif_neg hc_8 h
  refine zr_lookup C dyX12_kindOf_1 (by decide) (off := 95) (by show Op.lookupswitch.offset [(40, 83), (41, 86), (42, 81), (43, 79), (59, 77), (61, 75), (123, 89), (125, 92)] 95 a0.toInt = _; rw [lv_osw hc_1 (by decide), lv_osw hc_2 (by decide), lv_osw hc_3 (by decide), lv_osw hc_4 (by decide), lv_osw hc_5 (by decide), lv_osw hc_6 (by decide), lv_osw hc_7 (by decide), lv_osw hc_8 (by decide)]; rfl) (tgt := 96) (by decide) ?_
  refine zr_bipush C dyX12_kindOf_96 zc_b_11 ?_
  exact zr_iret C rfl dyX12_kindOf_98 ⟨rfl, rfl, _, rfl, h⟩
theorem zv_12_208 {p : Program} {l : Launch} {e : Env} {R : Room} {s : State} {m : MethodId} {args : Array Value} {below : List Frame} {meth : Method} {c : Code} {Q : State → Prop} {D : va_G} {B : Nat} {cA : Nat → ClassId} {ad : Nat → Nat} {cc : ByteArray} {nL : Nat} {ret : Option FieldType} {S : List zC} {I : zI} {lv : List (Nat × Value)} {st : List Value} {pc : Nat} (C : zCx p s m args meth c cc nL RX12 ret D B cA ad) {K : Int32 → Prop} {xa1 : Int32} (hS : zOkM S)  (h : w_M_byteAt xa1 I K) (hR : 0 + 1 ≤ R.frames ∧ 8 + (2 + 11) + (0) ≤ R.locals) (hw : (st.map fun v => v.category).sum ≤ 8) (hd : decode cc pc = .ok (.invokevirtual 208, 3)) (kk : ∀ v, K v → zX p l e R s m args below meth c Q D B cA nL 0 0 S I lv (.int v :: st) (pc + 3)) : zX p l e R s m args below meth c Q D B cA nL 0 0 S I lv (.int xa1 :: .ref (B + 491) :: st) pc :=
  have hf : 0 ≤ R.cells ∧ 0 ≤ R.slots := ⟨Nat.zero_le _, Nat.zero_le _⟩
  zc_VpI C (ci := 12) (q := (RX12, TX12, 82)) (k := 491) (fs := [none, some (some 492), some (some 493), none, some (some 494), none, some (some 495), none, none, none, some (some 496), some (some 497), some (some 498), some (some 499), some (some 500), none, some (some 501), some (some 502), some (some 503), none, some (some 504), some (some 505), some (some 506), some (some 507), some (some 508), none, some (some 509), some (some 510), some (some 511), some (some 512), some (some 513), some (some 514), some (some 515), some (some 516), some (some 517), some (some 518), none, none, some (some 519), none, some (some 520), none, none, none, some (some 521), some (some 522), some (some 523), some (some 524), some (some 525), some (some 526), some (some 527), none, some (some 528), none, some (some 529), none, some (some 530), some (some 531), some (some 532), none, some (some 533), some (some 534), some (some 535), some (some 536), some (some 537), none, none, none, some (some 538), some (some 539), some (some 540), none, none, none, some (some 541), none, none, some (some 542), some (some 543), some (some 544), none, some (some 545)]) (As := [.int xa1]) (st := st) rfl (hS _ _ zs_491) (c_M_byteAt hS h) (zgV zk_ml_12_208 zk_im_yX12_byteAt zk_se_yX12_byteAt zk_in_12 zk_cd_yX12_byteAt) zsg_yX12_byteAt hR rfl rfl hw hd hf kk
theorem zg_12_212 {p : Program} {l : Launch} {e : Env} {R : Room} {s : State} {m : MethodId} {args : Array Value} {below : List Frame} {meth : Method} {c : Code} {Q : State → Prop} {D : va_G} {B : Nat} {cA : Nat → ClassId} {ad : Nat → Nat} {cc : ByteArray} {nL : Nat} {ret : Option FieldType} {S : List zC} {I : zI} {lv : List (Nat × Value)} {st : List Value} {pc : Nat} (C : zCx p s m args meth c cc nL RX12 ret D B cA ad) (hS : zOkM S) (hd : decode cc pc = .ok (.getfield 212, 3)) (kk : zX p l e R s m args below meth c Q D B cA nL 0 0 S I lv (.int (I.1 491 9) :: st) (pc + 3)) : zX p l e R s m args below meth c Q D B cA nL 0 0 S I lv (.ref (B + 491) :: st) pc :=
  zr_geti C (ci := 12) (Cn := RX12) (T := TX12) (N := 82) (k := 491) (j := 9) (fs := [none, some (some 492), some (some 493), none, some (some 494), none, some (some 495), none, none, none, some (some 496), some (some 497), some (some 498), some (some 499), some (some 500), none, some (some 501), some (some 502), some (some 503), none, some (some 504), some (some 505), some (some 506), some (some 507), some (some 508), none, some (some 509), some (some 510), some (some 511), some (some 512), some (some 513), some (some 514), some (some 515), some (some 516), some (some 517), some (some 518), none, none, some (some 519), none, some (some 520), none, none, none, some (some 521), some (some 522), some (some 523), some (some 524), some (some 525), some (some 526), some (some 527), none, some (some 528), none, some (some 529), none, some (some 530), some (some 531), some (some 532), none, some (some 533), some (some 534), some (some 535), some (some 536), some (some 537), none, none, none, some (some 538), some (some 539), some (some 540), none, none, none, some (some 541), none, none, some (some 542), some (some 543), some (some 544), none, some (some 545)]) rfl zin_12 (Nat.le_of_ble_eq_true rfl) rfl (hS _ _ zs_491) rfl zk_fl_12_212 hd kk
theorem zg_12_25 {p : Program} {l : Launch} {e : Env} {R : Room} {s : State} {m : MethodId} {args : Array Value} {below : List Frame} {meth : Method} {c : Code} {Q : State → Prop} {D : va_G} {B : Nat} {cA : Nat → ClassId} {ad : Nat → Nat} {cc : ByteArray} {nL : Nat} {ret : Option FieldType} {S : List zC} {I : zI} {lv : List (Nat × Value)} {st : List Value} {pc : Nat} (C : zCx p s m args meth c cc nL RX12 ret D B cA ad) (hS : zOkM S) (hd : decode cc pc = .ok (.getfield 25, 3)) (kk : zX p l e R s m args below meth c Q D B cA nL 0 0 S I lv (.ref (B + 497) :: st) (pc + 3)) : zX p l e R s m args below meth c Q D B cA nL 0 0 S I lv (.ref (B + 491) :: st) pc :=
  zr_getr C (ci := 12) (Cn := RX12) (T := TX12) (N := 82) (k := 491) (j := 11) (fs := [none, some (some 492), some (some 493), none, some (some 494), none, some (some 495), none, none, none, some (some 496), some (some 497), some (some 498), some (some 499), some (some 500), none, some (some 501), some (some 502), some (some 503), none, some (some 504), some (some 505), some (some 506), some (some 507), some (some 508), none, some (some 509), some (some 510), some (some 511), some (some 512), some (some 513), some (some 514), some (some 515), some (some 516), some (some 517), some (some 518), none, none, some (some 519), none, some (some 520), none, none, none, some (some 521), some (some 522), some (some 523), some (some 524), some (some 525), some (some 526), some (some 527), none, some (some 528), none, some (some 529), none, some (some 530), some (some 531), some (some 532), none, some (some 533), some (some 534), some (some 535), some (some 536), some (some 537), none, none, none, some (some 538), some (some 539), some (some 540), none, none, none, some (some 541), none, none, some (some 542), some (some 543), some (some 544), none, some (some 545)]) rfl zin_12 (Nat.le_of_ble_eq_true rfl) rfl (hS _ _ zs_491) rfl zk_fl_12_25 hd kk
theorem zv_12_215 {p : Program} {l : Launch} {e : Env} {R : Room} {s : State} {m : MethodId} {args : Array Value} {below : List Frame} {meth : Method} {c : Code} {Q : State → Prop} {D : va_G} {B : Nat} {cA : Nat → ClassId} {ad : Nat → Nat} {cc : ByteArray} {nL : Nat} {ret : Option FieldType} {S : List zC} {I : zI} {lv : List (Nat × Value)} {st : List Value} {pc : Nat} (C : zCx p s m args meth c cc nL RX12 ret D B cA ad) {K : Int32 → Prop} {xa0 : Int32} (hS : zOkM S)  (h : w_M_isLetter xa0 I K) (hR : 0 + 1 ≤ R.frames ∧ 8 + (1 + 11) + (0) ≤ R.locals) (hw : (st.map fun v => v.category).sum ≤ 8) (hd : decode cc pc = .ok (.invokestatic 215, 3)) (kk : ∀ v, K v → zX p l e R s m args below meth c Q D B cA nL 0 0 S I lv (.int v :: st) (pc + 3)) : zX p l e R s m args below meth c Q D B cA nL 0 0 S I lv (.int xa0 :: st) pc :=
  have hf : 0 ≤ R.cells ∧ 0 ≤ R.slots := ⟨Nat.zero_le _, Nat.zero_le _⟩
  zc_SpI C (As := [.int xa0]) (st := st) (c_M_isLetter hS h) (zgM zk_cd_yX12_isLetter) zk_ml_12_215 zk_st_yX12_isLetter zk_in_12 zsg_yX12_isLetter hR rfl rfl hw hd hf kk
theorem zv_12_221 {p : Program} {l : Launch} {e : Env} {R : Room} {s : State} {m : MethodId} {args : Array Value} {below : List Frame} {meth : Method} {c : Code} {Q : State → Prop} {D : va_G} {B : Nat} {cA : Nat → ClassId} {ad : Nat → Nat} {cc : ByteArray} {nL : Nat} {ret : Option FieldType} {S : List zC} {I : zI} {lv : List (Nat × Value)} {st : List Value} {pc : Nat} (C : zCx p s m args meth c cc nL RX12 ret D B cA ad) {K : Int32 → Prop} {xa0 : Int32} (hS : zOkM S)  (h : w_M_isDigit xa0 I K) (hR : 0 + 1 ≤ R.frames ∧ 8 + (1 + 11) + (0) ≤ R.locals) (hw : (st.map fun v => v.category).sum ≤ 8) (hd : decode cc pc = .ok (.invokestatic 221, 3)) (kk : ∀ v, K v → zX p l e R s m args below meth c Q D B cA nL 0 0 S I lv (.int v :: st) (pc + 3)) : zX p l e R s m args below meth c Q D B cA nL 0 0 S I lv (.int xa0 :: st) pc :=
  have hf : 0 ≤ R.cells ∧ 0 ≤ R.slots := ⟨Nat.zero_le _, Nat.zero_le _⟩
  zc_SpI C (As := [.int xa0]) (st := st) (c_M_isDigit hS h) (zgM zk_cd_yX12_isDigit) zk_ml_12_221 zk_st_yX12_isDigit zk_in_12 zsg_yX12_isDigit hR rfl rfl hw hd hf kk
theorem zg_12_22 {p : Program} {l : Launch} {e : Env} {R : Room} {s : State} {m : MethodId} {args : Array Value} {below : List Frame} {meth : Method} {c : Code} {Q : State → Prop} {D : va_G} {B : Nat} {cA : Nat → ClassId} {ad : Nat → Nat} {cc : ByteArray} {nL : Nat} {ret : Option FieldType} {S : List zC} {I : zI} {lv : List (Nat × Value)} {st : List Value} {pc : Nat} (C : zCx p s m args meth c cc nL RX12 ret D B cA ad) (hS : zOkM S) (hd : decode cc pc = .ok (.getfield 22, 3)) (kk : zX p l e R s m args below meth c Q D B cA nL 0 0 S I lv (.ref (B + 496) :: st) (pc + 3)) : zX p l e R s m args below meth c Q D B cA nL 0 0 S I lv (.ref (B + 491) :: st) pc :=
  zr_getr C (ci := 12) (Cn := RX12) (T := TX12) (N := 82) (k := 491) (j := 10) (fs := [none, some (some 492), some (some 493), none, some (some 494), none, some (some 495), none, none, none, some (some 496), some (some 497), some (some 498), some (some 499), some (some 500), none, some (some 501), some (some 502), some (some 503), none, some (some 504), some (some 505), some (some 506), some (some 507), some (some 508), none, some (some 509), some (some 510), some (some 511), some (some 512), some (some 513), some (some 514), some (some 515), some (some 516), some (some 517), some (some 518), none, none, some (some 519), none, some (some 520), none, none, none, some (some 521), some (some 522), some (some 523), some (some 524), some (some 525), some (some 526), some (some 527), none, some (some 528), none, some (some 529), none, some (some 530), some (some 531), some (some 532), none, some (some 533), some (some 534), some (some 535), some (some 536), some (some 537), none, none, none, some (some 538), some (some 539), some (some 540), none, none, none, some (some 541), none, none, some (some 542), some (some 543), some (some 544), none, some (some 545)]) rfl zin_12 (Nat.le_of_ble_eq_true rfl) rfl (hS _ _ zs_491) rfl zk_fl_12_22 hd kk
theorem zg_12_28 {p : Program} {l : Launch} {e : Env} {R : Room} {s : State} {m : MethodId} {args : Array Value} {below : List Frame} {meth : Method} {c : Code} {Q : State → Prop} {D : va_G} {B : Nat} {cA : Nat → ClassId} {ad : Nat → Nat} {cc : ByteArray} {nL : Nat} {ret : Option FieldType} {S : List zC} {I : zI} {lv : List (Nat × Value)} {st : List Value} {pc : Nat} (C : zCx p s m args meth c cc nL RX12 ret D B cA ad) (hS : zOkM S) (hd : decode cc pc = .ok (.getfield 28, 3)) (kk : zX p l e R s m args below meth c Q D B cA nL 0 0 S I lv (.ref (B + 498) :: st) (pc + 3)) : zX p l e R s m args below meth c Q D B cA nL 0 0 S I lv (.ref (B + 491) :: st) pc :=
  zr_getr C (ci := 12) (Cn := RX12) (T := TX12) (N := 82) (k := 491) (j := 12) (fs := [none, some (some 492), some (some 493), none, some (some 494), none, some (some 495), none, none, none, some (some 496), some (some 497), some (some 498), some (some 499), some (some 500), none, some (some 501), some (some 502), some (some 503), none, some (some 504), some (some 505), some (some 506), some (some 507), some (some 508), none, some (some 509), some (some 510), some (some 511), some (some 512), some (some 513), some (some 514), some (some 515), some (some 516), some (some 517), some (some 518), none, none, some (some 519), none, some (some 520), none, none, none, some (some 521), some (some 522), some (some 523), some (some 524), some (some 525), some (some 526), some (some 527), none, some (some 528), none, some (some 529), none, some (some 530), some (some 531), some (some 532), none, some (some 533), some (some 534), some (some 535), some (some 536), some (some 537), none, none, none, some (some 538), some (some 539), some (some 540), none, none, none, some (some 541), none, none, some (some 542), some (some 543), some (some 544), none, some (some 545)]) rfl zin_12 (Nat.le_of_ble_eq_true rfl) rfl (hS _ _ zs_491) rfl zk_fl_12_28 hd kk
theorem zg_12_31 {p : Program} {l : Launch} {e : Env} {R : Room} {s : State} {m : MethodId} {args : Array Value} {below : List Frame} {meth : Method} {c : Code} {Q : State → Prop} {D : va_G} {B : Nat} {cA : Nat → ClassId} {ad : Nat → Nat} {cc : ByteArray} {nL : Nat} {ret : Option FieldType} {S : List zC} {I : zI} {lv : List (Nat × Value)} {st : List Value} {pc : Nat} (C : zCx p s m args meth c cc nL RX12 ret D B cA ad) (hS : zOkM S) (hd : decode cc pc = .ok (.getfield 31, 3)) (kk : zX p l e R s m args below meth c Q D B cA nL 0 0 S I lv (.ref (B + 499) :: st) (pc + 3)) : zX p l e R s m args below meth c Q D B cA nL 0 0 S I lv (.ref (B + 491) :: st) pc :=
  zr_getr C (ci := 12) (Cn := RX12) (T := TX12) (N := 82) (k := 491) (j := 13) (fs := [none, some (some 492), some (some 493), none, some (some 494), none, some (some 495), none, none, none, some (some 496), some (some 497), some (some 498), some (some 499), some (some 500), none, some (some 501), some (some 502), some (some 503), none, some (some 504), some (some 505), some (some 506), some (some 507), some (some 508), none, some (some 509), some (some 510), some (some 511), some (some 512), some (some 513), some (some 514), some (some 515), some (some 516), some (some 517), some (some 518), none, none, some (some 519), none, some (some 520), none, none, none, some (some 521), some (some 522), some (some 523), some (some 524), some (some 525), some (some 526), some (some 527), none, some (some 528), none, some (some 529), none, some (some 530), some (some 531), some (some 532), none, some (some 533), some (some 534), some (some 535), some (some 536), some (some 537), none, none, none, some (some 538), some (some 539), some (some 540), none, none, none, some (some 541), none, none, some (some 542), some (some 543), some (some 544), none, some (some 545)]) rfl zin_12 (Nat.le_of_ble_eq_true rfl) rfl (hS _ _ zs_491) rfl zk_fl_12_31 hd kk
theorem zp_12_212 {p : Program} {l : Launch} {e : Env} {R : Room} {s : State} {m : MethodId} {args : Array Value} {below : List Frame} {meth : Method} {c : Code} {Q : State → Prop} {D : va_G} {B : Nat} {cA : Nat → ClassId} {ad : Nat → Nat} {cc : ByteArray} {nL : Nat} {ret : Option FieldType} {S : List zC} {I : zI} {lv : List (Nat × Value)} {st : List Value} {pc : Nat} (C : zCx p s m args meth c cc nL RX12 ret D B cA ad) (hS : zOkM S) {v : Int32} (hd : decode cc pc = .ok (.putfield 212, 3)) (kk : zX p l e R s m args below meth c Q D B cA nL 0 0 S (zu I 491 9 v) lv st (pc + 3)) : zX p l e R s m args below meth c Q D B cA nL 0 0 S I lv (.int v :: .ref (B + 491) :: st) pc :=
  zr_puti C (ci := 12) (Cn := RX12) (T := TX12) (N := 82) (k := 491) (j := 9) (fs := [none, some (some 492), some (some 493), none, some (some 494), none, some (some 495), none, none, none, some (some 496), some (some 497), some (some 498), some (some 499), some (some 500), none, some (some 501), some (some 502), some (some 503), none, some (some 504), some (some 505), some (some 506), some (some 507), some (some 508), none, some (some 509), some (some 510), some (some 511), some (some 512), some (some 513), some (some 514), some (some 515), some (some 516), some (some 517), some (some 518), none, none, some (some 519), none, some (some 520), none, none, none, some (some 521), some (some 522), some (some 523), some (some 524), some (some 525), some (some 526), some (some 527), none, some (some 528), none, some (some 529), none, some (some 530), some (some 531), some (some 532), none, some (some 533), some (some 534), some (some 535), some (some 536), some (some 537), none, none, none, some (some 538), some (some 539), some (some 540), none, none, none, some (some 541), none, none, some (some 542), some (some 543), some (some 544), none, some (some 545)]) rfl zin_12 (Nat.le_of_ble_eq_true rfl) rfl (hS _ _ zs_491) rfl tyX12 tyX12_ok nmX12 (ty := .int) zpd_I rfl rfl rfl zk_fl_12_212 hd kk
theorem zv_12_226 {p : Program} {l : Launch} {e : Env} {R : Room} {s : State} {m : MethodId} {args : Array Value} {below : List Frame} {meth : Method} {c : Code} {Q : State → Prop} {D : va_G} {B : Nat} {cA : Nat → ClassId} {ad : Nat → Nat} {cc : ByteArray} {nL : Nat} {ret : Option FieldType} {S : List zC} {I : zI} {lv : List (Nat × Value)} {st : List Value} {pc : Nat} (C : zCx p s m args meth c cc nL RX12 ret D B cA ad) {K : Int32 → Prop} {xa0 : Int32} (hS : zOkM S)  (h : w_M_kindOf xa0 I K) (hR : 0 + 1 ≤ R.frames ∧ 8 + (1 + 11) + (0) ≤ R.locals) (hw : (st.map fun v => v.category).sum ≤ 8) (hd : decode cc pc = .ok (.invokestatic 226, 3)) (kk : ∀ v, K v → zX p l e R s m args below meth c Q D B cA nL 0 0 S I lv (.int v :: st) (pc + 3)) : zX p l e R s m args below meth c Q D B cA nL 0 0 S I lv (.int xa0 :: st) pc :=
  have hf : 0 ≤ R.cells ∧ 0 ≤ R.slots := ⟨Nat.zero_le _, Nat.zero_le _⟩
  zc_SpI C (As := [.int xa0]) (st := st) (c_M_kindOf hS h) (zgM zk_cd_yX12_kindOf) zk_ml_12_226 zk_st_yX12_kindOf zk_in_12 zsg_yX12_kindOf hR rfl rfl hw hd hf kk
def w_M_tokenAt (a1 : Int32) (I : zI) (K : Int32 → zI → Prop) : Prop :=
  w_M_byteAt a1 I (fun r_1 => ∀ v6_2, v6_2 = (I.1 491 9) → vp_in v6_2 710 ∧ (∀ I_3, I_3 = (zu I 497 (Int32.toNatClampNeg v6_2) a1) → ∀ (P25 : Int32 → Int64 → Prop), (∀ (v3_4 : Int32) (v4_5 : Int64), (w_M_isLetter r_1 I_3 (fun r_6 => ∀ (P73 : Int32 → Int64 → Prop), (∀ (v3_7 : Int32) (v4_8 : Int64), (w_M_isDigit r_1 I_3 (fun r_9 => ∀ (P119 : Prop), ((w_M_isLetter r_1 I_3 (fun r_10 => ∀ (P161 : Int32 → Prop), (∀ (t_11 : Int32), (∀ (P193 : Int32 → Prop), (∀ (t_12 : Int32), (vp_in v6_2 710 ∧ (∀ I_13, I_13 = (zu I_3 496 (Int32.toNatClampNeg v6_2) t_12) → ∀ (P210 : Int32 → Prop), (∀ (t_14 : Int32), (vp_in v6_2 710 ∧ (∀ I_15, I_15 = (zu I_13 498 (Int32.toNatClampNeg v6_2) t_14) → ∀ (P229 : Int64 → Prop), (∀ (t_16 : Int64), (vp_in v6_2 710 ∧ (∀ I_17, I_17 = (zul I_15 499 (Int32.toNatClampNeg v6_2) t_16) → ∀ I_18, I_18 = (zu I_17 491 9 ((I_17.1 491 9) + 1)) → vp_in v6_2 710 ∧ (K (I_18.1 498 (Int32.toNatClampNeg v6_2)) I_18))) → P229 t_16) → (if t_11 = 0 then P229 v4_8 else (P229 (Int32.toInt64 r_1))))) → P210 t_14) → (if t_11 = 0 then P210 v3_7 else P210 1))) → P193 t_12) → (if t_11 = 0 then (w_M_isLetter r_1 I_3 (fun r_21 => (if r_21 = 0 then P193 1 else P193 0))) else (w_M_kindOf r_1 I_3 (fun r_23 => P193 r_23)))) → P161 t_11) → (if r_10 = 0 then (w_M_isDigit r_1 I_3 (fun r_25 => (if r_25 = 0 then P161 1 else (if v3_7 ≤ 4 then P161 0 else P161 1)))) else (if v3_7 ≤ 8 then P161 0 else P161 1)))) → P119) → (if r_9 = 0 then P119 else (w_M_byteAt (a1 + v3_7) I_3 (fun r_30 => w_M_isDigit r_30 I_3 (fun r_31 => (if r_31 = 0 then P119 else (w_M_byteAt (a1 + v3_7) I_3 (fun r_32 => ∀ v4_33, v4_33 = ((10 * v4_8) + (Int32.toInt64 (r_32 - 48))) → ∀ v3_34, v3_34 = (v3_7 + 1) → P73 v3_34 v4_33))))))))) → P73 v3_7 v4_8) → (if r_6 = 0 then P73 v3_4 v4_5 else (w_M_byteAt (a1 + v3_4) I_3 (fun r_37 => w_M_isLetter r_37 I_3 (fun r_38 => (if r_38 = 0 then P73 v3_4 v4_5 else (w_M_byteAt (a1 + v3_4) I_3 (fun r_39 => ∀ v4_40, v4_40 = ((27 * v4_5) + (Int32.toInt64 ((r_39 - 97) + 1))) → ∀ v3_41, v3_41 = (v3_4 + 1) → P25 v3_41 v4_40))))))))) → P25 v3_4 v4_5) → P25 0 0))
theorem dyX12_tokenAt_0 : decode cX12_tokenAt 0 = .ok (.aload_n 0, 1) := by decide +kernel
theorem dyX12_tokenAt_1 : decode cX12_tokenAt 1 = .ok (.iload_n 1, 1) := by decide +kernel
theorem dyX12_tokenAt_2 : decode cX12_tokenAt 2 = .ok (.invokevirtual 208, 3) := by decide +kernel
theorem dyX12_tokenAt_5 : decode cX12_tokenAt 5 = .ok (.istore_n 2, 1) := by decide +kernel
theorem dyX12_tokenAt_6 : decode cX12_tokenAt 6 = .ok (.iconst 0, 1) := by decide +kernel
theorem dyX12_tokenAt_7 : decode cX12_tokenAt 7 = .ok (.istore_n 3, 1) := by decide +kernel
theorem dyX12_tokenAt_8 : decode cX12_tokenAt 8 = .ok (.lconst 0, 1) := by decide +kernel
theorem dyX12_tokenAt_9 : decode cX12_tokenAt 9 = .ok (.lstore 4, 2) := by decide +kernel
theorem dyX12_tokenAt_11 : decode cX12_tokenAt 11 = .ok (.aload_n 0, 1) := by decide +kernel
theorem dyX12_tokenAt_12 : decode cX12_tokenAt 12 = .ok (.getfield 212, 3) := by decide +kernel
theorem dyX12_tokenAt_15 : decode cX12_tokenAt 15 = .ok (.istore 6, 2) := by decide +kernel
theorem dyX12_tokenAt_17 : decode cX12_tokenAt 17 = .ok (.aload_n 0, 1) := by decide +kernel
theorem dyX12_tokenAt_18 : decode cX12_tokenAt 18 = .ok (.getfield 25, 3) := by decide +kernel
theorem dyX12_tokenAt_21 : decode cX12_tokenAt 21 = .ok (.iload 6, 2) := by decide +kernel
theorem dyX12_tokenAt_23 : decode cX12_tokenAt 23 = .ok (.iload_n 1, 1) := by decide +kernel
theorem dyX12_tokenAt_24 : decode cX12_tokenAt 24 = .ok (.iastore, 1) := by decide +kernel
theorem dyX12_tokenAt_25 : decode cX12_tokenAt 25 = .ok (.iload_n 2, 1) := by decide +kernel
theorem dyX12_tokenAt_26 : decode cX12_tokenAt 26 = .ok (.invokestatic 215, 3) := by decide +kernel
theorem dyX12_tokenAt_29 : decode cX12_tokenAt 29 = .ok (.ifCond .eq 44, 3) := by decide +kernel
theorem dyX12_tokenAt_32 : decode cX12_tokenAt 32 = .ok (.aload_n 0, 1) := by decide +kernel
theorem dyX12_tokenAt_33 : decode cX12_tokenAt 33 = .ok (.iload_n 1, 1) := by decide +kernel
theorem dyX12_tokenAt_34 : decode cX12_tokenAt 34 = .ok (.iload_n 3, 1) := by decide +kernel
theorem dyX12_tokenAt_35 : decode cX12_tokenAt 35 = .ok (.iadd, 1) := by decide +kernel
theorem dyX12_tokenAt_36 : decode cX12_tokenAt 36 = .ok (.invokevirtual 208, 3) := by decide +kernel
theorem dyX12_tokenAt_39 : decode cX12_tokenAt 39 = .ok (.invokestatic 215, 3) := by decide +kernel
theorem dyX12_tokenAt_42 : decode cX12_tokenAt 42 = .ok (.ifCond .eq 31, 3) := by decide +kernel
theorem dyX12_tokenAt_45 : decode cX12_tokenAt 45 = .ok (.ldc2_w 219, 3) := by decide +kernel
theorem dyX12_tokenAt_48 : decode cX12_tokenAt 48 = .ok (.lload 4, 2) := by decide +kernel
theorem dyX12_tokenAt_50 : decode cX12_tokenAt 50 = .ok (.lmul, 1) := by decide +kernel
theorem dyX12_tokenAt_51 : decode cX12_tokenAt 51 = .ok (.aload_n 0, 1) := by decide +kernel
theorem dyX12_tokenAt_52 : decode cX12_tokenAt 52 = .ok (.iload_n 1, 1) := by decide +kernel
theorem dyX12_tokenAt_53 : decode cX12_tokenAt 53 = .ok (.iload_n 3, 1) := by decide +kernel
theorem dyX12_tokenAt_54 : decode cX12_tokenAt 54 = .ok (.iadd, 1) := by decide +kernel
theorem dyX12_tokenAt_55 : decode cX12_tokenAt 55 = .ok (.invokevirtual 208, 3) := by decide +kernel
theorem dyX12_tokenAt_58 : decode cX12_tokenAt 58 = .ok (.bipush 97, 2) := by decide +kernel
theorem dyX12_tokenAt_60 : decode cX12_tokenAt 60 = .ok (.isub, 1) := by decide +kernel
theorem dyX12_tokenAt_61 : decode cX12_tokenAt 61 = .ok (.iconst 1, 1) := by decide +kernel
theorem dyX12_tokenAt_62 : decode cX12_tokenAt 62 = .ok (.iadd, 1) := by decide +kernel
theorem dyX12_tokenAt_63 : decode cX12_tokenAt 63 = .ok (.i2l, 1) := by decide +kernel
theorem dyX12_tokenAt_64 : decode cX12_tokenAt 64 = .ok (.ladd, 1) := by decide +kernel
theorem dyX12_tokenAt_65 : decode cX12_tokenAt 65 = .ok (.lstore 4, 2) := by decide +kernel
theorem dyX12_tokenAt_67 : decode cX12_tokenAt 67 = .ok (.iinc 3 1, 3) := by decide +kernel
theorem dyX12_tokenAt_70 : decode cX12_tokenAt 70 = .ok (.goto (-45), 3) := by decide +kernel
theorem dyX12_tokenAt_73 : decode cX12_tokenAt 73 = .ok (.iload_n 2, 1) := by decide +kernel
theorem dyX12_tokenAt_74 : decode cX12_tokenAt 74 = .ok (.invokestatic 221, 3) := by decide +kernel
theorem dyX12_tokenAt_77 : decode cX12_tokenAt 77 = .ok (.ifCond .eq 42, 3) := by decide +kernel
theorem dyX12_tokenAt_80 : decode cX12_tokenAt 80 = .ok (.aload_n 0, 1) := by decide +kernel
theorem dyX12_tokenAt_81 : decode cX12_tokenAt 81 = .ok (.iload_n 1, 1) := by decide +kernel
theorem dyX12_tokenAt_82 : decode cX12_tokenAt 82 = .ok (.iload_n 3, 1) := by decide +kernel
theorem dyX12_tokenAt_83 : decode cX12_tokenAt 83 = .ok (.iadd, 1) := by decide +kernel
theorem dyX12_tokenAt_84 : decode cX12_tokenAt 84 = .ok (.invokevirtual 208, 3) := by decide +kernel
theorem dyX12_tokenAt_87 : decode cX12_tokenAt 87 = .ok (.invokestatic 221, 3) := by decide +kernel
theorem dyX12_tokenAt_90 : decode cX12_tokenAt 90 = .ok (.ifCond .eq 29, 3) := by decide +kernel
theorem dyX12_tokenAt_93 : decode cX12_tokenAt 93 = .ok (.ldc2_w 224, 3) := by decide +kernel
theorem dyX12_tokenAt_96 : decode cX12_tokenAt 96 = .ok (.lload 4, 2) := by decide +kernel
theorem dyX12_tokenAt_98 : decode cX12_tokenAt 98 = .ok (.lmul, 1) := by decide +kernel
theorem dyX12_tokenAt_99 : decode cX12_tokenAt 99 = .ok (.aload_n 0, 1) := by decide +kernel
theorem dyX12_tokenAt_100 : decode cX12_tokenAt 100 = .ok (.iload_n 1, 1) := by decide +kernel
theorem dyX12_tokenAt_101 : decode cX12_tokenAt 101 = .ok (.iload_n 3, 1) := by decide +kernel
theorem dyX12_tokenAt_102 : decode cX12_tokenAt 102 = .ok (.iadd, 1) := by decide +kernel
theorem dyX12_tokenAt_103 : decode cX12_tokenAt 103 = .ok (.invokevirtual 208, 3) := by decide +kernel
theorem dyX12_tokenAt_106 : decode cX12_tokenAt 106 = .ok (.bipush 48, 2) := by decide +kernel
theorem dyX12_tokenAt_108 : decode cX12_tokenAt 108 = .ok (.isub, 1) := by decide +kernel
theorem dyX12_tokenAt_109 : decode cX12_tokenAt 109 = .ok (.i2l, 1) := by decide +kernel
theorem dyX12_tokenAt_110 : decode cX12_tokenAt 110 = .ok (.ladd, 1) := by decide +kernel
theorem dyX12_tokenAt_111 : decode cX12_tokenAt 111 = .ok (.lstore 4, 2) := by decide +kernel
theorem dyX12_tokenAt_113 : decode cX12_tokenAt 113 = .ok (.iinc 3 1, 3) := by decide +kernel
theorem dyX12_tokenAt_116 : decode cX12_tokenAt 116 = .ok (.goto (-43), 3) := by decide +kernel
theorem dyX12_tokenAt_119 : decode cX12_tokenAt 119 = .ok (.iload_n 2, 1) := by decide +kernel
theorem dyX12_tokenAt_120 : decode cX12_tokenAt 120 = .ok (.invokestatic 215, 3) := by decide +kernel
theorem dyX12_tokenAt_123 : decode cX12_tokenAt 123 = .ok (.ifCond .eq 17, 3) := by decide +kernel
theorem dyX12_tokenAt_126 : decode cX12_tokenAt 126 = .ok (.iload_n 3, 1) := by decide +kernel
theorem dyX12_tokenAt_127 : decode cX12_tokenAt 127 = .ok (.bipush 8, 2) := by decide +kernel
theorem dyX12_tokenAt_129 : decode cX12_tokenAt 129 = .ok (.if_icmp .le 7, 3) := by decide +kernel
theorem dyX12_tokenAt_132 : decode cX12_tokenAt 132 = .ok (.iconst 1, 1) := by decide +kernel
theorem dyX12_tokenAt_133 : decode cX12_tokenAt 133 = .ok (.goto 28, 3) := by decide +kernel
theorem dyX12_tokenAt_136 : decode cX12_tokenAt 136 = .ok (.iconst 0, 1) := by decide +kernel
theorem dyX12_tokenAt_137 : decode cX12_tokenAt 137 = .ok (.goto 24, 3) := by decide +kernel
theorem dyX12_tokenAt_140 : decode cX12_tokenAt 140 = .ok (.iload_n 2, 1) := by decide +kernel
theorem dyX12_tokenAt_141 : decode cX12_tokenAt 141 = .ok (.invokestatic 221, 3) := by decide +kernel
theorem dyX12_tokenAt_144 : decode cX12_tokenAt 144 = .ok (.ifCond .eq 16, 3) := by decide +kernel
theorem dyX12_tokenAt_147 : decode cX12_tokenAt 147 = .ok (.iload_n 3, 1) := by decide +kernel
theorem dyX12_tokenAt_148 : decode cX12_tokenAt 148 = .ok (.iconst 4, 1) := by decide +kernel
theorem dyX12_tokenAt_149 : decode cX12_tokenAt 149 = .ok (.if_icmp .le 7, 3) := by decide +kernel
theorem dyX12_tokenAt_152 : decode cX12_tokenAt 152 = .ok (.iconst 1, 1) := by decide +kernel
theorem dyX12_tokenAt_153 : decode cX12_tokenAt 153 = .ok (.goto 8, 3) := by decide +kernel
theorem dyX12_tokenAt_156 : decode cX12_tokenAt 156 = .ok (.iconst 0, 1) := by decide +kernel
theorem dyX12_tokenAt_157 : decode cX12_tokenAt 157 = .ok (.goto 4, 3) := by decide +kernel
theorem dyX12_tokenAt_160 : decode cX12_tokenAt 160 = .ok (.iconst 1, 1) := by decide +kernel
theorem dyX12_tokenAt_161 : decode cX12_tokenAt 161 = .ok (.istore 7, 2) := by decide +kernel
theorem dyX12_tokenAt_163 : decode cX12_tokenAt 163 = .ok (.aload_n 0, 1) := by decide +kernel
theorem dyX12_tokenAt_164 : decode cX12_tokenAt 164 = .ok (.getfield 22, 3) := by decide +kernel
theorem dyX12_tokenAt_167 : decode cX12_tokenAt 167 = .ok (.iload 6, 2) := by decide +kernel
theorem dyX12_tokenAt_169 : decode cX12_tokenAt 169 = .ok (.iload 7, 2) := by decide +kernel
theorem dyX12_tokenAt_171 : decode cX12_tokenAt 171 = .ok (.ifCond .eq 10, 3) := by decide +kernel
theorem dyX12_tokenAt_174 : decode cX12_tokenAt 174 = .ok (.iload_n 2, 1) := by decide +kernel
theorem dyX12_tokenAt_175 : decode cX12_tokenAt 175 = .ok (.invokestatic 226, 3) := by decide +kernel
theorem dyX12_tokenAt_178 : decode cX12_tokenAt 178 = .ok (.goto 15, 3) := by decide +kernel
theorem dyX12_tokenAt_181 : decode cX12_tokenAt 181 = .ok (.iload_n 2, 1) := by decide +kernel
theorem dyX12_tokenAt_182 : decode cX12_tokenAt 182 = .ok (.invokestatic 215, 3) := by decide +kernel
theorem dyX12_tokenAt_185 : decode cX12_tokenAt 185 = .ok (.ifCond .eq 7, 3) := by decide +kernel
theorem dyX12_tokenAt_188 : decode cX12_tokenAt 188 = .ok (.iconst 0, 1) := by decide +kernel
theorem dyX12_tokenAt_189 : decode cX12_tokenAt 189 = .ok (.goto 4, 3) := by decide +kernel
theorem dyX12_tokenAt_192 : decode cX12_tokenAt 192 = .ok (.iconst 1, 1) := by decide +kernel
theorem dyX12_tokenAt_193 : decode cX12_tokenAt 193 = .ok (.iastore, 1) := by decide +kernel
theorem dyX12_tokenAt_194 : decode cX12_tokenAt 194 = .ok (.aload_n 0, 1) := by decide +kernel
theorem dyX12_tokenAt_195 : decode cX12_tokenAt 195 = .ok (.getfield 28, 3) := by decide +kernel
theorem dyX12_tokenAt_198 : decode cX12_tokenAt 198 = .ok (.iload 6, 2) := by decide +kernel
theorem dyX12_tokenAt_200 : decode cX12_tokenAt 200 = .ok (.iload 7, 2) := by decide +kernel
theorem dyX12_tokenAt_202 : decode cX12_tokenAt 202 = .ok (.ifCond .eq 7, 3) := by decide +kernel
theorem dyX12_tokenAt_205 : decode cX12_tokenAt 205 = .ok (.iconst 1, 1) := by decide +kernel
theorem dyX12_tokenAt_206 : decode cX12_tokenAt 206 = .ok (.goto 4, 3) := by decide +kernel
theorem dyX12_tokenAt_209 : decode cX12_tokenAt 209 = .ok (.iload_n 3, 1) := by decide +kernel
theorem dyX12_tokenAt_210 : decode cX12_tokenAt 210 = .ok (.iastore, 1) := by decide +kernel
theorem dyX12_tokenAt_211 : decode cX12_tokenAt 211 = .ok (.aload_n 0, 1) := by decide +kernel
theorem dyX12_tokenAt_212 : decode cX12_tokenAt 212 = .ok (.getfield 31, 3) := by decide +kernel
theorem dyX12_tokenAt_215 : decode cX12_tokenAt 215 = .ok (.iload 6, 2) := by decide +kernel
theorem dyX12_tokenAt_217 : decode cX12_tokenAt 217 = .ok (.iload 7, 2) := by decide +kernel
theorem dyX12_tokenAt_219 : decode cX12_tokenAt 219 = .ok (.ifCond .eq 8, 3) := by decide +kernel
theorem dyX12_tokenAt_222 : decode cX12_tokenAt 222 = .ok (.iload_n 2, 1) := by decide +kernel
theorem dyX12_tokenAt_223 : decode cX12_tokenAt 223 = .ok (.i2l, 1) := by decide +kernel
theorem dyX12_tokenAt_224 : decode cX12_tokenAt 224 = .ok (.goto 5, 3) := by decide +kernel
theorem dyX12_tokenAt_227 : decode cX12_tokenAt 227 = .ok (.lload 4, 2) := by decide +kernel
theorem dyX12_tokenAt_229 : decode cX12_tokenAt 229 = .ok (.lastore, 1) := by decide +kernel
theorem dyX12_tokenAt_230 : decode cX12_tokenAt 230 = .ok (.aload_n 0, 1) := by decide +kernel
theorem dyX12_tokenAt_231 : decode cX12_tokenAt 231 = .ok (.dup, 1) := by decide +kernel
theorem dyX12_tokenAt_232 : decode cX12_tokenAt 232 = .ok (.getfield 212, 3) := by decide +kernel
theorem dyX12_tokenAt_235 : decode cX12_tokenAt 235 = .ok (.iconst 1, 1) := by decide +kernel
theorem dyX12_tokenAt_236 : decode cX12_tokenAt 236 = .ok (.iadd, 1) := by decide +kernel
theorem dyX12_tokenAt_237 : decode cX12_tokenAt 237 = .ok (.putfield 212, 3) := by decide +kernel
theorem dyX12_tokenAt_240 : decode cX12_tokenAt 240 = .ok (.aload_n 0, 1) := by decide +kernel
theorem dyX12_tokenAt_241 : decode cX12_tokenAt 241 = .ok (.getfield 28, 3) := by decide +kernel
theorem dyX12_tokenAt_244 : decode cX12_tokenAt 244 = .ok (.iload 6, 2) := by decide +kernel
theorem dyX12_tokenAt_246 : decode cX12_tokenAt 246 = .ok (.iaload, 1) := by decide +kernel
theorem dyX12_tokenAt_247 : decode cX12_tokenAt 247 = .ok (.ireturn, 1) := by decide +kernel
theorem zsg_yX12_tokenAt : yX12_tokenAt.cls = RX12 ∧ yX12_tokenAt.cls ≠ "java/lang/invoke/MethodHandle" ∧ yX12_tokenAt.cls ≠ "java/lang/invoke/VarHandle" ∧ (parseMethodDescriptor yX12_tokenAt.desc).map (fun d => d.parameters.length) = some 1 := by decide +kernel
set_option maxRecDepth 20000 in
theorem c_M_tokenAt {l : Launch} {D : va_G} {B : Nat} {cA : Nat → ClassId} {ad : Nat → Nat} {S : List zC} (hS : zOkM S) {a1 : Int32} {I : zI} {K : Int32 → zI → Prop}  (h : w_M_tokenAt a1 I K) : Met l yX12_tokenAt (zws yX12_tokenAt cX12_tokenAt 8 (some .int)) (zrm 1 21) (zPc D B cA ad [.ref (B + 491), .int a1] S I) (zQc D B cA (zqI S K)) 0 0 (fun q => B ≤ q) := by
  refine zm_of (cc := cX12_tokenAt) (maxL := 8) (ret := (some .int)) (by decide +kernel) rfl (Nat.le_of_ble_eq_true rfl) trivial ?_
  intro p e s m args below meth c C _
  unfold w_M_tokenAt at h
  show zX p l e (zrm 1 21) s m args below meth c (MQ below (zQc D B cA (zqI S K)) args s 0 0 (fun q => B ≤ q)) D B cA 8 0 0 S I [(0, .ref (B + 491)), (1, .int a1)] [] 0
  refine zr_aload_n C dyX12_tokenAt_0 rfl 0 rfl ?_
  refine zr_iload_n C dyX12_tokenAt_1 rfl 1 rfl ?_
  refine zv_12_208 C hS (st := []) h ⟨Nat.le_of_ble_eq_true rfl, Nat.le_of_ble_eq_true rfl⟩ (Nat.le_of_ble_eq_true rfl) dyX12_tokenAt_2 (fun r_1 h => ?_)
  refine zr_istore_n C dyX12_tokenAt_5 rfl (Nat.le_of_ble_eq_true rfl) (lv2 := [(2, .int r_1), (0, .ref (B + 491)), (1, .int a1)]) rfl ?_
  refine zr_iconst C dyX12_tokenAt_6 zc_i_0 ?_
  refine zr_istore_n C dyX12_tokenAt_7 rfl (Nat.le_of_ble_eq_true rfl) (lv2 := [(3, .int 0), (2, .int r_1), (0, .ref (B + 491)), (1, .int a1)]) rfl ?_
  refine zr_lconst C dyX12_tokenAt_8 rfl ?_
  refine zr_lstore C dyX12_tokenAt_9 (Nat.le_of_ble_eq_true rfl) (lv2 := [(4, .long 0), (3, .int 0), (2, .int r_1), (0, .ref (B + 491)), (1, .int a1)]) rfl ?_
  refine zr_aload_n C dyX12_tokenAt_11 rfl 3 rfl ?_
  refine zg_12_212 C hS dyX12_tokenAt_12 ?_
  refine zn_istore C (fun v6_2 => [(6, .int v6_2), (4, .long 0), (3, .int 0), (2, .int r_1), (0, .ref (B + 491)), (1, .int a1)]) dyX12_tokenAt_15 (Nat.le_of_ble_eq_true rfl) (fun _ => rfl) (fun v6_2 ev6_2 => ?_)
  replace h := h v6_2 ev6_2
  refine zr_aload_n C dyX12_tokenAt_17 rfl 4 rfl ?_
  refine zg_12_25 C hS dyX12_tokenAt_18 ?_
  refine zr_iload C dyX12_tokenAt_21 0 rfl ?_
  refine zr_iload_n C dyX12_tokenAt_23 rfl 5 rfl ?_
  refine zr_iast C (hS _ _ zs_497) h.1 dyX12_tokenAt_24 ?_
  replace h := h.2
  refine zn_mem C (fun I_3 eI_3 => ?_)
  replace h := h I_3 eI_3
  refine zjn (h (fun (v3_4 : Int32) (v4_5 : Int64) => zX p l e (zrm 1 21) s m args below meth c (MQ below (zQc D B cA (zqI S K)) args s 0 0 (fun q => B ≤ q)) D B cA 8 0 0 S I_3 [(6, .int v6_2), (4, .long v4_5), (3, .int v3_4), (2, .int r_1), (0, .ref (B + 491)), (1, .int a1)] [] 25) (fun v3_4 v4_5 h => ?_)) (fun h => ?_)
  · refine zr_iload_n C dyX12_tokenAt_25 rfl 3 rfl ?_
    refine zv_12_215 C hS (st := []) h ⟨Nat.le_of_ble_eq_true rfl, Nat.le_of_ble_eq_true rfl⟩ (Nat.le_of_ble_eq_true rfl) dyX12_tokenAt_26 (fun r_6 h => ?_)
    refine zjn (h (fun (v3_7 : Int32) (v4_8 : Int64) => zX p l e (zrm 1 21) s m args below meth c (MQ below (zQc D B cA (zqI S K)) args s 0 0 (fun q => B ≤ q)) D B cA 8 0 0 S I_3 [(6, .int v6_2), (4, .long v4_8), (3, .int v3_7), (2, .int r_1), (0, .ref (B + 491)), (1, .int a1)] [] 73) (fun v3_7 v4_8 h => ?_)) (fun h => ?_)
    · refine zr_iload_n C dyX12_tokenAt_73 rfl 3 rfl ?_
      refine zv_12_221 C hS (st := []) h ⟨Nat.le_of_ble_eq_true rfl, Nat.le_of_ble_eq_true rfl⟩ (Nat.le_of_ble_eq_true rfl) dyX12_tokenAt_74 (fun r_9 h => ?_)
      refine zjn (h (zX p l e (zrm 1 21) s m args below meth c (MQ below (zQc D B cA (zqI S K)) args s 0 0 (fun q => B ≤ q)) D B cA 8 0 0 S I_3 [(6, .int v6_2), (4, .long v4_8), (3, .int v3_7), (2, .int r_1), (0, .ref (B + 491))] [] 119) (fun  h => ?_)) (fun h => ?_)
      · refine zr_iload_n C dyX12_tokenAt_119 rfl 3 rfl ?_
        refine zv_12_215 C hS (st := []) h ⟨Nat.le_of_ble_eq_true rfl, Nat.le_of_ble_eq_true rfl⟩ (Nat.le_of_ble_eq_true rfl) dyX12_tokenAt_120 (fun r_10 h => ?_)
        refine zjn (h (fun (t_11 : Int32) => zX p l e (zrm 1 21) s m args below meth c (MQ below (zQc D B cA (zqI S K)) args s 0 0 (fun q => B ≤ q)) D B cA 8 0 0 S I_3 [(6, .int v6_2), (4, .long v4_8), (3, .int v3_7), (2, .int r_1), (0, .ref (B + 491))] [.int t_11] 161) (fun t_11 h => ?_)) (fun h => ?_)
        · refine zr_istore C dyX12_tokenAt_161 (Nat.le_of_ble_eq_true rfl) (lv2 := [(7, .int t_11), (6, .int v6_2), (4, .long v4_8), (3, .int v3_7), (2, .int r_1), (0, .ref (B + 491))]) rfl ?_
          refine zr_aload_n C dyX12_tokenAt_163 rfl 5 rfl ?_
          refine zg_12_22 C hS dyX12_tokenAt_164 ?_
          refine zr_iload C dyX12_tokenAt_167 1 rfl ?_
          refine zr_iload C dyX12_tokenAt_169 0 rfl ?_
          refine zjn (h (fun (t_12 : Int32) => zX p l e (zrm 1 21) s m args below meth c (MQ below (zQc D B cA (zqI S K)) args s 0 0 (fun q => B ≤ q)) D B cA 8 0 0 S I_3 [(7, .int t_11), (6, .int v6_2), (4, .long v4_8), (3, .int v3_7), (2, .int r_1), (0, .ref (B + 491))] [.int t_12, .int v6_2, .ref (B + 496)] 193) (fun t_12 h => ?_)) (fun h => ?_)
          · refine zr_iast C (hS _ _ zs_496) h.1 dyX12_tokenAt_193 ?_
            replace h := h.2
            refine zn_mem C (fun I_13 eI_13 => ?_)
            replace h := h I_13 eI_13
            refine zr_aload_n C dyX12_tokenAt_194 rfl 5 rfl ?_
            refine zg_12_28 C hS dyX12_tokenAt_195 ?_
            refine zr_iload C dyX12_tokenAt_198 1 rfl ?_
            refine zr_iload C dyX12_tokenAt_200 0 rfl ?_
            refine zjn (h (fun (t_14 : Int32) => zX p l e (zrm 1 21) s m args below meth c (MQ below (zQc D B cA (zqI S K)) args s 0 0 (fun q => B ≤ q)) D B cA 8 0 0 S I_13 [(7, .int t_11), (6, .int v6_2), (4, .long v4_8), (2, .int r_1), (0, .ref (B + 491))] [.int t_14, .int v6_2, .ref (B + 498)] 210) (fun t_14 h => ?_)) (fun h => ?_)
            · refine zr_iast C (hS _ _ zs_498) h.1 dyX12_tokenAt_210 ?_
              replace h := h.2
              refine zn_mem C (fun I_15 eI_15 => ?_)
              replace h := h I_15 eI_15
              refine zr_aload_n C dyX12_tokenAt_211 rfl 4 rfl ?_
              refine zg_12_31 C hS dyX12_tokenAt_212 ?_
              refine zr_iload C dyX12_tokenAt_215 1 rfl ?_
              refine zr_iload C dyX12_tokenAt_217 0 rfl ?_
              refine zjn (h (fun (t_16 : Int64) => zX p l e (zrm 1 21) s m args below meth c (MQ below (zQc D B cA (zqI S K)) args s 0 0 (fun q => B ≤ q)) D B cA 8 0 0 S I_15 [(6, .int v6_2), (0, .ref (B + 491))] [.long t_16, .int v6_2, .ref (B + 499)] 229) (fun t_16 h => ?_)) (fun h => ?_)
              · refine zr_last C (hS _ _ zs_499) h.1 dyX12_tokenAt_229 ?_
                replace h := h.2
                refine zn_mem C (fun I_17 eI_17 => ?_)
                replace h := h I_17 eI_17
                refine zr_aload_n C dyX12_tokenAt_230 rfl 1 rfl ?_
                refine zr_dup C dyX12_tokenAt_231 rfl ?_
                refine zg_12_212 C hS dyX12_tokenAt_232 ?_
                refine zr_iconst C dyX12_tokenAt_235 zc_i_1 ?_
                refine zr_iadd C dyX12_tokenAt_236 ?_
                refine zp_12_212 C hS dyX12_tokenAt_237 ?_
                refine zn_mem C (fun I_18 eI_18 => ?_)
                replace h := h I_18 eI_18
                refine zr_aload_n C dyX12_tokenAt_240 rfl 1 rfl ?_
                refine zg_12_28 C hS dyX12_tokenAt_241 ?_
                refine zr_iload C dyX12_tokenAt_244 0 rfl ?_
                refine zr_iald C (hS _ _ zs_498) h.1 dyX12_tokenAt_246 ?_
                replace h := h.2
                exact zr_iret C rfl dyX12_tokenAt_247 ⟨rfl, _, rfl, h⟩
              refine zr_if_eq C dyX12_tokenAt_219 (tgt := 227) (by decide) (fun hc_19 => ?_) (fun hc_19 => ?_)
              · replace h := zif_pos hc_19 h
                refine zr_lload C dyX12_tokenAt_227 2 rfl ?_
                refine zr_sub (lv2 := [(6, .int v6_2), (0, .ref (B + 491))]) [1, 4] rfl ?_
                exact h
              · replace h := zif_neg hc_19 h
                refine zr_iload_n C dyX12_tokenAt_222 rfl 3 rfl ?_
                refine zr_i2l C dyX12_tokenAt_223 ?_
                refine zr_goto C dyX12_tokenAt_224 (tgt := 229) (by decide) ?_
                refine zr_sub (lv2 := [(6, .int v6_2), (0, .ref (B + 491))]) [1, 4] rfl ?_
                exact h
            refine zr_if_eq C dyX12_tokenAt_202 (tgt := 209) (by decide) (fun hc_20 => ?_) (fun hc_20 => ?_)
            · replace h := zif_pos hc_20 h
              refine zr_iload_n C dyX12_tokenAt_209 rfl 3 rfl ?_
              refine zr_sub (lv2 := [(7, .int t_11), (6, .int v6_2), (4, .long v4_8), (2, .int r_1), (0, .ref (B + 491))]) [0, 1, 2, 4, 5] rfl ?_
              exact h
            · replace h := zif_neg hc_20 h
              refine zr_iconst C dyX12_tokenAt_205 zc_i_1 ?_
              refine zr_goto C dyX12_tokenAt_206 (tgt := 210) (by decide) ?_
              refine zr_sub (lv2 := [(7, .int t_11), (6, .int v6_2), (4, .long v4_8), (2, .int r_1), (0, .ref (B + 491))]) [0, 1, 2, 4, 5] rfl ?_
              exact h
          refine zr_if_eq C dyX12_tokenAt_171 (tgt := 181) (by decide) (fun hc_24 => ?_) (fun hc_24 => ?_)
          · replace h := zif_pos hc_24 h
            refine zr_iload_n C dyX12_tokenAt_181 rfl 4 rfl ?_
            refine zv_12_215 C hS (st := [.int v6_2, .ref (B + 496)]) h ⟨Nat.le_of_ble_eq_true rfl, Nat.le_of_ble_eq_true rfl⟩ (Nat.le_of_ble_eq_true rfl) dyX12_tokenAt_182 (fun r_21 h => ?_)
            refine zr_if_eq C dyX12_tokenAt_185 (tgt := 192) (by decide) (fun hc_22 => ?_) (fun hc_22 => ?_)
            · replace h := zif_pos hc_22 h
              refine zr_iconst C dyX12_tokenAt_192 zc_i_1 ?_
              exact h
            · replace h := zif_neg hc_22 h
              refine zr_iconst C dyX12_tokenAt_188 zc_i_0 ?_
              refine zr_goto C dyX12_tokenAt_189 (tgt := 193) (by decide) ?_
              exact h
          · replace h := zif_neg hc_24 h
            refine zr_iload_n C dyX12_tokenAt_174 rfl 4 rfl ?_
            refine zv_12_226 C hS (st := [.int v6_2, .ref (B + 496)]) h ⟨Nat.le_of_ble_eq_true rfl, Nat.le_of_ble_eq_true rfl⟩ (Nat.le_of_ble_eq_true rfl) dyX12_tokenAt_175 (fun r_23 h => ?_)
            refine zr_goto C dyX12_tokenAt_178 (tgt := 193) (by decide) ?_
            exact h
        refine zr_if_eq C dyX12_tokenAt_123 (tgt := 140) (by decide) (fun hc_29 => ?_) (fun hc_29 => ?_)
        · replace h := zif_pos hc_29 h
          refine zr_iload_n C dyX12_tokenAt_140 rfl 3 rfl ?_
          refine zv_12_221 C hS (st := []) h ⟨Nat.le_of_ble_eq_true rfl, Nat.le_of_ble_eq_true rfl⟩ (Nat.le_of_ble_eq_true rfl) dyX12_tokenAt_141 (fun r_25 h => ?_)
          refine zr_if_eq C dyX12_tokenAt_144 (tgt := 160) (by decide) (fun hc_27 => ?_) (fun hc_27 => ?_)
          · replace h := zif_pos hc_27 h
            refine zr_iconst C dyX12_tokenAt_160 zc_i_1 ?_
            exact h
          · replace h := zif_neg hc_27 h
            refine zr_iload_n C dyX12_tokenAt_147 rfl 2 rfl ?_
            refine zr_iconst C dyX12_tokenAt_148 zc_i_4 ?_
            refine zr_icmp_le C dyX12_tokenAt_149 (tgt := 156) (by decide) (fun hc_26 => ?_) (fun hc_26 => ?_)
            · replace h := zif_pos hc_26 h
              refine zr_iconst C dyX12_tokenAt_156 zc_i_0 ?_
              refine zr_goto C dyX12_tokenAt_157 (tgt := 161) (by decide) ?_
              exact h
            · replace h := zif_neg hc_26 h
              refine zr_iconst C dyX12_tokenAt_152 zc_i_1 ?_
              refine zr_goto C dyX12_tokenAt_153 (tgt := 161) (by decide) ?_
              exact h
        · replace h := zif_neg hc_29 h
          refine zr_iload_n C dyX12_tokenAt_126 rfl 2 rfl ?_
          refine zr_bipush C dyX12_tokenAt_127 zc_b_8 ?_
          refine zr_icmp_le C dyX12_tokenAt_129 (tgt := 136) (by decide) (fun hc_28 => ?_) (fun hc_28 => ?_)
          · replace h := zif_pos hc_28 h
            refine zr_iconst C dyX12_tokenAt_136 zc_i_0 ?_
            refine zr_goto C dyX12_tokenAt_137 (tgt := 161) (by decide) ?_
            exact h
          · replace h := zif_neg hc_28 h
            refine zr_iconst C dyX12_tokenAt_132 zc_i_1 ?_
            refine zr_goto C dyX12_tokenAt_133 (tgt := 161) (by decide) ?_
            exact h
      refine zr_if_eq C dyX12_tokenAt_77 (tgt := 119) (by decide) (fun hc_36 => ?_) (fun hc_36 => ?_)
      · replace h := zif_pos hc_36 h
        refine zr_sub (lv2 := [(6, .int v6_2), (4, .long v4_8), (3, .int v3_7), (2, .int r_1), (0, .ref (B + 491))]) [0, 1, 2, 3, 4] rfl ?_
        exact h
      · replace h := zif_neg hc_36 h
        refine zr_aload_n C dyX12_tokenAt_80 rfl 4 rfl ?_
        refine zr_iload_n C dyX12_tokenAt_81 rfl 5 rfl ?_
        refine zr_iload_n C dyX12_tokenAt_82 rfl 2 rfl ?_
        refine zr_iadd C dyX12_tokenAt_83 ?_
        refine zv_12_208 C hS (st := []) h ⟨Nat.le_of_ble_eq_true rfl, Nat.le_of_ble_eq_true rfl⟩ (Nat.le_of_ble_eq_true rfl) dyX12_tokenAt_84 (fun r_30 h => ?_)
        refine zv_12_221 C hS (st := []) h ⟨Nat.le_of_ble_eq_true rfl, Nat.le_of_ble_eq_true rfl⟩ (Nat.le_of_ble_eq_true rfl) dyX12_tokenAt_87 (fun r_31 h => ?_)
        refine zr_if_eq C dyX12_tokenAt_90 (tgt := 119) (by decide) (fun hc_35 => ?_) (fun hc_35 => ?_)
        · replace h := zif_pos hc_35 h
          refine zr_sub (lv2 := [(6, .int v6_2), (4, .long v4_8), (3, .int v3_7), (2, .int r_1), (0, .ref (B + 491))]) [0, 1, 2, 3, 4] rfl ?_
          exact h
        · replace h := zif_neg hc_35 h
          refine zr_ldc2 C zk_co_12_224 dyX12_tokenAt_93 ?_
          refine zr_lload C dyX12_tokenAt_96 1 rfl ?_
          refine zr_lmul C dyX12_tokenAt_98 ?_
          refine zr_aload_n C dyX12_tokenAt_99 rfl 4 rfl ?_
          refine zr_iload_n C dyX12_tokenAt_100 rfl 5 rfl ?_
          refine zr_iload_n C dyX12_tokenAt_101 rfl 2 rfl ?_
          refine zr_iadd C dyX12_tokenAt_102 ?_
          refine zv_12_208 C hS (st := [.long (10 * v4_8)]) h ⟨Nat.le_of_ble_eq_true rfl, Nat.le_of_ble_eq_true rfl⟩ (Nat.le_of_ble_eq_true rfl) dyX12_tokenAt_103 (fun r_32 h => ?_)
          refine zr_bipush C dyX12_tokenAt_106 zc_b_48 ?_
          refine zr_isub C dyX12_tokenAt_108 ?_
          refine zr_i2l C dyX12_tokenAt_109 ?_
          refine zr_ladd C dyX12_tokenAt_110 ?_
          refine zn_lstore C (fun v4_33 => [(4, .long v4_33), (6, .int v6_2), (3, .int v3_7), (2, .int r_1), (0, .ref (B + 491)), (1, .int a1)]) dyX12_tokenAt_111 (Nat.le_of_ble_eq_true rfl) (fun _ => rfl) (fun v4_33 ev4_33 => ?_)
          replace h := h v4_33 ev4_33
          refine zn_iinc C (fun v3_34 => [(3, .int v3_34), (4, .long v4_33), (6, .int v6_2), (2, .int r_1), (0, .ref (B + 491)), (1, .int a1)]) dyX12_tokenAt_113 2 rfl zc_i_1 (Nat.le_of_ble_eq_true rfl) (fun _ => rfl) (fun v3_34 ev3_34 => ?_)
          replace h := h v3_34 ev3_34
          refine zr_goto C dyX12_tokenAt_116 (tgt := 73) (by decide) ?_
          refine zr_sub (lv2 := [(6, .int v6_2), (4, .long v4_33), (3, .int v3_34), (2, .int r_1), (0, .ref (B + 491)), (1, .int a1)]) [2, 1, 0, 3, 4, 5] rfl ?_
          exact h
    refine zr_if_eq C dyX12_tokenAt_29 (tgt := 73) (by decide) (fun hc_43 => ?_) (fun hc_43 => ?_)
    · replace h := zif_pos hc_43 h
      exact h
    · replace h := zif_neg hc_43 h
      refine zr_aload_n C dyX12_tokenAt_32 rfl 4 rfl ?_
      refine zr_iload_n C dyX12_tokenAt_33 rfl 5 rfl ?_
      refine zr_iload_n C dyX12_tokenAt_34 rfl 2 rfl ?_
      refine zr_iadd C dyX12_tokenAt_35 ?_
      refine zv_12_208 C hS (st := []) h ⟨Nat.le_of_ble_eq_true rfl, Nat.le_of_ble_eq_true rfl⟩ (Nat.le_of_ble_eq_true rfl) dyX12_tokenAt_36 (fun r_37 h => ?_)
      refine zv_12_215 C hS (st := []) h ⟨Nat.le_of_ble_eq_true rfl, Nat.le_of_ble_eq_true rfl⟩ (Nat.le_of_ble_eq_true rfl) dyX12_tokenAt_39 (fun r_38 h => ?_)
      refine zr_if_eq C dyX12_tokenAt_42 (tgt := 73) (by decide) (fun hc_42 => ?_) (fun hc_42 => ?_)
      · replace h := zif_pos hc_42 h
        exact h
      · replace h := zif_neg hc_42 h
        refine zr_ldc2 C zk_co_12_219 dyX12_tokenAt_45 ?_
        refine zr_lload C dyX12_tokenAt_48 1 rfl ?_
        refine zr_lmul C dyX12_tokenAt_50 ?_
        refine zr_aload_n C dyX12_tokenAt_51 rfl 4 rfl ?_
        refine zr_iload_n C dyX12_tokenAt_52 rfl 5 rfl ?_
        refine zr_iload_n C dyX12_tokenAt_53 rfl 2 rfl ?_
        refine zr_iadd C dyX12_tokenAt_54 ?_
        refine zv_12_208 C hS (st := [.long (27 * v4_5)]) h ⟨Nat.le_of_ble_eq_true rfl, Nat.le_of_ble_eq_true rfl⟩ (Nat.le_of_ble_eq_true rfl) dyX12_tokenAt_55 (fun r_39 h => ?_)
        refine zr_bipush C dyX12_tokenAt_58 zc_b_97 ?_
        refine zr_isub C dyX12_tokenAt_60 ?_
        refine zr_iconst C dyX12_tokenAt_61 zc_i_1 ?_
        refine zr_iadd C dyX12_tokenAt_62 ?_
        refine zr_i2l C dyX12_tokenAt_63 ?_
        refine zr_ladd C dyX12_tokenAt_64 ?_
        refine zn_lstore C (fun v4_40 => [(4, .long v4_40), (6, .int v6_2), (3, .int v3_4), (2, .int r_1), (0, .ref (B + 491)), (1, .int a1)]) dyX12_tokenAt_65 (Nat.le_of_ble_eq_true rfl) (fun _ => rfl) (fun v4_40 ev4_40 => ?_)
        replace h := h v4_40 ev4_40
        refine zn_iinc C (fun v3_41 => [(3, .int v3_41), (4, .long v4_40), (6, .int v6_2), (2, .int r_1), (0, .ref (B + 491)), (1, .int a1)]) dyX12_tokenAt_67 2 rfl zc_i_1 (Nat.le_of_ble_eq_true rfl) (fun _ => rfl) (fun v3_41 ev3_41 => ?_)
        replace h := h v3_41 ev3_41
        refine zr_goto C dyX12_tokenAt_70 (tgt := 25) (by decide) ?_
        refine zr_sub (lv2 := [(6, .int v6_2), (4, .long v4_40), (3, .int v3_41), (2, .int r_1), (0, .ref (B + 491)), (1, .int a1)]) [2, 1, 0, 3, 4, 5] rfl ?_
        exact h
  exact h
theorem zp_12_205 {p : Program} {l : Launch} {e : Env} {R : Room} {s : State} {m : MethodId} {args : Array Value} {below : List Frame} {meth : Method} {c : Code} {Q : State → Prop} {D : va_G} {B : Nat} {cA : Nat → ClassId} {ad : Nat → Nat} {cc : ByteArray} {nL : Nat} {ret : Option FieldType} {S : List zC} {I : zI} {lv : List (Nat × Value)} {st : List Value} {pc : Nat} (C : zCx p s m args meth c cc nL RX12 ret D B cA ad) (hS : zOkM S) {v : Int32} (hd : decode cc pc = .ok (.putfield 205, 3)) (kk : zX p l e R s m args below meth c Q D B cA nL 0 0 S (zu I 491 3 v) lv st (pc + 3)) : zX p l e R s m args below meth c Q D B cA nL 0 0 S I lv (.int v :: .ref (B + 491) :: st) pc :=
  zr_puti C (ci := 12) (Cn := RX12) (T := TX12) (N := 82) (k := 491) (j := 3) (fs := [none, some (some 492), some (some 493), none, some (some 494), none, some (some 495), none, none, none, some (some 496), some (some 497), some (some 498), some (some 499), some (some 500), none, some (some 501), some (some 502), some (some 503), none, some (some 504), some (some 505), some (some 506), some (some 507), some (some 508), none, some (some 509), some (some 510), some (some 511), some (some 512), some (some 513), some (some 514), some (some 515), some (some 516), some (some 517), some (some 518), none, none, some (some 519), none, some (some 520), none, none, none, some (some 521), some (some 522), some (some 523), some (some 524), some (some 525), some (some 526), some (some 527), none, some (some 528), none, some (some 529), none, some (some 530), some (some 531), some (some 532), none, some (some 533), some (some 534), some (some 535), some (some 536), some (some 537), none, none, none, some (some 538), some (some 539), some (some 540), none, none, none, some (some 541), none, none, some (some 542), some (some 543), some (some 544), none, some (some 545)]) rfl zin_12 (Nat.le_of_ble_eq_true rfl) rfl (hS _ _ zs_491) rfl tyX12 tyX12_ok nmX12 (ty := .int) zpd_I rfl rfl rfl zk_fl_12_205 hd kk
theorem zv_12_229 {p : Program} {l : Launch} {e : Env} {R : Room} {s : State} {m : MethodId} {args : Array Value} {below : List Frame} {meth : Method} {c : Code} {Q : State → Prop} {D : va_G} {B : Nat} {cA : Nat → ClassId} {ad : Nat → Nat} {cc : ByteArray} {nL : Nat} {ret : Option FieldType} {S : List zC} {I : zI} {lv : List (Nat × Value)} {st : List Value} {pc : Nat} (C : zCx p s m args meth c cc nL RX12 ret D B cA ad) {K : Int32 → zI → Prop} {xa1 : Int32} (hS : zOkM S)  (h : w_M_tokenAt xa1 I K) (hR : 1 + 1 ≤ R.frames ∧ 8 + (8 + 11) + (21) ≤ R.locals) (hw : (st.map fun v => v.category).sum ≤ 8) (hd : decode cc pc = .ok (.invokevirtual 229, 3)) (kk : ∀ v I2, K v I2 → zX p l e R s m args below meth c Q D B cA nL 0 0 S I2 lv (.int v :: st) (pc + 3)) : zX p l e R s m args below meth c Q D B cA nL 0 0 S I lv (.int xa1 :: .ref (B + 491) :: st) pc :=
  have hf : 0 ≤ R.cells ∧ 0 ≤ R.slots := ⟨Nat.zero_le _, Nat.zero_le _⟩
  zc_VqI C (ci := 12) (q := (RX12, TX12, 82)) (k := 491) (fs := [none, some (some 492), some (some 493), none, some (some 494), none, some (some 495), none, none, none, some (some 496), some (some 497), some (some 498), some (some 499), some (some 500), none, some (some 501), some (some 502), some (some 503), none, some (some 504), some (some 505), some (some 506), some (some 507), some (some 508), none, some (some 509), some (some 510), some (some 511), some (some 512), some (some 513), some (some 514), some (some 515), some (some 516), some (some 517), some (some 518), none, none, some (some 519), none, some (some 520), none, none, none, some (some 521), some (some 522), some (some 523), some (some 524), some (some 525), some (some 526), some (some 527), none, some (some 528), none, some (some 529), none, some (some 530), some (some 531), some (some 532), none, some (some 533), some (some 534), some (some 535), some (some 536), some (some 537), none, none, none, some (some 538), some (some 539), some (some 540), none, none, none, some (some 541), none, none, some (some 542), some (some 543), some (some 544), none, some (some 545)]) (As := [.int xa1]) (st := st) rfl (hS _ _ zs_491) (c_M_tokenAt hS h) (zgV zk_ml_12_229 zk_im_yX12_tokenAt zk_se_yX12_tokenAt zk_in_12 zk_cd_yX12_tokenAt) zsg_yX12_tokenAt hR rfl rfl hw hd hf kk
def w_M_cutsUp (a1 : Int32) (I : zI) (K : zI → Prop) : Prop :=
  ∀ I_1, I_1 = (zu I 491 3 a1) → ∀ I_2, I_2 = (zu I_1 491 9 0) → ∀ (P12 : Int32 → zI → Prop), (∀ (v2_3 : Int32) (I_4 : zI), ((if a1 ≤ v2_3 then (vp_in (I_4.1 491 9) 710 ∧ (∀ I_5, I_5 = (zu I_4 496 (Int32.toNatClampNeg (I_4.1 491 9)) 10) → vp_in (I_5.1 491 9) 710 ∧ (∀ I_6, I_6 = (zu I_5 497 (Int32.toNatClampNeg (I_5.1 491 9)) a1) → vp_in (I_6.1 491 9) 710 ∧ (∀ I_7, I_7 = (zu I_6 498 (Int32.toNatClampNeg (I_6.1 491 9)) 0) → vp_in (I_7.1 491 9) 710 ∧ (∀ I_8, I_8 = (zul I_7 499 (Int32.toNatClampNeg (I_7.1 491 9)) 0) → ∀ I_9, I_9 = (zu I_8 491 9 ((I_8.1 491 9) + 1)) → K I_9))))) else (vp_in v2_3 700 ∧ (∀ v3_10, v3_10 = (I_4.1 493 (Int32.toNatClampNeg v2_3)) → ∀ (P58 : Int32 → zI → Prop), (∀ (t_11 : Int32) (I_12 : zI), (∀ v2_13, v2_13 = (v2_3 + t_11) → P12 v2_13 I_12) → P58 t_11 I_12) → ∀ (P49 : Prop), ((P58 1 I_4) → P49) → (if v3_10 = 9 then P49 else (if v3_10 = 10 then P49 else (if v3_10 = 13 then P49 else (if v3_10 = 32 then P49 else (w_M_tokenAt v2_3 I_4 (fun r_14 I_15 => P58 r_14 I_15)))))))))) → P12 v2_3 I_4) → P12 0 I_2
theorem dyX12_cutsUp_0 : decode cX12_cutsUp 0 = .ok (.aload_n 0, 1) := by decide +kernel
theorem dyX12_cutsUp_1 : decode cX12_cutsUp 1 = .ok (.iload_n 1, 1) := by decide +kernel
theorem dyX12_cutsUp_2 : decode cX12_cutsUp 2 = .ok (.putfield 205, 3) := by decide +kernel
theorem dyX12_cutsUp_5 : decode cX12_cutsUp 5 = .ok (.aload_n 0, 1) := by decide +kernel
theorem dyX12_cutsUp_6 : decode cX12_cutsUp 6 = .ok (.iconst 0, 1) := by decide +kernel
theorem dyX12_cutsUp_7 : decode cX12_cutsUp 7 = .ok (.putfield 212, 3) := by decide +kernel
theorem dyX12_cutsUp_10 : decode cX12_cutsUp 10 = .ok (.iconst 0, 1) := by decide +kernel
theorem dyX12_cutsUp_11 : decode cX12_cutsUp 11 = .ok (.istore_n 2, 1) := by decide +kernel
theorem dyX12_cutsUp_12 : decode cX12_cutsUp 12 = .ok (.iload_n 2, 1) := by decide +kernel
theorem dyX12_cutsUp_13 : decode cX12_cutsUp 13 = .ok (.iload_n 1, 1) := by decide +kernel
theorem dyX12_cutsUp_14 : decode cX12_cutsUp 14 = .ok (.if_icmp .ge 49, 3) := by decide +kernel
theorem dyX12_cutsUp_17 : decode cX12_cutsUp 17 = .ok (.aload_n 0, 1) := by decide +kernel
theorem dyX12_cutsUp_18 : decode cX12_cutsUp 18 = .ok (.getfield 13, 3) := by decide +kernel
theorem dyX12_cutsUp_21 : decode cX12_cutsUp 21 = .ok (.iload_n 2, 1) := by decide +kernel
theorem dyX12_cutsUp_22 : decode cX12_cutsUp 22 = .ok (.iaload, 1) := by decide +kernel
theorem dyX12_cutsUp_23 : decode cX12_cutsUp 23 = .ok (.istore_n 3, 1) := by decide +kernel
theorem dyX12_cutsUp_24 : decode cX12_cutsUp 24 = .ok (.iload_n 2, 1) := by decide +kernel
theorem dyX12_cutsUp_25 : decode cX12_cutsUp 25 = .ok (.iload_n 3, 1) := by decide +kernel
theorem dyX12_cutsUp_26 : decode cX12_cutsUp 26 = .ok (.bipush 9, 2) := by decide +kernel
theorem dyX12_cutsUp_28 : decode cX12_cutsUp 28 = .ok (.if_icmp .eq 21, 3) := by decide +kernel
theorem dyX12_cutsUp_31 : decode cX12_cutsUp 31 = .ok (.iload_n 3, 1) := by decide +kernel
theorem dyX12_cutsUp_32 : decode cX12_cutsUp 32 = .ok (.bipush 10, 2) := by decide +kernel
theorem dyX12_cutsUp_34 : decode cX12_cutsUp 34 = .ok (.if_icmp .eq 15, 3) := by decide +kernel
theorem dyX12_cutsUp_37 : decode cX12_cutsUp 37 = .ok (.iload_n 3, 1) := by decide +kernel
theorem dyX12_cutsUp_38 : decode cX12_cutsUp 38 = .ok (.bipush 13, 2) := by decide +kernel
theorem dyX12_cutsUp_40 : decode cX12_cutsUp 40 = .ok (.if_icmp .eq 9, 3) := by decide +kernel
theorem dyX12_cutsUp_43 : decode cX12_cutsUp 43 = .ok (.iload_n 3, 1) := by decide +kernel
theorem dyX12_cutsUp_44 : decode cX12_cutsUp 44 = .ok (.bipush 32, 2) := by decide +kernel
theorem dyX12_cutsUp_46 : decode cX12_cutsUp 46 = .ok (.if_icmp .ne 7, 3) := by decide +kernel
theorem dyX12_cutsUp_49 : decode cX12_cutsUp 49 = .ok (.iconst 1, 1) := by decide +kernel
theorem dyX12_cutsUp_50 : decode cX12_cutsUp 50 = .ok (.goto 8, 3) := by decide +kernel
theorem dyX12_cutsUp_53 : decode cX12_cutsUp 53 = .ok (.aload_n 0, 1) := by decide +kernel
theorem dyX12_cutsUp_54 : decode cX12_cutsUp 54 = .ok (.iload_n 2, 1) := by decide +kernel
theorem dyX12_cutsUp_55 : decode cX12_cutsUp 55 = .ok (.invokevirtual 229, 3) := by decide +kernel
theorem dyX12_cutsUp_58 : decode cX12_cutsUp 58 = .ok (.iadd, 1) := by decide +kernel
theorem dyX12_cutsUp_59 : decode cX12_cutsUp 59 = .ok (.istore_n 2, 1) := by decide +kernel
theorem dyX12_cutsUp_60 : decode cX12_cutsUp 60 = .ok (.goto (-48), 3) := by decide +kernel
theorem dyX12_cutsUp_63 : decode cX12_cutsUp 63 = .ok (.aload_n 0, 1) := by decide +kernel
theorem dyX12_cutsUp_64 : decode cX12_cutsUp 64 = .ok (.getfield 22, 3) := by decide +kernel
theorem dyX12_cutsUp_67 : decode cX12_cutsUp 67 = .ok (.aload_n 0, 1) := by decide +kernel
theorem dyX12_cutsUp_68 : decode cX12_cutsUp 68 = .ok (.getfield 212, 3) := by decide +kernel
theorem dyX12_cutsUp_71 : decode cX12_cutsUp 71 = .ok (.bipush 10, 2) := by decide +kernel
theorem dyX12_cutsUp_73 : decode cX12_cutsUp 73 = .ok (.iastore, 1) := by decide +kernel
theorem dyX12_cutsUp_74 : decode cX12_cutsUp 74 = .ok (.aload_n 0, 1) := by decide +kernel
theorem dyX12_cutsUp_75 : decode cX12_cutsUp 75 = .ok (.getfield 25, 3) := by decide +kernel
theorem dyX12_cutsUp_78 : decode cX12_cutsUp 78 = .ok (.aload_n 0, 1) := by decide +kernel
theorem dyX12_cutsUp_79 : decode cX12_cutsUp 79 = .ok (.getfield 212, 3) := by decide +kernel
theorem dyX12_cutsUp_82 : decode cX12_cutsUp 82 = .ok (.iload_n 1, 1) := by decide +kernel
theorem dyX12_cutsUp_83 : decode cX12_cutsUp 83 = .ok (.iastore, 1) := by decide +kernel
theorem dyX12_cutsUp_84 : decode cX12_cutsUp 84 = .ok (.aload_n 0, 1) := by decide +kernel
theorem dyX12_cutsUp_85 : decode cX12_cutsUp 85 = .ok (.getfield 28, 3) := by decide +kernel
theorem dyX12_cutsUp_88 : decode cX12_cutsUp 88 = .ok (.aload_n 0, 1) := by decide +kernel
theorem dyX12_cutsUp_89 : decode cX12_cutsUp 89 = .ok (.getfield 212, 3) := by decide +kernel
theorem dyX12_cutsUp_92 : decode cX12_cutsUp 92 = .ok (.iconst 0, 1) := by decide +kernel
theorem dyX12_cutsUp_93 : decode cX12_cutsUp 93 = .ok (.iastore, 1) := by decide +kernel
theorem dyX12_cutsUp_94 : decode cX12_cutsUp 94 = .ok (.aload_n 0, 1) := by decide +kernel
theorem dyX12_cutsUp_95 : decode cX12_cutsUp 95 = .ok (.getfield 31, 3) := by decide +kernel
theorem dyX12_cutsUp_98 : decode cX12_cutsUp 98 = .ok (.aload_n 0, 1) := by decide +kernel
theorem dyX12_cutsUp_99 : decode cX12_cutsUp 99 = .ok (.getfield 212, 3) := by decide +kernel
theorem dyX12_cutsUp_102 : decode cX12_cutsUp 102 = .ok (.lconst 0, 1) := by decide +kernel
theorem dyX12_cutsUp_103 : decode cX12_cutsUp 103 = .ok (.lastore, 1) := by decide +kernel
theorem dyX12_cutsUp_104 : decode cX12_cutsUp 104 = .ok (.aload_n 0, 1) := by decide +kernel
theorem dyX12_cutsUp_105 : decode cX12_cutsUp 105 = .ok (.dup, 1) := by decide +kernel
theorem dyX12_cutsUp_106 : decode cX12_cutsUp 106 = .ok (.getfield 212, 3) := by decide +kernel
theorem dyX12_cutsUp_109 : decode cX12_cutsUp 109 = .ok (.iconst 1, 1) := by decide +kernel
theorem dyX12_cutsUp_110 : decode cX12_cutsUp 110 = .ok (.iadd, 1) := by decide +kernel
theorem dyX12_cutsUp_111 : decode cX12_cutsUp 111 = .ok (.putfield 212, 3) := by decide +kernel
theorem dyX12_cutsUp_114 : decode cX12_cutsUp 114 = .ok (.return_, 1) := by decide +kernel
theorem zsg_yX12_cutsUp : yX12_cutsUp.cls = RX12 ∧ yX12_cutsUp.cls ≠ "java/lang/invoke/MethodHandle" ∧ yX12_cutsUp.cls ≠ "java/lang/invoke/VarHandle" ∧ (parseMethodDescriptor yX12_cutsUp.desc).map (fun d => d.parameters.length) = some 1 := by decide +kernel
set_option maxRecDepth 20000 in
theorem c_M_cutsUp {l : Launch} {D : va_G} {B : Nat} {cA : Nat → ClassId} {ad : Nat → Nat} {S : List zC} (hS : zOkM S) {a1 : Int32} {I : zI} {K : zI → Prop}  (h : w_M_cutsUp a1 I K) : Met l yX12_cutsUp (zws yX12_cutsUp cX12_cutsUp 4 none) (zrm 2 48) (zPc D B cA ad [.ref (B + 491), .int a1] S I) (zQc D B cA (zqV S K)) 0 0 (fun q => B ≤ q) := by
  refine zm_of (cc := cX12_cutsUp) (maxL := 4) (ret := none) (by decide +kernel) rfl (Nat.le_of_ble_eq_true rfl) trivial ?_
  intro p e s m args below meth c C _
  unfold w_M_cutsUp at h
  show zX p l e (zrm 2 48) s m args below meth c (MQ below (zQc D B cA (zqV S K)) args s 0 0 (fun q => B ≤ q)) D B cA 4 0 0 S I [(0, .ref (B + 491)), (1, .int a1)] [] 0
  refine zr_aload_n C dyX12_cutsUp_0 rfl 0 rfl ?_
  refine zr_iload_n C dyX12_cutsUp_1 rfl 1 rfl ?_
  refine zp_12_205 C hS dyX12_cutsUp_2 ?_
  refine zn_mem C (fun I_1 eI_1 => ?_)
  replace h := h I_1 eI_1
  refine zr_aload_n C dyX12_cutsUp_5 rfl 0 rfl ?_
  refine zr_iconst C dyX12_cutsUp_6 zc_i_0 ?_
  refine zp_12_212 C hS dyX12_cutsUp_7 ?_
  refine zn_mem C (fun I_2 eI_2 => ?_)
  replace h := h I_2 eI_2
  refine zr_iconst C dyX12_cutsUp_10 zc_i_0 ?_
  refine zr_istore_n C dyX12_cutsUp_11 rfl (Nat.le_of_ble_eq_true rfl) (lv2 := [(2, .int 0), (0, .ref (B + 491)), (1, .int a1)]) rfl ?_
  refine zjn (h (fun (v2_3 : Int32) (I_4 : zI) => zX p l e (zrm 2 48) s m args below meth c (MQ below (zQc D B cA (zqV S K)) args s 0 0 (fun q => B ≤ q)) D B cA 4 0 0 S I_4 [(2, .int v2_3), (0, .ref (B + 491)), (1, .int a1)] [] 12) (fun v2_3 I_4 h => ?_)) (fun h => ?_)
  · refine zr_iload_n C dyX12_cutsUp_12 rfl 0 rfl ?_
    refine zr_iload_n C dyX12_cutsUp_13 rfl 2 rfl ?_
    refine zr_icmp_ge C dyX12_cutsUp_14 (tgt := 63) (by decide) (fun hc_20 => ?_) (fun hc_20 => ?_)
    · replace h := zif_pos hc_20 h
      refine zr_aload_n C dyX12_cutsUp_63 rfl 1 rfl ?_
      refine zg_12_22 C hS dyX12_cutsUp_64 ?_
      refine zr_aload_n C dyX12_cutsUp_67 rfl 1 rfl ?_
      refine zg_12_212 C hS dyX12_cutsUp_68 ?_
      refine zr_bipush C dyX12_cutsUp_71 zc_b_10 ?_
      refine zr_iast C (hS _ _ zs_496) h.1 dyX12_cutsUp_73 ?_
      replace h := h.2
      refine zn_mem C (fun I_5 eI_5 => ?_)
      replace h := h I_5 eI_5
      refine zr_aload_n C dyX12_cutsUp_74 rfl 1 rfl ?_
      refine zg_12_25 C hS dyX12_cutsUp_75 ?_
      refine zr_aload_n C dyX12_cutsUp_78 rfl 1 rfl ?_
      refine zg_12_212 C hS dyX12_cutsUp_79 ?_
      refine zr_iload_n C dyX12_cutsUp_82 rfl 2 rfl ?_
      refine zr_iast C (hS _ _ zs_497) h.1 dyX12_cutsUp_83 ?_
      replace h := h.2
      refine zn_mem C (fun I_6 eI_6 => ?_)
      replace h := h I_6 eI_6
      refine zr_aload_n C dyX12_cutsUp_84 rfl 1 rfl ?_
      refine zg_12_28 C hS dyX12_cutsUp_85 ?_
      refine zr_aload_n C dyX12_cutsUp_88 rfl 1 rfl ?_
      refine zg_12_212 C hS dyX12_cutsUp_89 ?_
      refine zr_iconst C dyX12_cutsUp_92 zc_i_0 ?_
      refine zr_iast C (hS _ _ zs_498) h.1 dyX12_cutsUp_93 ?_
      replace h := h.2
      refine zn_mem C (fun I_7 eI_7 => ?_)
      replace h := h I_7 eI_7
      refine zr_aload_n C dyX12_cutsUp_94 rfl 1 rfl ?_
      refine zg_12_31 C hS dyX12_cutsUp_95 ?_
      refine zr_aload_n C dyX12_cutsUp_98 rfl 1 rfl ?_
      refine zg_12_212 C hS dyX12_cutsUp_99 ?_
      refine zr_lconst C dyX12_cutsUp_102 rfl ?_
      refine zr_last C (hS _ _ zs_499) h.1 dyX12_cutsUp_103 ?_
      replace h := h.2
      refine zn_mem C (fun I_8 eI_8 => ?_)
      replace h := h I_8 eI_8
      refine zr_aload_n C dyX12_cutsUp_104 rfl 1 rfl ?_
      refine zr_dup C dyX12_cutsUp_105 rfl ?_
      refine zg_12_212 C hS dyX12_cutsUp_106 ?_
      refine zr_iconst C dyX12_cutsUp_109 zc_i_1 ?_
      refine zr_iadd C dyX12_cutsUp_110 ?_
      refine zp_12_212 C hS dyX12_cutsUp_111 ?_
      refine zn_mem C (fun I_9 eI_9 => ?_)
      replace h := h I_9 eI_9
      exact zr_vret C rfl dyX12_cutsUp_114 ⟨rfl, rfl, h⟩
    · replace h := zif_neg hc_20 h
      refine zr_aload_n C dyX12_cutsUp_17 rfl 1 rfl ?_
      refine zg_12_13 C hS dyX12_cutsUp_18 ?_
      refine zr_iload_n C dyX12_cutsUp_21 rfl 0 rfl ?_
      refine zr_iald C (hS _ _ zs_493) h.1 dyX12_cutsUp_22 ?_
      replace h := h.2
      refine zn_istore_n C (fun v3_10 => [(3, .int v3_10), (2, .int v2_3), (0, .ref (B + 491)), (1, .int a1)]) dyX12_cutsUp_23 rfl (Nat.le_of_ble_eq_true rfl) (fun _ => rfl) (fun v3_10 ev3_10 => ?_)
      replace h := h v3_10 ev3_10
      refine zr_iload_n C dyX12_cutsUp_24 rfl 1 rfl ?_
      refine zr_iload_n C dyX12_cutsUp_25 rfl 0 rfl ?_
      refine zr_bipush C dyX12_cutsUp_26 zc_b_9 ?_
      refine zjn (h (fun (t_11 : Int32) (I_12 : zI) => zX p l e (zrm 2 48) s m args below meth c (MQ below (zQc D B cA (zqV S K)) args s 0 0 (fun q => B ≤ q)) D B cA 4 0 0 S I_12 [(0, .ref (B + 491)), (1, .int a1)] [.int t_11, .int v2_3] 58) (fun t_11 I_12 h => ?_)) (fun h => ?_)
      · refine zr_iadd C dyX12_cutsUp_58 ?_
        refine zn_istore_n C (fun v2_13 => [(2, .int v2_13), (0, .ref (B + 491)), (1, .int a1)]) dyX12_cutsUp_59 rfl (Nat.le_of_ble_eq_true rfl) (fun _ => rfl) (fun v2_13 ev2_13 => ?_)
        replace h := h v2_13 ev2_13
        refine zr_goto C dyX12_cutsUp_60 (tgt := 12) (by decide) ?_
        exact h
      refine zjn (h (zX p l e (zrm 2 48) s m args below meth c (MQ below (zQc D B cA (zqV S K)) args s 0 0 (fun q => B ≤ q)) D B cA 4 0 0 S I_4 [(0, .ref (B + 491)), (1, .int a1)] [.int v2_3] 49) (fun  h => ?_)) (fun h => ?_)
      · refine zr_iconst C dyX12_cutsUp_49 zc_i_1 ?_
        refine zr_goto C dyX12_cutsUp_50 (tgt := 58) (by decide) ?_
        exact h
      refine zr_icmp_eq C dyX12_cutsUp_28 (tgt := 49) (by decide) (fun hc_19 => ?_) (fun hc_19 => ?_)
      · replace h := zif_pos hc_19 h
        refine zr_sub (lv2 := [(0, .ref (B + 491)), (1, .int a1)]) [2, 3] rfl ?_
        exact h
      · replace h := zif_neg hc_19 h
        refine zr_iload_n C dyX12_cutsUp_31 rfl 0 rfl ?_
        refine zr_bipush C dyX12_cutsUp_32 zc_b_10 ?_
        refine zr_icmp_eq C dyX12_cutsUp_34 (tgt := 49) (by decide) (fun hc_18 => ?_) (fun hc_18 => ?_)
        · replace h := zif_pos hc_18 h
          refine zr_sub (lv2 := [(0, .ref (B + 491)), (1, .int a1)]) [2, 3] rfl ?_
          exact h
        · replace h := zif_neg hc_18 h
          refine zr_iload_n C dyX12_cutsUp_37 rfl 0 rfl ?_
          refine zr_bipush C dyX12_cutsUp_38 zc_b_13 ?_
          refine zr_icmp_eq C dyX12_cutsUp_40 (tgt := 49) (by decide) (fun hc_17 => ?_) (fun hc_17 => ?_)
          · replace h := zif_pos hc_17 h
            refine zr_sub (lv2 := [(0, .ref (B + 491)), (1, .int a1)]) [2, 3] rfl ?_
            exact h
          · replace h := zif_neg hc_17 h
            refine zr_iload_n C dyX12_cutsUp_43 rfl 0 rfl ?_
            refine zr_bipush C dyX12_cutsUp_44 zc_b_32 ?_
            refine zr_icmp_ne C dyX12_cutsUp_46 (tgt := 53) (by decide) (fun hc_16 => ?_) (fun hc_16 => ?_)
            · replace h := zif_neg hc_16 h
              refine zr_aload_n C dyX12_cutsUp_53 rfl 2 rfl ?_
              refine zr_iload_n C dyX12_cutsUp_54 rfl 1 rfl ?_
              refine zv_12_229 C hS (st := [.int v2_3]) h ⟨Nat.le_of_ble_eq_true rfl, Nat.le_of_ble_eq_true rfl⟩ (Nat.le_of_ble_eq_true rfl) dyX12_cutsUp_55 (fun r_14 I_15 h => ?_)
              refine zr_sub (lv2 := [(0, .ref (B + 491)), (1, .int a1)]) [2, 3] rfl ?_
              exact h
            · replace h := zif_pos hc_16 h
              refine zr_sub (lv2 := [(0, .ref (B + 491)), (1, .int a1)]) [2, 3] rfl ?_
              exact h
  exact h
theorem zp_12_241 {p : Program} {l : Launch} {e : Env} {R : Room} {s : State} {m : MethodId} {args : Array Value} {below : List Frame} {meth : Method} {c : Code} {Q : State → Prop} {D : va_G} {B : Nat} {cA : Nat → ClassId} {ad : Nat → Nat} {cc : ByteArray} {nL : Nat} {ret : Option FieldType} {S : List zC} {I : zI} {lv : List (Nat × Value)} {st : List Value} {pc : Nat} (C : zCx p s m args meth c cc nL RX12 ret D B cA ad) (hS : zOkM S) {v : Int32} (hd : decode cc pc = .ok (.putfield 241, 3)) (kk : zX p l e R s m args below meth c Q D B cA nL 0 0 S (zu I 491 7 v) lv st (pc + 3)) : zX p l e R s m args below meth c Q D B cA nL 0 0 S I lv (.int v :: .ref (B + 491) :: st) pc :=
  zr_puti C (ci := 12) (Cn := RX12) (T := TX12) (N := 82) (k := 491) (j := 7) (fs := [none, some (some 492), some (some 493), none, some (some 494), none, some (some 495), none, none, none, some (some 496), some (some 497), some (some 498), some (some 499), some (some 500), none, some (some 501), some (some 502), some (some 503), none, some (some 504), some (some 505), some (some 506), some (some 507), some (some 508), none, some (some 509), some (some 510), some (some 511), some (some 512), some (some 513), some (some 514), some (some 515), some (some 516), some (some 517), some (some 518), none, none, some (some 519), none, some (some 520), none, none, none, some (some 521), some (some 522), some (some 523), some (some 524), some (some 525), some (some 526), some (some 527), none, some (some 528), none, some (some 529), none, some (some 530), some (some 531), some (some 532), none, some (some 533), some (some 534), some (some 535), some (some 536), some (some 537), none, none, none, some (some 538), some (some 539), some (some 540), none, none, none, some (some 541), none, none, some (some 542), some (some 543), some (some 544), none, some (some 545)]) rfl zin_12 (Nat.le_of_ble_eq_true rfl) rfl (hS _ _ zs_491) rfl tyX12 tyX12_ok nmX12 (ty := .int) zpd_I rfl rfl rfl zk_fl_12_241 hd kk
theorem zp_12_244 {p : Program} {l : Launch} {e : Env} {R : Room} {s : State} {m : MethodId} {args : Array Value} {below : List Frame} {meth : Method} {c : Code} {Q : State → Prop} {D : va_G} {B : Nat} {cA : Nat → ClassId} {ad : Nat → Nat} {cc : ByteArray} {nL : Nat} {ret : Option FieldType} {S : List zC} {I : zI} {lv : List (Nat × Value)} {st : List Value} {pc : Nat} (C : zCx p s m args meth c cc nL RX12 ret D B cA ad) (hS : zOkM S) {v : Int32} (hd : decode cc pc = .ok (.putfield 244, 3)) (kk : zX p l e R s m args below meth c Q D B cA nL 0 0 S (zu I 491 19 v) lv st (pc + 3)) : zX p l e R s m args below meth c Q D B cA nL 0 0 S I lv (.int v :: .ref (B + 491) :: st) pc :=
  zr_puti C (ci := 12) (Cn := RX12) (T := TX12) (N := 82) (k := 491) (j := 19) (fs := [none, some (some 492), some (some 493), none, some (some 494), none, some (some 495), none, none, none, some (some 496), some (some 497), some (some 498), some (some 499), some (some 500), none, some (some 501), some (some 502), some (some 503), none, some (some 504), some (some 505), some (some 506), some (some 507), some (some 508), none, some (some 509), some (some 510), some (some 511), some (some 512), some (some 513), some (some 514), some (some 515), some (some 516), some (some 517), some (some 518), none, none, some (some 519), none, some (some 520), none, none, none, some (some 521), some (some 522), some (some 523), some (some 524), some (some 525), some (some 526), some (some 527), none, some (some 528), none, some (some 529), none, some (some 530), some (some 531), some (some 532), none, some (some 533), some (some 534), some (some 535), some (some 536), some (some 537), none, none, none, some (some 538), some (some 539), some (some 540), none, none, none, some (some 541), none, none, some (some 542), some (some 543), some (some 544), none, some (some 545)]) rfl zin_12 (Nat.le_of_ble_eq_true rfl) rfl (hS _ _ zs_491) rfl tyX12 tyX12_ok nmX12 (ty := .int) zpd_I rfl rfl rfl zk_fl_12_244 hd kk
theorem zg_12_47 {p : Program} {l : Launch} {e : Env} {R : Room} {s : State} {m : MethodId} {args : Array Value} {below : List Frame} {meth : Method} {c : Code} {Q : State → Prop} {D : va_G} {B : Nat} {cA : Nat → ClassId} {ad : Nat → Nat} {cc : ByteArray} {nL : Nat} {ret : Option FieldType} {S : List zC} {I : zI} {lv : List (Nat × Value)} {st : List Value} {pc : Nat} (C : zCx p s m args meth c cc nL RX12 ret D B cA ad) (hS : zOkM S) (hd : decode cc pc = .ok (.getfield 47, 3)) (kk : zX p l e R s m args below meth c Q D B cA nL 0 0 S I lv (.ref (B + 504) :: st) (pc + 3)) : zX p l e R s m args below meth c Q D B cA nL 0 0 S I lv (.ref (B + 491) :: st) pc :=
  zr_getr C (ci := 12) (Cn := RX12) (T := TX12) (N := 82) (k := 491) (j := 20) (fs := [none, some (some 492), some (some 493), none, some (some 494), none, some (some 495), none, none, none, some (some 496), some (some 497), some (some 498), some (some 499), some (some 500), none, some (some 501), some (some 502), some (some 503), none, some (some 504), some (some 505), some (some 506), some (some 507), some (some 508), none, some (some 509), some (some 510), some (some 511), some (some 512), some (some 513), some (some 514), some (some 515), some (some 516), some (some 517), some (some 518), none, none, some (some 519), none, some (some 520), none, none, none, some (some 521), some (some 522), some (some 523), some (some 524), some (some 525), some (some 526), some (some 527), none, some (some 528), none, some (some 529), none, some (some 530), some (some 531), some (some 532), none, some (some 533), some (some 534), some (some 535), some (some 536), some (some 537), none, none, none, some (some 538), some (some 539), some (some 540), none, none, none, some (some 541), none, none, some (some 542), some (some 543), some (some 544), none, some (some 545)]) rfl zin_12 (Nat.le_of_ble_eq_true rfl) rfl (hS _ _ zs_491) rfl zk_fl_12_47 hd kk
theorem zg_12_50 {p : Program} {l : Launch} {e : Env} {R : Room} {s : State} {m : MethodId} {args : Array Value} {below : List Frame} {meth : Method} {c : Code} {Q : State → Prop} {D : va_G} {B : Nat} {cA : Nat → ClassId} {ad : Nat → Nat} {cc : ByteArray} {nL : Nat} {ret : Option FieldType} {S : List zC} {I : zI} {lv : List (Nat × Value)} {st : List Value} {pc : Nat} (C : zCx p s m args meth c cc nL RX12 ret D B cA ad) (hS : zOkM S) (hd : decode cc pc = .ok (.getfield 50, 3)) (kk : zX p l e R s m args below meth c Q D B cA nL 0 0 S I lv (.ref (B + 505) :: st) (pc + 3)) : zX p l e R s m args below meth c Q D B cA nL 0 0 S I lv (.ref (B + 491) :: st) pc :=
  zr_getr C (ci := 12) (Cn := RX12) (T := TX12) (N := 82) (k := 491) (j := 21) (fs := [none, some (some 492), some (some 493), none, some (some 494), none, some (some 495), none, none, none, some (some 496), some (some 497), some (some 498), some (some 499), some (some 500), none, some (some 501), some (some 502), some (some 503), none, some (some 504), some (some 505), some (some 506), some (some 507), some (some 508), none, some (some 509), some (some 510), some (some 511), some (some 512), some (some 513), some (some 514), some (some 515), some (some 516), some (some 517), some (some 518), none, none, some (some 519), none, some (some 520), none, none, none, some (some 521), some (some 522), some (some 523), some (some 524), some (some 525), some (some 526), some (some 527), none, some (some 528), none, some (some 529), none, some (some 530), some (some 531), some (some 532), none, some (some 533), some (some 534), some (some 535), some (some 536), some (some 537), none, none, none, some (some 538), some (some 539), some (some 540), none, none, none, some (some 541), none, none, some (some 542), some (some 543), some (some 544), none, some (some 545)]) rfl zin_12 (Nat.le_of_ble_eq_true rfl) rfl (hS _ _ zs_491) rfl zk_fl_12_50 hd kk
theorem zg_12_53 {p : Program} {l : Launch} {e : Env} {R : Room} {s : State} {m : MethodId} {args : Array Value} {below : List Frame} {meth : Method} {c : Code} {Q : State → Prop} {D : va_G} {B : Nat} {cA : Nat → ClassId} {ad : Nat → Nat} {cc : ByteArray} {nL : Nat} {ret : Option FieldType} {S : List zC} {I : zI} {lv : List (Nat × Value)} {st : List Value} {pc : Nat} (C : zCx p s m args meth c cc nL RX12 ret D B cA ad) (hS : zOkM S) (hd : decode cc pc = .ok (.getfield 53, 3)) (kk : zX p l e R s m args below meth c Q D B cA nL 0 0 S I lv (.ref (B + 506) :: st) (pc + 3)) : zX p l e R s m args below meth c Q D B cA nL 0 0 S I lv (.ref (B + 491) :: st) pc :=
  zr_getr C (ci := 12) (Cn := RX12) (T := TX12) (N := 82) (k := 491) (j := 22) (fs := [none, some (some 492), some (some 493), none, some (some 494), none, some (some 495), none, none, none, some (some 496), some (some 497), some (some 498), some (some 499), some (some 500), none, some (some 501), some (some 502), some (some 503), none, some (some 504), some (some 505), some (some 506), some (some 507), some (some 508), none, some (some 509), some (some 510), some (some 511), some (some 512), some (some 513), some (some 514), some (some 515), some (some 516), some (some 517), some (some 518), none, none, some (some 519), none, some (some 520), none, none, none, some (some 521), some (some 522), some (some 523), some (some 524), some (some 525), some (some 526), some (some 527), none, some (some 528), none, some (some 529), none, some (some 530), some (some 531), some (some 532), none, some (some 533), some (some 534), some (some 535), some (some 536), some (some 537), none, none, none, some (some 538), some (some 539), some (some 540), none, none, none, some (some 541), none, none, some (some 542), some (some 543), some (some 544), none, some (some 545)]) rfl zin_12 (Nat.le_of_ble_eq_true rfl) rfl (hS _ _ zs_491) rfl zk_fl_12_53 hd kk
theorem zg_12_56 {p : Program} {l : Launch} {e : Env} {R : Room} {s : State} {m : MethodId} {args : Array Value} {below : List Frame} {meth : Method} {c : Code} {Q : State → Prop} {D : va_G} {B : Nat} {cA : Nat → ClassId} {ad : Nat → Nat} {cc : ByteArray} {nL : Nat} {ret : Option FieldType} {S : List zC} {I : zI} {lv : List (Nat × Value)} {st : List Value} {pc : Nat} (C : zCx p s m args meth c cc nL RX12 ret D B cA ad) (hS : zOkM S) (hd : decode cc pc = .ok (.getfield 56, 3)) (kk : zX p l e R s m args below meth c Q D B cA nL 0 0 S I lv (.ref (B + 507) :: st) (pc + 3)) : zX p l e R s m args below meth c Q D B cA nL 0 0 S I lv (.ref (B + 491) :: st) pc :=
  zr_getr C (ci := 12) (Cn := RX12) (T := TX12) (N := 82) (k := 491) (j := 23) (fs := [none, some (some 492), some (some 493), none, some (some 494), none, some (some 495), none, none, none, some (some 496), some (some 497), some (some 498), some (some 499), some (some 500), none, some (some 501), some (some 502), some (some 503), none, some (some 504), some (some 505), some (some 506), some (some 507), some (some 508), none, some (some 509), some (some 510), some (some 511), some (some 512), some (some 513), some (some 514), some (some 515), some (some 516), some (some 517), some (some 518), none, none, some (some 519), none, some (some 520), none, none, none, some (some 521), some (some 522), some (some 523), some (some 524), some (some 525), some (some 526), some (some 527), none, some (some 528), none, some (some 529), none, some (some 530), some (some 531), some (some 532), none, some (some 533), some (some 534), some (some 535), some (some 536), some (some 537), none, none, none, some (some 538), some (some 539), some (some 540), none, none, none, some (some 541), none, none, some (some 542), some (some 543), some (some 544), none, some (some 545)]) rfl zin_12 (Nat.le_of_ble_eq_true rfl) rfl (hS _ _ zs_491) rfl zk_fl_12_56 hd kk
theorem zg_12_19 {p : Program} {l : Launch} {e : Env} {R : Room} {s : State} {m : MethodId} {args : Array Value} {below : List Frame} {meth : Method} {c : Code} {Q : State → Prop} {D : va_G} {B : Nat} {cA : Nat → ClassId} {ad : Nat → Nat} {cc : ByteArray} {nL : Nat} {ret : Option FieldType} {S : List zC} {I : zI} {lv : List (Nat × Value)} {st : List Value} {pc : Nat} (C : zCx p s m args meth c cc nL RX12 ret D B cA ad) (hS : zOkM S) (hd : decode cc pc = .ok (.getfield 19, 3)) (kk : zX p l e R s m args below meth c Q D B cA nL 0 0 S I lv (.ref (B + 495) :: st) (pc + 3)) : zX p l e R s m args below meth c Q D B cA nL 0 0 S I lv (.ref (B + 491) :: st) pc :=
  zr_getr C (ci := 12) (Cn := RX12) (T := TX12) (N := 82) (k := 491) (j := 6) (fs := [none, some (some 492), some (some 493), none, some (some 494), none, some (some 495), none, none, none, some (some 496), some (some 497), some (some 498), some (some 499), some (some 500), none, some (some 501), some (some 502), some (some 503), none, some (some 504), some (some 505), some (some 506), some (some 507), some (some 508), none, some (some 509), some (some 510), some (some 511), some (some 512), some (some 513), some (some 514), some (some 515), some (some 516), some (some 517), some (some 518), none, none, some (some 519), none, some (some 520), none, none, none, some (some 521), some (some 522), some (some 523), some (some 524), some (some 525), some (some 526), some (some 527), none, some (some 528), none, some (some 529), none, some (some 530), some (some 531), some (some 532), none, some (some 533), some (some 534), some (some 535), some (some 536), some (some 537), none, none, none, some (some 538), some (some 539), some (some 540), none, none, none, some (some 541), none, none, some (some 542), some (some 543), some (some 544), none, some (some 545)]) rfl zin_12 (Nat.le_of_ble_eq_true rfl) rfl (hS _ _ zs_491) rfl zk_fl_12_19 hd kk
def w_M_keepsGood  (I : zI) (K : zI → Prop) : Prop :=
  ∀ I_1, I_1 = (zu I 491 7 (I.1 491 3)) → ∀ I_2, I_2 = (zu I_1 491 19 (I_1.1 491 9)) → ∀ (P18 : Int32 → zI → Prop), (∀ (v1_3 : Int32) (I_4 : zI), ((if (I_4.1 491 3) ≤ v1_3 then (∀ (P46 : Int32 → zI → Prop), (∀ (v1_5 : Int32) (I_6 : zI), ((if (I_6.1 491 9) ≤ v1_5 then K I_6 else (vp_in v1_5 710 ∧ (vp_in v1_5 110 ∧ (∀ I_7, I_7 = (zu I_6 504 (Int32.toNatClampNeg v1_5) (I_6.1 496 (Int32.toNatClampNeg v1_5))) → vp_in v1_5 710 ∧ (vp_in v1_5 110 ∧ (∀ I_8, I_8 = (zu I_7 505 (Int32.toNatClampNeg v1_5) (I_7.1 497 (Int32.toNatClampNeg v1_5))) → vp_in v1_5 710 ∧ (vp_in v1_5 110 ∧ (∀ I_9, I_9 = (zu I_8 506 (Int32.toNatClampNeg v1_5) (I_8.1 498 (Int32.toNatClampNeg v1_5))) → vp_in v1_5 710 ∧ (vp_in v1_5 110 ∧ (∀ I_10, I_10 = (zul I_9 507 (Int32.toNatClampNeg v1_5) (I_9.2 499 (Int32.toNatClampNeg v1_5))) → ∀ v1_11, v1_11 = (v1_5 + 1) → P46 v1_11 I_10))))))))))) → P46 v1_5 I_6) → P46 0 I_4) else (vp_in v1_3 700 ∧ (vp_in v1_3 300 ∧ (∀ I_13, I_13 = (zu I_4 495 (Int32.toNatClampNeg v1_3) (I_4.1 493 (Int32.toNatClampNeg v1_3))) → ∀ v1_14, v1_14 = (v1_3 + 1) → P18 v1_14 I_13))))) → P18 v1_3 I_4) → P18 0 I_2
theorem dyX12_keepsGood_0 : decode cX12_keepsGood 0 = .ok (.aload_n 0, 1) := by decide +kernel
theorem dyX12_keepsGood_1 : decode cX12_keepsGood 1 = .ok (.aload_n 0, 1) := by decide +kernel
theorem dyX12_keepsGood_2 : decode cX12_keepsGood 2 = .ok (.getfield 205, 3) := by decide +kernel
theorem dyX12_keepsGood_5 : decode cX12_keepsGood 5 = .ok (.putfield 241, 3) := by decide +kernel
theorem dyX12_keepsGood_8 : decode cX12_keepsGood 8 = .ok (.aload_n 0, 1) := by decide +kernel
theorem dyX12_keepsGood_9 : decode cX12_keepsGood 9 = .ok (.aload_n 0, 1) := by decide +kernel
theorem dyX12_keepsGood_10 : decode cX12_keepsGood 10 = .ok (.getfield 212, 3) := by decide +kernel
theorem dyX12_keepsGood_13 : decode cX12_keepsGood 13 = .ok (.putfield 244, 3) := by decide +kernel
theorem dyX12_keepsGood_16 : decode cX12_keepsGood 16 = .ok (.iconst 0, 1) := by decide +kernel
theorem dyX12_keepsGood_17 : decode cX12_keepsGood 17 = .ok (.istore_n 1, 1) := by decide +kernel
theorem dyX12_keepsGood_18 : decode cX12_keepsGood 18 = .ok (.iload_n 1, 1) := by decide +kernel
theorem dyX12_keepsGood_19 : decode cX12_keepsGood 19 = .ok (.aload_n 0, 1) := by decide +kernel
theorem dyX12_keepsGood_20 : decode cX12_keepsGood 20 = .ok (.getfield 205, 3) := by decide +kernel
theorem dyX12_keepsGood_23 : decode cX12_keepsGood 23 = .ok (.if_icmp .ge 21, 3) := by decide +kernel
theorem dyX12_keepsGood_26 : decode cX12_keepsGood 26 = .ok (.aload_n 0, 1) := by decide +kernel
theorem dyX12_keepsGood_27 : decode cX12_keepsGood 27 = .ok (.getfield 19, 3) := by decide +kernel
theorem dyX12_keepsGood_30 : decode cX12_keepsGood 30 = .ok (.iload_n 1, 1) := by decide +kernel
theorem dyX12_keepsGood_31 : decode cX12_keepsGood 31 = .ok (.aload_n 0, 1) := by decide +kernel
theorem dyX12_keepsGood_32 : decode cX12_keepsGood 32 = .ok (.getfield 13, 3) := by decide +kernel
theorem dyX12_keepsGood_35 : decode cX12_keepsGood 35 = .ok (.iload_n 1, 1) := by decide +kernel
theorem dyX12_keepsGood_36 : decode cX12_keepsGood 36 = .ok (.iaload, 1) := by decide +kernel
theorem dyX12_keepsGood_37 : decode cX12_keepsGood 37 = .ok (.iastore, 1) := by decide +kernel
theorem dyX12_keepsGood_38 : decode cX12_keepsGood 38 = .ok (.iinc 1 1, 3) := by decide +kernel
theorem dyX12_keepsGood_41 : decode cX12_keepsGood 41 = .ok (.goto (-23), 3) := by decide +kernel
theorem dyX12_keepsGood_44 : decode cX12_keepsGood 44 = .ok (.iconst 0, 1) := by decide +kernel
theorem dyX12_keepsGood_45 : decode cX12_keepsGood 45 = .ok (.istore_n 1, 1) := by decide +kernel
theorem dyX12_keepsGood_46 : decode cX12_keepsGood 46 = .ok (.iload_n 1, 1) := by decide +kernel
theorem dyX12_keepsGood_47 : decode cX12_keepsGood 47 = .ok (.aload_n 0, 1) := by decide +kernel
theorem dyX12_keepsGood_48 : decode cX12_keepsGood 48 = .ok (.getfield 212, 3) := by decide +kernel
theorem dyX12_keepsGood_51 : decode cX12_keepsGood 51 = .ok (.if_icmp .ge 57, 3) := by decide +kernel
theorem dyX12_keepsGood_54 : decode cX12_keepsGood 54 = .ok (.aload_n 0, 1) := by decide +kernel
theorem dyX12_keepsGood_55 : decode cX12_keepsGood 55 = .ok (.getfield 47, 3) := by decide +kernel
theorem dyX12_keepsGood_58 : decode cX12_keepsGood 58 = .ok (.iload_n 1, 1) := by decide +kernel
theorem dyX12_keepsGood_59 : decode cX12_keepsGood 59 = .ok (.aload_n 0, 1) := by decide +kernel
theorem dyX12_keepsGood_60 : decode cX12_keepsGood 60 = .ok (.getfield 22, 3) := by decide +kernel
theorem dyX12_keepsGood_63 : decode cX12_keepsGood 63 = .ok (.iload_n 1, 1) := by decide +kernel
theorem dyX12_keepsGood_64 : decode cX12_keepsGood 64 = .ok (.iaload, 1) := by decide +kernel
theorem dyX12_keepsGood_65 : decode cX12_keepsGood 65 = .ok (.iastore, 1) := by decide +kernel
theorem dyX12_keepsGood_66 : decode cX12_keepsGood 66 = .ok (.aload_n 0, 1) := by decide +kernel
theorem dyX12_keepsGood_67 : decode cX12_keepsGood 67 = .ok (.getfield 50, 3) := by decide +kernel
theorem dyX12_keepsGood_70 : decode cX12_keepsGood 70 = .ok (.iload_n 1, 1) := by decide +kernel
theorem dyX12_keepsGood_71 : decode cX12_keepsGood 71 = .ok (.aload_n 0, 1) := by decide +kernel
theorem dyX12_keepsGood_72 : decode cX12_keepsGood 72 = .ok (.getfield 25, 3) := by decide +kernel
theorem dyX12_keepsGood_75 : decode cX12_keepsGood 75 = .ok (.iload_n 1, 1) := by decide +kernel
theorem dyX12_keepsGood_76 : decode cX12_keepsGood 76 = .ok (.iaload, 1) := by decide +kernel
theorem dyX12_keepsGood_77 : decode cX12_keepsGood 77 = .ok (.iastore, 1) := by decide +kernel
theorem dyX12_keepsGood_78 : decode cX12_keepsGood 78 = .ok (.aload_n 0, 1) := by decide +kernel
theorem dyX12_keepsGood_79 : decode cX12_keepsGood 79 = .ok (.getfield 53, 3) := by decide +kernel
theorem dyX12_keepsGood_82 : decode cX12_keepsGood 82 = .ok (.iload_n 1, 1) := by decide +kernel
theorem dyX12_keepsGood_83 : decode cX12_keepsGood 83 = .ok (.aload_n 0, 1) := by decide +kernel
theorem dyX12_keepsGood_84 : decode cX12_keepsGood 84 = .ok (.getfield 28, 3) := by decide +kernel
theorem dyX12_keepsGood_87 : decode cX12_keepsGood 87 = .ok (.iload_n 1, 1) := by decide +kernel
theorem dyX12_keepsGood_88 : decode cX12_keepsGood 88 = .ok (.iaload, 1) := by decide +kernel
theorem dyX12_keepsGood_89 : decode cX12_keepsGood 89 = .ok (.iastore, 1) := by decide +kernel
theorem dyX12_keepsGood_90 : decode cX12_keepsGood 90 = .ok (.aload_n 0, 1) := by decide +kernel
theorem dyX12_keepsGood_91 : decode cX12_keepsGood 91 = .ok (.getfield 56, 3) := by decide +kernel
theorem dyX12_keepsGood_94 : decode cX12_keepsGood 94 = .ok (.iload_n 1, 1) := by decide +kernel
theorem dyX12_keepsGood_95 : decode cX12_keepsGood 95 = .ok (.aload_n 0, 1) := by decide +kernel
theorem dyX12_keepsGood_96 : decode cX12_keepsGood 96 = .ok (.getfield 31, 3) := by decide +kernel
theorem dyX12_keepsGood_99 : decode cX12_keepsGood 99 = .ok (.iload_n 1, 1) := by decide +kernel
theorem dyX12_keepsGood_100 : decode cX12_keepsGood 100 = .ok (.laload, 1) := by decide +kernel
theorem dyX12_keepsGood_101 : decode cX12_keepsGood 101 = .ok (.lastore, 1) := by decide +kernel
theorem dyX12_keepsGood_102 : decode cX12_keepsGood 102 = .ok (.iinc 1 1, 3) := by decide +kernel
theorem dyX12_keepsGood_105 : decode cX12_keepsGood 105 = .ok (.goto (-59), 3) := by decide +kernel
theorem dyX12_keepsGood_108 : decode cX12_keepsGood 108 = .ok (.return_, 1) := by decide +kernel
theorem zsg_yX12_keepsGood : yX12_keepsGood.cls = RX12 ∧ yX12_keepsGood.cls ≠ "java/lang/invoke/MethodHandle" ∧ yX12_keepsGood.cls ≠ "java/lang/invoke/VarHandle" ∧ (parseMethodDescriptor yX12_keepsGood.desc).map (fun d => d.parameters.length) = some 0 := by decide +kernel
set_option maxRecDepth 20000 in
theorem c_M_keepsGood {l : Launch} {D : va_G} {B : Nat} {cA : Nat → ClassId} {ad : Nat → Nat} {S : List zC} (hS : zOkM S)  {I : zI} {K : zI → Prop}  (h : w_M_keepsGood  I K) : Met l yX12_keepsGood (zws yX12_keepsGood cX12_keepsGood 2 none) (zrm 0 0) (zPc D B cA ad [.ref (B + 491)] S I) (zQc D B cA (zqV S K)) 0 0 (fun q => B ≤ q) := by
  refine zm_of (cc := cX12_keepsGood) (maxL := 2) (ret := none) (by decide +kernel) rfl (Nat.le_of_ble_eq_true rfl) trivial ?_
  intro p e s m args below meth c C _
  unfold w_M_keepsGood at h
  show zX p l e (zrm 0 0) s m args below meth c (MQ below (zQc D B cA (zqV S K)) args s 0 0 (fun q => B ≤ q)) D B cA 2 0 0 S I [(0, .ref (B + 491))] [] 0
  refine zr_aload_n C dyX12_keepsGood_0 rfl 0 rfl ?_
  refine zr_aload_n C dyX12_keepsGood_1 rfl 0 rfl ?_
  refine zg_12_205 C hS dyX12_keepsGood_2 ?_
  refine zp_12_241 C hS dyX12_keepsGood_5 ?_
  refine zn_mem C (fun I_1 eI_1 => ?_)
  replace h := h I_1 eI_1
  refine zr_aload_n C dyX12_keepsGood_8 rfl 0 rfl ?_
  refine zr_aload_n C dyX12_keepsGood_9 rfl 0 rfl ?_
  refine zg_12_212 C hS dyX12_keepsGood_10 ?_
  refine zp_12_244 C hS dyX12_keepsGood_13 ?_
  refine zn_mem C (fun I_2 eI_2 => ?_)
  replace h := h I_2 eI_2
  refine zr_iconst C dyX12_keepsGood_16 zc_i_0 ?_
  refine zr_istore_n C dyX12_keepsGood_17 rfl (Nat.le_of_ble_eq_true rfl) (lv2 := [(1, .int 0), (0, .ref (B + 491))]) rfl ?_
  refine zjn (h (fun (v1_3 : Int32) (I_4 : zI) => zX p l e (zrm 0 0) s m args below meth c (MQ below (zQc D B cA (zqV S K)) args s 0 0 (fun q => B ≤ q)) D B cA 2 0 0 S I_4 [(1, .int v1_3), (0, .ref (B + 491))] [] 18) (fun v1_3 I_4 h => ?_)) (fun h => ?_)
  · refine zr_iload_n C dyX12_keepsGood_18 rfl 0 rfl ?_
    refine zr_aload_n C dyX12_keepsGood_19 rfl 1 rfl ?_
    refine zg_12_205 C hS dyX12_keepsGood_20 ?_
    refine zr_icmp_ge C dyX12_keepsGood_23 (tgt := 44) (by decide) (fun hc_15 => ?_) (fun hc_15 => ?_)
    · replace h := zif_pos hc_15 h
      refine zr_iconst C dyX12_keepsGood_44 zc_i_0 ?_
      refine zr_istore_n C dyX12_keepsGood_45 rfl (Nat.le_of_ble_eq_true rfl) (lv2 := [(1, .int 0), (0, .ref (B + 491))]) rfl ?_
      refine zjn (h (fun (v1_5 : Int32) (I_6 : zI) => zX p l e (zrm 0 0) s m args below meth c (MQ below (zQc D B cA (zqV S K)) args s 0 0 (fun q => B ≤ q)) D B cA 2 0 0 S I_6 [(1, .int v1_5), (0, .ref (B + 491))] [] 46) (fun v1_5 I_6 h => ?_)) (fun h => ?_)
      · refine zr_iload_n C dyX12_keepsGood_46 rfl 0 rfl ?_
        refine zr_aload_n C dyX12_keepsGood_47 rfl 1 rfl ?_
        refine zg_12_212 C hS dyX12_keepsGood_48 ?_
        refine zr_icmp_ge C dyX12_keepsGood_51 (tgt := 108) (by decide) (fun hc_12 => ?_) (fun hc_12 => ?_)
        · replace h := zif_pos hc_12 h
          exact zr_vret C rfl dyX12_keepsGood_108 ⟨rfl, rfl, h⟩
        · replace h := zif_neg hc_12 h
          refine zr_aload_n C dyX12_keepsGood_54 rfl 1 rfl ?_
          refine zg_12_47 C hS dyX12_keepsGood_55 ?_
          refine zr_iload_n C dyX12_keepsGood_58 rfl 0 rfl ?_
          refine zr_aload_n C dyX12_keepsGood_59 rfl 1 rfl ?_
          refine zg_12_22 C hS dyX12_keepsGood_60 ?_
          refine zr_iload_n C dyX12_keepsGood_63 rfl 0 rfl ?_
          refine zr_iald C (hS _ _ zs_496) h.1 dyX12_keepsGood_64 ?_
          replace h := h.2
          refine zr_iast C (hS _ _ zs_504) h.1 dyX12_keepsGood_65 ?_
          replace h := h.2
          refine zn_mem C (fun I_7 eI_7 => ?_)
          replace h := h I_7 eI_7
          refine zr_aload_n C dyX12_keepsGood_66 rfl 1 rfl ?_
          refine zg_12_50 C hS dyX12_keepsGood_67 ?_
          refine zr_iload_n C dyX12_keepsGood_70 rfl 0 rfl ?_
          refine zr_aload_n C dyX12_keepsGood_71 rfl 1 rfl ?_
          refine zg_12_25 C hS dyX12_keepsGood_72 ?_
          refine zr_iload_n C dyX12_keepsGood_75 rfl 0 rfl ?_
          refine zr_iald C (hS _ _ zs_497) h.1 dyX12_keepsGood_76 ?_
          replace h := h.2
          refine zr_iast C (hS _ _ zs_505) h.1 dyX12_keepsGood_77 ?_
          replace h := h.2
          refine zn_mem C (fun I_8 eI_8 => ?_)
          replace h := h I_8 eI_8
          refine zr_aload_n C dyX12_keepsGood_78 rfl 1 rfl ?_
          refine zg_12_53 C hS dyX12_keepsGood_79 ?_
          refine zr_iload_n C dyX12_keepsGood_82 rfl 0 rfl ?_
          refine zr_aload_n C dyX12_keepsGood_83 rfl 1 rfl ?_
          refine zg_12_28 C hS dyX12_keepsGood_84 ?_
          refine zr_iload_n C dyX12_keepsGood_87 rfl 0 rfl ?_
          refine zr_iald C (hS _ _ zs_498) h.1 dyX12_keepsGood_88 ?_
          replace h := h.2
          refine zr_iast C (hS _ _ zs_506) h.1 dyX12_keepsGood_89 ?_
          replace h := h.2
          refine zn_mem C (fun I_9 eI_9 => ?_)
          replace h := h I_9 eI_9
          refine zr_aload_n C dyX12_keepsGood_90 rfl 1 rfl ?_
          refine zg_12_56 C hS dyX12_keepsGood_91 ?_
          refine zr_iload_n C dyX12_keepsGood_94 rfl 0 rfl ?_
          refine zr_aload_n C dyX12_keepsGood_95 rfl 1 rfl ?_
          refine zg_12_31 C hS dyX12_keepsGood_96 ?_
          refine zr_iload_n C dyX12_keepsGood_99 rfl 0 rfl ?_
          refine zr_lald C (hS _ _ zs_499) h.1 dyX12_keepsGood_100 ?_
          replace h := h.2
          refine zr_last C (hS _ _ zs_507) h.1 dyX12_keepsGood_101 ?_
          replace h := h.2
          refine zn_mem C (fun I_10 eI_10 => ?_)
          replace h := h I_10 eI_10
          refine zn_iinc C (fun v1_11 => [(1, .int v1_11), (0, .ref (B + 491))]) dyX12_keepsGood_102 0 rfl zc_i_1 (Nat.le_of_ble_eq_true rfl) (fun _ => rfl) (fun v1_11 ev1_11 => ?_)
          replace h := h v1_11 ev1_11
          refine zr_goto C dyX12_keepsGood_105 (tgt := 46) (by decide) ?_
          exact h
      exact h
    · replace h := zif_neg hc_15 h
      refine zr_aload_n C dyX12_keepsGood_26 rfl 1 rfl ?_
      refine zg_12_19 C hS dyX12_keepsGood_27 ?_
      refine zr_iload_n C dyX12_keepsGood_30 rfl 0 rfl ?_
      refine zr_aload_n C dyX12_keepsGood_31 rfl 1 rfl ?_
      refine zg_12_13 C hS dyX12_keepsGood_32 ?_
      refine zr_iload_n C dyX12_keepsGood_35 rfl 0 rfl ?_
      refine zr_iald C (hS _ _ zs_493) h.1 dyX12_keepsGood_36 ?_
      replace h := h.2
      refine zr_iast C (hS _ _ zs_495) h.1 dyX12_keepsGood_37 ?_
      replace h := h.2
      refine zn_mem C (fun I_13 eI_13 => ?_)
      replace h := h I_13 eI_13
      refine zn_iinc C (fun v1_14 => [(1, .int v1_14), (0, .ref (B + 491))]) dyX12_keepsGood_38 0 rfl zc_i_1 (Nat.le_of_ble_eq_true rfl) (fun _ => rfl) (fun v1_14 ev1_14 => ?_)
      replace h := h v1_14 ev1_14
      refine zr_goto C dyX12_keepsGood_41 (tgt := 18) (by decide) ?_
      exact h
  exact h
theorem zp_12_232 {p : Program} {l : Launch} {e : Env} {R : Room} {s : State} {m : MethodId} {args : Array Value} {below : List Frame} {meth : Method} {c : Code} {Q : State → Prop} {D : va_G} {B : Nat} {cA : Nat → ClassId} {ad : Nat → Nat} {cc : ByteArray} {nL : Nat} {ret : Option FieldType} {S : List zC} {I : zI} {lv : List (Nat × Value)} {st : List Value} {pc : Nat} (C : zCx p s m args meth c cc nL RX12 ret D B cA ad) (hS : zOkM S) {v : Int32} (hd : decode cc pc = .ok (.putfield 232, 3)) (kk : zX p l e R s m args below meth c Q D B cA nL 0 0 S (zu I 491 5 v) lv st (pc + 3)) : zX p l e R s m args below meth c Q D B cA nL 0 0 S I lv (.int v :: .ref (B + 491) :: st) pc :=
  zr_puti C (ci := 12) (Cn := RX12) (T := TX12) (N := 82) (k := 491) (j := 5) (fs := [none, some (some 492), some (some 493), none, some (some 494), none, some (some 495), none, none, none, some (some 496), some (some 497), some (some 498), some (some 499), some (some 500), none, some (some 501), some (some 502), some (some 503), none, some (some 504), some (some 505), some (some 506), some (some 507), some (some 508), none, some (some 509), some (some 510), some (some 511), some (some 512), some (some 513), some (some 514), some (some 515), some (some 516), some (some 517), some (some 518), none, none, some (some 519), none, some (some 520), none, none, none, some (some 521), some (some 522), some (some 523), some (some 524), some (some 525), some (some 526), some (some 527), none, some (some 528), none, some (some 529), none, some (some 530), some (some 531), some (some 532), none, some (some 533), some (some 534), some (some 535), some (some 536), some (some 537), none, none, none, some (some 538), some (some 539), some (some 540), none, none, none, some (some 541), none, none, some (some 542), some (some 543), some (some 544), none, some (some 545)]) rfl zin_12 (Nat.le_of_ble_eq_true rfl) rfl (hS _ _ zs_491) rfl tyX12 tyX12_ok nmX12 (ty := .int) zpd_I rfl rfl rfl zk_fl_12_232 hd kk
theorem zp_12_235 {p : Program} {l : Launch} {e : Env} {R : Room} {s : State} {m : MethodId} {args : Array Value} {below : List Frame} {meth : Method} {c : Code} {Q : State → Prop} {D : va_G} {B : Nat} {cA : Nat → ClassId} {ad : Nat → Nat} {cc : ByteArray} {nL : Nat} {ret : Option FieldType} {S : List zC} {I : zI} {lv : List (Nat × Value)} {st : List Value} {pc : Nat} (C : zCx p s m args meth c cc nL RX12 ret D B cA ad) (hS : zOkM S) {v : Int32} (hd : decode cc pc = .ok (.putfield 235, 3)) (kk : zX p l e R s m args below meth c Q D B cA nL 0 0 S (zu I 491 15 v) lv st (pc + 3)) : zX p l e R s m args below meth c Q D B cA nL 0 0 S I lv (.int v :: .ref (B + 491) :: st) pc :=
  zr_puti C (ci := 12) (Cn := RX12) (T := TX12) (N := 82) (k := 491) (j := 15) (fs := [none, some (some 492), some (some 493), none, some (some 494), none, some (some 495), none, none, none, some (some 496), some (some 497), some (some 498), some (some 499), some (some 500), none, some (some 501), some (some 502), some (some 503), none, some (some 504), some (some 505), some (some 506), some (some 507), some (some 508), none, some (some 509), some (some 510), some (some 511), some (some 512), some (some 513), some (some 514), some (some 515), some (some 516), some (some 517), some (some 518), none, none, some (some 519), none, some (some 520), none, none, none, some (some 521), some (some 522), some (some 523), some (some 524), some (some 525), some (some 526), some (some 527), none, some (some 528), none, some (some 529), none, some (some 530), some (some 531), some (some 532), none, some (some 533), some (some 534), some (some 535), some (some 536), some (some 537), none, none, none, some (some 538), some (some 539), some (some 540), none, none, none, some (some 541), none, none, some (some 542), some (some 543), some (some 544), none, some (some 545)]) rfl zin_12 (Nat.le_of_ble_eq_true rfl) rfl (hS _ _ zs_491) rfl tyX12 tyX12_ok nmX12 (ty := .int) zpd_I rfl rfl rfl zk_fl_12_235 hd kk
theorem zg_12_182 {p : Program} {l : Launch} {e : Env} {R : Room} {s : State} {m : MethodId} {args : Array Value} {below : List Frame} {meth : Method} {c : Code} {Q : State → Prop} {D : va_G} {B : Nat} {cA : Nat → ClassId} {ad : Nat → Nat} {cc : ByteArray} {nL : Nat} {ret : Option FieldType} {S : List zC} {I : zI} {lv : List (Nat × Value)} {st : List Value} {pc : Nat} (C : zCx p s m args meth c cc nL RX12 ret D B cA ad) (hS : zOkM S) (hd : decode cc pc = .ok (.getfield 182, 3)) (kk : zX p l e R s m args below meth c Q D B cA nL 0 0 S I lv (.int (I.1 491 8) :: st) (pc + 3)) : zX p l e R s m args below meth c Q D B cA nL 0 0 S I lv (.ref (B + 491) :: st) pc :=
  zr_geti C (ci := 12) (Cn := RX12) (T := TX12) (N := 82) (k := 491) (j := 8) (fs := [none, some (some 492), some (some 493), none, some (some 494), none, some (some 495), none, none, none, some (some 496), some (some 497), some (some 498), some (some 499), some (some 500), none, some (some 501), some (some 502), some (some 503), none, some (some 504), some (some 505), some (some 506), some (some 507), some (some 508), none, some (some 509), some (some 510), some (some 511), some (some 512), some (some 513), some (some 514), some (some 515), some (some 516), some (some 517), some (some 518), none, none, some (some 519), none, some (some 520), none, none, none, some (some 521), some (some 522), some (some 523), some (some 524), some (some 525), some (some 526), some (some 527), none, some (some 528), none, some (some 529), none, some (some 530), some (some 531), some (some 532), none, some (some 533), some (some 534), some (some 535), some (some 536), some (some 537), none, none, none, some (some 538), some (some 539), some (some 540), none, none, none, some (some 541), none, none, some (some 542), some (some 543), some (some 544), none, some (some 545)]) rfl zin_12 (Nat.le_of_ble_eq_true rfl) rfl (hS _ _ zs_491) rfl zk_fl_12_182 hd kk
theorem zv_12_238 {p : Program} {l : Launch} {e : Env} {R : Room} {s : State} {m : MethodId} {args : Array Value} {below : List Frame} {meth : Method} {c : Code} {Q : State → Prop} {D : va_G} {B : Nat} {cA : Nat → ClassId} {ad : Nat → Nat} {cc : ByteArray} {nL : Nat} {ret : Option FieldType} {S : List zC} {I : zI} {lv : List (Nat × Value)} {st : List Value} {pc : Nat} (C : zCx p s m args meth c cc nL RX12 ret D B cA ad) {K : zI → Prop}  (hS : zOkM S)  (h : w_M_keepsGood I K) (hR : 0 + 1 ≤ R.frames ∧ 8 + (2 + 11) + (0) ≤ R.locals) (hw : (st.map fun v => v.category).sum ≤ 8) (hd : decode cc pc = .ok (.invokevirtual 238, 3)) (kk : ∀ I2, K I2 → zX p l e R s m args below meth c Q D B cA nL 0 0 S I2 lv st (pc + 3)) : zX p l e R s m args below meth c Q D B cA nL 0 0 S I lv (.ref (B + 491) :: st) pc :=
  have hf : 0 ≤ R.cells ∧ 0 ≤ R.slots := ⟨Nat.zero_le _, Nat.zero_le _⟩
  zc_VqV C (ci := 12) (q := (RX12, TX12, 82)) (k := 491) (fs := [none, some (some 492), some (some 493), none, some (some 494), none, some (some 495), none, none, none, some (some 496), some (some 497), some (some 498), some (some 499), some (some 500), none, some (some 501), some (some 502), some (some 503), none, some (some 504), some (some 505), some (some 506), some (some 507), some (some 508), none, some (some 509), some (some 510), some (some 511), some (some 512), some (some 513), some (some 514), some (some 515), some (some 516), some (some 517), some (some 518), none, none, some (some 519), none, some (some 520), none, none, none, some (some 521), some (some 522), some (some 523), some (some 524), some (some 525), some (some 526), some (some 527), none, some (some 528), none, some (some 529), none, some (some 530), some (some 531), some (some 532), none, some (some 533), some (some 534), some (some 535), some (some 536), some (some 537), none, none, none, some (some 538), some (some 539), some (some 540), none, none, none, some (some 541), none, none, some (some 542), some (some 543), some (some 544), none, some (some 545)]) (As := []) (st := st) rfl (hS _ _ zs_491) (c_M_keepsGood hS h) (zgV zk_ml_12_238 zk_im_yX12_keepsGood zk_se_yX12_keepsGood zk_in_12 zk_cd_yX12_keepsGood) zsg_yX12_keepsGood hR rfl rfl hw hd hf kk
theorem zg_12_38 {p : Program} {l : Launch} {e : Env} {R : Room} {s : State} {m : MethodId} {args : Array Value} {below : List Frame} {meth : Method} {c : Code} {Q : State → Prop} {D : va_G} {B : Nat} {cA : Nat → ClassId} {ad : Nat → Nat} {cc : ByteArray} {nL : Nat} {ret : Option FieldType} {S : List zC} {I : zI} {lv : List (Nat × Value)} {st : List Value} {pc : Nat} (C : zCx p s m args meth c cc nL RX12 ret D B cA ad) (hS : zOkM S) (hd : decode cc pc = .ok (.getfield 38, 3)) (kk : zX p l e R s m args below meth c Q D B cA nL 0 0 S I lv (.ref (B + 501) :: st) (pc + 3)) : zX p l e R s m args below meth c Q D B cA nL 0 0 S I lv (.ref (B + 491) :: st) pc :=
  zr_getr C (ci := 12) (Cn := RX12) (T := TX12) (N := 82) (k := 491) (j := 16) (fs := [none, some (some 492), some (some 493), none, some (some 494), none, some (some 495), none, none, none, some (some 496), some (some 497), some (some 498), some (some 499), some (some 500), none, some (some 501), some (some 502), some (some 503), none, some (some 504), some (some 505), some (some 506), some (some 507), some (some 508), none, some (some 509), some (some 510), some (some 511), some (some 512), some (some 513), some (some 514), some (some 515), some (some 516), some (some 517), some (some 518), none, none, some (some 519), none, some (some 520), none, none, none, some (some 521), some (some 522), some (some 523), some (some 524), some (some 525), some (some 526), some (some 527), none, some (some 528), none, some (some 529), none, some (some 530), some (some 531), some (some 532), none, some (some 533), some (some 534), some (some 535), some (some 536), some (some 537), none, none, none, some (some 538), some (some 539), some (some 540), none, none, none, some (some 541), none, none, some (some 542), some (some 543), some (some 544), none, some (some 545)]) rfl zin_12 (Nat.le_of_ble_eq_true rfl) rfl (hS _ _ zs_491) rfl zk_fl_12_38 hd kk
theorem zg_12_41 {p : Program} {l : Launch} {e : Env} {R : Room} {s : State} {m : MethodId} {args : Array Value} {below : List Frame} {meth : Method} {c : Code} {Q : State → Prop} {D : va_G} {B : Nat} {cA : Nat → ClassId} {ad : Nat → Nat} {cc : ByteArray} {nL : Nat} {ret : Option FieldType} {S : List zC} {I : zI} {lv : List (Nat × Value)} {st : List Value} {pc : Nat} (C : zCx p s m args meth c cc nL RX12 ret D B cA ad) (hS : zOkM S) (hd : decode cc pc = .ok (.getfield 41, 3)) (kk : zX p l e R s m args below meth c Q D B cA nL 0 0 S I lv (.ref (B + 502) :: st) (pc + 3)) : zX p l e R s m args below meth c Q D B cA nL 0 0 S I lv (.ref (B + 491) :: st) pc :=
  zr_getr C (ci := 12) (Cn := RX12) (T := TX12) (N := 82) (k := 491) (j := 17) (fs := [none, some (some 492), some (some 493), none, some (some 494), none, some (some 495), none, none, none, some (some 496), some (some 497), some (some 498), some (some 499), some (some 500), none, some (some 501), some (some 502), some (some 503), none, some (some 504), some (some 505), some (some 506), some (some 507), some (some 508), none, some (some 509), some (some 510), some (some 511), some (some 512), some (some 513), some (some 514), some (some 515), some (some 516), some (some 517), some (some 518), none, none, some (some 519), none, some (some 520), none, none, none, some (some 521), some (some 522), some (some 523), some (some 524), some (some 525), some (some 526), some (some 527), none, some (some 528), none, some (some 529), none, some (some 530), some (some 531), some (some 532), none, some (some 533), some (some 534), some (some 535), some (some 536), some (some 537), none, none, none, some (some 538), some (some 539), some (some 540), none, none, none, some (some 541), none, none, some (some 542), some (some 543), some (some 544), none, some (some 545)]) rfl zin_12 (Nat.le_of_ble_eq_true rfl) rfl (hS _ _ zs_491) rfl zk_fl_12_41 hd kk
theorem zg_12_44 {p : Program} {l : Launch} {e : Env} {R : Room} {s : State} {m : MethodId} {args : Array Value} {below : List Frame} {meth : Method} {c : Code} {Q : State → Prop} {D : va_G} {B : Nat} {cA : Nat → ClassId} {ad : Nat → Nat} {cc : ByteArray} {nL : Nat} {ret : Option FieldType} {S : List zC} {I : zI} {lv : List (Nat × Value)} {st : List Value} {pc : Nat} (C : zCx p s m args meth c cc nL RX12 ret D B cA ad) (hS : zOkM S) (hd : decode cc pc = .ok (.getfield 44, 3)) (kk : zX p l e R s m args below meth c Q D B cA nL 0 0 S I lv (.ref (B + 503) :: st) (pc + 3)) : zX p l e R s m args below meth c Q D B cA nL 0 0 S I lv (.ref (B + 491) :: st) pc :=
  zr_getr C (ci := 12) (Cn := RX12) (T := TX12) (N := 82) (k := 491) (j := 18) (fs := [none, some (some 492), some (some 493), none, some (some 494), none, some (some 495), none, none, none, some (some 496), some (some 497), some (some 498), some (some 499), some (some 500), none, some (some 501), some (some 502), some (some 503), none, some (some 504), some (some 505), some (some 506), some (some 507), some (some 508), none, some (some 509), some (some 510), some (some 511), some (some 512), some (some 513), some (some 514), some (some 515), some (some 516), some (some 517), some (some 518), none, none, some (some 519), none, some (some 520), none, none, none, some (some 521), some (some 522), some (some 523), some (some 524), some (some 525), some (some 526), some (some 527), none, some (some 528), none, some (some 529), none, some (some 530), some (some 531), some (some 532), none, some (some 533), some (some 534), some (some 535), some (some 536), some (some 537), none, none, none, some (some 538), some (some 539), some (some 540), none, none, none, some (some 541), none, none, some (some 542), some (some 543), some (some 544), none, some (some 545)]) rfl zin_12 (Nat.le_of_ble_eq_true rfl) rfl (hS _ _ zs_491) rfl zk_fl_12_44 hd kk
theorem zg_12_16 {p : Program} {l : Launch} {e : Env} {R : Room} {s : State} {m : MethodId} {args : Array Value} {below : List Frame} {meth : Method} {c : Code} {Q : State → Prop} {D : va_G} {B : Nat} {cA : Nat → ClassId} {ad : Nat → Nat} {cc : ByteArray} {nL : Nat} {ret : Option FieldType} {S : List zC} {I : zI} {lv : List (Nat × Value)} {st : List Value} {pc : Nat} (C : zCx p s m args meth c cc nL RX12 ret D B cA ad) (hS : zOkM S) (hd : decode cc pc = .ok (.getfield 16, 3)) (kk : zX p l e R s m args below meth c Q D B cA nL 0 0 S I lv (.ref (B + 494) :: st) (pc + 3)) : zX p l e R s m args below meth c Q D B cA nL 0 0 S I lv (.ref (B + 491) :: st) pc :=
  zr_getr C (ci := 12) (Cn := RX12) (T := TX12) (N := 82) (k := 491) (j := 4) (fs := [none, some (some 492), some (some 493), none, some (some 494), none, some (some 495), none, none, none, some (some 496), some (some 497), some (some 498), some (some 499), some (some 500), none, some (some 501), some (some 502), some (some 503), none, some (some 504), some (some 505), some (some 506), some (some 507), some (some 508), none, some (some 509), some (some 510), some (some 511), some (some 512), some (some 513), some (some 514), some (some 515), some (some 516), some (some 517), some (some 518), none, none, some (some 519), none, some (some 520), none, none, none, some (some 521), some (some 522), some (some 523), some (some 524), some (some 525), some (some 526), some (some 527), none, some (some 528), none, some (some 529), none, some (some 530), some (some 531), some (some 532), none, some (some 533), some (some 534), some (some 535), some (some 536), some (some 537), none, none, none, some (some 538), some (some 539), some (some 540), none, none, none, some (some 541), none, none, some (some 542), some (some 543), some (some 544), none, some (some 545)]) rfl zin_12 (Nat.le_of_ble_eq_true rfl) rfl (hS _ _ zs_491) rfl zk_fl_12_16 hd kk
def w_M_keepsTokens  (I : zI) (K : zI → Prop) : Prop :=
  ∀ I_1, I_1 = (zu I 491 5 (I.1 491 3)) → ∀ I_2, I_2 = (zu I_1 491 15 (I_1.1 491 9)) → ∀ (P18 : Int32 → zI → Prop), (∀ (v1_3 : Int32) (I_4 : zI), ((if (I_4.1 491 3) ≤ v1_3 then (∀ (P46 : Int32 → zI → Prop), (∀ (v1_5 : Int32) (I_6 : zI), ((if (I_6.1 491 9) ≤ v1_5 then (if (I_6.1 491 8) = 0 then K I_6 else (w_M_keepsGood I_6 (fun I_7 => K I_7))) else (vp_in v1_5 710 ∧ (vp_in v1_5 110 ∧ (∀ I_9, I_9 = (zu I_6 501 (Int32.toNatClampNeg v1_5) (I_6.1 496 (Int32.toNatClampNeg v1_5))) → vp_in v1_5 710 ∧ (vp_in v1_5 110 ∧ (∀ I_10, I_10 = (zu I_9 502 (Int32.toNatClampNeg v1_5) (I_9.1 497 (Int32.toNatClampNeg v1_5))) → vp_in v1_5 710 ∧ (vp_in v1_5 110 ∧ (∀ I_11, I_11 = (zu I_10 503 (Int32.toNatClampNeg v1_5) (I_10.1 498 (Int32.toNatClampNeg v1_5))) → ∀ v1_12, v1_12 = (v1_5 + 1) → P46 v1_12 I_11))))))))) → P46 v1_5 I_6) → P46 0 I_4) else (vp_in v1_3 700 ∧ (vp_in v1_3 300 ∧ (∀ I_14, I_14 = (zu I_4 494 (Int32.toNatClampNeg v1_3) (I_4.1 493 (Int32.toNatClampNeg v1_3))) → ∀ v1_15, v1_15 = (v1_3 + 1) → P18 v1_15 I_14))))) → P18 v1_3 I_4) → P18 0 I_2
theorem dyX12_keepsTokens_0 : decode cX12_keepsTokens 0 = .ok (.aload_n 0, 1) := by decide +kernel
theorem dyX12_keepsTokens_1 : decode cX12_keepsTokens 1 = .ok (.aload_n 0, 1) := by decide +kernel
theorem dyX12_keepsTokens_2 : decode cX12_keepsTokens 2 = .ok (.getfield 205, 3) := by decide +kernel
theorem dyX12_keepsTokens_5 : decode cX12_keepsTokens 5 = .ok (.putfield 232, 3) := by decide +kernel
theorem dyX12_keepsTokens_8 : decode cX12_keepsTokens 8 = .ok (.aload_n 0, 1) := by decide +kernel
theorem dyX12_keepsTokens_9 : decode cX12_keepsTokens 9 = .ok (.aload_n 0, 1) := by decide +kernel
theorem dyX12_keepsTokens_10 : decode cX12_keepsTokens 10 = .ok (.getfield 212, 3) := by decide +kernel
theorem dyX12_keepsTokens_13 : decode cX12_keepsTokens 13 = .ok (.putfield 235, 3) := by decide +kernel
theorem dyX12_keepsTokens_16 : decode cX12_keepsTokens 16 = .ok (.iconst 0, 1) := by decide +kernel
theorem dyX12_keepsTokens_17 : decode cX12_keepsTokens 17 = .ok (.istore_n 1, 1) := by decide +kernel
theorem dyX12_keepsTokens_18 : decode cX12_keepsTokens 18 = .ok (.iload_n 1, 1) := by decide +kernel
theorem dyX12_keepsTokens_19 : decode cX12_keepsTokens 19 = .ok (.aload_n 0, 1) := by decide +kernel
theorem dyX12_keepsTokens_20 : decode cX12_keepsTokens 20 = .ok (.getfield 205, 3) := by decide +kernel
theorem dyX12_keepsTokens_23 : decode cX12_keepsTokens 23 = .ok (.if_icmp .ge 21, 3) := by decide +kernel
theorem dyX12_keepsTokens_26 : decode cX12_keepsTokens 26 = .ok (.aload_n 0, 1) := by decide +kernel
theorem dyX12_keepsTokens_27 : decode cX12_keepsTokens 27 = .ok (.getfield 16, 3) := by decide +kernel
theorem dyX12_keepsTokens_30 : decode cX12_keepsTokens 30 = .ok (.iload_n 1, 1) := by decide +kernel
theorem dyX12_keepsTokens_31 : decode cX12_keepsTokens 31 = .ok (.aload_n 0, 1) := by decide +kernel
theorem dyX12_keepsTokens_32 : decode cX12_keepsTokens 32 = .ok (.getfield 13, 3) := by decide +kernel
theorem dyX12_keepsTokens_35 : decode cX12_keepsTokens 35 = .ok (.iload_n 1, 1) := by decide +kernel
theorem dyX12_keepsTokens_36 : decode cX12_keepsTokens 36 = .ok (.iaload, 1) := by decide +kernel
theorem dyX12_keepsTokens_37 : decode cX12_keepsTokens 37 = .ok (.iastore, 1) := by decide +kernel
theorem dyX12_keepsTokens_38 : decode cX12_keepsTokens 38 = .ok (.iinc 1 1, 3) := by decide +kernel
theorem dyX12_keepsTokens_41 : decode cX12_keepsTokens 41 = .ok (.goto (-23), 3) := by decide +kernel
theorem dyX12_keepsTokens_44 : decode cX12_keepsTokens 44 = .ok (.iconst 0, 1) := by decide +kernel
theorem dyX12_keepsTokens_45 : decode cX12_keepsTokens 45 = .ok (.istore_n 1, 1) := by decide +kernel
theorem dyX12_keepsTokens_46 : decode cX12_keepsTokens 46 = .ok (.iload_n 1, 1) := by decide +kernel
theorem dyX12_keepsTokens_47 : decode cX12_keepsTokens 47 = .ok (.aload_n 0, 1) := by decide +kernel
theorem dyX12_keepsTokens_48 : decode cX12_keepsTokens 48 = .ok (.getfield 212, 3) := by decide +kernel
theorem dyX12_keepsTokens_51 : decode cX12_keepsTokens 51 = .ok (.if_icmp .ge 45, 3) := by decide +kernel
theorem dyX12_keepsTokens_54 : decode cX12_keepsTokens 54 = .ok (.aload_n 0, 1) := by decide +kernel
theorem dyX12_keepsTokens_55 : decode cX12_keepsTokens 55 = .ok (.getfield 38, 3) := by decide +kernel
theorem dyX12_keepsTokens_58 : decode cX12_keepsTokens 58 = .ok (.iload_n 1, 1) := by decide +kernel
theorem dyX12_keepsTokens_59 : decode cX12_keepsTokens 59 = .ok (.aload_n 0, 1) := by decide +kernel
theorem dyX12_keepsTokens_60 : decode cX12_keepsTokens 60 = .ok (.getfield 22, 3) := by decide +kernel
theorem dyX12_keepsTokens_63 : decode cX12_keepsTokens 63 = .ok (.iload_n 1, 1) := by decide +kernel
theorem dyX12_keepsTokens_64 : decode cX12_keepsTokens 64 = .ok (.iaload, 1) := by decide +kernel
theorem dyX12_keepsTokens_65 : decode cX12_keepsTokens 65 = .ok (.iastore, 1) := by decide +kernel
theorem dyX12_keepsTokens_66 : decode cX12_keepsTokens 66 = .ok (.aload_n 0, 1) := by decide +kernel
theorem dyX12_keepsTokens_67 : decode cX12_keepsTokens 67 = .ok (.getfield 41, 3) := by decide +kernel
theorem dyX12_keepsTokens_70 : decode cX12_keepsTokens 70 = .ok (.iload_n 1, 1) := by decide +kernel
theorem dyX12_keepsTokens_71 : decode cX12_keepsTokens 71 = .ok (.aload_n 0, 1) := by decide +kernel
theorem dyX12_keepsTokens_72 : decode cX12_keepsTokens 72 = .ok (.getfield 25, 3) := by decide +kernel
theorem dyX12_keepsTokens_75 : decode cX12_keepsTokens 75 = .ok (.iload_n 1, 1) := by decide +kernel
theorem dyX12_keepsTokens_76 : decode cX12_keepsTokens 76 = .ok (.iaload, 1) := by decide +kernel
theorem dyX12_keepsTokens_77 : decode cX12_keepsTokens 77 = .ok (.iastore, 1) := by decide +kernel
theorem dyX12_keepsTokens_78 : decode cX12_keepsTokens 78 = .ok (.aload_n 0, 1) := by decide +kernel
theorem dyX12_keepsTokens_79 : decode cX12_keepsTokens 79 = .ok (.getfield 44, 3) := by decide +kernel
theorem dyX12_keepsTokens_82 : decode cX12_keepsTokens 82 = .ok (.iload_n 1, 1) := by decide +kernel
theorem dyX12_keepsTokens_83 : decode cX12_keepsTokens 83 = .ok (.aload_n 0, 1) := by decide +kernel
theorem dyX12_keepsTokens_84 : decode cX12_keepsTokens 84 = .ok (.getfield 28, 3) := by decide +kernel
theorem dyX12_keepsTokens_87 : decode cX12_keepsTokens 87 = .ok (.iload_n 1, 1) := by decide +kernel
theorem dyX12_keepsTokens_88 : decode cX12_keepsTokens 88 = .ok (.iaload, 1) := by decide +kernel
theorem dyX12_keepsTokens_89 : decode cX12_keepsTokens 89 = .ok (.iastore, 1) := by decide +kernel
theorem dyX12_keepsTokens_90 : decode cX12_keepsTokens 90 = .ok (.iinc 1 1, 3) := by decide +kernel
theorem dyX12_keepsTokens_93 : decode cX12_keepsTokens 93 = .ok (.goto (-47), 3) := by decide +kernel
theorem dyX12_keepsTokens_96 : decode cX12_keepsTokens 96 = .ok (.aload_n 0, 1) := by decide +kernel
theorem dyX12_keepsTokens_97 : decode cX12_keepsTokens 97 = .ok (.getfield 182, 3) := by decide +kernel
theorem dyX12_keepsTokens_100 : decode cX12_keepsTokens 100 = .ok (.ifCond .eq 7, 3) := by decide +kernel
theorem dyX12_keepsTokens_103 : decode cX12_keepsTokens 103 = .ok (.aload_n 0, 1) := by decide +kernel
theorem dyX12_keepsTokens_104 : decode cX12_keepsTokens 104 = .ok (.invokevirtual 238, 3) := by decide +kernel
theorem dyX12_keepsTokens_107 : decode cX12_keepsTokens 107 = .ok (.return_, 1) := by decide +kernel
theorem zsg_yX12_keepsTokens : yX12_keepsTokens.cls = RX12 ∧ yX12_keepsTokens.cls ≠ "java/lang/invoke/MethodHandle" ∧ yX12_keepsTokens.cls ≠ "java/lang/invoke/VarHandle" ∧ (parseMethodDescriptor yX12_keepsTokens.desc).map (fun d => d.parameters.length) = some 0 := by decide +kernel
set_option maxRecDepth 20000 in
theorem c_M_keepsTokens {l : Launch} {D : va_G} {B : Nat} {cA : Nat → ClassId} {ad : Nat → Nat} {S : List zC} (hS : zOkM S)  {I : zI} {K : zI → Prop}  (h : w_M_keepsTokens  I K) : Met l yX12_keepsTokens (zws yX12_keepsTokens cX12_keepsTokens 2 none) (zrm 1 21) (zPc D B cA ad [.ref (B + 491)] S I) (zQc D B cA (zqV S K)) 0 0 (fun q => B ≤ q) := by
  refine zm_of (cc := cX12_keepsTokens) (maxL := 2) (ret := none) (by decide +kernel) rfl (Nat.le_of_ble_eq_true rfl) trivial ?_
  intro p e s m args below meth c C _
  unfold w_M_keepsTokens at h
  show zX p l e (zrm 1 21) s m args below meth c (MQ below (zQc D B cA (zqV S K)) args s 0 0 (fun q => B ≤ q)) D B cA 2 0 0 S I [(0, .ref (B + 491))] [] 0
  refine zr_aload_n C dyX12_keepsTokens_0 rfl 0 rfl ?_
  refine zr_aload_n C dyX12_keepsTokens_1 rfl 0 rfl ?_
  refine zg_12_205 C hS dyX12_keepsTokens_2 ?_
  refine zp_12_232 C hS dyX12_keepsTokens_5 ?_
  refine zn_mem C (fun I_1 eI_1 => ?_)
  replace h := h I_1 eI_1
  refine zr_aload_n C dyX12_keepsTokens_8 rfl 0 rfl ?_
  refine zr_aload_n C dyX12_keepsTokens_9 rfl 0 rfl ?_
  refine zg_12_212 C hS dyX12_keepsTokens_10 ?_
  refine zp_12_235 C hS dyX12_keepsTokens_13 ?_
  refine zn_mem C (fun I_2 eI_2 => ?_)
  replace h := h I_2 eI_2
  refine zr_iconst C dyX12_keepsTokens_16 zc_i_0 ?_
  refine zr_istore_n C dyX12_keepsTokens_17 rfl (Nat.le_of_ble_eq_true rfl) (lv2 := [(1, .int 0), (0, .ref (B + 491))]) rfl ?_
  refine zjn (h (fun (v1_3 : Int32) (I_4 : zI) => zX p l e (zrm 1 21) s m args below meth c (MQ below (zQc D B cA (zqV S K)) args s 0 0 (fun q => B ≤ q)) D B cA 2 0 0 S I_4 [(1, .int v1_3), (0, .ref (B + 491))] [] 18) (fun v1_3 I_4 h => ?_)) (fun h => ?_)
  · refine zr_iload_n C dyX12_keepsTokens_18 rfl 0 rfl ?_
    refine zr_aload_n C dyX12_keepsTokens_19 rfl 1 rfl ?_
    refine zg_12_205 C hS dyX12_keepsTokens_20 ?_
    refine zr_icmp_ge C dyX12_keepsTokens_23 (tgt := 44) (by decide) (fun hc_16 => ?_) (fun hc_16 => ?_)
    · replace h := zif_pos hc_16 h
      refine zr_iconst C dyX12_keepsTokens_44 zc_i_0 ?_
      refine zr_istore_n C dyX12_keepsTokens_45 rfl (Nat.le_of_ble_eq_true rfl) (lv2 := [(1, .int 0), (0, .ref (B + 491))]) rfl ?_
      refine zjn (h (fun (v1_5 : Int32) (I_6 : zI) => zX p l e (zrm 1 21) s m args below meth c (MQ below (zQc D B cA (zqV S K)) args s 0 0 (fun q => B ≤ q)) D B cA 2 0 0 S I_6 [(1, .int v1_5), (0, .ref (B + 491))] [] 46) (fun v1_5 I_6 h => ?_)) (fun h => ?_)
      · refine zr_iload_n C dyX12_keepsTokens_46 rfl 0 rfl ?_
        refine zr_aload_n C dyX12_keepsTokens_47 rfl 1 rfl ?_
        refine zg_12_212 C hS dyX12_keepsTokens_48 ?_
        refine zr_icmp_ge C dyX12_keepsTokens_51 (tgt := 96) (by decide) (fun hc_13 => ?_) (fun hc_13 => ?_)
        · replace h := zif_pos hc_13 h
          refine zr_aload_n C dyX12_keepsTokens_96 rfl 1 rfl ?_
          refine zg_12_182 C hS dyX12_keepsTokens_97 ?_
          refine zr_if_eq C dyX12_keepsTokens_100 (tgt := 107) (by decide) (fun hc_8 => ?_) (fun hc_8 => ?_)
          · replace h := zif_pos hc_8 h
            exact zr_vret C rfl dyX12_keepsTokens_107 ⟨rfl, rfl, h⟩
          · replace h := zif_neg hc_8 h
            refine zr_aload_n C dyX12_keepsTokens_103 rfl 1 rfl ?_
            refine zv_12_238 C hS (st := []) h ⟨Nat.le_of_ble_eq_true rfl, Nat.le_of_ble_eq_true rfl⟩ (Nat.le_of_ble_eq_true rfl) dyX12_keepsTokens_104 (fun I_7 h => ?_)
            exact zr_vret C rfl dyX12_keepsTokens_107 ⟨rfl, rfl, h⟩
        · replace h := zif_neg hc_13 h
          refine zr_aload_n C dyX12_keepsTokens_54 rfl 1 rfl ?_
          refine zg_12_38 C hS dyX12_keepsTokens_55 ?_
          refine zr_iload_n C dyX12_keepsTokens_58 rfl 0 rfl ?_
          refine zr_aload_n C dyX12_keepsTokens_59 rfl 1 rfl ?_
          refine zg_12_22 C hS dyX12_keepsTokens_60 ?_
          refine zr_iload_n C dyX12_keepsTokens_63 rfl 0 rfl ?_
          refine zr_iald C (hS _ _ zs_496) h.1 dyX12_keepsTokens_64 ?_
          replace h := h.2
          refine zr_iast C (hS _ _ zs_501) h.1 dyX12_keepsTokens_65 ?_
          replace h := h.2
          refine zn_mem C (fun I_9 eI_9 => ?_)
          replace h := h I_9 eI_9
          refine zr_aload_n C dyX12_keepsTokens_66 rfl 1 rfl ?_
          refine zg_12_41 C hS dyX12_keepsTokens_67 ?_
          refine zr_iload_n C dyX12_keepsTokens_70 rfl 0 rfl ?_
          refine zr_aload_n C dyX12_keepsTokens_71 rfl 1 rfl ?_
          refine zg_12_25 C hS dyX12_keepsTokens_72 ?_
          refine zr_iload_n C dyX12_keepsTokens_75 rfl 0 rfl ?_
          refine zr_iald C (hS _ _ zs_497) h.1 dyX12_keepsTokens_76 ?_
          replace h := h.2
          refine zr_iast C (hS _ _ zs_502) h.1 dyX12_keepsTokens_77 ?_
          replace h := h.2
          refine zn_mem C (fun I_10 eI_10 => ?_)
          replace h := h I_10 eI_10
          refine zr_aload_n C dyX12_keepsTokens_78 rfl 1 rfl ?_
          refine zg_12_44 C hS dyX12_keepsTokens_79 ?_
          refine zr_iload_n C dyX12_keepsTokens_82 rfl 0 rfl ?_
          refine zr_aload_n C dyX12_keepsTokens_83 rfl 1 rfl ?_
          refine zg_12_28 C hS dyX12_keepsTokens_84 ?_
          refine zr_iload_n C dyX12_keepsTokens_87 rfl 0 rfl ?_
          refine zr_iald C (hS _ _ zs_498) h.1 dyX12_keepsTokens_88 ?_
          replace h := h.2
          refine zr_iast C (hS _ _ zs_503) h.1 dyX12_keepsTokens_89 ?_
          replace h := h.2
          refine zn_mem C (fun I_11 eI_11 => ?_)
          replace h := h I_11 eI_11
          refine zn_iinc C (fun v1_12 => [(1, .int v1_12), (0, .ref (B + 491))]) dyX12_keepsTokens_90 0 rfl zc_i_1 (Nat.le_of_ble_eq_true rfl) (fun _ => rfl) (fun v1_12 ev1_12 => ?_)
          replace h := h v1_12 ev1_12
          refine zr_goto C dyX12_keepsTokens_93 (tgt := 46) (by decide) ?_
          exact h
      exact h
    · replace h := zif_neg hc_16 h
      refine zr_aload_n C dyX12_keepsTokens_26 rfl 1 rfl ?_
      refine zg_12_16 C hS dyX12_keepsTokens_27 ?_
      refine zr_iload_n C dyX12_keepsTokens_30 rfl 0 rfl ?_
      refine zr_aload_n C dyX12_keepsTokens_31 rfl 1 rfl ?_
      refine zg_12_13 C hS dyX12_keepsTokens_32 ?_
      refine zr_iload_n C dyX12_keepsTokens_35 rfl 0 rfl ?_
      refine zr_iald C (hS _ _ zs_493) h.1 dyX12_keepsTokens_36 ?_
      replace h := h.2
      refine zr_iast C (hS _ _ zs_494) h.1 dyX12_keepsTokens_37 ?_
      replace h := h.2
      refine zn_mem C (fun I_14 eI_14 => ?_)
      replace h := h I_14 eI_14
      refine zn_iinc C (fun v1_15 => [(1, .int v1_15), (0, .ref (B + 491))]) dyX12_keepsTokens_38 0 rfl zc_i_1 (Nat.le_of_ble_eq_true rfl) (fun _ => rfl) (fun v1_15 ev1_15 => ?_)
      replace h := h v1_15 ev1_15
      refine zr_goto C dyX12_keepsTokens_41 (tgt := 18) (by decide) ?_
      exact h
  exact h
theorem zg_12_247 {p : Program} {l : Launch} {e : Env} {R : Room} {s : State} {m : MethodId} {args : Array Value} {below : List Frame} {meth : Method} {c : Code} {Q : State → Prop} {D : va_G} {B : Nat} {cA : Nat → ClassId} {ad : Nat → Nat} {cc : ByteArray} {nL : Nat} {ret : Option FieldType} {S : List zC} {I : zI} {lv : List (Nat × Value)} {st : List Value} {pc : Nat} (C : zCx p s m args meth c cc nL RX12 ret D B cA ad) (hS : zOkM S) (hd : decode cc pc = .ok (.getfield 247, 3)) (kk : zX p l e R s m args below meth c Q D B cA nL 0 0 S I lv (.int (I.1 491 25) :: st) (pc + 3)) : zX p l e R s m args below meth c Q D B cA nL 0 0 S I lv (.ref (B + 491) :: st) pc :=
  zr_geti C (ci := 12) (Cn := RX12) (T := TX12) (N := 82) (k := 491) (j := 25) (fs := [none, some (some 492), some (some 493), none, some (some 494), none, some (some 495), none, none, none, some (some 496), some (some 497), some (some 498), some (some 499), some (some 500), none, some (some 501), some (some 502), some (some 503), none, some (some 504), some (some 505), some (some 506), some (some 507), some (some 508), none, some (some 509), some (some 510), some (some 511), some (some 512), some (some 513), some (some 514), some (some 515), some (some 516), some (some 517), some (some 518), none, none, some (some 519), none, some (some 520), none, none, none, some (some 521), some (some 522), some (some 523), some (some 524), some (some 525), some (some 526), some (some 527), none, some (some 528), none, some (some 529), none, some (some 530), some (some 531), some (some 532), none, some (some 533), some (some 534), some (some 535), some (some 536), some (some 537), none, none, none, some (some 538), some (some 539), some (some 540), none, none, none, some (some 541), none, none, some (some 542), some (some 543), some (some 544), none, some (some 545)]) rfl zin_12 (Nat.le_of_ble_eq_true rfl) rfl (hS _ _ zs_491) rfl zk_fl_12_247 hd kk
theorem zg_12_62 {p : Program} {l : Launch} {e : Env} {R : Room} {s : State} {m : MethodId} {args : Array Value} {below : List Frame} {meth : Method} {c : Code} {Q : State → Prop} {D : va_G} {B : Nat} {cA : Nat → ClassId} {ad : Nat → Nat} {cc : ByteArray} {nL : Nat} {ret : Option FieldType} {S : List zC} {I : zI} {lv : List (Nat × Value)} {st : List Value} {pc : Nat} (C : zCx p s m args meth c cc nL RX12 ret D B cA ad) (hS : zOkM S) (hd : decode cc pc = .ok (.getfield 62, 3)) (kk : zX p l e R s m args below meth c Q D B cA nL 0 0 S I lv (.ref (B + 509) :: st) (pc + 3)) : zX p l e R s m args below meth c Q D B cA nL 0 0 S I lv (.ref (B + 491) :: st) pc :=
  zr_getr C (ci := 12) (Cn := RX12) (T := TX12) (N := 82) (k := 491) (j := 26) (fs := [none, some (some 492), some (some 493), none, some (some 494), none, some (some 495), none, none, none, some (some 496), some (some 497), some (some 498), some (some 499), some (some 500), none, some (some 501), some (some 502), some (some 503), none, some (some 504), some (some 505), some (some 506), some (some 507), some (some 508), none, some (some 509), some (some 510), some (some 511), some (some 512), some (some 513), some (some 514), some (some 515), some (some 516), some (some 517), some (some 518), none, none, some (some 519), none, some (some 520), none, none, none, some (some 521), some (some 522), some (some 523), some (some 524), some (some 525), some (some 526), some (some 527), none, some (some 528), none, some (some 529), none, some (some 530), some (some 531), some (some 532), none, some (some 533), some (some 534), some (some 535), some (some 536), some (some 537), none, none, none, some (some 538), some (some 539), some (some 540), none, none, none, some (some 541), none, none, some (some 542), some (some 543), some (some 544), none, some (some 545)]) rfl zin_12 (Nat.le_of_ble_eq_true rfl) rfl (hS _ _ zs_491) rfl zk_fl_12_62 hd kk
theorem zg_12_65 {p : Program} {l : Launch} {e : Env} {R : Room} {s : State} {m : MethodId} {args : Array Value} {below : List Frame} {meth : Method} {c : Code} {Q : State → Prop} {D : va_G} {B : Nat} {cA : Nat → ClassId} {ad : Nat → Nat} {cc : ByteArray} {nL : Nat} {ret : Option FieldType} {S : List zC} {I : zI} {lv : List (Nat × Value)} {st : List Value} {pc : Nat} (C : zCx p s m args meth c cc nL RX12 ret D B cA ad) (hS : zOkM S) (hd : decode cc pc = .ok (.getfield 65, 3)) (kk : zX p l e R s m args below meth c Q D B cA nL 0 0 S I lv (.ref (B + 510) :: st) (pc + 3)) : zX p l e R s m args below meth c Q D B cA nL 0 0 S I lv (.ref (B + 491) :: st) pc :=
  zr_getr C (ci := 12) (Cn := RX12) (T := TX12) (N := 82) (k := 491) (j := 27) (fs := [none, some (some 492), some (some 493), none, some (some 494), none, some (some 495), none, none, none, some (some 496), some (some 497), some (some 498), some (some 499), some (some 500), none, some (some 501), some (some 502), some (some 503), none, some (some 504), some (some 505), some (some 506), some (some 507), some (some 508), none, some (some 509), some (some 510), some (some 511), some (some 512), some (some 513), some (some 514), some (some 515), some (some 516), some (some 517), some (some 518), none, none, some (some 519), none, some (some 520), none, none, none, some (some 521), some (some 522), some (some 523), some (some 524), some (some 525), some (some 526), some (some 527), none, some (some 528), none, some (some 529), none, some (some 530), some (some 531), some (some 532), none, some (some 533), some (some 534), some (some 535), some (some 536), some (some 537), none, none, none, some (some 538), some (some 539), some (some 540), none, none, none, some (some 541), none, none, some (some 542), some (some 543), some (some 544), none, some (some 545)]) rfl zin_12 (Nat.le_of_ble_eq_true rfl) rfl (hS _ _ zs_491) rfl zk_fl_12_65 hd kk
theorem zg_12_68 {p : Program} {l : Launch} {e : Env} {R : Room} {s : State} {m : MethodId} {args : Array Value} {below : List Frame} {meth : Method} {c : Code} {Q : State → Prop} {D : va_G} {B : Nat} {cA : Nat → ClassId} {ad : Nat → Nat} {cc : ByteArray} {nL : Nat} {ret : Option FieldType} {S : List zC} {I : zI} {lv : List (Nat × Value)} {st : List Value} {pc : Nat} (C : zCx p s m args meth c cc nL RX12 ret D B cA ad) (hS : zOkM S) (hd : decode cc pc = .ok (.getfield 68, 3)) (kk : zX p l e R s m args below meth c Q D B cA nL 0 0 S I lv (.ref (B + 511) :: st) (pc + 3)) : zX p l e R s m args below meth c Q D B cA nL 0 0 S I lv (.ref (B + 491) :: st) pc :=
  zr_getr C (ci := 12) (Cn := RX12) (T := TX12) (N := 82) (k := 491) (j := 28) (fs := [none, some (some 492), some (some 493), none, some (some 494), none, some (some 495), none, none, none, some (some 496), some (some 497), some (some 498), some (some 499), some (some 500), none, some (some 501), some (some 502), some (some 503), none, some (some 504), some (some 505), some (some 506), some (some 507), some (some 508), none, some (some 509), some (some 510), some (some 511), some (some 512), some (some 513), some (some 514), some (some 515), some (some 516), some (some 517), some (some 518), none, none, some (some 519), none, some (some 520), none, none, none, some (some 521), some (some 522), some (some 523), some (some 524), some (some 525), some (some 526), some (some 527), none, some (some 528), none, some (some 529), none, some (some 530), some (some 531), some (some 532), none, some (some 533), some (some 534), some (some 535), some (some 536), some (some 537), none, none, none, some (some 538), some (some 539), some (some 540), none, none, none, some (some 541), none, none, some (some 542), some (some 543), some (some 544), none, some (some 545)]) rfl zin_12 (Nat.le_of_ble_eq_true rfl) rfl (hS _ _ zs_491) rfl zk_fl_12_68 hd kk
theorem zg_12_71 {p : Program} {l : Launch} {e : Env} {R : Room} {s : State} {m : MethodId} {args : Array Value} {below : List Frame} {meth : Method} {c : Code} {Q : State → Prop} {D : va_G} {B : Nat} {cA : Nat → ClassId} {ad : Nat → Nat} {cc : ByteArray} {nL : Nat} {ret : Option FieldType} {S : List zC} {I : zI} {lv : List (Nat × Value)} {st : List Value} {pc : Nat} (C : zCx p s m args meth c cc nL RX12 ret D B cA ad) (hS : zOkM S) (hd : decode cc pc = .ok (.getfield 71, 3)) (kk : zX p l e R s m args below meth c Q D B cA nL 0 0 S I lv (.ref (B + 512) :: st) (pc + 3)) : zX p l e R s m args below meth c Q D B cA nL 0 0 S I lv (.ref (B + 491) :: st) pc :=
  zr_getr C (ci := 12) (Cn := RX12) (T := TX12) (N := 82) (k := 491) (j := 29) (fs := [none, some (some 492), some (some 493), none, some (some 494), none, some (some 495), none, none, none, some (some 496), some (some 497), some (some 498), some (some 499), some (some 500), none, some (some 501), some (some 502), some (some 503), none, some (some 504), some (some 505), some (some 506), some (some 507), some (some 508), none, some (some 509), some (some 510), some (some 511), some (some 512), some (some 513), some (some 514), some (some 515), some (some 516), some (some 517), some (some 518), none, none, some (some 519), none, some (some 520), none, none, none, some (some 521), some (some 522), some (some 523), some (some 524), some (some 525), some (some 526), some (some 527), none, some (some 528), none, some (some 529), none, some (some 530), some (some 531), some (some 532), none, some (some 533), some (some 534), some (some 535), some (some 536), some (some 537), none, none, none, some (some 538), some (some 539), some (some 540), none, none, none, some (some 541), none, none, some (some 542), some (some 543), some (some 544), none, some (some 545)]) rfl zin_12 (Nat.le_of_ble_eq_true rfl) rfl (hS _ _ zs_491) rfl zk_fl_12_71 hd kk
theorem zg_12_77 {p : Program} {l : Launch} {e : Env} {R : Room} {s : State} {m : MethodId} {args : Array Value} {below : List Frame} {meth : Method} {c : Code} {Q : State → Prop} {D : va_G} {B : Nat} {cA : Nat → ClassId} {ad : Nat → Nat} {cc : ByteArray} {nL : Nat} {ret : Option FieldType} {S : List zC} {I : zI} {lv : List (Nat × Value)} {st : List Value} {pc : Nat} (C : zCx p s m args meth c cc nL RX12 ret D B cA ad) (hS : zOkM S) (hd : decode cc pc = .ok (.getfield 77, 3)) (kk : zX p l e R s m args below meth c Q D B cA nL 0 0 S I lv (.ref (B + 514) :: st) (pc + 3)) : zX p l e R s m args below meth c Q D B cA nL 0 0 S I lv (.ref (B + 491) :: st) pc :=
  zr_getr C (ci := 12) (Cn := RX12) (T := TX12) (N := 82) (k := 491) (j := 31) (fs := [none, some (some 492), some (some 493), none, some (some 494), none, some (some 495), none, none, none, some (some 496), some (some 497), some (some 498), some (some 499), some (some 500), none, some (some 501), some (some 502), some (some 503), none, some (some 504), some (some 505), some (some 506), some (some 507), some (some 508), none, some (some 509), some (some 510), some (some 511), some (some 512), some (some 513), some (some 514), some (some 515), some (some 516), some (some 517), some (some 518), none, none, some (some 519), none, some (some 520), none, none, none, some (some 521), some (some 522), some (some 523), some (some 524), some (some 525), some (some 526), some (some 527), none, some (some 528), none, some (some 529), none, some (some 530), some (some 531), some (some 532), none, some (some 533), some (some 534), some (some 535), some (some 536), some (some 537), none, none, none, some (some 538), some (some 539), some (some 540), none, none, none, some (some 541), none, none, some (some 542), some (some 543), some (some 544), none, some (some 545)]) rfl zin_12 (Nat.le_of_ble_eq_true rfl) rfl (hS _ _ zs_491) rfl zk_fl_12_77 hd kk
theorem zg_12_80 {p : Program} {l : Launch} {e : Env} {R : Room} {s : State} {m : MethodId} {args : Array Value} {below : List Frame} {meth : Method} {c : Code} {Q : State → Prop} {D : va_G} {B : Nat} {cA : Nat → ClassId} {ad : Nat → Nat} {cc : ByteArray} {nL : Nat} {ret : Option FieldType} {S : List zC} {I : zI} {lv : List (Nat × Value)} {st : List Value} {pc : Nat} (C : zCx p s m args meth c cc nL RX12 ret D B cA ad) (hS : zOkM S) (hd : decode cc pc = .ok (.getfield 80, 3)) (kk : zX p l e R s m args below meth c Q D B cA nL 0 0 S I lv (.ref (B + 515) :: st) (pc + 3)) : zX p l e R s m args below meth c Q D B cA nL 0 0 S I lv (.ref (B + 491) :: st) pc :=
  zr_getr C (ci := 12) (Cn := RX12) (T := TX12) (N := 82) (k := 491) (j := 32) (fs := [none, some (some 492), some (some 493), none, some (some 494), none, some (some 495), none, none, none, some (some 496), some (some 497), some (some 498), some (some 499), some (some 500), none, some (some 501), some (some 502), some (some 503), none, some (some 504), some (some 505), some (some 506), some (some 507), some (some 508), none, some (some 509), some (some 510), some (some 511), some (some 512), some (some 513), some (some 514), some (some 515), some (some 516), some (some 517), some (some 518), none, none, some (some 519), none, some (some 520), none, none, none, some (some 521), some (some 522), some (some 523), some (some 524), some (some 525), some (some 526), some (some 527), none, some (some 528), none, some (some 529), none, some (some 530), some (some 531), some (some 532), none, some (some 533), some (some 534), some (some 535), some (some 536), some (some 537), none, none, none, some (some 538), some (some 539), some (some 540), none, none, none, some (some 541), none, none, some (some 542), some (some 543), some (some 544), none, some (some 545)]) rfl zin_12 (Nat.le_of_ble_eq_true rfl) rfl (hS _ _ zs_491) rfl zk_fl_12_80 hd kk
theorem zg_12_83 {p : Program} {l : Launch} {e : Env} {R : Room} {s : State} {m : MethodId} {args : Array Value} {below : List Frame} {meth : Method} {c : Code} {Q : State → Prop} {D : va_G} {B : Nat} {cA : Nat → ClassId} {ad : Nat → Nat} {cc : ByteArray} {nL : Nat} {ret : Option FieldType} {S : List zC} {I : zI} {lv : List (Nat × Value)} {st : List Value} {pc : Nat} (C : zCx p s m args meth c cc nL RX12 ret D B cA ad) (hS : zOkM S) (hd : decode cc pc = .ok (.getfield 83, 3)) (kk : zX p l e R s m args below meth c Q D B cA nL 0 0 S I lv (.ref (B + 516) :: st) (pc + 3)) : zX p l e R s m args below meth c Q D B cA nL 0 0 S I lv (.ref (B + 491) :: st) pc :=
  zr_getr C (ci := 12) (Cn := RX12) (T := TX12) (N := 82) (k := 491) (j := 33) (fs := [none, some (some 492), some (some 493), none, some (some 494), none, some (some 495), none, none, none, some (some 496), some (some 497), some (some 498), some (some 499), some (some 500), none, some (some 501), some (some 502), some (some 503), none, some (some 504), some (some 505), some (some 506), some (some 507), some (some 508), none, some (some 509), some (some 510), some (some 511), some (some 512), some (some 513), some (some 514), some (some 515), some (some 516), some (some 517), some (some 518), none, none, some (some 519), none, some (some 520), none, none, none, some (some 521), some (some 522), some (some 523), some (some 524), some (some 525), some (some 526), some (some 527), none, some (some 528), none, some (some 529), none, some (some 530), some (some 531), some (some 532), none, some (some 533), some (some 534), some (some 535), some (some 536), some (some 537), none, none, none, some (some 538), some (some 539), some (some 540), none, none, none, some (some 541), none, none, some (some 542), some (some 543), some (some 544), none, some (some 545)]) rfl zin_12 (Nat.le_of_ble_eq_true rfl) rfl (hS _ _ zs_491) rfl zk_fl_12_83 hd kk
theorem zg_12_250 {p : Program} {l : Launch} {e : Env} {R : Room} {s : State} {m : MethodId} {args : Array Value} {below : List Frame} {meth : Method} {c : Code} {Q : State → Prop} {D : va_G} {B : Nat} {cA : Nat → ClassId} {ad : Nat → Nat} {cc : ByteArray} {nL : Nat} {ret : Option FieldType} {S : List zC} {I : zI} {lv : List (Nat × Value)} {st : List Value} {pc : Nat} (C : zCx p s m args meth c cc nL RX12 ret D B cA ad) (hS : zOkM S) (hd : decode cc pc = .ok (.getfield 250, 3)) (kk : zX p l e R s m args below meth c Q D B cA nL 0 0 S I lv (.int (I.1 491 36) :: st) (pc + 3)) : zX p l e R s m args below meth c Q D B cA nL 0 0 S I lv (.ref (B + 491) :: st) pc :=
  zr_geti C (ci := 12) (Cn := RX12) (T := TX12) (N := 82) (k := 491) (j := 36) (fs := [none, some (some 492), some (some 493), none, some (some 494), none, some (some 495), none, none, none, some (some 496), some (some 497), some (some 498), some (some 499), some (some 500), none, some (some 501), some (some 502), some (some 503), none, some (some 504), some (some 505), some (some 506), some (some 507), some (some 508), none, some (some 509), some (some 510), some (some 511), some (some 512), some (some 513), some (some 514), some (some 515), some (some 516), some (some 517), some (some 518), none, none, some (some 519), none, some (some 520), none, none, none, some (some 521), some (some 522), some (some 523), some (some 524), some (some 525), some (some 526), some (some 527), none, some (some 528), none, some (some 529), none, some (some 530), some (some 531), some (some 532), none, some (some 533), some (some 534), some (some 535), some (some 536), some (some 537), none, none, none, some (some 538), some (some 539), some (some 540), none, none, none, some (some 541), none, none, some (some 542), some (some 543), some (some 544), none, some (some 545)]) rfl zin_12 (Nat.le_of_ble_eq_true rfl) rfl (hS _ _ zs_491) rfl zk_fl_12_250 hd kk
theorem zg_12_86 {p : Program} {l : Launch} {e : Env} {R : Room} {s : State} {m : MethodId} {args : Array Value} {below : List Frame} {meth : Method} {c : Code} {Q : State → Prop} {D : va_G} {B : Nat} {cA : Nat → ClassId} {ad : Nat → Nat} {cc : ByteArray} {nL : Nat} {ret : Option FieldType} {S : List zC} {I : zI} {lv : List (Nat × Value)} {st : List Value} {pc : Nat} (C : zCx p s m args meth c cc nL RX12 ret D B cA ad) (hS : zOkM S) (hd : decode cc pc = .ok (.getfield 86, 3)) (kk : zX p l e R s m args below meth c Q D B cA nL 0 0 S I lv (.ref (B + 517) :: st) (pc + 3)) : zX p l e R s m args below meth c Q D B cA nL 0 0 S I lv (.ref (B + 491) :: st) pc :=
  zr_getr C (ci := 12) (Cn := RX12) (T := TX12) (N := 82) (k := 491) (j := 34) (fs := [none, some (some 492), some (some 493), none, some (some 494), none, some (some 495), none, none, none, some (some 496), some (some 497), some (some 498), some (some 499), some (some 500), none, some (some 501), some (some 502), some (some 503), none, some (some 504), some (some 505), some (some 506), some (some 507), some (some 508), none, some (some 509), some (some 510), some (some 511), some (some 512), some (some 513), some (some 514), some (some 515), some (some 516), some (some 517), some (some 518), none, none, some (some 519), none, some (some 520), none, none, none, some (some 521), some (some 522), some (some 523), some (some 524), some (some 525), some (some 526), some (some 527), none, some (some 528), none, some (some 529), none, some (some 530), some (some 531), some (some 532), none, some (some 533), some (some 534), some (some 535), some (some 536), some (some 537), none, none, none, some (some 538), some (some 539), some (some 540), none, none, none, some (some 541), none, none, some (some 542), some (some 543), some (some 544), none, some (some 545)]) rfl zin_12 (Nat.le_of_ble_eq_true rfl) rfl (hS _ _ zs_491) rfl zk_fl_12_86 hd kk
theorem zp_12_247 {p : Program} {l : Launch} {e : Env} {R : Room} {s : State} {m : MethodId} {args : Array Value} {below : List Frame} {meth : Method} {c : Code} {Q : State → Prop} {D : va_G} {B : Nat} {cA : Nat → ClassId} {ad : Nat → Nat} {cc : ByteArray} {nL : Nat} {ret : Option FieldType} {S : List zC} {I : zI} {lv : List (Nat × Value)} {st : List Value} {pc : Nat} (C : zCx p s m args meth c cc nL RX12 ret D B cA ad) (hS : zOkM S) {v : Int32} (hd : decode cc pc = .ok (.putfield 247, 3)) (kk : zX p l e R s m args below meth c Q D B cA nL 0 0 S (zu I 491 25 v) lv st (pc + 3)) : zX p l e R s m args below meth c Q D B cA nL 0 0 S I lv (.int v :: .ref (B + 491) :: st) pc :=
  zr_puti C (ci := 12) (Cn := RX12) (T := TX12) (N := 82) (k := 491) (j := 25) (fs := [none, some (some 492), some (some 493), none, some (some 494), none, some (some 495), none, none, none, some (some 496), some (some 497), some (some 498), some (some 499), some (some 500), none, some (some 501), some (some 502), some (some 503), none, some (some 504), some (some 505), some (some 506), some (some 507), some (some 508), none, some (some 509), some (some 510), some (some 511), some (some 512), some (some 513), some (some 514), some (some 515), some (some 516), some (some 517), some (some 518), none, none, some (some 519), none, some (some 520), none, none, none, some (some 521), some (some 522), some (some 523), some (some 524), some (some 525), some (some 526), some (some 527), none, some (some 528), none, some (some 529), none, some (some 530), some (some 531), some (some 532), none, some (some 533), some (some 534), some (some 535), some (some 536), some (some 537), none, none, none, some (some 538), some (some 539), some (some 540), none, none, none, some (some 541), none, none, some (some 542), some (some 543), some (some 544), none, some (some 545)]) rfl zin_12 (Nat.le_of_ble_eq_true rfl) rfl (hS _ _ zs_491) rfl tyX12 tyX12_ok nmX12 (ty := .int) zpd_I rfl rfl rfl zk_fl_12_247 hd kk
def w_M_newNode (a1 : Int32) (a2 : Int32) (I : zI) (K : Int32 → zI → Prop) : Prop :=
  ∀ v3_1, v3_1 = (I.1 491 25) → vp_in v3_1 3700 ∧ (∀ I_2, I_2 = (zu I 509 (Int32.toNatClampNeg v3_1) a1) → vp_in v3_1 3700 ∧ (∀ I_3, I_3 = (zu I_2 510 (Int32.toNatClampNeg v3_1) 0) → vp_in v3_1 3700 ∧ (∀ I_4, I_4 = (zul I_3 511 (Int32.toNatClampNeg v3_1) 0) → vp_in v3_1 3700 ∧ (∀ I_5, I_5 = (zu I_4 512 (Int32.toNatClampNeg v3_1) 0) → vp_in v3_1 3700 ∧ (∀ I_6, I_6 = (zu I_5 514 (Int32.toNatClampNeg v3_1) (-2)) → vp_in v3_1 3700 ∧ (∀ I_7, I_7 = (zu I_6 515 (Int32.toNatClampNeg v3_1) a2) → vp_in v3_1 3700 ∧ (∀ I_8, I_8 = (zu I_7 516 (Int32.toNatClampNeg v3_1) (I_7.1 491 36)) → vp_in v3_1 3700 ∧ (∀ I_9, I_9 = (zu I_8 517 (Int32.toNatClampNeg v3_1) (-1)) → ∀ I_10, I_10 = (zu I_9 491 25 ((I_9.1 491 25) + 1)) → K v3_1 I_10))))))))
theorem dyX12_newNode_0 : decode cX12_newNode 0 = .ok (.aload_n 0, 1) := by decide +kernel
theorem dyX12_newNode_1 : decode cX12_newNode 1 = .ok (.getfield 247, 3) := by decide +kernel
theorem dyX12_newNode_4 : decode cX12_newNode 4 = .ok (.istore_n 3, 1) := by decide +kernel
theorem dyX12_newNode_5 : decode cX12_newNode 5 = .ok (.aload_n 0, 1) := by decide +kernel
theorem dyX12_newNode_6 : decode cX12_newNode 6 = .ok (.getfield 62, 3) := by decide +kernel
theorem dyX12_newNode_9 : decode cX12_newNode 9 = .ok (.iload_n 3, 1) := by decide +kernel
theorem dyX12_newNode_10 : decode cX12_newNode 10 = .ok (.iload_n 1, 1) := by decide +kernel
theorem dyX12_newNode_11 : decode cX12_newNode 11 = .ok (.iastore, 1) := by decide +kernel
theorem dyX12_newNode_12 : decode cX12_newNode 12 = .ok (.aload_n 0, 1) := by decide +kernel
theorem dyX12_newNode_13 : decode cX12_newNode 13 = .ok (.getfield 65, 3) := by decide +kernel
theorem dyX12_newNode_16 : decode cX12_newNode 16 = .ok (.iload_n 3, 1) := by decide +kernel
theorem dyX12_newNode_17 : decode cX12_newNode 17 = .ok (.iconst 0, 1) := by decide +kernel
theorem dyX12_newNode_18 : decode cX12_newNode 18 = .ok (.iastore, 1) := by decide +kernel
theorem dyX12_newNode_19 : decode cX12_newNode 19 = .ok (.aload_n 0, 1) := by decide +kernel
theorem dyX12_newNode_20 : decode cX12_newNode 20 = .ok (.getfield 68, 3) := by decide +kernel
theorem dyX12_newNode_23 : decode cX12_newNode 23 = .ok (.iload_n 3, 1) := by decide +kernel
theorem dyX12_newNode_24 : decode cX12_newNode 24 = .ok (.lconst 0, 1) := by decide +kernel
theorem dyX12_newNode_25 : decode cX12_newNode 25 = .ok (.lastore, 1) := by decide +kernel
theorem dyX12_newNode_26 : decode cX12_newNode 26 = .ok (.aload_n 0, 1) := by decide +kernel
theorem dyX12_newNode_27 : decode cX12_newNode 27 = .ok (.getfield 71, 3) := by decide +kernel
theorem dyX12_newNode_30 : decode cX12_newNode 30 = .ok (.iload_n 3, 1) := by decide +kernel
theorem dyX12_newNode_31 : decode cX12_newNode 31 = .ok (.iconst 0, 1) := by decide +kernel
theorem dyX12_newNode_32 : decode cX12_newNode 32 = .ok (.iastore, 1) := by decide +kernel
theorem dyX12_newNode_33 : decode cX12_newNode 33 = .ok (.aload_n 0, 1) := by decide +kernel
theorem dyX12_newNode_34 : decode cX12_newNode 34 = .ok (.getfield 77, 3) := by decide +kernel
theorem dyX12_newNode_37 : decode cX12_newNode 37 = .ok (.iload_n 3, 1) := by decide +kernel
theorem dyX12_newNode_38 : decode cX12_newNode 38 = .ok (.bipush (-2), 2) := by decide +kernel
theorem dyX12_newNode_40 : decode cX12_newNode 40 = .ok (.iastore, 1) := by decide +kernel
theorem dyX12_newNode_41 : decode cX12_newNode 41 = .ok (.aload_n 0, 1) := by decide +kernel
theorem dyX12_newNode_42 : decode cX12_newNode 42 = .ok (.getfield 80, 3) := by decide +kernel
theorem dyX12_newNode_45 : decode cX12_newNode 45 = .ok (.iload_n 3, 1) := by decide +kernel
theorem dyX12_newNode_46 : decode cX12_newNode 46 = .ok (.iload_n 2, 1) := by decide +kernel
theorem dyX12_newNode_47 : decode cX12_newNode 47 = .ok (.iastore, 1) := by decide +kernel
theorem dyX12_newNode_48 : decode cX12_newNode 48 = .ok (.aload_n 0, 1) := by decide +kernel
theorem dyX12_newNode_49 : decode cX12_newNode 49 = .ok (.getfield 83, 3) := by decide +kernel
theorem dyX12_newNode_52 : decode cX12_newNode 52 = .ok (.iload_n 3, 1) := by decide +kernel
theorem dyX12_newNode_53 : decode cX12_newNode 53 = .ok (.aload_n 0, 1) := by decide +kernel
theorem dyX12_newNode_54 : decode cX12_newNode 54 = .ok (.getfield 250, 3) := by decide +kernel
theorem dyX12_newNode_57 : decode cX12_newNode 57 = .ok (.iastore, 1) := by decide +kernel
theorem dyX12_newNode_58 : decode cX12_newNode 58 = .ok (.aload_n 0, 1) := by decide +kernel
theorem dyX12_newNode_59 : decode cX12_newNode 59 = .ok (.getfield 86, 3) := by decide +kernel
theorem dyX12_newNode_62 : decode cX12_newNode 62 = .ok (.iload_n 3, 1) := by decide +kernel
theorem dyX12_newNode_63 : decode cX12_newNode 63 = .ok (.iconst (-1), 1) := by decide +kernel
theorem dyX12_newNode_64 : decode cX12_newNode 64 = .ok (.iastore, 1) := by decide +kernel
theorem dyX12_newNode_65 : decode cX12_newNode 65 = .ok (.aload_n 0, 1) := by decide +kernel
theorem dyX12_newNode_66 : decode cX12_newNode 66 = .ok (.dup, 1) := by decide +kernel
theorem dyX12_newNode_67 : decode cX12_newNode 67 = .ok (.getfield 247, 3) := by decide +kernel
theorem dyX12_newNode_70 : decode cX12_newNode 70 = .ok (.iconst 1, 1) := by decide +kernel
theorem dyX12_newNode_71 : decode cX12_newNode 71 = .ok (.iadd, 1) := by decide +kernel
theorem dyX12_newNode_72 : decode cX12_newNode 72 = .ok (.putfield 247, 3) := by decide +kernel
theorem dyX12_newNode_75 : decode cX12_newNode 75 = .ok (.iload_n 3, 1) := by decide +kernel
theorem dyX12_newNode_76 : decode cX12_newNode 76 = .ok (.ireturn, 1) := by decide +kernel
theorem zsg_yX12_newNode : yX12_newNode.cls = RX12 ∧ yX12_newNode.cls ≠ "java/lang/invoke/MethodHandle" ∧ yX12_newNode.cls ≠ "java/lang/invoke/VarHandle" ∧ (parseMethodDescriptor yX12_newNode.desc).map (fun d => d.parameters.length) = some 2 := by decide +kernel
set_option maxRecDepth 20000 in
theorem c_M_newNode {l : Launch} {D : va_G} {B : Nat} {cA : Nat → ClassId} {ad : Nat → Nat} {S : List zC} (hS : zOkM S) {a1 : Int32} {a2 : Int32} {I : zI} {K : Int32 → zI → Prop}  (h : w_M_newNode a1 a2 I K) : Met l yX12_newNode (zws yX12_newNode cX12_newNode 4 (some .int)) (zrm 0 0) (zPc D B cA ad [.ref (B + 491), .int a1, .int a2] S I) (zQc D B cA (zqI S K)) 0 0 (fun q => B ≤ q) := by
  refine zm_of (cc := cX12_newNode) (maxL := 4) (ret := (some .int)) (by decide +kernel) rfl (Nat.le_of_ble_eq_true rfl) trivial ?_
  intro p e s m args below meth c C _
  unfold w_M_newNode at h
  show zX p l e (zrm 0 0) s m args below meth c (MQ below (zQc D B cA (zqI S K)) args s 0 0 (fun q => B ≤ q)) D B cA 4 0 0 S I [(0, .ref (B + 491)), (1, .int a1), (2, .int a2)] [] 0
  refine zr_aload_n C dyX12_newNode_0 rfl 0 rfl ?_
  refine zg_12_247 C hS dyX12_newNode_1 ?_
  refine zn_istore_n C (fun v3_1 => [(3, .int v3_1), (0, .ref (B + 491)), (1, .int a1), (2, .int a2)]) dyX12_newNode_4 rfl (Nat.le_of_ble_eq_true rfl) (fun _ => rfl) (fun v3_1 ev3_1 => ?_)
  replace h := h v3_1 ev3_1
  refine zr_aload_n C dyX12_newNode_5 rfl 1 rfl ?_
  refine zg_12_62 C hS dyX12_newNode_6 ?_
  refine zr_iload_n C dyX12_newNode_9 rfl 0 rfl ?_
  refine zr_iload_n C dyX12_newNode_10 rfl 2 rfl ?_
  refine zr_iast C (hS _ _ zs_509) h.1 dyX12_newNode_11 ?_
  replace h := h.2
  refine zn_mem C (fun I_2 eI_2 => ?_)
  replace h := h I_2 eI_2
  refine zr_aload_n C dyX12_newNode_12 rfl 1 rfl ?_
  refine zg_12_65 C hS dyX12_newNode_13 ?_
  refine zr_iload_n C dyX12_newNode_16 rfl 0 rfl ?_
  refine zr_iconst C dyX12_newNode_17 zc_i_0 ?_
  refine zr_iast C (hS _ _ zs_510) h.1 dyX12_newNode_18 ?_
  replace h := h.2
  refine zn_mem C (fun I_3 eI_3 => ?_)
  replace h := h I_3 eI_3
  refine zr_aload_n C dyX12_newNode_19 rfl 1 rfl ?_
  refine zg_12_68 C hS dyX12_newNode_20 ?_
  refine zr_iload_n C dyX12_newNode_23 rfl 0 rfl ?_
  refine zr_lconst C dyX12_newNode_24 rfl ?_
  refine zr_last C (hS _ _ zs_511) h.1 dyX12_newNode_25 ?_
  replace h := h.2
  refine zn_mem C (fun I_4 eI_4 => ?_)
  replace h := h I_4 eI_4
  refine zr_aload_n C dyX12_newNode_26 rfl 1 rfl ?_
  refine zg_12_71 C hS dyX12_newNode_27 ?_
  refine zr_iload_n C dyX12_newNode_30 rfl 0 rfl ?_
  refine zr_iconst C dyX12_newNode_31 zc_i_0 ?_
  refine zr_iast C (hS _ _ zs_512) h.1 dyX12_newNode_32 ?_
  replace h := h.2
  refine zn_mem C (fun I_5 eI_5 => ?_)
  replace h := h I_5 eI_5
  refine zr_aload_n C dyX12_newNode_33 rfl 1 rfl ?_
  refine zg_12_77 C hS dyX12_newNode_34 ?_
  refine zr_iload_n C dyX12_newNode_37 rfl 0 rfl ?_
  refine zr_bipush C dyX12_newNode_38 zc_b_m2 ?_
  refine zr_iast C (hS _ _ zs_514) h.1 dyX12_newNode_40 ?_
  replace h := h.2
  refine zn_mem C (fun I_6 eI_6 => ?_)
  replace h := h I_6 eI_6
  refine zr_aload_n C dyX12_newNode_41 rfl 1 rfl ?_
  refine zg_12_80 C hS dyX12_newNode_42 ?_
  refine zr_iload_n C dyX12_newNode_45 rfl 0 rfl ?_
  refine zr_iload_n C dyX12_newNode_46 rfl 3 rfl ?_
  refine zr_iast C (hS _ _ zs_515) h.1 dyX12_newNode_47 ?_
  replace h := h.2
  refine zn_mem C (fun I_7 eI_7 => ?_)
  replace h := h I_7 eI_7
  refine zr_aload_n C dyX12_newNode_48 rfl 1 rfl ?_
  refine zg_12_83 C hS dyX12_newNode_49 ?_
  refine zr_iload_n C dyX12_newNode_52 rfl 0 rfl ?_
  refine zr_aload_n C dyX12_newNode_53 rfl 1 rfl ?_
  refine zg_12_250 C hS dyX12_newNode_54 ?_
  refine zr_iast C (hS _ _ zs_516) h.1 dyX12_newNode_57 ?_
  replace h := h.2
  refine zn_mem C (fun I_8 eI_8 => ?_)
  replace h := h I_8 eI_8
  refine zr_aload_n C dyX12_newNode_58 rfl 1 rfl ?_
  refine zg_12_86 C hS dyX12_newNode_59 ?_
  refine zr_iload_n C dyX12_newNode_62 rfl 0 rfl ?_
  refine zr_iconst C dyX12_newNode_63 zc_i_m1 ?_
  refine zr_iast C (hS _ _ zs_517) h.1 dyX12_newNode_64 ?_
  replace h := h.2
  refine zn_mem C (fun I_9 eI_9 => ?_)
  replace h := h I_9 eI_9
  refine zr_aload_n C dyX12_newNode_65 rfl 1 rfl ?_
  refine zr_dup C dyX12_newNode_66 rfl ?_
  refine zg_12_247 C hS dyX12_newNode_67 ?_
  refine zr_iconst C dyX12_newNode_70 zc_i_1 ?_
  refine zr_iadd C dyX12_newNode_71 ?_
  refine zp_12_247 C hS dyX12_newNode_72 ?_
  refine zn_mem C (fun I_10 eI_10 => ?_)
  replace h := h I_10 eI_10
  refine zr_iload_n C dyX12_newNode_75 rfl 0 rfl ?_
  exact zr_iret C rfl dyX12_newNode_76 ⟨rfl, _, rfl, h⟩
def w_M_manyOf (a0 : Int32) (I : zI) (K : Int32 → Prop) : Prop :=
  (if a0 = 0 then K 0 else (if a0 = 1 then K 2 else (if a0 = 2 then K 4 else (if a0 = 5 then K 1 else (if a0 = 7 then K 1 else (if a0 = 8 then K 1 else (if a0 = 9 then K 1 else K 3)))))))
theorem dyX12_manyOf_0 : decode cX12_manyOf 0 = .ok (.iload_n 0, 1) := by decide +kernel
theorem dyX12_manyOf_1 : decode cX12_manyOf 1 = .ok (.tableswitch 63 0 9 #[55, 57, 59, 63, 63, 61, 63, 61, 61, 61], 55) := by decide +kernel
theorem dyX12_manyOf_56 : decode cX12_manyOf 56 = .ok (.iconst 0, 1) := by decide +kernel
theorem dyX12_manyOf_57 : decode cX12_manyOf 57 = .ok (.ireturn, 1) := by decide +kernel
theorem dyX12_manyOf_58 : decode cX12_manyOf 58 = .ok (.iconst 2, 1) := by decide +kernel
theorem dyX12_manyOf_59 : decode cX12_manyOf 59 = .ok (.ireturn, 1) := by decide +kernel
theorem dyX12_manyOf_60 : decode cX12_manyOf 60 = .ok (.iconst 4, 1) := by decide +kernel
theorem dyX12_manyOf_61 : decode cX12_manyOf 61 = .ok (.ireturn, 1) := by decide +kernel
theorem dyX12_manyOf_62 : decode cX12_manyOf 62 = .ok (.iconst 1, 1) := by decide +kernel
theorem dyX12_manyOf_63 : decode cX12_manyOf 63 = .ok (.ireturn, 1) := by decide +kernel
theorem dyX12_manyOf_64 : decode cX12_manyOf 64 = .ok (.iconst 3, 1) := by decide +kernel
theorem dyX12_manyOf_65 : decode cX12_manyOf 65 = .ok (.ireturn, 1) := by decide +kernel
theorem zsg_yX12_manyOf : yX12_manyOf.cls ≠ "java/lang/invoke/MethodHandle" ∧ yX12_manyOf.cls ≠ "java/lang/invoke/VarHandle" ∧ (parseMethodDescriptor yX12_manyOf.desc).map (fun d => d.parameters.length) = some 1 := by decide +kernel
set_option maxRecDepth 20000 in
theorem c_M_manyOf {l : Launch} {D : va_G} {B : Nat} {cA : Nat → ClassId} {ad : Nat → Nat} {S : List zC} (hS : zOkM S) {a0 : Int32} {I : zI} {K : Int32 → Prop}  (h : w_M_manyOf a0 I K) : Met l yX12_manyOf (zws yX12_manyOf cX12_manyOf 1 (some .int)) (zrm 0 0) (zPc D B cA ad [.int a0] S I) (zQc D B cA (zpI S I K)) 0 0 (fun q => B ≤ q) := by
  refine zm_of (cc := cX12_manyOf) (maxL := 1) (ret := (some .int)) (by decide +kernel) rfl (Nat.le_of_ble_eq_true rfl) trivial ?_
  intro p e s m args below meth c C _
  unfold w_M_manyOf at h
  show zX p l e (zrm 0 0) s m args below meth c (MQ below (zQc D B cA (zpI S I K)) args s 0 0 (fun q => B ≤ q)) D B cA 1 0 0 S I [(0, .int a0)] [] 0
  refine zr_iload_n C dyX12_manyOf_0 rfl 0 rfl ?_
  by_cases hc_1 : a0 = 0
  · replace h := zif_pos hc_1 h
    refine zr_tableIn C dyX12_manyOf_1 (by rw [hc_1]; decide) (by rw [hc_1]; decide) (off := 55) (by rw [hc_1]; decide) (tgt := 56) (by decide) ?_
    refine zr_iconst C dyX12_manyOf_56 zc_i_0 ?_
    exact zr_iret C rfl dyX12_manyOf_57 ⟨rfl, rfl, _, rfl, h⟩
  replace h := zif_neg hc_1 h
  by_cases hc_2 : a0 = 1
  · replace h := zif_pos hc_2 h
    refine zr_tableIn C dyX12_manyOf_1 (by rw [hc_2]; decide) (by rw [hc_2]; decide) (off := 57) (by rw [hc_2]; decide) (tgt := 58) (by decide) ?_
    refine zr_iconst C dyX12_manyOf_58 zc_i_2 ?_
    exact zr_iret C rfl dyX12_manyOf_59 ⟨rfl, rfl, _, rfl, h⟩
  replace h := zif_neg hc_2 h
  by_cases hc_3 : a0 = 2
  · replace h := zif_pos hc_3 h
    refine zr_tableIn C dyX12_manyOf_1 (by rw [hc_3]; decide) (by rw [hc_3]; decide) (off := 59) (by rw [hc_3]; decide) (tgt := 60) (by decide) ?_
    refine zr_iconst C dyX12_manyOf_60 zc_i_4 ?_
    exact zr_iret C rfl dyX12_manyOf_61 ⟨rfl, rfl, _, rfl, h⟩
  replace h := zif_neg hc_3 h
  by_cases hc_4 : a0 = 5
  · replace h := zif_pos hc_4 h
    refine zr_tableIn C dyX12_manyOf_1 (by rw [hc_4]; decide) (by rw [hc_4]; decide) (off := 61) (by rw [hc_4]; decide) (tgt := 62) (by decide) ?_
    refine zr_iconst C dyX12_manyOf_62 zc_i_1 ?_
    exact zr_iret C rfl dyX12_manyOf_63 ⟨rfl, rfl, _, rfl, h⟩
  replace h := zif_neg hc_4 h
  by_cases hc_5 : a0 = 7
  · replace h := zif_pos hc_5 h
    refine zr_tableIn C dyX12_manyOf_1 (by rw [hc_5]; decide) (by rw [hc_5]; decide) (off := 61) (by rw [hc_5]; decide) (tgt := 62) (by decide) ?_
    refine zr_iconst C dyX12_manyOf_62 zc_i_1 ?_
    exact zr_iret C rfl dyX12_manyOf_63 ⟨rfl, rfl, _, rfl, h⟩
  replace h := zif_neg hc_5 h
  by_cases hc_6 : a0 = 8
  · replace h := zif_pos hc_6 h
    refine zr_tableIn C dyX12_manyOf_1 (by rw [hc_6]; decide) (by rw [hc_6]; decide) (off := 61) (by rw [hc_6]; decide) (tgt := 62) (by decide) ?_
    refine zr_iconst C dyX12_manyOf_62 zc_i_1 ?_
    exact zr_iret C rfl dyX12_manyOf_63 ⟨rfl, rfl, _, rfl, h⟩
  replace h := zif_neg hc_6 h
  by_cases hc_7 : a0 = 9
  · replace h := zif_pos hc_7 h
    refine zr_tableIn C dyX12_manyOf_1 (by rw [hc_7]; decide) (by rw [hc_7]; decide) (off := 61) (by rw [hc_7]; decide) (tgt := 62) (by decide) ?_
    refine zr_iconst C dyX12_manyOf_62 zc_i_1 ?_
    exact zr_iret C rfl dyX12_manyOf_63 ⟨rfl, rfl, _, rfl, h⟩
  replace h := zif_neg hc_7 h
  by_cases hg_8 : a0 = 3
  · refine zr_tableIn C dyX12_manyOf_1 (by rw [hg_8]; decide) (by rw [hg_8]; decide) (off := 63) (by rw [hg_8]; decide) (tgt := 64) (by decide) ?_
    refine zr_iconst C dyX12_manyOf_64 zc_i_3 ?_
    exact zr_iret C rfl dyX12_manyOf_65 ⟨rfl, rfl, _, rfl, h⟩
  by_cases hg_9 : a0 = 4
  · refine zr_tableIn C dyX12_manyOf_1 (by rw [hg_9]; decide) (by rw [hg_9]; decide) (off := 63) (by rw [hg_9]; decide) (tgt := 64) (by decide) ?_
    refine zr_iconst C dyX12_manyOf_64 zc_i_3 ?_
    exact zr_iret C rfl dyX12_manyOf_65 ⟨rfl, rfl, _, rfl, h⟩
  by_cases hg_10 : a0 = 6
  · refine zr_tableIn C dyX12_manyOf_1 (by rw [hg_10]; decide) (by rw [hg_10]; decide) (off := 63) (by rw [hg_10]; decide) (tgt := 64) (by decide) ?_
    refine zr_iconst C dyX12_manyOf_64 zc_i_3 ?_
    exact zr_iret C rfl dyX12_manyOf_65 ⟨rfl, rfl, _, rfl, h⟩
  refine zr_tableOut C dyX12_manyOf_1 (ztab_out (fun i h1 h2 => ?_)) (tgt := 64) (by decide) ?_
  · rcases (by omega : i = 0 ∨ i = 1 ∨ i = 2 ∨ i = 3 ∨ i = 4 ∨ i = 5 ∨ i = 6 ∨ i = 7 ∨ i = 8 ∨ i = 9) with rfl | rfl | rfl | rfl | rfl | rfl | rfl | rfl | rfl | rfl
    · exact hc_1
    · exact hc_2
    · exact hc_3
    · exact hg_8
    · exact hg_9
    · exact hc_4
    · exact hg_10
    · exact hc_5
    · exact hc_6
    · exact hc_7
  refine zr_iconst C dyX12_manyOf_64 zc_i_3 ?_
  exact zr_iret C rfl dyX12_manyOf_65 ⟨rfl, rfl, _, rfl, h⟩
def w_M_symbolOf (a0 : Int32) (I : zI) (K : Int32 → Prop) : Prop :=
  (if 2 ≤ a0 then (if 4 ≤ a0 then (if 6 ≤ a0 then (if 8 ≤ a0 then K 4 else K 3) else K 2) else K 1) else K 0)
theorem dyX12_symbolOf_0 : decode cX12_symbolOf 0 = .ok (.iload_n 0, 1) := by decide +kernel
theorem dyX12_symbolOf_1 : decode cX12_symbolOf 1 = .ok (.iconst 2, 1) := by decide +kernel
theorem dyX12_symbolOf_2 : decode cX12_symbolOf 2 = .ok (.if_icmp .ge 7, 3) := by decide +kernel
theorem dyX12_symbolOf_5 : decode cX12_symbolOf 5 = .ok (.iconst 0, 1) := by decide +kernel
theorem dyX12_symbolOf_6 : decode cX12_symbolOf 6 = .ok (.goto 33, 3) := by decide +kernel
theorem dyX12_symbolOf_9 : decode cX12_symbolOf 9 = .ok (.iload_n 0, 1) := by decide +kernel
theorem dyX12_symbolOf_10 : decode cX12_symbolOf 10 = .ok (.iconst 4, 1) := by decide +kernel
theorem dyX12_symbolOf_11 : decode cX12_symbolOf 11 = .ok (.if_icmp .ge 7, 3) := by decide +kernel
theorem dyX12_symbolOf_14 : decode cX12_symbolOf 14 = .ok (.iconst 1, 1) := by decide +kernel
theorem dyX12_symbolOf_15 : decode cX12_symbolOf 15 = .ok (.goto 24, 3) := by decide +kernel
theorem dyX12_symbolOf_18 : decode cX12_symbolOf 18 = .ok (.iload_n 0, 1) := by decide +kernel
theorem dyX12_symbolOf_19 : decode cX12_symbolOf 19 = .ok (.bipush 6, 2) := by decide +kernel
theorem dyX12_symbolOf_21 : decode cX12_symbolOf 21 = .ok (.if_icmp .ge 7, 3) := by decide +kernel
theorem dyX12_symbolOf_24 : decode cX12_symbolOf 24 = .ok (.iconst 2, 1) := by decide +kernel
theorem dyX12_symbolOf_25 : decode cX12_symbolOf 25 = .ok (.goto 14, 3) := by decide +kernel
theorem dyX12_symbolOf_28 : decode cX12_symbolOf 28 = .ok (.iload_n 0, 1) := by decide +kernel
theorem dyX12_symbolOf_29 : decode cX12_symbolOf 29 = .ok (.bipush 8, 2) := by decide +kernel
theorem dyX12_symbolOf_31 : decode cX12_symbolOf 31 = .ok (.if_icmp .ge 7, 3) := by decide +kernel
theorem dyX12_symbolOf_34 : decode cX12_symbolOf 34 = .ok (.iconst 3, 1) := by decide +kernel
theorem dyX12_symbolOf_35 : decode cX12_symbolOf 35 = .ok (.goto 4, 3) := by decide +kernel
theorem dyX12_symbolOf_38 : decode cX12_symbolOf 38 = .ok (.iconst 4, 1) := by decide +kernel
theorem dyX12_symbolOf_39 : decode cX12_symbolOf 39 = .ok (.ireturn, 1) := by decide +kernel
theorem zsg_yX12_symbolOf : yX12_symbolOf.cls ≠ "java/lang/invoke/MethodHandle" ∧ yX12_symbolOf.cls ≠ "java/lang/invoke/VarHandle" ∧ (parseMethodDescriptor yX12_symbolOf.desc).map (fun d => d.parameters.length) = some 1 := by decide +kernel
set_option maxRecDepth 20000 in
theorem c_M_symbolOf {l : Launch} {D : va_G} {B : Nat} {cA : Nat → ClassId} {ad : Nat → Nat} {S : List zC} (hS : zOkM S) {a0 : Int32} {I : zI} {K : Int32 → Prop}  (h : w_M_symbolOf a0 I K) : Met l yX12_symbolOf (zws yX12_symbolOf cX12_symbolOf 1 (some .int)) (zrm 0 0) (zPc D B cA ad [.int a0] S I) (zQc D B cA (zpI S I K)) 0 0 (fun q => B ≤ q) := by
  refine zm_of (cc := cX12_symbolOf) (maxL := 1) (ret := (some .int)) (by decide +kernel) rfl (Nat.le_of_ble_eq_true rfl) trivial ?_
  intro p e s m args below meth c C _
  unfold w_M_symbolOf at h
  show zX p l e (zrm 0 0) s m args below meth c (MQ below (zQc D B cA (zpI S I K)) args s 0 0 (fun q => B ≤ q)) D B cA 1 0 0 S I [(0, .int a0)] [] 0
  refine zr_iload_n C dyX12_symbolOf_0 rfl 0 rfl ?_
  refine zr_iconst C dyX12_symbolOf_1 zc_i_2 ?_
  refine zr_icmp_ge C dyX12_symbolOf_2 (tgt := 9) (by decide) (fun hc_4 => ?_) (fun hc_4 => ?_)
  · replace h := zif_pos hc_4 h
    refine zr_iload_n C dyX12_symbolOf_9 rfl 0 rfl ?_
    refine zr_iconst C dyX12_symbolOf_10 zc_i_4 ?_
    refine zr_icmp_ge C dyX12_symbolOf_11 (tgt := 18) (by decide) (fun hc_3 => ?_) (fun hc_3 => ?_)
    · replace h := zif_pos hc_3 h
      refine zr_iload_n C dyX12_symbolOf_18 rfl 0 rfl ?_
      refine zr_bipush C dyX12_symbolOf_19 zc_b_6 ?_
      refine zr_icmp_ge C dyX12_symbolOf_21 (tgt := 28) (by decide) (fun hc_2 => ?_) (fun hc_2 => ?_)
      · replace h := zif_pos hc_2 h
        refine zr_iload_n C dyX12_symbolOf_28 rfl 0 rfl ?_
        refine zr_bipush C dyX12_symbolOf_29 zc_b_8 ?_
        refine zr_icmp_ge C dyX12_symbolOf_31 (tgt := 38) (by decide) (fun hc_1 => ?_) (fun hc_1 => ?_)
        · replace h := zif_pos hc_1 h
          refine zr_iconst C dyX12_symbolOf_38 zc_i_4 ?_
          exact zr_iret C rfl dyX12_symbolOf_39 ⟨rfl, rfl, _, rfl, h⟩
        · replace h := zif_neg hc_1 h
          refine zr_iconst C dyX12_symbolOf_34 zc_i_3 ?_
          refine zr_goto C dyX12_symbolOf_35 (tgt := 39) (by decide) ?_
          exact zr_iret C rfl dyX12_symbolOf_39 ⟨rfl, rfl, _, rfl, h⟩
      · replace h := zif_neg hc_2 h
        refine zr_iconst C dyX12_symbolOf_24 zc_i_2 ?_
        refine zr_goto C dyX12_symbolOf_25 (tgt := 39) (by decide) ?_
        exact zr_iret C rfl dyX12_symbolOf_39 ⟨rfl, rfl, _, rfl, h⟩
    · replace h := zif_neg hc_3 h
      refine zr_iconst C dyX12_symbolOf_14 zc_i_1 ?_
      refine zr_goto C dyX12_symbolOf_15 (tgt := 39) (by decide) ?_
      exact zr_iret C rfl dyX12_symbolOf_39 ⟨rfl, rfl, _, rfl, h⟩
  · replace h := zif_neg hc_4 h
    refine zr_iconst C dyX12_symbolOf_5 zc_i_0 ?_
    refine zr_goto C dyX12_symbolOf_6 (tgt := 39) (by decide) ?_
    exact zr_iret C rfl dyX12_symbolOf_39 ⟨rfl, rfl, _, rfl, h⟩
def w_M_shifts (a0 : Int32) (a1 : Int32) (I : zI) (K : Int32 → Prop) : Prop :=
  ∀ (P88 : Prop), (((if a1 = 0 then K 3 else (if a1 = 8 then K 4 else (if a1 = 9 then (if a0 = 6 then K 13 else (K (-1))) else (K (-1)))))) → P88) → ∀ (P136 : Prop), (((if a1 = 0 then K 10 else (if a1 = 1 then K 11 else (if a1 = 6 then K 12 else (K (-1)))))) → P136) → ∀ (P190 : Prop), (((if a1 = 5 then K 16 else (K (-1)))) → P190) → (if a0 = 1 then P88 else (if a0 = 3 then (if a1 = 2 then K 5 else (K (-1))) else (if a0 = 5 then P136 else (if a0 = 6 then P88 else (if a0 = 7 then (if a1 = 3 then K 14 else (if a1 = 4 then K 15 else (K (-1)))) else (if a0 = 8 then P190 else (if a0 = 12 then P136 else (if a0 = 15 then P136 else (if a0 = 16 then P136 else (if a0 = 17 then (if a1 = 7 then K 20 else (if a1 = 4 then K 15 else (K (-1)))) else (if a0 = 18 then P190 else (K (-1)))))))))))))
theorem dyX12_shifts_0 : decode cX12_shifts 0 = .ok (.iload_n 0, 1) := by decide +kernel
theorem dyX12_shifts_1 : decode cX12_shifts 1 = .ok (.tableswitch 224 1 18 #[87, 224, 124, 224, 135, 87, 167, 189, 224, 224, 224, 135, 224, 224, 135, 135, 201, 189], 87) := by decide +kernel
theorem dyX12_shifts_88 : decode cX12_shifts 88 = .ok (.iload_n 1, 1) := by decide +kernel
theorem dyX12_shifts_89 : decode cX12_shifts 89 = .ok (.ifCond .ne 7, 3) := by decide +kernel
theorem dyX12_shifts_92 : decode cX12_shifts 92 = .ok (.iconst 3, 1) := by decide +kernel
theorem dyX12_shifts_93 : decode cX12_shifts 93 = .ok (.goto 31, 3) := by decide +kernel
theorem dyX12_shifts_96 : decode cX12_shifts 96 = .ok (.iload_n 1, 1) := by decide +kernel
theorem dyX12_shifts_97 : decode cX12_shifts 97 = .ok (.bipush 8, 2) := by decide +kernel
theorem dyX12_shifts_99 : decode cX12_shifts 99 = .ok (.if_icmp .ne 7, 3) := by decide +kernel
theorem dyX12_shifts_102 : decode cX12_shifts 102 = .ok (.iconst 4, 1) := by decide +kernel
theorem dyX12_shifts_103 : decode cX12_shifts 103 = .ok (.goto 21, 3) := by decide +kernel
theorem dyX12_shifts_106 : decode cX12_shifts 106 = .ok (.iload_n 1, 1) := by decide +kernel
theorem dyX12_shifts_107 : decode cX12_shifts 107 = .ok (.bipush 9, 2) := by decide +kernel
theorem dyX12_shifts_109 : decode cX12_shifts 109 = .ok (.if_icmp .ne 14, 3) := by decide +kernel
theorem dyX12_shifts_112 : decode cX12_shifts 112 = .ok (.iload_n 0, 1) := by decide +kernel
theorem dyX12_shifts_113 : decode cX12_shifts 113 = .ok (.bipush 6, 2) := by decide +kernel
theorem dyX12_shifts_115 : decode cX12_shifts 115 = .ok (.if_icmp .ne 8, 3) := by decide +kernel
theorem dyX12_shifts_118 : decode cX12_shifts 118 = .ok (.bipush 13, 2) := by decide +kernel
theorem dyX12_shifts_120 : decode cX12_shifts 120 = .ok (.goto 4, 3) := by decide +kernel
theorem dyX12_shifts_123 : decode cX12_shifts 123 = .ok (.iconst (-1), 1) := by decide +kernel
theorem dyX12_shifts_124 : decode cX12_shifts 124 = .ok (.ireturn, 1) := by decide +kernel
theorem dyX12_shifts_125 : decode cX12_shifts 125 = .ok (.iload_n 1, 1) := by decide +kernel
theorem dyX12_shifts_126 : decode cX12_shifts 126 = .ok (.iconst 2, 1) := by decide +kernel
theorem dyX12_shifts_127 : decode cX12_shifts 127 = .ok (.if_icmp .ne 7, 3) := by decide +kernel
theorem dyX12_shifts_130 : decode cX12_shifts 130 = .ok (.iconst 5, 1) := by decide +kernel
theorem dyX12_shifts_131 : decode cX12_shifts 131 = .ok (.goto 4, 3) := by decide +kernel
theorem dyX12_shifts_134 : decode cX12_shifts 134 = .ok (.iconst (-1), 1) := by decide +kernel
theorem dyX12_shifts_135 : decode cX12_shifts 135 = .ok (.ireturn, 1) := by decide +kernel
theorem dyX12_shifts_136 : decode cX12_shifts 136 = .ok (.iload_n 1, 1) := by decide +kernel
theorem dyX12_shifts_137 : decode cX12_shifts 137 = .ok (.ifCond .ne 8, 3) := by decide +kernel
theorem dyX12_shifts_140 : decode cX12_shifts 140 = .ok (.bipush 10, 2) := by decide +kernel
theorem dyX12_shifts_142 : decode cX12_shifts 142 = .ok (.goto 25, 3) := by decide +kernel
theorem dyX12_shifts_145 : decode cX12_shifts 145 = .ok (.iload_n 1, 1) := by decide +kernel
theorem dyX12_shifts_146 : decode cX12_shifts 146 = .ok (.iconst 1, 1) := by decide +kernel
theorem dyX12_shifts_147 : decode cX12_shifts 147 = .ok (.if_icmp .ne 8, 3) := by decide +kernel
theorem dyX12_shifts_150 : decode cX12_shifts 150 = .ok (.bipush 11, 2) := by decide +kernel
theorem dyX12_shifts_152 : decode cX12_shifts 152 = .ok (.goto 15, 3) := by decide +kernel
theorem dyX12_shifts_155 : decode cX12_shifts 155 = .ok (.iload_n 1, 1) := by decide +kernel
theorem dyX12_shifts_156 : decode cX12_shifts 156 = .ok (.bipush 6, 2) := by decide +kernel
theorem dyX12_shifts_158 : decode cX12_shifts 158 = .ok (.if_icmp .ne 8, 3) := by decide +kernel
theorem dyX12_shifts_161 : decode cX12_shifts 161 = .ok (.bipush 12, 2) := by decide +kernel
theorem dyX12_shifts_163 : decode cX12_shifts 163 = .ok (.goto 4, 3) := by decide +kernel
theorem dyX12_shifts_166 : decode cX12_shifts 166 = .ok (.iconst (-1), 1) := by decide +kernel
theorem dyX12_shifts_167 : decode cX12_shifts 167 = .ok (.ireturn, 1) := by decide +kernel
theorem dyX12_shifts_168 : decode cX12_shifts 168 = .ok (.iload_n 1, 1) := by decide +kernel
theorem dyX12_shifts_169 : decode cX12_shifts 169 = .ok (.iconst 3, 1) := by decide +kernel
theorem dyX12_shifts_170 : decode cX12_shifts 170 = .ok (.if_icmp .ne 8, 3) := by decide +kernel
theorem dyX12_shifts_173 : decode cX12_shifts 173 = .ok (.bipush 14, 2) := by decide +kernel
theorem dyX12_shifts_175 : decode cX12_shifts 175 = .ok (.goto 14, 3) := by decide +kernel
theorem dyX12_shifts_178 : decode cX12_shifts 178 = .ok (.iload_n 1, 1) := by decide +kernel
theorem dyX12_shifts_179 : decode cX12_shifts 179 = .ok (.iconst 4, 1) := by decide +kernel
theorem dyX12_shifts_180 : decode cX12_shifts 180 = .ok (.if_icmp .ne 8, 3) := by decide +kernel
theorem dyX12_shifts_183 : decode cX12_shifts 183 = .ok (.bipush 15, 2) := by decide +kernel
theorem dyX12_shifts_185 : decode cX12_shifts 185 = .ok (.goto 4, 3) := by decide +kernel
theorem dyX12_shifts_188 : decode cX12_shifts 188 = .ok (.iconst (-1), 1) := by decide +kernel
theorem dyX12_shifts_189 : decode cX12_shifts 189 = .ok (.ireturn, 1) := by decide +kernel
theorem dyX12_shifts_190 : decode cX12_shifts 190 = .ok (.iload_n 1, 1) := by decide +kernel
theorem dyX12_shifts_191 : decode cX12_shifts 191 = .ok (.iconst 5, 1) := by decide +kernel
theorem dyX12_shifts_192 : decode cX12_shifts 192 = .ok (.if_icmp .ne 8, 3) := by decide +kernel
theorem dyX12_shifts_195 : decode cX12_shifts 195 = .ok (.bipush 16, 2) := by decide +kernel
theorem dyX12_shifts_197 : decode cX12_shifts 197 = .ok (.goto 4, 3) := by decide +kernel
theorem dyX12_shifts_200 : decode cX12_shifts 200 = .ok (.iconst (-1), 1) := by decide +kernel
theorem dyX12_shifts_201 : decode cX12_shifts 201 = .ok (.ireturn, 1) := by decide +kernel
theorem dyX12_shifts_202 : decode cX12_shifts 202 = .ok (.iload_n 1, 1) := by decide +kernel
theorem dyX12_shifts_203 : decode cX12_shifts 203 = .ok (.bipush 7, 2) := by decide +kernel
theorem dyX12_shifts_205 : decode cX12_shifts 205 = .ok (.if_icmp .ne 8, 3) := by decide +kernel
theorem dyX12_shifts_208 : decode cX12_shifts 208 = .ok (.bipush 20, 2) := by decide +kernel
theorem dyX12_shifts_210 : decode cX12_shifts 210 = .ok (.goto 14, 3) := by decide +kernel
theorem dyX12_shifts_213 : decode cX12_shifts 213 = .ok (.iload_n 1, 1) := by decide +kernel
theorem dyX12_shifts_214 : decode cX12_shifts 214 = .ok (.iconst 4, 1) := by decide +kernel
theorem dyX12_shifts_215 : decode cX12_shifts 215 = .ok (.if_icmp .ne 8, 3) := by decide +kernel
theorem dyX12_shifts_218 : decode cX12_shifts 218 = .ok (.bipush 15, 2) := by decide +kernel
theorem dyX12_shifts_220 : decode cX12_shifts 220 = .ok (.goto 4, 3) := by decide +kernel
theorem dyX12_shifts_223 : decode cX12_shifts 223 = .ok (.iconst (-1), 1) := by decide +kernel
theorem dyX12_shifts_224 : decode cX12_shifts 224 = .ok (.ireturn, 1) := by decide +kernel
theorem dyX12_shifts_225 : decode cX12_shifts 225 = .ok (.iconst (-1), 1) := by decide +kernel
theorem dyX12_shifts_226 : decode cX12_shifts 226 = .ok (.ireturn, 1) := by decide +kernel
theorem zsg_yX12_shifts : yX12_shifts.cls ≠ "java/lang/invoke/MethodHandle" ∧ yX12_shifts.cls ≠ "java/lang/invoke/VarHandle" ∧ (parseMethodDescriptor yX12_shifts.desc).map (fun d => d.parameters.length) = some 2 := by decide +kernel
set_option maxRecDepth 20000 in
theorem c_M_shifts {l : Launch} {D : va_G} {B : Nat} {cA : Nat → ClassId} {ad : Nat → Nat} {S : List zC} (hS : zOkM S) {a0 : Int32} {a1 : Int32} {I : zI} {K : Int32 → Prop}  (h : w_M_shifts a0 a1 I K) : Met l yX12_shifts (zws yX12_shifts cX12_shifts 2 (some .int)) (zrm 0 0) (zPc D B cA ad [.int a0, .int a1] S I) (zQc D B cA (zpI S I K)) 0 0 (fun q => B ≤ q) := by
  refine zm_of (cc := cX12_shifts) (maxL := 2) (ret := (some .int)) (by decide +kernel) rfl (Nat.le_of_ble_eq_true rfl) trivial ?_
  intro p e s m args below meth c C _
  unfold w_M_shifts at h
  show zX p l e (zrm 0 0) s m args below meth c (MQ below (zQc D B cA (zpI S I K)) args s 0 0 (fun q => B ≤ q)) D B cA 2 0 0 S I [(0, .int a0), (1, .int a1)] [] 0
  refine zr_iload_n C dyX12_shifts_0 rfl 0 rfl ?_
  refine zjn (h (zX p l e (zrm 0 0) s m args below meth c (MQ below (zQc D B cA (zpI S I K)) args s 0 0 (fun q => B ≤ q)) D B cA 2 0 0 S I [(0, .int a0), (1, .int a1)] [] 88) (fun  h => ?_)) (fun h => ?_)
  · refine zr_iload_n C dyX12_shifts_88 rfl 1 rfl ?_
    refine zr_if_ne C dyX12_shifts_89 (tgt := 96) (by decide) (fun hc_4 => ?_) (fun hc_4 => ?_)
    · replace h := zif_neg hc_4 h
      refine zr_iload_n C dyX12_shifts_96 rfl 1 rfl ?_
      refine zr_bipush C dyX12_shifts_97 zc_b_8 ?_
      refine zr_icmp_ne C dyX12_shifts_99 (tgt := 106) (by decide) (fun hc_3 => ?_) (fun hc_3 => ?_)
      · replace h := zif_neg hc_3 h
        refine zr_iload_n C dyX12_shifts_106 rfl 1 rfl ?_
        refine zr_bipush C dyX12_shifts_107 zc_b_9 ?_
        refine zr_icmp_ne C dyX12_shifts_109 (tgt := 123) (by decide) (fun hc_2 => ?_) (fun hc_2 => ?_)
        · replace h := zif_neg hc_2 h
          refine zr_iconst C dyX12_shifts_123 zc_i_m1 ?_
          exact zr_iret C rfl dyX12_shifts_124 ⟨rfl, rfl, _, rfl, h⟩
        · replace h := zif_pos hc_2 h
          refine zr_iload_n C dyX12_shifts_112 rfl 0 rfl ?_
          refine zr_bipush C dyX12_shifts_113 zc_b_6 ?_
          refine zr_icmp_ne C dyX12_shifts_115 (tgt := 123) (by decide) (fun hc_1 => ?_) (fun hc_1 => ?_)
          · replace h := zif_neg hc_1 h
            refine zr_iconst C dyX12_shifts_123 zc_i_m1 ?_
            exact zr_iret C rfl dyX12_shifts_124 ⟨rfl, rfl, _, rfl, h⟩
          · replace h := zif_pos hc_1 h
            refine zr_bipush C dyX12_shifts_118 zc_b_13 ?_
            refine zr_goto C dyX12_shifts_120 (tgt := 124) (by decide) ?_
            exact zr_iret C rfl dyX12_shifts_124 ⟨rfl, rfl, _, rfl, h⟩
      · replace h := zif_pos hc_3 h
        refine zr_iconst C dyX12_shifts_102 zc_i_4 ?_
        refine zr_goto C dyX12_shifts_103 (tgt := 124) (by decide) ?_
        exact zr_iret C rfl dyX12_shifts_124 ⟨rfl, rfl, _, rfl, h⟩
    · replace h := zif_pos hc_4 h
      refine zr_iconst C dyX12_shifts_92 zc_i_3 ?_
      refine zr_goto C dyX12_shifts_93 (tgt := 124) (by decide) ?_
      exact zr_iret C rfl dyX12_shifts_124 ⟨rfl, rfl, _, rfl, h⟩
  refine zjn (h (zX p l e (zrm 0 0) s m args below meth c (MQ below (zQc D B cA (zpI S I K)) args s 0 0 (fun q => B ≤ q)) D B cA 2 0 0 S I [(1, .int a1)] [] 136) (fun  h => ?_)) (fun h => ?_)
  · refine zr_iload_n C dyX12_shifts_136 rfl 0 rfl ?_
    refine zr_if_ne C dyX12_shifts_137 (tgt := 145) (by decide) (fun hc_7 => ?_) (fun hc_7 => ?_)
    · replace h := zif_neg hc_7 h
      refine zr_iload_n C dyX12_shifts_145 rfl 0 rfl ?_
      refine zr_iconst C dyX12_shifts_146 zc_i_1 ?_
      refine zr_icmp_ne C dyX12_shifts_147 (tgt := 155) (by decide) (fun hc_6 => ?_) (fun hc_6 => ?_)
      · replace h := zif_neg hc_6 h
        refine zr_iload_n C dyX12_shifts_155 rfl 0 rfl ?_
        refine zr_bipush C dyX12_shifts_156 zc_b_6 ?_
        refine zr_icmp_ne C dyX12_shifts_158 (tgt := 166) (by decide) (fun hc_5 => ?_) (fun hc_5 => ?_)
        · replace h := zif_neg hc_5 h
          refine zr_iconst C dyX12_shifts_166 zc_i_m1 ?_
          exact zr_iret C rfl dyX12_shifts_167 ⟨rfl, rfl, _, rfl, h⟩
        · replace h := zif_pos hc_5 h
          refine zr_bipush C dyX12_shifts_161 zc_b_12 ?_
          refine zr_goto C dyX12_shifts_163 (tgt := 167) (by decide) ?_
          exact zr_iret C rfl dyX12_shifts_167 ⟨rfl, rfl, _, rfl, h⟩
      · replace h := zif_pos hc_6 h
        refine zr_bipush C dyX12_shifts_150 zc_b_11 ?_
        refine zr_goto C dyX12_shifts_152 (tgt := 167) (by decide) ?_
        exact zr_iret C rfl dyX12_shifts_167 ⟨rfl, rfl, _, rfl, h⟩
    · replace h := zif_pos hc_7 h
      refine zr_bipush C dyX12_shifts_140 zc_b_10 ?_
      refine zr_goto C dyX12_shifts_142 (tgt := 167) (by decide) ?_
      exact zr_iret C rfl dyX12_shifts_167 ⟨rfl, rfl, _, rfl, h⟩
  refine zjn (h (zX p l e (zrm 0 0) s m args below meth c (MQ below (zQc D B cA (zpI S I K)) args s 0 0 (fun q => B ≤ q)) D B cA 2 0 0 S I [(1, .int a1)] [] 190) (fun  h => ?_)) (fun h => ?_)
  · refine zr_iload_n C dyX12_shifts_190 rfl 0 rfl ?_
    refine zr_iconst C dyX12_shifts_191 zc_i_5 ?_
    refine zr_icmp_ne C dyX12_shifts_192 (tgt := 200) (by decide) (fun hc_8 => ?_) (fun hc_8 => ?_)
    · replace h := zif_neg hc_8 h
      refine zr_iconst C dyX12_shifts_200 zc_i_m1 ?_
      exact zr_iret C rfl dyX12_shifts_201 ⟨rfl, rfl, _, rfl, h⟩
    · replace h := zif_pos hc_8 h
      refine zr_bipush C dyX12_shifts_195 zc_b_16 ?_
      refine zr_goto C dyX12_shifts_197 (tgt := 201) (by decide) ?_
      exact zr_iret C rfl dyX12_shifts_201 ⟨rfl, rfl, _, rfl, h⟩
  by_cases hc_9 : a0 = 1
  · replace h := zif_pos hc_9 h
    refine zr_tableIn C dyX12_shifts_1 (by rw [hc_9]; decide) (by rw [hc_9]; decide) (off := 87) (by rw [hc_9]; decide) (tgt := 88) (by decide) ?_
    exact h
  replace h := zif_neg hc_9 h
  by_cases hc_10 : a0 = 3
  · replace h := zif_pos hc_10 h
    refine zr_tableIn C dyX12_shifts_1 (by rw [hc_10]; decide) (by rw [hc_10]; decide) (off := 124) (by rw [hc_10]; decide) (tgt := 125) (by decide) ?_
    refine zr_iload_n C dyX12_shifts_125 rfl 1 rfl ?_
    refine zr_iconst C dyX12_shifts_126 zc_i_2 ?_
    refine zr_icmp_ne C dyX12_shifts_127 (tgt := 134) (by decide) (fun hc_11 => ?_) (fun hc_11 => ?_)
    · replace h := zif_neg hc_11 h
      refine zr_iconst C dyX12_shifts_134 zc_i_m1 ?_
      exact zr_iret C rfl dyX12_shifts_135 ⟨rfl, rfl, _, rfl, h⟩
    · replace h := zif_pos hc_11 h
      refine zr_iconst C dyX12_shifts_130 zc_i_5 ?_
      refine zr_goto C dyX12_shifts_131 (tgt := 135) (by decide) ?_
      exact zr_iret C rfl dyX12_shifts_135 ⟨rfl, rfl, _, rfl, h⟩
  replace h := zif_neg hc_10 h
  by_cases hc_12 : a0 = 5
  · replace h := zif_pos hc_12 h
    refine zr_tableIn C dyX12_shifts_1 (by rw [hc_12]; decide) (by rw [hc_12]; decide) (off := 135) (by rw [hc_12]; decide) (tgt := 136) (by decide) ?_
    refine zr_sub (lv2 := [(1, .int a1)]) [1] rfl ?_
    exact h
  replace h := zif_neg hc_12 h
  by_cases hc_13 : a0 = 6
  · replace h := zif_pos hc_13 h
    refine zr_tableIn C dyX12_shifts_1 (by rw [hc_13]; decide) (by rw [hc_13]; decide) (off := 87) (by rw [hc_13]; decide) (tgt := 88) (by decide) ?_
    exact h
  replace h := zif_neg hc_13 h
  by_cases hc_14 : a0 = 7
  · replace h := zif_pos hc_14 h
    refine zr_tableIn C dyX12_shifts_1 (by rw [hc_14]; decide) (by rw [hc_14]; decide) (off := 167) (by rw [hc_14]; decide) (tgt := 168) (by decide) ?_
    refine zr_iload_n C dyX12_shifts_168 rfl 1 rfl ?_
    refine zr_iconst C dyX12_shifts_169 zc_i_3 ?_
    refine zr_icmp_ne C dyX12_shifts_170 (tgt := 178) (by decide) (fun hc_16 => ?_) (fun hc_16 => ?_)
    · replace h := zif_neg hc_16 h
      refine zr_iload_n C dyX12_shifts_178 rfl 1 rfl ?_
      refine zr_iconst C dyX12_shifts_179 zc_i_4 ?_
      refine zr_icmp_ne C dyX12_shifts_180 (tgt := 188) (by decide) (fun hc_15 => ?_) (fun hc_15 => ?_)
      · replace h := zif_neg hc_15 h
        refine zr_iconst C dyX12_shifts_188 zc_i_m1 ?_
        exact zr_iret C rfl dyX12_shifts_189 ⟨rfl, rfl, _, rfl, h⟩
      · replace h := zif_pos hc_15 h
        refine zr_bipush C dyX12_shifts_183 zc_b_15 ?_
        refine zr_goto C dyX12_shifts_185 (tgt := 189) (by decide) ?_
        exact zr_iret C rfl dyX12_shifts_189 ⟨rfl, rfl, _, rfl, h⟩
    · replace h := zif_pos hc_16 h
      refine zr_bipush C dyX12_shifts_173 zc_b_14 ?_
      refine zr_goto C dyX12_shifts_175 (tgt := 189) (by decide) ?_
      exact zr_iret C rfl dyX12_shifts_189 ⟨rfl, rfl, _, rfl, h⟩
  replace h := zif_neg hc_14 h
  by_cases hc_17 : a0 = 8
  · replace h := zif_pos hc_17 h
    refine zr_tableIn C dyX12_shifts_1 (by rw [hc_17]; decide) (by rw [hc_17]; decide) (off := 189) (by rw [hc_17]; decide) (tgt := 190) (by decide) ?_
    refine zr_sub (lv2 := [(1, .int a1)]) [1] rfl ?_
    exact h
  replace h := zif_neg hc_17 h
  by_cases hc_18 : a0 = 12
  · replace h := zif_pos hc_18 h
    refine zr_tableIn C dyX12_shifts_1 (by rw [hc_18]; decide) (by rw [hc_18]; decide) (off := 135) (by rw [hc_18]; decide) (tgt := 136) (by decide) ?_
    refine zr_sub (lv2 := [(1, .int a1)]) [1] rfl ?_
    exact h
  replace h := zif_neg hc_18 h
  by_cases hc_19 : a0 = 15
  · replace h := zif_pos hc_19 h
    refine zr_tableIn C dyX12_shifts_1 (by rw [hc_19]; decide) (by rw [hc_19]; decide) (off := 135) (by rw [hc_19]; decide) (tgt := 136) (by decide) ?_
    refine zr_sub (lv2 := [(1, .int a1)]) [1] rfl ?_
    exact h
  replace h := zif_neg hc_19 h
  by_cases hc_20 : a0 = 16
  · replace h := zif_pos hc_20 h
    refine zr_tableIn C dyX12_shifts_1 (by rw [hc_20]; decide) (by rw [hc_20]; decide) (off := 135) (by rw [hc_20]; decide) (tgt := 136) (by decide) ?_
    refine zr_sub (lv2 := [(1, .int a1)]) [1] rfl ?_
    exact h
  replace h := zif_neg hc_20 h
  by_cases hc_21 : a0 = 17
  · replace h := zif_pos hc_21 h
    refine zr_tableIn C dyX12_shifts_1 (by rw [hc_21]; decide) (by rw [hc_21]; decide) (off := 201) (by rw [hc_21]; decide) (tgt := 202) (by decide) ?_
    refine zr_iload_n C dyX12_shifts_202 rfl 1 rfl ?_
    refine zr_bipush C dyX12_shifts_203 zc_b_7 ?_
    refine zr_icmp_ne C dyX12_shifts_205 (tgt := 213) (by decide) (fun hc_23 => ?_) (fun hc_23 => ?_)
    · replace h := zif_neg hc_23 h
      refine zr_iload_n C dyX12_shifts_213 rfl 1 rfl ?_
      refine zr_iconst C dyX12_shifts_214 zc_i_4 ?_
      refine zr_icmp_ne C dyX12_shifts_215 (tgt := 223) (by decide) (fun hc_22 => ?_) (fun hc_22 => ?_)
      · replace h := zif_neg hc_22 h
        refine zr_iconst C dyX12_shifts_223 zc_i_m1 ?_
        exact zr_iret C rfl dyX12_shifts_224 ⟨rfl, rfl, _, rfl, h⟩
      · replace h := zif_pos hc_22 h
        refine zr_bipush C dyX12_shifts_218 zc_b_15 ?_
        refine zr_goto C dyX12_shifts_220 (tgt := 224) (by decide) ?_
        exact zr_iret C rfl dyX12_shifts_224 ⟨rfl, rfl, _, rfl, h⟩
    · replace h := zif_pos hc_23 h
      refine zr_bipush C dyX12_shifts_208 zc_b_20 ?_
      refine zr_goto C dyX12_shifts_210 (tgt := 224) (by decide) ?_
      exact zr_iret C rfl dyX12_shifts_224 ⟨rfl, rfl, _, rfl, h⟩
  replace h := zif_neg hc_21 h
  by_cases hc_24 : a0 = 18
  · replace h := zif_pos hc_24 h
    refine zr_tableIn C dyX12_shifts_1 (by rw [hc_24]; decide) (by rw [hc_24]; decide) (off := 189) (by rw [hc_24]; decide) (tgt := 190) (by decide) ?_
    refine zr_sub (lv2 := [(1, .int a1)]) [1] rfl ?_
    exact h
  replace h := zif_neg hc_24 h
  by_cases hg_25 : a0 = 2
  · refine zr_tableIn C dyX12_shifts_1 (by rw [hg_25]; decide) (by rw [hg_25]; decide) (off := 224) (by rw [hg_25]; decide) (tgt := 225) (by decide) ?_
    refine zr_iconst C dyX12_shifts_225 zc_i_m1 ?_
    exact zr_iret C rfl dyX12_shifts_226 ⟨rfl, rfl, _, rfl, h⟩
  by_cases hg_26 : a0 = 4
  · refine zr_tableIn C dyX12_shifts_1 (by rw [hg_26]; decide) (by rw [hg_26]; decide) (off := 224) (by rw [hg_26]; decide) (tgt := 225) (by decide) ?_
    refine zr_iconst C dyX12_shifts_225 zc_i_m1 ?_
    exact zr_iret C rfl dyX12_shifts_226 ⟨rfl, rfl, _, rfl, h⟩
  by_cases hg_27 : a0 = 9
  · refine zr_tableIn C dyX12_shifts_1 (by rw [hg_27]; decide) (by rw [hg_27]; decide) (off := 224) (by rw [hg_27]; decide) (tgt := 225) (by decide) ?_
    refine zr_iconst C dyX12_shifts_225 zc_i_m1 ?_
    exact zr_iret C rfl dyX12_shifts_226 ⟨rfl, rfl, _, rfl, h⟩
  by_cases hg_28 : a0 = 10
  · refine zr_tableIn C dyX12_shifts_1 (by rw [hg_28]; decide) (by rw [hg_28]; decide) (off := 224) (by rw [hg_28]; decide) (tgt := 225) (by decide) ?_
    refine zr_iconst C dyX12_shifts_225 zc_i_m1 ?_
    exact zr_iret C rfl dyX12_shifts_226 ⟨rfl, rfl, _, rfl, h⟩
  by_cases hg_29 : a0 = 11
  · refine zr_tableIn C dyX12_shifts_1 (by rw [hg_29]; decide) (by rw [hg_29]; decide) (off := 224) (by rw [hg_29]; decide) (tgt := 225) (by decide) ?_
    refine zr_iconst C dyX12_shifts_225 zc_i_m1 ?_
    exact zr_iret C rfl dyX12_shifts_226 ⟨rfl, rfl, _, rfl, h⟩
  by_cases hg_30 : a0 = 13
  · refine zr_tableIn C dyX12_shifts_1 (by rw [hg_30]; decide) (by rw [hg_30]; decide) (off := 224) (by rw [hg_30]; decide) (tgt := 225) (by decide) ?_
    refine zr_iconst C dyX12_shifts_225 zc_i_m1 ?_
    exact zr_iret C rfl dyX12_shifts_226 ⟨rfl, rfl, _, rfl, h⟩
  by_cases hg_31 : a0 = 14
  · refine zr_tableIn C dyX12_shifts_1 (by rw [hg_31]; decide) (by rw [hg_31]; decide) (off := 224) (by rw [hg_31]; decide) (tgt := 225) (by decide) ?_
    refine zr_iconst C dyX12_shifts_225 zc_i_m1 ?_
    exact zr_iret C rfl dyX12_shifts_226 ⟨rfl, rfl, _, rfl, h⟩
  refine zr_tableOut C dyX12_shifts_1 (ztab_out (fun i h1 h2 => ?_)) (tgt := 225) (by decide) ?_
  · rcases (by omega : i = 1 ∨ i = 2 ∨ i = 3 ∨ i = 4 ∨ i = 5 ∨ i = 6 ∨ i = 7 ∨ i = 8 ∨ i = 9 ∨ i = 10 ∨ i = 11 ∨ i = 12 ∨ i = 13 ∨ i = 14 ∨ i = 15 ∨ i = 16 ∨ i = 17 ∨ i = 18) with rfl | rfl | rfl | rfl | rfl | rfl | rfl | rfl | rfl | rfl | rfl | rfl | rfl | rfl | rfl | rfl | rfl | rfl
    · exact hc_9
    · exact hg_25
    · exact hc_10
    · exact hg_26
    · exact hc_12
    · exact hc_13
    · exact hc_14
    · exact hc_17
    · exact hg_27
    · exact hg_28
    · exact hg_29
    · exact hc_18
    · exact hg_30
    · exact hg_31
    · exact hc_19
    · exact hc_20
    · exact hc_21
    · exact hc_24
  refine zr_iconst C dyX12_shifts_225 zc_i_m1 ?_
  exact zr_iret C rfl dyX12_shifts_226 ⟨rfl, rfl, _, rfl, h⟩
def w_M_leads (a0 : Int32) (a1 : Int32) (I : zI) (K : Int32 → Prop) : Prop :=
  (if a1 = 0 then (if a0 = 0 then K 1 else K 6) else (if a1 = 1 then K 2 else (if a1 = 2 then (if a0 = 5 then K 7 else K 17) else (if a1 = 3 then (if a0 = 15 then K 18 else K 8) else (if a0 = 16 then K 19 else K 9)))))
theorem dyX12_leads_0 : decode cX12_leads 0 = .ok (.iload_n 1, 1) := by decide +kernel
theorem dyX12_leads_1 : decode cX12_leads 1 = .ok (.tableswitch 71 0 3 #[31, 42, 44, 57], 31) := by decide +kernel
theorem dyX12_leads_32 : decode cX12_leads 32 = .ok (.iload_n 0, 1) := by decide +kernel
theorem dyX12_leads_33 : decode cX12_leads 33 = .ok (.ifCond .ne 7, 3) := by decide +kernel
theorem dyX12_leads_36 : decode cX12_leads 36 = .ok (.iconst 1, 1) := by decide +kernel
theorem dyX12_leads_37 : decode cX12_leads 37 = .ok (.goto 5, 3) := by decide +kernel
theorem dyX12_leads_40 : decode cX12_leads 40 = .ok (.bipush 6, 2) := by decide +kernel
theorem dyX12_leads_42 : decode cX12_leads 42 = .ok (.ireturn, 1) := by decide +kernel
theorem dyX12_leads_43 : decode cX12_leads 43 = .ok (.iconst 2, 1) := by decide +kernel
theorem dyX12_leads_44 : decode cX12_leads 44 = .ok (.ireturn, 1) := by decide +kernel
theorem dyX12_leads_45 : decode cX12_leads 45 = .ok (.iload_n 0, 1) := by decide +kernel
theorem dyX12_leads_46 : decode cX12_leads 46 = .ok (.iconst 5, 1) := by decide +kernel
theorem dyX12_leads_47 : decode cX12_leads 47 = .ok (.if_icmp .ne 8, 3) := by decide +kernel
theorem dyX12_leads_50 : decode cX12_leads 50 = .ok (.bipush 7, 2) := by decide +kernel
theorem dyX12_leads_52 : decode cX12_leads 52 = .ok (.goto 5, 3) := by decide +kernel
theorem dyX12_leads_55 : decode cX12_leads 55 = .ok (.bipush 17, 2) := by decide +kernel
theorem dyX12_leads_57 : decode cX12_leads 57 = .ok (.ireturn, 1) := by decide +kernel
theorem dyX12_leads_58 : decode cX12_leads 58 = .ok (.iload_n 0, 1) := by decide +kernel
theorem dyX12_leads_59 : decode cX12_leads 59 = .ok (.bipush 15, 2) := by decide +kernel
theorem dyX12_leads_61 : decode cX12_leads 61 = .ok (.if_icmp .ne 8, 3) := by decide +kernel
theorem dyX12_leads_64 : decode cX12_leads 64 = .ok (.bipush 18, 2) := by decide +kernel
theorem dyX12_leads_66 : decode cX12_leads 66 = .ok (.goto 5, 3) := by decide +kernel
theorem dyX12_leads_69 : decode cX12_leads 69 = .ok (.bipush 8, 2) := by decide +kernel
theorem dyX12_leads_71 : decode cX12_leads 71 = .ok (.ireturn, 1) := by decide +kernel
theorem dyX12_leads_72 : decode cX12_leads 72 = .ok (.iload_n 0, 1) := by decide +kernel
theorem dyX12_leads_73 : decode cX12_leads 73 = .ok (.bipush 16, 2) := by decide +kernel
theorem dyX12_leads_75 : decode cX12_leads 75 = .ok (.if_icmp .ne 8, 3) := by decide +kernel
theorem dyX12_leads_78 : decode cX12_leads 78 = .ok (.bipush 19, 2) := by decide +kernel
theorem dyX12_leads_80 : decode cX12_leads 80 = .ok (.goto 5, 3) := by decide +kernel
theorem dyX12_leads_83 : decode cX12_leads 83 = .ok (.bipush 9, 2) := by decide +kernel
theorem dyX12_leads_85 : decode cX12_leads 85 = .ok (.ireturn, 1) := by decide +kernel
theorem zsg_yX12_leads : yX12_leads.cls ≠ "java/lang/invoke/MethodHandle" ∧ yX12_leads.cls ≠ "java/lang/invoke/VarHandle" ∧ (parseMethodDescriptor yX12_leads.desc).map (fun d => d.parameters.length) = some 2 := by decide +kernel
set_option maxRecDepth 20000 in
theorem c_M_leads {l : Launch} {D : va_G} {B : Nat} {cA : Nat → ClassId} {ad : Nat → Nat} {S : List zC} (hS : zOkM S) {a0 : Int32} {a1 : Int32} {I : zI} {K : Int32 → Prop}  (h : w_M_leads a0 a1 I K) : Met l yX12_leads (zws yX12_leads cX12_leads 2 (some .int)) (zrm 0 0) (zPc D B cA ad [.int a0, .int a1] S I) (zQc D B cA (zpI S I K)) 0 0 (fun q => B ≤ q) := by
  refine zm_of (cc := cX12_leads) (maxL := 2) (ret := (some .int)) (by decide +kernel) rfl (Nat.le_of_ble_eq_true rfl) trivial ?_
  intro p e s m args below meth c C _
  unfold w_M_leads at h
  show zX p l e (zrm 0 0) s m args below meth c (MQ below (zQc D B cA (zpI S I K)) args s 0 0 (fun q => B ≤ q)) D B cA 2 0 0 S I [(0, .int a0), (1, .int a1)] [] 0
  refine zr_iload_n C dyX12_leads_0 rfl 1 rfl ?_
  by_cases hc_1 : a1 = 0
  · replace h := zif_pos hc_1 h
    refine zr_tableIn C dyX12_leads_1 (by rw [hc_1]; decide) (by rw [hc_1]; decide) (off := 31) (by rw [hc_1]; decide) (tgt := 32) (by decide) ?_
    refine zr_iload_n C dyX12_leads_32 rfl 0 rfl ?_
    refine zr_if_ne C dyX12_leads_33 (tgt := 40) (by decide) (fun hc_2 => ?_) (fun hc_2 => ?_)
    · replace h := zif_neg hc_2 h
      refine zr_bipush C dyX12_leads_40 zc_b_6 ?_
      exact zr_iret C rfl dyX12_leads_42 ⟨rfl, rfl, _, rfl, h⟩
    · replace h := zif_pos hc_2 h
      refine zr_iconst C dyX12_leads_36 zc_i_1 ?_
      refine zr_goto C dyX12_leads_37 (tgt := 42) (by decide) ?_
      exact zr_iret C rfl dyX12_leads_42 ⟨rfl, rfl, _, rfl, h⟩
  replace h := zif_neg hc_1 h
  by_cases hc_3 : a1 = 1
  · replace h := zif_pos hc_3 h
    refine zr_tableIn C dyX12_leads_1 (by rw [hc_3]; decide) (by rw [hc_3]; decide) (off := 42) (by rw [hc_3]; decide) (tgt := 43) (by decide) ?_
    refine zr_iconst C dyX12_leads_43 zc_i_2 ?_
    exact zr_iret C rfl dyX12_leads_44 ⟨rfl, rfl, _, rfl, h⟩
  replace h := zif_neg hc_3 h
  by_cases hc_4 : a1 = 2
  · replace h := zif_pos hc_4 h
    refine zr_tableIn C dyX12_leads_1 (by rw [hc_4]; decide) (by rw [hc_4]; decide) (off := 44) (by rw [hc_4]; decide) (tgt := 45) (by decide) ?_
    refine zr_iload_n C dyX12_leads_45 rfl 0 rfl ?_
    refine zr_iconst C dyX12_leads_46 zc_i_5 ?_
    refine zr_icmp_ne C dyX12_leads_47 (tgt := 55) (by decide) (fun hc_5 => ?_) (fun hc_5 => ?_)
    · replace h := zif_neg hc_5 h
      refine zr_bipush C dyX12_leads_55 zc_b_17 ?_
      exact zr_iret C rfl dyX12_leads_57 ⟨rfl, rfl, _, rfl, h⟩
    · replace h := zif_pos hc_5 h
      refine zr_bipush C dyX12_leads_50 zc_b_7 ?_
      refine zr_goto C dyX12_leads_52 (tgt := 57) (by decide) ?_
      exact zr_iret C rfl dyX12_leads_57 ⟨rfl, rfl, _, rfl, h⟩
  replace h := zif_neg hc_4 h
  by_cases hc_6 : a1 = 3
  · replace h := zif_pos hc_6 h
    refine zr_tableIn C dyX12_leads_1 (by rw [hc_6]; decide) (by rw [hc_6]; decide) (off := 57) (by rw [hc_6]; decide) (tgt := 58) (by decide) ?_
    refine zr_iload_n C dyX12_leads_58 rfl 0 rfl ?_
    refine zr_bipush C dyX12_leads_59 zc_b_15 ?_
    refine zr_icmp_ne C dyX12_leads_61 (tgt := 69) (by decide) (fun hc_7 => ?_) (fun hc_7 => ?_)
    · replace h := zif_neg hc_7 h
      refine zr_bipush C dyX12_leads_69 zc_b_8 ?_
      exact zr_iret C rfl dyX12_leads_71 ⟨rfl, rfl, _, rfl, h⟩
    · replace h := zif_pos hc_7 h
      refine zr_bipush C dyX12_leads_64 zc_b_18 ?_
      refine zr_goto C dyX12_leads_66 (tgt := 71) (by decide) ?_
      exact zr_iret C rfl dyX12_leads_71 ⟨rfl, rfl, _, rfl, h⟩
  replace h := zif_neg hc_6 h
  refine zr_tableOut C dyX12_leads_1 (ztab_out (fun i h1 h2 => ?_)) (tgt := 72) (by decide) ?_
  · rcases (by omega : i = 0 ∨ i = 1 ∨ i = 2 ∨ i = 3) with rfl | rfl | rfl | rfl
    · exact hc_1
    · exact hc_3
    · exact hc_4
    · exact hc_6
  refine zr_iload_n C dyX12_leads_72 rfl 0 rfl ?_
  refine zr_bipush C dyX12_leads_73 zc_b_16 ?_
  refine zr_icmp_ne C dyX12_leads_75 (tgt := 83) (by decide) (fun hc_8 => ?_) (fun hc_8 => ?_)
  · replace h := zif_neg hc_8 h
    refine zr_bipush C dyX12_leads_83 zc_b_9 ?_
    exact zr_iret C rfl dyX12_leads_85 ⟨rfl, rfl, _, rfl, h⟩
  · replace h := zif_pos hc_8 h
    refine zr_bipush C dyX12_leads_78 zc_b_19 ?_
    refine zr_goto C dyX12_leads_80 (tgt := 85) (by decide) ?_
    exact zr_iret C rfl dyX12_leads_85 ⟨rfl, rfl, _, rfl, h⟩
def w_M_ruleOf (a0 : Int32) (I : zI) (K : Int32 → Prop) : Prop :=
  (if a0 = 0 then K 0 else (if a0 = 2 then K 1 else (if a0 = 4 then K 0 else (if a0 = 8 then K 5 else (if a0 = 9 then K 7 else (if a0 = 10 then K 8 else (if a0 = 11 then K 9 else (if a0 = 13 then K 3 else (if a0 = 14 then K 2 else (if a0 = 18 then K 4 else (if a0 = 19 then K 6 else (if a0 = 20 then K 10 else (K (-1))))))))))))))
theorem dyX12_ruleOf_0 : decode cX12_ruleOf 0 = .ok (.iload_n 0, 1) := by decide +kernel
theorem dyX12_ruleOf_1 : decode cX12_ruleOf 1 = .ok (.tableswitch 126 0 20 #[99, 126, 101, 126, 99, 126, 126, 126, 103, 105, 108, 111, 126, 114, 116, 126, 126, 126, 118, 120, 123], 99) := by decide +kernel
theorem dyX12_ruleOf_100 : decode cX12_ruleOf 100 = .ok (.iconst 0, 1) := by decide +kernel
theorem dyX12_ruleOf_101 : decode cX12_ruleOf 101 = .ok (.ireturn, 1) := by decide +kernel
theorem dyX12_ruleOf_102 : decode cX12_ruleOf 102 = .ok (.iconst 1, 1) := by decide +kernel
theorem dyX12_ruleOf_103 : decode cX12_ruleOf 103 = .ok (.ireturn, 1) := by decide +kernel
theorem dyX12_ruleOf_104 : decode cX12_ruleOf 104 = .ok (.iconst 5, 1) := by decide +kernel
theorem dyX12_ruleOf_105 : decode cX12_ruleOf 105 = .ok (.ireturn, 1) := by decide +kernel
theorem dyX12_ruleOf_106 : decode cX12_ruleOf 106 = .ok (.bipush 7, 2) := by decide +kernel
theorem dyX12_ruleOf_108 : decode cX12_ruleOf 108 = .ok (.ireturn, 1) := by decide +kernel
theorem dyX12_ruleOf_109 : decode cX12_ruleOf 109 = .ok (.bipush 8, 2) := by decide +kernel
theorem dyX12_ruleOf_111 : decode cX12_ruleOf 111 = .ok (.ireturn, 1) := by decide +kernel
theorem dyX12_ruleOf_112 : decode cX12_ruleOf 112 = .ok (.bipush 9, 2) := by decide +kernel
theorem dyX12_ruleOf_114 : decode cX12_ruleOf 114 = .ok (.ireturn, 1) := by decide +kernel
theorem dyX12_ruleOf_115 : decode cX12_ruleOf 115 = .ok (.iconst 3, 1) := by decide +kernel
theorem dyX12_ruleOf_116 : decode cX12_ruleOf 116 = .ok (.ireturn, 1) := by decide +kernel
theorem dyX12_ruleOf_117 : decode cX12_ruleOf 117 = .ok (.iconst 2, 1) := by decide +kernel
theorem dyX12_ruleOf_118 : decode cX12_ruleOf 118 = .ok (.ireturn, 1) := by decide +kernel
theorem dyX12_ruleOf_119 : decode cX12_ruleOf 119 = .ok (.iconst 4, 1) := by decide +kernel
theorem dyX12_ruleOf_120 : decode cX12_ruleOf 120 = .ok (.ireturn, 1) := by decide +kernel
theorem dyX12_ruleOf_121 : decode cX12_ruleOf 121 = .ok (.bipush 6, 2) := by decide +kernel
theorem dyX12_ruleOf_123 : decode cX12_ruleOf 123 = .ok (.ireturn, 1) := by decide +kernel
theorem dyX12_ruleOf_124 : decode cX12_ruleOf 124 = .ok (.bipush 10, 2) := by decide +kernel
theorem dyX12_ruleOf_126 : decode cX12_ruleOf 126 = .ok (.ireturn, 1) := by decide +kernel
theorem dyX12_ruleOf_127 : decode cX12_ruleOf 127 = .ok (.iconst (-1), 1) := by decide +kernel
theorem dyX12_ruleOf_128 : decode cX12_ruleOf 128 = .ok (.ireturn, 1) := by decide +kernel
theorem zsg_yX12_ruleOf : yX12_ruleOf.cls ≠ "java/lang/invoke/MethodHandle" ∧ yX12_ruleOf.cls ≠ "java/lang/invoke/VarHandle" ∧ (parseMethodDescriptor yX12_ruleOf.desc).map (fun d => d.parameters.length) = some 1 := by decide +kernel
set_option maxRecDepth 20000 in
theorem c_M_ruleOf {l : Launch} {D : va_G} {B : Nat} {cA : Nat → ClassId} {ad : Nat → Nat} {S : List zC} (hS : zOkM S) {a0 : Int32} {I : zI} {K : Int32 → Prop}  (h : w_M_ruleOf a0 I K) : Met l yX12_ruleOf (zws yX12_ruleOf cX12_ruleOf 1 (some .int)) (zrm 0 0) (zPc D B cA ad [.int a0] S I) (zQc D B cA (zpI S I K)) 0 0 (fun q => B ≤ q) := by
  refine zm_of (cc := cX12_ruleOf) (maxL := 1) (ret := (some .int)) (by decide +kernel) rfl (Nat.le_of_ble_eq_true rfl) trivial ?_
  intro p e s m args below meth c C _
  unfold w_M_ruleOf at h
  show zX p l e (zrm 0 0) s m args below meth c (MQ below (zQc D B cA (zpI S I K)) args s 0 0 (fun q => B ≤ q)) D B cA 1 0 0 S I [(0, .int a0)] [] 0
  refine zr_iload_n C dyX12_ruleOf_0 rfl 0 rfl ?_
  by_cases hc_1 : a0 = 0
  · replace h := zif_pos hc_1 h
    refine zr_tableIn C dyX12_ruleOf_1 (by rw [hc_1]; decide) (by rw [hc_1]; decide) (off := 99) (by rw [hc_1]; decide) (tgt := 100) (by decide) ?_
    refine zr_iconst C dyX12_ruleOf_100 zc_i_0 ?_
    exact zr_iret C rfl dyX12_ruleOf_101 ⟨rfl, rfl, _, rfl, h⟩
  replace h := zif_neg hc_1 h
  by_cases hc_2 : a0 = 2
  · replace h := zif_pos hc_2 h
    refine zr_tableIn C dyX12_ruleOf_1 (by rw [hc_2]; decide) (by rw [hc_2]; decide) (off := 101) (by rw [hc_2]; decide) (tgt := 102) (by decide) ?_
    refine zr_iconst C dyX12_ruleOf_102 zc_i_1 ?_
    exact zr_iret C rfl dyX12_ruleOf_103 ⟨rfl, rfl, _, rfl, h⟩
  replace h := zif_neg hc_2 h
  by_cases hc_3 : a0 = 4
  · replace h := zif_pos hc_3 h
    refine zr_tableIn C dyX12_ruleOf_1 (by rw [hc_3]; decide) (by rw [hc_3]; decide) (off := 99) (by rw [hc_3]; decide) (tgt := 100) (by decide) ?_
    refine zr_iconst C dyX12_ruleOf_100 zc_i_0 ?_
    exact zr_iret C rfl dyX12_ruleOf_101 ⟨rfl, rfl, _, rfl, h⟩
  replace h := zif_neg hc_3 h
  by_cases hc_4 : a0 = 8
  · replace h := zif_pos hc_4 h
    refine zr_tableIn C dyX12_ruleOf_1 (by rw [hc_4]; decide) (by rw [hc_4]; decide) (off := 103) (by rw [hc_4]; decide) (tgt := 104) (by decide) ?_
    refine zr_iconst C dyX12_ruleOf_104 zc_i_5 ?_
    exact zr_iret C rfl dyX12_ruleOf_105 ⟨rfl, rfl, _, rfl, h⟩
  replace h := zif_neg hc_4 h
  by_cases hc_5 : a0 = 9
  · replace h := zif_pos hc_5 h
    refine zr_tableIn C dyX12_ruleOf_1 (by rw [hc_5]; decide) (by rw [hc_5]; decide) (off := 105) (by rw [hc_5]; decide) (tgt := 106) (by decide) ?_
    refine zr_bipush C dyX12_ruleOf_106 zc_b_7 ?_
    exact zr_iret C rfl dyX12_ruleOf_108 ⟨rfl, rfl, _, rfl, h⟩
  replace h := zif_neg hc_5 h
  by_cases hc_6 : a0 = 10
  · replace h := zif_pos hc_6 h
    refine zr_tableIn C dyX12_ruleOf_1 (by rw [hc_6]; decide) (by rw [hc_6]; decide) (off := 108) (by rw [hc_6]; decide) (tgt := 109) (by decide) ?_
    refine zr_bipush C dyX12_ruleOf_109 zc_b_8 ?_
    exact zr_iret C rfl dyX12_ruleOf_111 ⟨rfl, rfl, _, rfl, h⟩
  replace h := zif_neg hc_6 h
  by_cases hc_7 : a0 = 11
  · replace h := zif_pos hc_7 h
    refine zr_tableIn C dyX12_ruleOf_1 (by rw [hc_7]; decide) (by rw [hc_7]; decide) (off := 111) (by rw [hc_7]; decide) (tgt := 112) (by decide) ?_
    refine zr_bipush C dyX12_ruleOf_112 zc_b_9 ?_
    exact zr_iret C rfl dyX12_ruleOf_114 ⟨rfl, rfl, _, rfl, h⟩
  replace h := zif_neg hc_7 h
  by_cases hc_8 : a0 = 13
  · replace h := zif_pos hc_8 h
    refine zr_tableIn C dyX12_ruleOf_1 (by rw [hc_8]; decide) (by rw [hc_8]; decide) (off := 114) (by rw [hc_8]; decide) (tgt := 115) (by decide) ?_
    refine zr_iconst C dyX12_ruleOf_115 zc_i_3 ?_
    exact zr_iret C rfl dyX12_ruleOf_116 ⟨rfl, rfl, _, rfl, h⟩
  replace h := zif_neg hc_8 h
  by_cases hc_9 : a0 = 14
  · replace h := zif_pos hc_9 h
    refine zr_tableIn C dyX12_ruleOf_1 (by rw [hc_9]; decide) (by rw [hc_9]; decide) (off := 116) (by rw [hc_9]; decide) (tgt := 117) (by decide) ?_
    refine zr_iconst C dyX12_ruleOf_117 zc_i_2 ?_
    exact zr_iret C rfl dyX12_ruleOf_118 ⟨rfl, rfl, _, rfl, h⟩
  replace h := zif_neg hc_9 h
  by_cases hc_10 : a0 = 18
  · replace h := zif_pos hc_10 h
    refine zr_tableIn C dyX12_ruleOf_1 (by rw [hc_10]; decide) (by rw [hc_10]; decide) (off := 118) (by rw [hc_10]; decide) (tgt := 119) (by decide) ?_
    refine zr_iconst C dyX12_ruleOf_119 zc_i_4 ?_
    exact zr_iret C rfl dyX12_ruleOf_120 ⟨rfl, rfl, _, rfl, h⟩
  replace h := zif_neg hc_10 h
  by_cases hc_11 : a0 = 19
  · replace h := zif_pos hc_11 h
    refine zr_tableIn C dyX12_ruleOf_1 (by rw [hc_11]; decide) (by rw [hc_11]; decide) (off := 120) (by rw [hc_11]; decide) (tgt := 121) (by decide) ?_
    refine zr_bipush C dyX12_ruleOf_121 zc_b_6 ?_
    exact zr_iret C rfl dyX12_ruleOf_123 ⟨rfl, rfl, _, rfl, h⟩
  replace h := zif_neg hc_11 h
  by_cases hc_12 : a0 = 20
  · replace h := zif_pos hc_12 h
    refine zr_tableIn C dyX12_ruleOf_1 (by rw [hc_12]; decide) (by rw [hc_12]; decide) (off := 123) (by rw [hc_12]; decide) (tgt := 124) (by decide) ?_
    refine zr_bipush C dyX12_ruleOf_124 zc_b_10 ?_
    exact zr_iret C rfl dyX12_ruleOf_126 ⟨rfl, rfl, _, rfl, h⟩
  replace h := zif_neg hc_12 h
  by_cases hg_13 : a0 = 1
  · refine zr_tableIn C dyX12_ruleOf_1 (by rw [hg_13]; decide) (by rw [hg_13]; decide) (off := 126) (by rw [hg_13]; decide) (tgt := 127) (by decide) ?_
    refine zr_iconst C dyX12_ruleOf_127 zc_i_m1 ?_
    exact zr_iret C rfl dyX12_ruleOf_128 ⟨rfl, rfl, _, rfl, h⟩
  by_cases hg_14 : a0 = 3
  · refine zr_tableIn C dyX12_ruleOf_1 (by rw [hg_14]; decide) (by rw [hg_14]; decide) (off := 126) (by rw [hg_14]; decide) (tgt := 127) (by decide) ?_
    refine zr_iconst C dyX12_ruleOf_127 zc_i_m1 ?_
    exact zr_iret C rfl dyX12_ruleOf_128 ⟨rfl, rfl, _, rfl, h⟩
  by_cases hg_15 : a0 = 5
  · refine zr_tableIn C dyX12_ruleOf_1 (by rw [hg_15]; decide) (by rw [hg_15]; decide) (off := 126) (by rw [hg_15]; decide) (tgt := 127) (by decide) ?_
    refine zr_iconst C dyX12_ruleOf_127 zc_i_m1 ?_
    exact zr_iret C rfl dyX12_ruleOf_128 ⟨rfl, rfl, _, rfl, h⟩
  by_cases hg_16 : a0 = 6
  · refine zr_tableIn C dyX12_ruleOf_1 (by rw [hg_16]; decide) (by rw [hg_16]; decide) (off := 126) (by rw [hg_16]; decide) (tgt := 127) (by decide) ?_
    refine zr_iconst C dyX12_ruleOf_127 zc_i_m1 ?_
    exact zr_iret C rfl dyX12_ruleOf_128 ⟨rfl, rfl, _, rfl, h⟩
  by_cases hg_17 : a0 = 7
  · refine zr_tableIn C dyX12_ruleOf_1 (by rw [hg_17]; decide) (by rw [hg_17]; decide) (off := 126) (by rw [hg_17]; decide) (tgt := 127) (by decide) ?_
    refine zr_iconst C dyX12_ruleOf_127 zc_i_m1 ?_
    exact zr_iret C rfl dyX12_ruleOf_128 ⟨rfl, rfl, _, rfl, h⟩
  by_cases hg_18 : a0 = 12
  · refine zr_tableIn C dyX12_ruleOf_1 (by rw [hg_18]; decide) (by rw [hg_18]; decide) (off := 126) (by rw [hg_18]; decide) (tgt := 127) (by decide) ?_
    refine zr_iconst C dyX12_ruleOf_127 zc_i_m1 ?_
    exact zr_iret C rfl dyX12_ruleOf_128 ⟨rfl, rfl, _, rfl, h⟩
  by_cases hg_19 : a0 = 15
  · refine zr_tableIn C dyX12_ruleOf_1 (by rw [hg_19]; decide) (by rw [hg_19]; decide) (off := 126) (by rw [hg_19]; decide) (tgt := 127) (by decide) ?_
    refine zr_iconst C dyX12_ruleOf_127 zc_i_m1 ?_
    exact zr_iret C rfl dyX12_ruleOf_128 ⟨rfl, rfl, _, rfl, h⟩
  by_cases hg_20 : a0 = 16
  · refine zr_tableIn C dyX12_ruleOf_1 (by rw [hg_20]; decide) (by rw [hg_20]; decide) (off := 126) (by rw [hg_20]; decide) (tgt := 127) (by decide) ?_
    refine zr_iconst C dyX12_ruleOf_127 zc_i_m1 ?_
    exact zr_iret C rfl dyX12_ruleOf_128 ⟨rfl, rfl, _, rfl, h⟩
  by_cases hg_21 : a0 = 17
  · refine zr_tableIn C dyX12_ruleOf_1 (by rw [hg_21]; decide) (by rw [hg_21]; decide) (off := 126) (by rw [hg_21]; decide) (tgt := 127) (by decide) ?_
    refine zr_iconst C dyX12_ruleOf_127 zc_i_m1 ?_
    exact zr_iret C rfl dyX12_ruleOf_128 ⟨rfl, rfl, _, rfl, h⟩
  refine zr_tableOut C dyX12_ruleOf_1 (ztab_out (fun i h1 h2 => ?_)) (tgt := 127) (by decide) ?_
  · rcases (by omega : i = 0 ∨ i = 1 ∨ i = 2 ∨ i = 3 ∨ i = 4 ∨ i = 5 ∨ i = 6 ∨ i = 7 ∨ i = 8 ∨ i = 9 ∨ i = 10 ∨ i = 11 ∨ i = 12 ∨ i = 13 ∨ i = 14 ∨ i = 15 ∨ i = 16 ∨ i = 17 ∨ i = 18 ∨ i = 19 ∨ i = 20) with rfl | rfl | rfl | rfl | rfl | rfl | rfl | rfl | rfl | rfl | rfl | rfl | rfl | rfl | rfl | rfl | rfl | rfl | rfl | rfl | rfl
    · exact hc_1
    · exact hg_13
    · exact hc_2
    · exact hg_14
    · exact hc_3
    · exact hg_15
    · exact hg_16
    · exact hg_17
    · exact hc_4
    · exact hc_5
    · exact hc_6
    · exact hc_7
    · exact hg_18
    · exact hc_8
    · exact hc_9
    · exact hg_19
    · exact hg_20
    · exact hg_21
    · exact hc_10
    · exact hc_11
    · exact hc_12
  refine zr_iconst C dyX12_ruleOf_127 zc_i_m1 ?_
  exact zr_iret C rfl dyX12_ruleOf_128 ⟨rfl, rfl, _, rfl, h⟩
