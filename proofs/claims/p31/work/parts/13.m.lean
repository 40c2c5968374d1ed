theorem zg_12_253 {p : Program} {l : Launch} {e : Env} {R : Room} {s : State} {m : MethodId} {args : Array Value} {below : List Frame} {meth : Method} {c : Code} {Q : State → Prop} {D : va_G} {B : Nat} {cA : Nat → ClassId} {ad : Nat → Nat} {cc : ByteArray} {nL : Nat} {ret : Option FieldType} {S : List zC} {I : zI} {lv : List (Nat × Value)} {st : List Value} {pc : Nat} (C : zCx p s m args meth c cc nL RX12 ret D B cA ad) (hS : zOkM S) (hd : decode cc pc = .ok (.getfield 253, 3)) (kk : zX p l e R s m args below meth c Q D B cA nL 0 0 S I lv (.int (I.1 491 39) :: st) (pc + 3)) : zX p l e R s m args below meth c Q D B cA nL 0 0 S I lv (.ref (B + 491) :: st) pc :=
  zr_geti C (ci := 12) (Cn := RX12) (T := TX12) (N := 82) (k := 491) (j := 39) (fs := [none, some (some 492), some (some 493), none, some (some 494), none, some (some 495), none, none, none, some (some 496), some (some 497), some (some 498), some (some 499), some (some 500), none, some (some 501), some (some 502), some (some 503), none, some (some 504), some (some 505), some (some 506), some (some 507), some (some 508), none, some (some 509), some (some 510), some (some 511), some (some 512), some (some 513), some (some 514), some (some 515), some (some 516), some (some 517), some (some 518), none, none, some (some 519), none, some (some 520), none, none, none, some (some 521), some (some 522), some (some 523), some (some 524), some (some 525), some (some 526), some (some 527), none, some (some 528), none, some (some 529), none, some (some 530), some (some 531), some (some 532), none, some (some 533), some (some 534), some (some 535), some (some 536), some (some 537), none, none, none, some (some 538), some (some 539), some (some 540), none, none, none, some (some 541), none, none, some (some 542), some (some 543), some (some 544), none, some (some 545)]) rfl zin_12 (Nat.le_of_ble_eq_true rfl) rfl (hS _ _ zs_491) rfl zk_fl_12_253 hd kk
theorem zv_12_256 {p : Program} {l : Launch} {e : Env} {R : Room} {s : State} {m : MethodId} {args : Array Value} {below : List Frame} {meth : Method} {c : Code} {Q : State → Prop} {D : va_G} {B : Nat} {cA : Nat → ClassId} {ad : Nat → Nat} {cc : ByteArray} {nL : Nat} {ret : Option FieldType} {S : List zC} {I : zI} {lv : List (Nat × Value)} {st : List Value} {pc : Nat} (C : zCx p s m args meth c cc nL RX12 ret D B cA ad) {K : Int32 → Prop} {xa0 : Int32} (hS : zOkM S)  (h : w_M_manyOf xa0 I K) (hR : 0 + 1 ≤ R.frames ∧ 8 + (1 + 11) + (0) ≤ R.locals) (hw : (st.map fun v => v.category).sum ≤ 8) (hd : decode cc pc = .ok (.invokestatic 256, 3)) (kk : ∀ v, K v → zX p l e R s m args below meth c Q D B cA nL 0 0 S I lv (.int v :: st) (pc + 3)) : zX p l e R s m args below meth c Q D B cA nL 0 0 S I lv (.int xa0 :: st) pc :=
  have hf : 0 ≤ R.cells ∧ 0 ≤ R.slots := ⟨Nat.zero_le _, Nat.zero_le _⟩
  zc_SpI C (As := [.int xa0]) (st := st) (c_M_manyOf hS h) (zgM zk_cd_yX12_manyOf) zk_ml_12_256 zk_st_yX12_manyOf zk_in_12 zsg_yX12_manyOf hR rfl rfl hw hd hf kk
theorem zp_12_253 {p : Program} {l : Launch} {e : Env} {R : Room} {s : State} {m : MethodId} {args : Array Value} {below : List Frame} {meth : Method} {c : Code} {Q : State → Prop} {D : va_G} {B : Nat} {cA : Nat → ClassId} {ad : Nat → Nat} {cc : ByteArray} {nL : Nat} {ret : Option FieldType} {S : List zC} {I : zI} {lv : List (Nat × Value)} {st : List Value} {pc : Nat} (C : zCx p s m args meth c cc nL RX12 ret D B cA ad) (hS : zOkM S) {v : Int32} (hd : decode cc pc = .ok (.putfield 253, 3)) (kk : zX p l e R s m args below meth c Q D B cA nL 0 0 S (zu I 491 39 v) lv st (pc + 3)) : zX p l e R s m args below meth c Q D B cA nL 0 0 S I lv (.int v :: .ref (B + 491) :: st) pc :=
  zr_puti C (ci := 12) (Cn := RX12) (T := TX12) (N := 82) (k := 491) (j := 39) (fs := [none, some (some 492), some (some 493), none, some (some 494), none, some (some 495), none, none, none, some (some 496), some (some 497), some (some 498), some (some 499), some (some 500), none, some (some 501), some (some 502), some (some 503), none, some (some 504), some (some 505), some (some 506), some (some 507), some (some 508), none, some (some 509), some (some 510), some (some 511), some (some 512), some (some 513), some (some 514), some (some 515), some (some 516), some (some 517), some (some 518), none, none, some (some 519), none, some (some 520), none, none, none, some (some 521), some (some 522), some (some 523), some (some 524), some (some 525), some (some 526), some (some 527), none, some (some 528), none, some (some 529), none, some (some 530), some (some 531), some (some 532), none, some (some 533), some (some 534), some (some 535), some (some 536), some (some 537), none, none, none, some (some 538), some (some 539), some (some 540), none, none, none, some (some 541), none, none, some (some 542), some (some 543), some (some 544), none, some (some 545)]) rfl zin_12 (Nat.le_of_ble_eq_true rfl) rfl (hS _ _ zs_491) rfl tyX12 tyX12_ok nmX12 (ty := .int) zpd_I rfl rfl rfl zk_fl_12_253 hd kk
theorem zg_12_93 {p : Program} {l : Launch} {e : Env} {R : Room} {s : State} {m : MethodId} {args : Array Value} {below : List Frame} {meth : Method} {c : Code} {Q : State → Prop} {D : va_G} {B : Nat} {cA : Nat → ClassId} {ad : Nat → Nat} {cc : ByteArray} {nL : Nat} {ret : Option FieldType} {S : List zC} {I : zI} {lv : List (Nat × Value)} {st : List Value} {pc : Nat} (C : zCx p s m args meth c cc nL RX12 ret D B cA ad) (hS : zOkM S) (hd : decode cc pc = .ok (.getfield 93, 3)) (kk : zX p l e R s m args below meth c Q D B cA nL 0 0 S I lv (.ref (B + 519) :: st) (pc + 3)) : zX p l e R s m args below meth c Q D B cA nL 0 0 S I lv (.ref (B + 491) :: st) pc :=
  zr_getr C (ci := 12) (Cn := RX12) (T := TX12) (N := 82) (k := 491) (j := 38) (fs := [none, some (some 492), some (some 493), none, some (some 494), none, some (some 495), none, none, none, some (some 496), some (some 497), some (some 498), some (some 499), some (some 500), none, some (some 501), some (some 502), some (some 503), none, some (some 504), some (some 505), some (some 506), some (some 507), some (some 508), none, some (some 509), some (some 510), some (some 511), some (some 512), some (some 513), some (some 514), some (some 515), some (some 516), some (some 517), some (some 518), none, none, some (some 519), none, some (some 520), none, none, none, some (some 521), some (some 522), some (some 523), some (some 524), some (some 525), some (some 526), some (some 527), none, some (some 528), none, some (some 529), none, some (some 530), some (some 531), some (some 532), none, some (some 533), some (some 534), some (some 535), some (some 536), some (some 537), none, none, none, some (some 538), some (some 539), some (some 540), none, none, none, some (some 541), none, none, some (some 542), some (some 543), some (some 544), none, some (some 545)]) rfl zin_12 (Nat.le_of_ble_eq_true rfl) rfl (hS _ _ zs_491) rfl zk_fl_12_93 hd kk
theorem zv_12_259 {p : Program} {l : Launch} {e : Env} {R : Room} {s : State} {m : MethodId} {args : Array Value} {below : List Frame} {meth : Method} {c : Code} {Q : State → Prop} {D : va_G} {B : Nat} {cA : Nat → ClassId} {ad : Nat → Nat} {cc : ByteArray} {nL : Nat} {ret : Option FieldType} {S : List zC} {I : zI} {lv : List (Nat × Value)} {st : List Value} {pc : Nat} (C : zCx p s m args meth c cc nL RX12 ret D B cA ad) {K : Int32 → Prop} {xa0 : Int32} (hS : zOkM S)  (h : w_M_symbolOf xa0 I K) (hR : 0 + 1 ≤ R.frames ∧ 8 + (1 + 11) + (0) ≤ R.locals) (hw : (st.map fun v => v.category).sum ≤ 8) (hd : decode cc pc = .ok (.invokestatic 259, 3)) (kk : ∀ v, K v → zX p l e R s m args below meth c Q D B cA nL 0 0 S I lv (.int v :: st) (pc + 3)) : zX p l e R s m args below meth c Q D B cA nL 0 0 S I lv (.int xa0 :: st) pc :=
  have hf : 0 ≤ R.cells ∧ 0 ≤ R.slots := ⟨Nat.zero_le _, Nat.zero_le _⟩
  zc_SpI C (As := [.int xa0]) (st := st) (c_M_symbolOf hS h) (zgM zk_cd_yX12_symbolOf) zk_ml_12_259 zk_st_yX12_symbolOf zk_in_12 zsg_yX12_symbolOf hR rfl rfl hw hd hf kk
theorem zv_12_262 {p : Program} {l : Launch} {e : Env} {R : Room} {s : State} {m : MethodId} {args : Array Value} {below : List Frame} {meth : Method} {c : Code} {Q : State → Prop} {D : va_G} {B : Nat} {cA : Nat → ClassId} {ad : Nat → Nat} {cc : ByteArray} {nL : Nat} {ret : Option FieldType} {S : List zC} {I : zI} {lv : List (Nat × Value)} {st : List Value} {pc : Nat} (C : zCx p s m args meth c cc nL RX12 ret D B cA ad) {K : Int32 → Prop} {xa0 : Int32} {xa1 : Int32} (hS : zOkM S)  (h : w_M_leads xa0 xa1 I K) (hR : 0 + 1 ≤ R.frames ∧ 8 + (2 + 11) + (0) ≤ R.locals) (hw : (st.map fun v => v.category).sum ≤ 8) (hd : decode cc pc = .ok (.invokestatic 262, 3)) (kk : ∀ v, K v → zX p l e R s m args below meth c Q D B cA nL 0 0 S I lv (.int v :: st) (pc + 3)) : zX p l e R s m args below meth c Q D B cA nL 0 0 S I lv (.int xa1 :: .int xa0 :: st) pc :=
  have hf : 0 ≤ R.cells ∧ 0 ≤ R.slots := ⟨Nat.zero_le _, Nat.zero_le _⟩
  zc_SpI C (As := [.int xa0, .int xa1]) (st := st) (c_M_leads hS h) (zgM zk_cd_yX12_leads) zk_ml_12_262 zk_st_yX12_leads zk_in_12 zsg_yX12_leads hR rfl rfl hw hd hf kk
def w_M_reduces (a1 : Int32) (I : zI) (K : zI → Prop) : Prop :=
  w_M_manyOf a1 I (fun r_1 => ∀ I_2, I_2 = (zu I 491 39 ((I.1 491 39) - r_1)) → vp_in ((I_2.1 491 39) - 1) 400 ∧ (w_M_symbolOf a1 I_2 (fun r_3 => w_M_leads (I_2.1 519 (Int32.toNatClampNeg ((I_2.1 491 39) - 1))) r_3 I_2 (fun r_4 => vp_in (I_2.1 491 39) 400 ∧ (∀ I_5, I_5 = (zu I_2 519 (Int32.toNatClampNeg (I_2.1 491 39)) r_4) → ∀ I_6, I_6 = (zu I_5 491 39 ((I_5.1 491 39) + 1)) → K I_6)))))
theorem dyX12_reduces_0 : decode cX12_reduces 0 = .ok (.aload_n 0, 1) := by decide +kernel
theorem dyX12_reduces_1 : decode cX12_reduces 1 = .ok (.dup, 1) := by decide +kernel
theorem dyX12_reduces_2 : decode cX12_reduces 2 = .ok (.getfield 253, 3) := by decide +kernel
theorem dyX12_reduces_5 : decode cX12_reduces 5 = .ok (.iload_n 1, 1) := by decide +kernel
theorem dyX12_reduces_6 : decode cX12_reduces 6 = .ok (.invokestatic 256, 3) := by decide +kernel
theorem dyX12_reduces_9 : decode cX12_reduces 9 = .ok (.isub, 1) := by decide +kernel
theorem dyX12_reduces_10 : decode cX12_reduces 10 = .ok (.putfield 253, 3) := by decide +kernel
theorem dyX12_reduces_13 : decode cX12_reduces 13 = .ok (.aload_n 0, 1) := by decide +kernel
theorem dyX12_reduces_14 : decode cX12_reduces 14 = .ok (.getfield 93, 3) := by decide +kernel
theorem dyX12_reduces_17 : decode cX12_reduces 17 = .ok (.aload_n 0, 1) := by decide +kernel
theorem dyX12_reduces_18 : decode cX12_reduces 18 = .ok (.getfield 253, 3) := by decide +kernel
theorem dyX12_reduces_21 : decode cX12_reduces 21 = .ok (.aload_n 0, 1) := by decide +kernel
theorem dyX12_reduces_22 : decode cX12_reduces 22 = .ok (.getfield 93, 3) := by decide +kernel
theorem dyX12_reduces_25 : decode cX12_reduces 25 = .ok (.aload_n 0, 1) := by decide +kernel
theorem dyX12_reduces_26 : decode cX12_reduces 26 = .ok (.getfield 253, 3) := by decide +kernel
theorem dyX12_reduces_29 : decode cX12_reduces 29 = .ok (.iconst 1, 1) := by decide +kernel
theorem dyX12_reduces_30 : decode cX12_reduces 30 = .ok (.isub, 1) := by decide +kernel
theorem dyX12_reduces_31 : decode cX12_reduces 31 = .ok (.iaload, 1) := by decide +kernel
theorem dyX12_reduces_32 : decode cX12_reduces 32 = .ok (.iload_n 1, 1) := by decide +kernel
theorem dyX12_reduces_33 : decode cX12_reduces 33 = .ok (.invokestatic 259, 3) := by decide +kernel
theorem dyX12_reduces_36 : decode cX12_reduces 36 = .ok (.invokestatic 262, 3) := by decide +kernel
theorem dyX12_reduces_39 : decode cX12_reduces 39 = .ok (.iastore, 1) := by decide +kernel
theorem dyX12_reduces_40 : decode cX12_reduces 40 = .ok (.aload_n 0, 1) := by decide +kernel
theorem dyX12_reduces_41 : decode cX12_reduces 41 = .ok (.dup, 1) := by decide +kernel
theorem dyX12_reduces_42 : decode cX12_reduces 42 = .ok (.getfield 253, 3) := by decide +kernel
theorem dyX12_reduces_45 : decode cX12_reduces 45 = .ok (.iconst 1, 1) := by decide +kernel
theorem dyX12_reduces_46 : decode cX12_reduces 46 = .ok (.iadd, 1) := by decide +kernel
theorem dyX12_reduces_47 : decode cX12_reduces 47 = .ok (.putfield 253, 3) := by decide +kernel
theorem dyX12_reduces_50 : decode cX12_reduces 50 = .ok (.return_, 1) := by decide +kernel
theorem zsg_yX12_reduces : yX12_reduces.cls = RX12 ∧ yX12_reduces.cls ≠ "java/lang/invoke/MethodHandle" ∧ yX12_reduces.cls ≠ "java/lang/invoke/VarHandle" ∧ (parseMethodDescriptor yX12_reduces.desc).map (fun d => d.parameters.length) = some 1 := by decide +kernel
set_option maxRecDepth 20000 in
theorem c_M_reduces {l : Launch} {D : va_G} {B : Nat} {cA : Nat → ClassId} {ad : Nat → Nat} {S : List zC} (hS : zOkM S) {a1 : Int32} {I : zI} {K : zI → Prop}  (h : w_M_reduces a1 I K) : Met l yX12_reduces (zws yX12_reduces cX12_reduces 2 none) (zrm 1 21) (zPc D B cA ad [.ref (B + 491), .int a1] S I) (zQc D B cA (zqV S K)) 0 0 (fun q => B ≤ q) := by
  refine zm_of (cc := cX12_reduces) (maxL := 2) (ret := none) (by decide +kernel) rfl (Nat.le_of_ble_eq_true rfl) trivial ?_
  intro p e s m args below meth c C _
  unfold w_M_reduces at h
  show zX p l e (zrm 1 21) s m args below meth c (MQ below (zQc D B cA (zqV S K)) args s 0 0 (fun q => B ≤ q)) D B cA 2 0 0 S I [(0, .ref (B + 491)), (1, .int a1)] [] 0
  refine zr_aload_n C dyX12_reduces_0 rfl 0 rfl ?_
  refine zr_dup C dyX12_reduces_1 rfl ?_
  refine zg_12_253 C hS dyX12_reduces_2 ?_
  refine zr_iload_n C dyX12_reduces_5 rfl 1 rfl ?_
  refine zv_12_256 C hS (st := [.int (I.1 491 39), .ref (B + 491)]) h ⟨Nat.le_of_ble_eq_true rfl, Nat.le_of_ble_eq_true rfl⟩ (Nat.le_of_ble_eq_true rfl) dyX12_reduces_6 (fun r_1 h => ?_)
  refine zr_isub C dyX12_reduces_9 ?_
  refine zp_12_253 C hS dyX12_reduces_10 ?_
  refine zn_mem C (fun I_2 eI_2 => ?_)
  replace h := h I_2 eI_2
  refine zr_aload_n C dyX12_reduces_13 rfl 0 rfl ?_
  refine zg_12_93 C hS dyX12_reduces_14 ?_
  refine zr_aload_n C dyX12_reduces_17 rfl 0 rfl ?_
  refine zg_12_253 C hS dyX12_reduces_18 ?_
  refine zr_aload_n C dyX12_reduces_21 rfl 0 rfl ?_
  refine zg_12_93 C hS dyX12_reduces_22 ?_
  refine zr_aload_n C dyX12_reduces_25 rfl 0 rfl ?_
  refine zg_12_253 C hS dyX12_reduces_26 ?_
  refine zr_iconst C dyX12_reduces_29 zc_i_1 ?_
  refine zr_isub C dyX12_reduces_30 ?_
  refine zr_iald C (hS _ _ zs_519) h.1 dyX12_reduces_31 ?_
  replace h := h.2
  refine zr_iload_n C dyX12_reduces_32 rfl 1 rfl ?_
  refine zv_12_259 C hS (st := [.int (I_2.1 519 (Int32.toNatClampNeg ((I_2.1 491 39) - 1))), .int (I_2.1 491 39), .ref (B + 519)]) h ⟨Nat.le_of_ble_eq_true rfl, Nat.le_of_ble_eq_true rfl⟩ (Nat.le_of_ble_eq_true rfl) dyX12_reduces_33 (fun r_3 h => ?_)
  refine zv_12_262 C hS (st := [.int (I_2.1 491 39), .ref (B + 519)]) h ⟨Nat.le_of_ble_eq_true rfl, Nat.le_of_ble_eq_true rfl⟩ (Nat.le_of_ble_eq_true rfl) dyX12_reduces_36 (fun r_4 h => ?_)
  refine zr_iast C (hS _ _ zs_519) h.1 dyX12_reduces_39 ?_
  replace h := h.2
  refine zn_mem C (fun I_5 eI_5 => ?_)
  replace h := h I_5 eI_5
  refine zr_aload_n C dyX12_reduces_40 rfl 0 rfl ?_
  refine zr_dup C dyX12_reduces_41 rfl ?_
  refine zg_12_253 C hS dyX12_reduces_42 ?_
  refine zr_iconst C dyX12_reduces_45 zc_i_1 ?_
  refine zr_iadd C dyX12_reduces_46 ?_
  refine zp_12_253 C hS dyX12_reduces_47 ?_
  refine zn_mem C (fun I_6 eI_6 => ?_)
  replace h := h I_6 eI_6
  exact zr_vret C rfl dyX12_reduces_50 ⟨rfl, rfl, h⟩
theorem zp_12_265 {p : Program} {l : Launch} {e : Env} {R : Room} {s : State} {m : MethodId} {args : Array Value} {below : List Frame} {meth : Method} {c : Code} {Q : State → Prop} {D : va_G} {B : Nat} {cA : Nat → ClassId} {ad : Nat → Nat} {cc : ByteArray} {nL : Nat} {ret : Option FieldType} {S : List zC} {I : zI} {lv : List (Nat × Value)} {st : List Value} {pc : Nat} (C : zCx p s m args meth c cc nL RX12 ret D B cA ad) (hS : zOkM S) {v : Int32} (hd : decode cc pc = .ok (.putfield 265, 3)) (kk : zX p l e R s m args below meth c Q D B cA nL 0 0 S (zu I 491 42 v) lv st (pc + 3)) : zX p l e R s m args below meth c Q D B cA nL 0 0 S I lv (.int v :: .ref (B + 491) :: st) pc :=
  zr_puti C (ci := 12) (Cn := RX12) (T := TX12) (N := 82) (k := 491) (j := 42) (fs := [none, some (some 492), some (some 493), none, some (some 494), none, some (some 495), none, none, none, some (some 496), some (some 497), some (some 498), some (some 499), some (some 500), none, some (some 501), some (some 502), some (some 503), none, some (some 504), some (some 505), some (some 506), some (some 507), some (some 508), none, some (some 509), some (some 510), some (some 511), some (some 512), some (some 513), some (some 514), some (some 515), some (some 516), some (some 517), some (some 518), none, none, some (some 519), none, some (some 520), none, none, none, some (some 521), some (some 522), some (some 523), some (some 524), some (some 525), some (some 526), some (some 527), none, some (some 528), none, some (some 529), none, some (some 530), some (some 531), some (some 532), none, some (some 533), some (some 534), some (some 535), some (some 536), some (some 537), none, none, none, some (some 538), some (some 539), some (some 540), none, none, none, some (some 541), none, none, some (some 542), some (some 543), some (some 544), none, some (some 545)]) rfl zin_12 (Nat.le_of_ble_eq_true rfl) rfl (hS _ _ zs_491) rfl tyX12 tyX12_ok nmX12 (ty := .int) zpd_I rfl rfl rfl zk_fl_12_265 hd kk
theorem zg_12_96 {p : Program} {l : Launch} {e : Env} {R : Room} {s : State} {m : MethodId} {args : Array Value} {below : List Frame} {meth : Method} {c : Code} {Q : State → Prop} {D : va_G} {B : Nat} {cA : Nat → ClassId} {ad : Nat → Nat} {cc : ByteArray} {nL : Nat} {ret : Option FieldType} {S : List zC} {I : zI} {lv : List (Nat × Value)} {st : List Value} {pc : Nat} (C : zCx p s m args meth c cc nL RX12 ret D B cA ad) (hS : zOkM S) (hd : decode cc pc = .ok (.getfield 96, 3)) (kk : zX p l e R s m args below meth c Q D B cA nL 0 0 S I lv (.ref (B + 520) :: st) (pc + 3)) : zX p l e R s m args below meth c Q D B cA nL 0 0 S I lv (.ref (B + 491) :: st) pc :=
  zr_getr C (ci := 12) (Cn := RX12) (T := TX12) (N := 82) (k := 491) (j := 40) (fs := [none, some (some 492), some (some 493), none, some (some 494), none, some (some 495), none, none, none, some (some 496), some (some 497), some (some 498), some (some 499), some (some 500), none, some (some 501), some (some 502), some (some 503), none, some (some 504), some (some 505), some (some 506), some (some 507), some (some 508), none, some (some 509), some (some 510), some (some 511), some (some 512), some (some 513), some (some 514), some (some 515), some (some 516), some (some 517), some (some 518), none, none, some (some 519), none, some (some 520), none, none, none, some (some 521), some (some 522), some (some 523), some (some 524), some (some 525), some (some 526), some (some 527), none, some (some 528), none, some (some 529), none, some (some 530), some (some 531), some (some 532), none, some (some 533), some (some 534), some (some 535), some (some 536), some (some 537), none, none, none, some (some 538), some (some 539), some (some 540), none, none, none, some (some 541), none, none, some (some 542), some (some 543), some (some 544), none, some (some 545)]) rfl zin_12 (Nat.le_of_ble_eq_true rfl) rfl (hS _ _ zs_491) rfl zk_fl_12_96 hd kk
theorem zv_12_268 {p : Program} {l : Launch} {e : Env} {R : Room} {s : State} {m : MethodId} {args : Array Value} {below : List Frame} {meth : Method} {c : Code} {Q : State → Prop} {D : va_G} {B : Nat} {cA : Nat → ClassId} {ad : Nat → Nat} {cc : ByteArray} {nL : Nat} {ret : Option FieldType} {S : List zC} {I : zI} {lv : List (Nat × Value)} {st : List Value} {pc : Nat} (C : zCx p s m args meth c cc nL RX12 ret D B cA ad) {K : Int32 → Prop} {xa0 : Int32} {xa1 : Int32} (hS : zOkM S)  (h : w_M_shifts xa0 xa1 I K) (hR : 0 + 1 ≤ R.frames ∧ 8 + (2 + 11) + (0) ≤ R.locals) (hw : (st.map fun v => v.category).sum ≤ 8) (hd : decode cc pc = .ok (.invokestatic 268, 3)) (kk : ∀ v, K v → zX p l e R s m args below meth c Q D B cA nL 0 0 S I lv (.int v :: st) (pc + 3)) : zX p l e R s m args below meth c Q D B cA nL 0 0 S I lv (.int xa1 :: .int xa0 :: st) pc :=
  have hf : 0 ≤ R.cells ∧ 0 ≤ R.slots := ⟨Nat.zero_le _, Nat.zero_le _⟩
  zc_SpI C (As := [.int xa0, .int xa1]) (st := st) (c_M_shifts hS h) (zgM zk_cd_yX12_shifts) zk_ml_12_268 zk_st_yX12_shifts zk_in_12 zsg_yX12_shifts hR rfl rfl hw hd hf kk
theorem zv_12_271 {p : Program} {l : Launch} {e : Env} {R : Room} {s : State} {m : MethodId} {args : Array Value} {below : List Frame} {meth : Method} {c : Code} {Q : State → Prop} {D : va_G} {B : Nat} {cA : Nat → ClassId} {ad : Nat → Nat} {cc : ByteArray} {nL : Nat} {ret : Option FieldType} {S : List zC} {I : zI} {lv : List (Nat × Value)} {st : List Value} {pc : Nat} (C : zCx p s m args meth c cc nL RX12 ret D B cA ad) {K : Int32 → Prop} {xa0 : Int32} (hS : zOkM S)  (h : w_M_ruleOf xa0 I K) (hR : 0 + 1 ≤ R.frames ∧ 8 + (1 + 11) + (0) ≤ R.locals) (hw : (st.map fun v => v.category).sum ≤ 8) (hd : decode cc pc = .ok (.invokestatic 271, 3)) (kk : ∀ v, K v → zX p l e R s m args below meth c Q D B cA nL 0 0 S I lv (.int v :: st) (pc + 3)) : zX p l e R s m args below meth c Q D B cA nL 0 0 S I lv (.int xa0 :: st) pc :=
  have hf : 0 ≤ R.cells ∧ 0 ≤ R.slots := ⟨Nat.zero_le _, Nat.zero_le _⟩
  zc_SpI C (As := [.int xa0]) (st := st) (c_M_ruleOf hS h) (zgM zk_cd_yX12_ruleOf) zk_ml_12_271 zk_st_yX12_ruleOf zk_in_12 zsg_yX12_ruleOf hR rfl rfl hw hd hf kk
theorem zg_12_265 {p : Program} {l : Launch} {e : Env} {R : Room} {s : State} {m : MethodId} {args : Array Value} {below : List Frame} {meth : Method} {c : Code} {Q : State → Prop} {D : va_G} {B : Nat} {cA : Nat → ClassId} {ad : Nat → Nat} {cc : ByteArray} {nL : Nat} {ret : Option FieldType} {S : List zC} {I : zI} {lv : List (Nat × Value)} {st : List Value} {pc : Nat} (C : zCx p s m args meth c cc nL RX12 ret D B cA ad) (hS : zOkM S) (hd : decode cc pc = .ok (.getfield 265, 3)) (kk : zX p l e R s m args below meth c Q D B cA nL 0 0 S I lv (.int (I.1 491 42) :: st) (pc + 3)) : zX p l e R s m args below meth c Q D B cA nL 0 0 S I lv (.ref (B + 491) :: st) pc :=
  zr_geti C (ci := 12) (Cn := RX12) (T := TX12) (N := 82) (k := 491) (j := 42) (fs := [none, some (some 492), some (some 493), none, some (some 494), none, some (some 495), none, none, none, some (some 496), some (some 497), some (some 498), some (some 499), some (some 500), none, some (some 501), some (some 502), some (some 503), none, some (some 504), some (some 505), some (some 506), some (some 507), some (some 508), none, some (some 509), some (some 510), some (some 511), some (some 512), some (some 513), some (some 514), some (some 515), some (some 516), some (some 517), some (some 518), none, none, some (some 519), none, some (some 520), none, none, none, some (some 521), some (some 522), some (some 523), some (some 524), some (some 525), some (some 526), some (some 527), none, some (some 528), none, some (some 529), none, some (some 530), some (some 531), some (some 532), none, some (some 533), some (some 534), some (some 535), some (some 536), some (some 537), none, none, none, some (some 538), some (some 539), some (some 540), none, none, none, some (some 541), none, none, some (some 542), some (some 543), some (some 544), none, some (some 545)]) rfl zin_12 (Nat.le_of_ble_eq_true rfl) rfl (hS _ _ zs_491) rfl zk_fl_12_265 hd kk
theorem zv_12_274 {p : Program} {l : Launch} {e : Env} {R : Room} {s : State} {m : MethodId} {args : Array Value} {below : List Frame} {meth : Method} {c : Code} {Q : State → Prop} {D : va_G} {B : Nat} {cA : Nat → ClassId} {ad : Nat → Nat} {cc : ByteArray} {nL : Nat} {ret : Option FieldType} {S : List zC} {I : zI} {lv : List (Nat × Value)} {st : List Value} {pc : Nat} (C : zCx p s m args meth c cc nL RX12 ret D B cA ad) {K : zI → Prop} {xa1 : Int32} (hS : zOkM S)  (h : w_M_reduces xa1 I K) (hR : 1 + 1 ≤ R.frames ∧ 8 + (2 + 11) + (21) ≤ R.locals) (hw : (st.map fun v => v.category).sum ≤ 8) (hd : decode cc pc = .ok (.invokevirtual 274, 3)) (kk : ∀ I2, K I2 → zX p l e R s m args below meth c Q D B cA nL 0 0 S I2 lv st (pc + 3)) : zX p l e R s m args below meth c Q D B cA nL 0 0 S I lv (.int xa1 :: .ref (B + 491) :: st) pc :=
  have hf : 0 ≤ R.cells ∧ 0 ≤ R.slots := ⟨Nat.zero_le _, Nat.zero_le _⟩
  zc_VqV C (ci := 12) (q := (RX12, TX12, 82)) (k := 491) (fs := [none, some (some 492), some (some 493), none, some (some 494), none, some (some 495), none, none, none, some (some 496), some (some 497), some (some 498), some (some 499), some (some 500), none, some (some 501), some (some 502), some (some 503), none, some (some 504), some (some 505), some (some 506), some (some 507), some (some 508), none, some (some 509), some (some 510), some (some 511), some (some 512), some (some 513), some (some 514), some (some 515), some (some 516), some (some 517), some (some 518), none, none, some (some 519), none, some (some 520), none, none, none, some (some 521), some (some 522), some (some 523), some (some 524), some (some 525), some (some 526), some (some 527), none, some (some 528), none, some (some 529), none, some (some 530), some (some 531), some (some 532), none, some (some 533), some (some 534), some (some 535), some (some 536), some (some 537), none, none, none, some (some 538), some (some 539), some (some 540), none, none, none, some (some 541), none, none, some (some 542), some (some 543), some (some 544), none, some (some 545)]) (As := [.int xa1]) (st := st) rfl (hS _ _ zs_491) (c_M_reduces hS h) (zgV zk_ml_12_274 zk_im_yX12_reduces zk_se_yX12_reduces zk_in_12 zk_cd_yX12_reduces) zsg_yX12_reduces hR rfl rfl hw hd hf kk
def w_M_wrongOf  (I : zI) (K : Int32 → zI → Prop) : Prop :=
  vp_in 0 400 ∧ (∀ I_1, I_1 = (zu I 519 0 0) → ∀ I_2, I_2 = (zu I_1 491 39 1) → ∀ I_3, I_3 = (zu I_2 491 42 0) → ∀ (P19 : Int32 → zI → Prop), (∀ (v1_4 : Int32) (I_5 : zI), (vp_in ((I_5.1 491 39) - 1) 400 ∧ (∀ v2_6, v2_6 = (I_5.1 519 (Int32.toNatClampNeg ((I_5.1 491 39) - 1))) → vp_in v1_4 120 ∧ (w_M_shifts v2_6 (I_5.1 520 (Int32.toNatClampNeg v1_4)) I_5 (fun r_7 => w_M_ruleOf v2_6 I_5 (fun r_8 => ∀ (P114 : Int32 → zI → Prop), (∀ (v1_9 : Int32) (I_10 : zI), (∀ I_11, I_11 = (zu I_10 491 42 ((I_10.1 491 42) + 1)) → P19 v1_9 I_11) → P114 v1_9 I_10) → (if r_7 < 0 then (if r_8 < 0 then (vp_in v1_4 120 ∧ (if (I_5.1 520 (Int32.toNatClampNeg v1_4)) = 10 then (if v2_6 = 1 then (K (-1) I_5) else K v1_4 I_5) else K v1_4 I_5)) else (w_M_reduces r_8 I_5 (fun I_14 => P114 v1_4 I_14))) else (vp_in (I_5.1 491 39) 400 ∧ (∀ I_16, I_16 = (zu I_5 519 (Int32.toNatClampNeg (I_5.1 491 39)) r_7) → ∀ I_17, I_17 = (zu I_16 491 39 ((I_16.1 491 39) + 1)) → ∀ v1_18, v1_18 = (v1_4 + 1) → P114 v1_18 I_17)))))))) → P19 v1_4 I_5) → P19 0 I_3)
theorem dyX12_wrongOf_0 : decode cX12_wrongOf 0 = .ok (.aload_n 0, 1) := by decide +kernel
theorem dyX12_wrongOf_1 : decode cX12_wrongOf 1 = .ok (.getfield 93, 3) := by decide +kernel
theorem dyX12_wrongOf_4 : decode cX12_wrongOf 4 = .ok (.iconst 0, 1) := by decide +kernel
theorem dyX12_wrongOf_5 : decode cX12_wrongOf 5 = .ok (.iconst 0, 1) := by decide +kernel
theorem dyX12_wrongOf_6 : decode cX12_wrongOf 6 = .ok (.iastore, 1) := by decide +kernel
theorem dyX12_wrongOf_7 : decode cX12_wrongOf 7 = .ok (.aload_n 0, 1) := by decide +kernel
theorem dyX12_wrongOf_8 : decode cX12_wrongOf 8 = .ok (.iconst 1, 1) := by decide +kernel
theorem dyX12_wrongOf_9 : decode cX12_wrongOf 9 = .ok (.putfield 253, 3) := by decide +kernel
theorem dyX12_wrongOf_12 : decode cX12_wrongOf 12 = .ok (.aload_n 0, 1) := by decide +kernel
theorem dyX12_wrongOf_13 : decode cX12_wrongOf 13 = .ok (.iconst 0, 1) := by decide +kernel
theorem dyX12_wrongOf_14 : decode cX12_wrongOf 14 = .ok (.putfield 265, 3) := by decide +kernel
theorem dyX12_wrongOf_17 : decode cX12_wrongOf 17 = .ok (.iconst 0, 1) := by decide +kernel
theorem dyX12_wrongOf_18 : decode cX12_wrongOf 18 = .ok (.istore_n 1, 1) := by decide +kernel
theorem dyX12_wrongOf_19 : decode cX12_wrongOf 19 = .ok (.aload_n 0, 1) := by decide +kernel
theorem dyX12_wrongOf_20 : decode cX12_wrongOf 20 = .ok (.getfield 93, 3) := by decide +kernel
theorem dyX12_wrongOf_23 : decode cX12_wrongOf 23 = .ok (.aload_n 0, 1) := by decide +kernel
theorem dyX12_wrongOf_24 : decode cX12_wrongOf 24 = .ok (.getfield 253, 3) := by decide +kernel
theorem dyX12_wrongOf_27 : decode cX12_wrongOf 27 = .ok (.iconst 1, 1) := by decide +kernel
theorem dyX12_wrongOf_28 : decode cX12_wrongOf 28 = .ok (.isub, 1) := by decide +kernel
theorem dyX12_wrongOf_29 : decode cX12_wrongOf 29 = .ok (.iaload, 1) := by decide +kernel
theorem dyX12_wrongOf_30 : decode cX12_wrongOf 30 = .ok (.istore_n 2, 1) := by decide +kernel
theorem dyX12_wrongOf_31 : decode cX12_wrongOf 31 = .ok (.iload_n 2, 1) := by decide +kernel
theorem dyX12_wrongOf_32 : decode cX12_wrongOf 32 = .ok (.aload_n 0, 1) := by decide +kernel
theorem dyX12_wrongOf_33 : decode cX12_wrongOf 33 = .ok (.getfield 96, 3) := by decide +kernel
theorem dyX12_wrongOf_36 : decode cX12_wrongOf 36 = .ok (.iload_n 1, 1) := by decide +kernel
theorem dyX12_wrongOf_37 : decode cX12_wrongOf 37 = .ok (.iaload, 1) := by decide +kernel
theorem dyX12_wrongOf_38 : decode cX12_wrongOf 38 = .ok (.invokestatic 268, 3) := by decide +kernel
theorem dyX12_wrongOf_41 : decode cX12_wrongOf 41 = .ok (.istore_n 3, 1) := by decide +kernel
theorem dyX12_wrongOf_42 : decode cX12_wrongOf 42 = .ok (.iload_n 2, 1) := by decide +kernel
theorem dyX12_wrongOf_43 : decode cX12_wrongOf 43 = .ok (.invokestatic 271, 3) := by decide +kernel
theorem dyX12_wrongOf_46 : decode cX12_wrongOf 46 = .ok (.istore 4, 2) := by decide +kernel
theorem dyX12_wrongOf_48 : decode cX12_wrongOf 48 = .ok (.iload_n 3, 1) := by decide +kernel
theorem dyX12_wrongOf_49 : decode cX12_wrongOf 49 = .ok (.ifCond .lt 29, 3) := by decide +kernel
theorem dyX12_wrongOf_52 : decode cX12_wrongOf 52 = .ok (.aload_n 0, 1) := by decide +kernel
theorem dyX12_wrongOf_53 : decode cX12_wrongOf 53 = .ok (.getfield 93, 3) := by decide +kernel
theorem dyX12_wrongOf_56 : decode cX12_wrongOf 56 = .ok (.aload_n 0, 1) := by decide +kernel
theorem dyX12_wrongOf_57 : decode cX12_wrongOf 57 = .ok (.getfield 253, 3) := by decide +kernel
theorem dyX12_wrongOf_60 : decode cX12_wrongOf 60 = .ok (.iload_n 3, 1) := by decide +kernel
theorem dyX12_wrongOf_61 : decode cX12_wrongOf 61 = .ok (.iastore, 1) := by decide +kernel
theorem dyX12_wrongOf_62 : decode cX12_wrongOf 62 = .ok (.aload_n 0, 1) := by decide +kernel
theorem dyX12_wrongOf_63 : decode cX12_wrongOf 63 = .ok (.dup, 1) := by decide +kernel
theorem dyX12_wrongOf_64 : decode cX12_wrongOf 64 = .ok (.getfield 253, 3) := by decide +kernel
theorem dyX12_wrongOf_67 : decode cX12_wrongOf 67 = .ok (.iconst 1, 1) := by decide +kernel
theorem dyX12_wrongOf_68 : decode cX12_wrongOf 68 = .ok (.iadd, 1) := by decide +kernel
theorem dyX12_wrongOf_69 : decode cX12_wrongOf 69 = .ok (.putfield 253, 3) := by decide +kernel
theorem dyX12_wrongOf_72 : decode cX12_wrongOf 72 = .ok (.iinc 1 1, 3) := by decide +kernel
theorem dyX12_wrongOf_75 : decode cX12_wrongOf 75 = .ok (.goto 39, 3) := by decide +kernel
theorem dyX12_wrongOf_78 : decode cX12_wrongOf 78 = .ok (.iload 4, 2) := by decide +kernel
theorem dyX12_wrongOf_80 : decode cX12_wrongOf 80 = .ok (.ifCond .lt 12, 3) := by decide +kernel
theorem dyX12_wrongOf_83 : decode cX12_wrongOf 83 = .ok (.aload_n 0, 1) := by decide +kernel
theorem dyX12_wrongOf_84 : decode cX12_wrongOf 84 = .ok (.iload 4, 2) := by decide +kernel
theorem dyX12_wrongOf_86 : decode cX12_wrongOf 86 = .ok (.invokevirtual 274, 3) := by decide +kernel
theorem dyX12_wrongOf_89 : decode cX12_wrongOf 89 = .ok (.goto 25, 3) := by decide +kernel
theorem dyX12_wrongOf_92 : decode cX12_wrongOf 92 = .ok (.aload_n 0, 1) := by decide +kernel
theorem dyX12_wrongOf_93 : decode cX12_wrongOf 93 = .ok (.getfield 96, 3) := by decide +kernel
theorem dyX12_wrongOf_96 : decode cX12_wrongOf 96 = .ok (.iload_n 1, 1) := by decide +kernel
theorem dyX12_wrongOf_97 : decode cX12_wrongOf 97 = .ok (.iaload, 1) := by decide +kernel
theorem dyX12_wrongOf_98 : decode cX12_wrongOf 98 = .ok (.bipush 10, 2) := by decide +kernel
theorem dyX12_wrongOf_100 : decode cX12_wrongOf 100 = .ok (.if_icmp .ne 12, 3) := by decide +kernel
theorem dyX12_wrongOf_103 : decode cX12_wrongOf 103 = .ok (.iload_n 2, 1) := by decide +kernel
theorem dyX12_wrongOf_104 : decode cX12_wrongOf 104 = .ok (.iconst 1, 1) := by decide +kernel
theorem dyX12_wrongOf_105 : decode cX12_wrongOf 105 = .ok (.if_icmp .ne 7, 3) := by decide +kernel
theorem dyX12_wrongOf_108 : decode cX12_wrongOf 108 = .ok (.iconst (-1), 1) := by decide +kernel
theorem dyX12_wrongOf_109 : decode cX12_wrongOf 109 = .ok (.goto 4, 3) := by decide +kernel
theorem dyX12_wrongOf_112 : decode cX12_wrongOf 112 = .ok (.iload_n 1, 1) := by decide +kernel
theorem dyX12_wrongOf_113 : decode cX12_wrongOf 113 = .ok (.ireturn, 1) := by decide +kernel
theorem dyX12_wrongOf_114 : decode cX12_wrongOf 114 = .ok (.aload_n 0, 1) := by decide +kernel
theorem dyX12_wrongOf_115 : decode cX12_wrongOf 115 = .ok (.dup, 1) := by decide +kernel
theorem dyX12_wrongOf_116 : decode cX12_wrongOf 116 = .ok (.getfield 265, 3) := by decide +kernel
theorem dyX12_wrongOf_119 : decode cX12_wrongOf 119 = .ok (.iconst 1, 1) := by decide +kernel
theorem dyX12_wrongOf_120 : decode cX12_wrongOf 120 = .ok (.iadd, 1) := by decide +kernel
theorem dyX12_wrongOf_121 : decode cX12_wrongOf 121 = .ok (.putfield 265, 3) := by decide +kernel
theorem dyX12_wrongOf_124 : decode cX12_wrongOf 124 = .ok (.goto (-105), 3) := by decide +kernel
theorem zsg_yX12_wrongOf : yX12_wrongOf.cls = RX12 ∧ yX12_wrongOf.cls ≠ "java/lang/invoke/MethodHandle" ∧ yX12_wrongOf.cls ≠ "java/lang/invoke/VarHandle" ∧ (parseMethodDescriptor yX12_wrongOf.desc).map (fun d => d.parameters.length) = some 0 := by decide +kernel
set_option maxRecDepth 20000 in
theorem c_M_wrongOf {l : Launch} {D : va_G} {B : Nat} {cA : Nat → ClassId} {ad : Nat → Nat} {S : List zC} (hS : zOkM S)  {I : zI} {K : Int32 → zI → Prop}  (h : w_M_wrongOf  I K) : Met l yX12_wrongOf (zws yX12_wrongOf cX12_wrongOf 5 (some .int)) (zrm 2 42) (zPc D B cA ad [.ref (B + 491)] S I) (zQc D B cA (zqI S K)) 0 0 (fun q => B ≤ q) := by
  refine zm_of (cc := cX12_wrongOf) (maxL := 5) (ret := (some .int)) (by decide +kernel) rfl (Nat.le_of_ble_eq_true rfl) trivial ?_
  intro p e s m args below meth c C _
  unfold w_M_wrongOf at h
  show zX p l e (zrm 2 42) s m args below meth c (MQ below (zQc D B cA (zqI S K)) args s 0 0 (fun q => B ≤ q)) D B cA 5 0 0 S I [(0, .ref (B + 491))] [] 0
  refine zr_aload_n C dyX12_wrongOf_0 rfl 0 rfl ?_
  refine zg_12_93 C hS dyX12_wrongOf_1 ?_
  refine zr_iconst C dyX12_wrongOf_4 zc_i_0 ?_
  refine zr_iconst C dyX12_wrongOf_5 zc_i_0 ?_
  refine zr_iast C (hS _ _ zs_519) h.1 dyX12_wrongOf_6 ?_
  replace h := h.2
  refine zn_mem C (fun I_1 eI_1 => ?_)
  replace h := h I_1 eI_1
  refine zr_aload_n C dyX12_wrongOf_7 rfl 0 rfl ?_
  refine zr_iconst C dyX12_wrongOf_8 zc_i_1 ?_
  refine zp_12_253 C hS dyX12_wrongOf_9 ?_
  refine zn_mem C (fun I_2 eI_2 => ?_)
  replace h := h I_2 eI_2
  refine zr_aload_n C dyX12_wrongOf_12 rfl 0 rfl ?_
  refine zr_iconst C dyX12_wrongOf_13 zc_i_0 ?_
  refine zp_12_265 C hS dyX12_wrongOf_14 ?_
  refine zn_mem C (fun I_3 eI_3 => ?_)
  replace h := h I_3 eI_3
  refine zr_iconst C dyX12_wrongOf_17 zc_i_0 ?_
  refine zr_istore_n C dyX12_wrongOf_18 rfl (Nat.le_of_ble_eq_true rfl) (lv2 := [(1, .int 0), (0, .ref (B + 491))]) rfl ?_
  refine zjn (h (fun (v1_4 : Int32) (I_5 : zI) => zX p l e (zrm 2 42) s m args below meth c (MQ below (zQc D B cA (zqI S K)) args s 0 0 (fun q => B ≤ q)) D B cA 5 0 0 S I_5 [(1, .int v1_4), (0, .ref (B + 491))] [] 19) (fun v1_4 I_5 h => ?_)) (fun h => ?_)
  · refine zr_aload_n C dyX12_wrongOf_19 rfl 1 rfl ?_
    refine zg_12_93 C hS dyX12_wrongOf_20 ?_
    refine zr_aload_n C dyX12_wrongOf_23 rfl 1 rfl ?_
    refine zg_12_253 C hS dyX12_wrongOf_24 ?_
    refine zr_iconst C dyX12_wrongOf_27 zc_i_1 ?_
    refine zr_isub C dyX12_wrongOf_28 ?_
    refine zr_iald C (hS _ _ zs_519) h.1 dyX12_wrongOf_29 ?_
    replace h := h.2
    refine zn_istore_n C (fun v2_6 => [(2, .int v2_6), (1, .int v1_4), (0, .ref (B + 491))]) dyX12_wrongOf_30 rfl (Nat.le_of_ble_eq_true rfl) (fun _ => rfl) (fun v2_6 ev2_6 => ?_)
    replace h := h v2_6 ev2_6
    refine zr_iload_n C dyX12_wrongOf_31 rfl 0 rfl ?_
    refine zr_aload_n C dyX12_wrongOf_32 rfl 2 rfl ?_
    refine zg_12_96 C hS dyX12_wrongOf_33 ?_
    refine zr_iload_n C dyX12_wrongOf_36 rfl 1 rfl ?_
    refine zr_iald C (hS _ _ zs_520) h.1 dyX12_wrongOf_37 ?_
    replace h := h.2
    refine zv_12_268 C hS (st := []) h ⟨Nat.le_of_ble_eq_true rfl, Nat.le_of_ble_eq_true rfl⟩ (Nat.le_of_ble_eq_true rfl) dyX12_wrongOf_38 (fun r_7 h => ?_)
    refine zr_istore_n C dyX12_wrongOf_41 rfl (Nat.le_of_ble_eq_true rfl) (lv2 := [(3, .int r_7), (2, .int v2_6), (1, .int v1_4), (0, .ref (B + 491))]) rfl ?_
    refine zr_iload_n C dyX12_wrongOf_42 rfl 1 rfl ?_
    refine zv_12_271 C hS (st := []) h ⟨Nat.le_of_ble_eq_true rfl, Nat.le_of_ble_eq_true rfl⟩ (Nat.le_of_ble_eq_true rfl) dyX12_wrongOf_43 (fun r_8 h => ?_)
    refine zr_istore C dyX12_wrongOf_46 (Nat.le_of_ble_eq_true rfl) (lv2 := [(4, .int r_8), (3, .int r_7), (2, .int v2_6), (1, .int v1_4), (0, .ref (B + 491))]) rfl ?_
    refine zr_iload_n C dyX12_wrongOf_48 rfl 1 rfl ?_
    refine zjn (h (fun (v1_9 : Int32) (I_10 : zI) => zX p l e (zrm 2 42) s m args below meth c (MQ below (zQc D B cA (zqI S K)) args s 0 0 (fun q => B ≤ q)) D B cA 5 0 0 S I_10 [(1, .int v1_9), (0, .ref (B + 491))] [] 114) (fun v1_9 I_10 h => ?_)) (fun h => ?_)
    · refine zr_aload_n C dyX12_wrongOf_114 rfl 1 rfl ?_
      refine zr_dup C dyX12_wrongOf_115 rfl ?_
      refine zg_12_265 C hS dyX12_wrongOf_116 ?_
      refine zr_iconst C dyX12_wrongOf_119 zc_i_1 ?_
      refine zr_iadd C dyX12_wrongOf_120 ?_
      refine zp_12_265 C hS dyX12_wrongOf_121 ?_
      refine zn_mem C (fun I_11 eI_11 => ?_)
      replace h := h I_11 eI_11
      refine zr_goto C dyX12_wrongOf_124 (tgt := 19) (by decide) ?_
      exact h
    refine zr_if_lt C dyX12_wrongOf_49 (tgt := 78) (by decide) (fun hc_19 => ?_) (fun hc_19 => ?_)
    · replace h := zif_pos hc_19 h
      refine zr_iload C dyX12_wrongOf_78 0 rfl ?_
      refine zr_if_lt C dyX12_wrongOf_80 (tgt := 92) (by decide) (fun hc_15 => ?_) (fun hc_15 => ?_)
      · replace h := zif_pos hc_15 h
        refine zr_aload_n C dyX12_wrongOf_92 rfl 4 rfl ?_
        refine zg_12_96 C hS dyX12_wrongOf_93 ?_
        refine zr_iload_n C dyX12_wrongOf_96 rfl 3 rfl ?_
        refine zr_iald C (hS _ _ zs_520) h.1 dyX12_wrongOf_97 ?_
        replace h := h.2
        refine zr_bipush C dyX12_wrongOf_98 zc_b_10 ?_
        refine zr_icmp_ne C dyX12_wrongOf_100 (tgt := 112) (by decide) (fun hc_13 => ?_) (fun hc_13 => ?_)
        · replace h := zif_neg hc_13 h
          refine zr_iload_n C dyX12_wrongOf_112 rfl 3 rfl ?_
          exact zr_iret C rfl dyX12_wrongOf_113 ⟨rfl, _, rfl, h⟩
        · replace h := zif_pos hc_13 h
          refine zr_iload_n C dyX12_wrongOf_103 rfl 2 rfl ?_
          refine zr_iconst C dyX12_wrongOf_104 zc_i_1 ?_
          refine zr_icmp_ne C dyX12_wrongOf_105 (tgt := 112) (by decide) (fun hc_12 => ?_) (fun hc_12 => ?_)
          · replace h := zif_neg hc_12 h
            refine zr_iload_n C dyX12_wrongOf_112 rfl 3 rfl ?_
            exact zr_iret C rfl dyX12_wrongOf_113 ⟨rfl, _, rfl, h⟩
          · replace h := zif_pos hc_12 h
            refine zr_iconst C dyX12_wrongOf_108 zc_i_m1 ?_
            refine zr_goto C dyX12_wrongOf_109 (tgt := 113) (by decide) ?_
            exact zr_iret C rfl dyX12_wrongOf_113 ⟨rfl, _, rfl, h⟩
      · replace h := zif_neg hc_15 h
        refine zr_aload_n C dyX12_wrongOf_83 rfl 4 rfl ?_
        refine zr_iload C dyX12_wrongOf_84 0 rfl ?_
        refine zv_12_274 C hS (st := []) h ⟨Nat.le_of_ble_eq_true rfl, Nat.le_of_ble_eq_true rfl⟩ (Nat.le_of_ble_eq_true rfl) dyX12_wrongOf_86 (fun I_14 h => ?_)
        refine zr_goto C dyX12_wrongOf_89 (tgt := 114) (by decide) ?_
        refine zr_sub (lv2 := [(1, .int v1_4), (0, .ref (B + 491))]) [3, 4] rfl ?_
        exact h
    · replace h := zif_neg hc_19 h
      refine zr_aload_n C dyX12_wrongOf_52 rfl 4 rfl ?_
      refine zg_12_93 C hS dyX12_wrongOf_53 ?_
      refine zr_aload_n C dyX12_wrongOf_56 rfl 4 rfl ?_
      refine zg_12_253 C hS dyX12_wrongOf_57 ?_
      refine zr_iload_n C dyX12_wrongOf_60 rfl 1 rfl ?_
      refine zr_iast C (hS _ _ zs_519) h.1 dyX12_wrongOf_61 ?_
      replace h := h.2
      refine zn_mem C (fun I_16 eI_16 => ?_)
      replace h := h I_16 eI_16
      refine zr_aload_n C dyX12_wrongOf_62 rfl 4 rfl ?_
      refine zr_dup C dyX12_wrongOf_63 rfl ?_
      refine zg_12_253 C hS dyX12_wrongOf_64 ?_
      refine zr_iconst C dyX12_wrongOf_67 zc_i_1 ?_
      refine zr_iadd C dyX12_wrongOf_68 ?_
      refine zp_12_253 C hS dyX12_wrongOf_69 ?_
      refine zn_mem C (fun I_17 eI_17 => ?_)
      replace h := h I_17 eI_17
      refine zn_iinc C (fun v1_18 => [(1, .int v1_18), (4, .int r_8), (3, .int r_7), (2, .int v2_6), (0, .ref (B + 491))]) dyX12_wrongOf_72 3 rfl zc_i_1 (Nat.le_of_ble_eq_true rfl) (fun _ => rfl) (fun v1_18 ev1_18 => ?_)
      replace h := h v1_18 ev1_18
      refine zr_goto C dyX12_wrongOf_75 (tgt := 114) (by decide) ?_
      refine zr_sub (lv2 := [(1, .int v1_18), (0, .ref (B + 491))]) [0, 4] rfl ?_
      exact h
  exact h
theorem zp_12_277 {p : Program} {l : Launch} {e : Env} {R : Room} {s : State} {m : MethodId} {args : Array Value} {below : List Frame} {meth : Method} {c : Code} {Q : State → Prop} {D : va_G} {B : Nat} {cA : Nat → ClassId} {ad : Nat → Nat} {cc : ByteArray} {nL : Nat} {ret : Option FieldType} {S : List zC} {I : zI} {lv : List (Nat × Value)} {st : List Value} {pc : Nat} (C : zCx p s m args meth c cc nL RX12 ret D B cA ad) (hS : zOkM S) {v : Int32} (hd : decode cc pc = .ok (.putfield 277, 3)) (kk : zX p l e R s m args below meth c Q D B cA nL 0 0 S (zu I 491 41 v) lv st (pc + 3)) : zX p l e R s m args below meth c Q D B cA nL 0 0 S I lv (.int v :: .ref (B + 491) :: st) pc :=
  zr_puti C (ci := 12) (Cn := RX12) (T := TX12) (N := 82) (k := 491) (j := 41) (fs := [none, some (some 492), some (some 493), none, some (some 494), none, some (some 495), none, none, none, some (some 496), some (some 497), some (some 498), some (some 499), some (some 500), none, some (some 501), some (some 502), some (some 503), none, some (some 504), some (some 505), some (some 506), some (some 507), some (some 508), none, some (some 509), some (some 510), some (some 511), some (some 512), some (some 513), some (some 514), some (some 515), some (some 516), some (some 517), some (some 518), none, none, some (some 519), none, some (some 520), none, none, none, some (some 521), some (some 522), some (some 523), some (some 524), some (some 525), some (some 526), some (some 527), none, some (some 528), none, some (some 529), none, some (some 530), some (some 531), some (some 532), none, some (some 533), some (some 534), some (some 535), some (some 536), some (some 537), none, none, none, some (some 538), some (some 539), some (some 540), none, none, none, some (some 541), none, none, some (some 542), some (some 543), some (some 544), none, some (some 545)]) rfl zin_12 (Nat.le_of_ble_eq_true rfl) rfl (hS _ _ zs_491) rfl tyX12 tyX12_ok nmX12 (ty := .int) zpd_I rfl rfl rfl zk_fl_12_277 hd kk
theorem zg_12_235 {p : Program} {l : Launch} {e : Env} {R : Room} {s : State} {m : MethodId} {args : Array Value} {below : List Frame} {meth : Method} {c : Code} {Q : State → Prop} {D : va_G} {B : Nat} {cA : Nat → ClassId} {ad : Nat → Nat} {cc : ByteArray} {nL : Nat} {ret : Option FieldType} {S : List zC} {I : zI} {lv : List (Nat × Value)} {st : List Value} {pc : Nat} (C : zCx p s m args meth c cc nL RX12 ret D B cA ad) (hS : zOkM S) (hd : decode cc pc = .ok (.getfield 235, 3)) (kk : zX p l e R s m args below meth c Q D B cA nL 0 0 S I lv (.int (I.1 491 15) :: st) (pc + 3)) : zX p l e R s m args below meth c Q D B cA nL 0 0 S I lv (.ref (B + 491) :: st) pc :=
  zr_geti C (ci := 12) (Cn := RX12) (T := TX12) (N := 82) (k := 491) (j := 15) (fs := [none, some (some 492), some (some 493), none, some (some 494), none, some (some 495), none, none, none, some (some 496), some (some 497), some (some 498), some (some 499), some (some 500), none, some (some 501), some (some 502), some (some 503), none, some (some 504), some (some 505), some (some 506), some (some 507), some (some 508), none, some (some 509), some (some 510), some (some 511), some (some 512), some (some 513), some (some 514), some (some 515), some (some 516), some (some 517), some (some 518), none, none, some (some 519), none, some (some 520), none, none, none, some (some 521), some (some 522), some (some 523), some (some 524), some (some 525), some (some 526), some (some 527), none, some (some 528), none, some (some 529), none, some (some 530), some (some 531), some (some 532), none, some (some 533), some (some 534), some (some 535), some (some 536), some (some 537), none, none, none, some (some 538), some (some 539), some (some 540), none, none, none, some (some 541), none, none, some (some 542), some (some 543), some (some 544), none, some (some 545)]) rfl zin_12 (Nat.le_of_ble_eq_true rfl) rfl (hS _ _ zs_491) rfl zk_fl_12_235 hd kk
theorem zg_12_277 {p : Program} {l : Launch} {e : Env} {R : Room} {s : State} {m : MethodId} {args : Array Value} {below : List Frame} {meth : Method} {c : Code} {Q : State → Prop} {D : va_G} {B : Nat} {cA : Nat → ClassId} {ad : Nat → Nat} {cc : ByteArray} {nL : Nat} {ret : Option FieldType} {S : List zC} {I : zI} {lv : List (Nat × Value)} {st : List Value} {pc : Nat} (C : zCx p s m args meth c cc nL RX12 ret D B cA ad) (hS : zOkM S) (hd : decode cc pc = .ok (.getfield 277, 3)) (kk : zX p l e R s m args below meth c Q D B cA nL 0 0 S I lv (.int (I.1 491 41) :: st) (pc + 3)) : zX p l e R s m args below meth c Q D B cA nL 0 0 S I lv (.ref (B + 491) :: st) pc :=
  zr_geti C (ci := 12) (Cn := RX12) (T := TX12) (N := 82) (k := 491) (j := 41) (fs := [none, some (some 492), some (some 493), none, some (some 494), none, some (some 495), none, none, none, some (some 496), some (some 497), some (some 498), some (some 499), some (some 500), none, some (some 501), some (some 502), some (some 503), none, some (some 504), some (some 505), some (some 506), some (some 507), some (some 508), none, some (some 509), some (some 510), some (some 511), some (some 512), some (some 513), some (some 514), some (some 515), some (some 516), some (some 517), some (some 518), none, none, some (some 519), none, some (some 520), none, none, none, some (some 521), some (some 522), some (some 523), some (some 524), some (some 525), some (some 526), some (some 527), none, some (some 528), none, some (some 529), none, some (some 530), some (some 531), some (some 532), none, some (some 533), some (some 534), some (some 535), some (some 536), some (some 537), none, none, none, some (some 538), some (some 539), some (some 540), none, none, none, some (some 541), none, none, some (some 542), some (some 543), some (some 544), none, some (some 545)]) rfl zin_12 (Nat.le_of_ble_eq_true rfl) rfl (hS _ _ zs_491) rfl zk_fl_12_277 hd kk
def w_M_laysTry (a1 : Int32) (a2 : Int32) (a3 : Int32) (a4 : Int32) (I : zI) (K : zI → Prop) : Prop :=
  ∀ I_1, I_1 = (zu I 491 41 0) → ∀ (P8 : Int32 → zI → Prop), (∀ (v5_2 : Int32) (I_3 : zI), ((if (I_3.1 491 15) ≤ v5_2 then K I_3 else (∀ (P44 : zI → Prop), (∀ (I_4 : zI), (∀ (P87 : zI → Prop), (∀ (I_5 : zI), (∀ v5_6, v5_6 = (v5_2 + 1) → P8 v5_6 I_5) → P87 I_5) → ∀ (P61 : Prop), ((vp_in v5_2 110 ∧ (vp_in (I_4.1 491 41) 120 ∧ (∀ I_7, I_7 = (zu I_4 520 (Int32.toNatClampNeg (I_4.1 491 41)) (I_4.1 501 (Int32.toNatClampNeg v5_2))) → ∀ I_8, I_8 = (zu I_7 491 41 ((I_7.1 491 41) + 1)) → P87 I_8))) → P61) → (if v5_2 < a1 then P61 else (if (a1 + a2) ≤ v5_2 then P61 else P87 I_4))) → P44 I_4) → (if v5_2 = a3 then (vp_in (I_3.1 491 41) 120 ∧ (∀ I_11, I_11 = (zu I_3 520 (Int32.toNatClampNeg (I_3.1 491 41)) a4) → ∀ I_12, I_12 = (zu I_11 491 41 ((I_11.1 491 41) + 1)) → P44 I_12)) else P44 I_3)))) → P8 v5_2 I_3) → P8 0 I_1
theorem dyX12_laysTry_0 : decode cX12_laysTry 0 = .ok (.aload_n 0, 1) := by decide +kernel
theorem dyX12_laysTry_1 : decode cX12_laysTry 1 = .ok (.iconst 0, 1) := by decide +kernel
theorem dyX12_laysTry_2 : decode cX12_laysTry 2 = .ok (.putfield 277, 3) := by decide +kernel
theorem dyX12_laysTry_5 : decode cX12_laysTry 5 = .ok (.iconst 0, 1) := by decide +kernel
theorem dyX12_laysTry_6 : decode cX12_laysTry 6 = .ok (.istore 5, 2) := by decide +kernel
theorem dyX12_laysTry_8 : decode cX12_laysTry 8 = .ok (.iload 5, 2) := by decide +kernel
theorem dyX12_laysTry_10 : decode cX12_laysTry 10 = .ok (.aload_n 0, 1) := by decide +kernel
theorem dyX12_laysTry_11 : decode cX12_laysTry 11 = .ok (.getfield 235, 3) := by decide +kernel
theorem dyX12_laysTry_14 : decode cX12_laysTry 14 = .ok (.if_icmp .ge 79, 3) := by decide +kernel
theorem dyX12_laysTry_17 : decode cX12_laysTry 17 = .ok (.iload 5, 2) := by decide +kernel
theorem dyX12_laysTry_19 : decode cX12_laysTry 19 = .ok (.iload_n 3, 1) := by decide +kernel
theorem dyX12_laysTry_20 : decode cX12_laysTry 20 = .ok (.if_icmp .ne 24, 3) := by decide +kernel
theorem dyX12_laysTry_23 : decode cX12_laysTry 23 = .ok (.aload_n 0, 1) := by decide +kernel
theorem dyX12_laysTry_24 : decode cX12_laysTry 24 = .ok (.getfield 96, 3) := by decide +kernel
theorem dyX12_laysTry_27 : decode cX12_laysTry 27 = .ok (.aload_n 0, 1) := by decide +kernel
theorem dyX12_laysTry_28 : decode cX12_laysTry 28 = .ok (.getfield 277, 3) := by decide +kernel
theorem dyX12_laysTry_31 : decode cX12_laysTry 31 = .ok (.iload 4, 2) := by decide +kernel
theorem dyX12_laysTry_33 : decode cX12_laysTry 33 = .ok (.iastore, 1) := by decide +kernel
theorem dyX12_laysTry_34 : decode cX12_laysTry 34 = .ok (.aload_n 0, 1) := by decide +kernel
theorem dyX12_laysTry_35 : decode cX12_laysTry 35 = .ok (.dup, 1) := by decide +kernel
theorem dyX12_laysTry_36 : decode cX12_laysTry 36 = .ok (.getfield 277, 3) := by decide +kernel
theorem dyX12_laysTry_39 : decode cX12_laysTry 39 = .ok (.iconst 1, 1) := by decide +kernel
theorem dyX12_laysTry_40 : decode cX12_laysTry 40 = .ok (.iadd, 1) := by decide +kernel
theorem dyX12_laysTry_41 : decode cX12_laysTry 41 = .ok (.putfield 277, 3) := by decide +kernel
theorem dyX12_laysTry_44 : decode cX12_laysTry 44 = .ok (.iload 5, 2) := by decide +kernel
theorem dyX12_laysTry_46 : decode cX12_laysTry 46 = .ok (.iload_n 1, 1) := by decide +kernel
theorem dyX12_laysTry_47 : decode cX12_laysTry 47 = .ok (.if_icmp .lt 14, 3) := by decide +kernel
theorem dyX12_laysTry_50 : decode cX12_laysTry 50 = .ok (.iload 5, 2) := by decide +kernel
theorem dyX12_laysTry_52 : decode cX12_laysTry 52 = .ok (.iload_n 1, 1) := by decide +kernel
theorem dyX12_laysTry_53 : decode cX12_laysTry 53 = .ok (.iload_n 2, 1) := by decide +kernel
theorem dyX12_laysTry_54 : decode cX12_laysTry 54 = .ok (.iadd, 1) := by decide +kernel
theorem dyX12_laysTry_55 : decode cX12_laysTry 55 = .ok (.if_icmp .ge 6, 3) := by decide +kernel
theorem dyX12_laysTry_58 : decode cX12_laysTry 58 = .ok (.goto 29, 3) := by decide +kernel
theorem dyX12_laysTry_61 : decode cX12_laysTry 61 = .ok (.aload_n 0, 1) := by decide +kernel
theorem dyX12_laysTry_62 : decode cX12_laysTry 62 = .ok (.getfield 96, 3) := by decide +kernel
theorem dyX12_laysTry_65 : decode cX12_laysTry 65 = .ok (.aload_n 0, 1) := by decide +kernel
theorem dyX12_laysTry_66 : decode cX12_laysTry 66 = .ok (.getfield 277, 3) := by decide +kernel
theorem dyX12_laysTry_69 : decode cX12_laysTry 69 = .ok (.aload_n 0, 1) := by decide +kernel
theorem dyX12_laysTry_70 : decode cX12_laysTry 70 = .ok (.getfield 38, 3) := by decide +kernel
theorem dyX12_laysTry_73 : decode cX12_laysTry 73 = .ok (.iload 5, 2) := by decide +kernel
theorem dyX12_laysTry_75 : decode cX12_laysTry 75 = .ok (.iaload, 1) := by decide +kernel
theorem dyX12_laysTry_76 : decode cX12_laysTry 76 = .ok (.iastore, 1) := by decide +kernel
theorem dyX12_laysTry_77 : decode cX12_laysTry 77 = .ok (.aload_n 0, 1) := by decide +kernel
theorem dyX12_laysTry_78 : decode cX12_laysTry 78 = .ok (.dup, 1) := by decide +kernel
theorem dyX12_laysTry_79 : decode cX12_laysTry 79 = .ok (.getfield 277, 3) := by decide +kernel
theorem dyX12_laysTry_82 : decode cX12_laysTry 82 = .ok (.iconst 1, 1) := by decide +kernel
theorem dyX12_laysTry_83 : decode cX12_laysTry 83 = .ok (.iadd, 1) := by decide +kernel
theorem dyX12_laysTry_84 : decode cX12_laysTry 84 = .ok (.putfield 277, 3) := by decide +kernel
theorem dyX12_laysTry_87 : decode cX12_laysTry 87 = .ok (.iinc 5 1, 3) := by decide +kernel
theorem dyX12_laysTry_90 : decode cX12_laysTry 90 = .ok (.goto (-82), 3) := by decide +kernel
theorem dyX12_laysTry_93 : decode cX12_laysTry 93 = .ok (.return_, 1) := by decide +kernel
theorem zsg_yX12_laysTry : yX12_laysTry.cls = RX12 ∧ yX12_laysTry.cls ≠ "java/lang/invoke/MethodHandle" ∧ yX12_laysTry.cls ≠ "java/lang/invoke/VarHandle" ∧ (parseMethodDescriptor yX12_laysTry.desc).map (fun d => d.parameters.length) = some 4 := by decide +kernel
set_option maxRecDepth 20000 in
theorem c_M_laysTry {l : Launch} {D : va_G} {B : Nat} {cA : Nat → ClassId} {ad : Nat → Nat} {S : List zC} (hS : zOkM S) {a1 : Int32} {a2 : Int32} {a3 : Int32} {a4 : Int32} {I : zI} {K : zI → Prop}  (h : w_M_laysTry a1 a2 a3 a4 I K) : Met l yX12_laysTry (zws yX12_laysTry cX12_laysTry 6 none) (zrm 0 0) (zPc D B cA ad [.ref (B + 491), .int a1, .int a2, .int a3, .int a4] S I) (zQc D B cA (zqV S K)) 0 0 (fun q => B ≤ q) := by
  refine zm_of (cc := cX12_laysTry) (maxL := 6) (ret := none) (by decide +kernel) rfl (Nat.le_of_ble_eq_true rfl) trivial ?_
  intro p e s m args below meth c C _
  unfold w_M_laysTry at h
  show zX p l e (zrm 0 0) s m args below meth c (MQ below (zQc D B cA (zqV S K)) args s 0 0 (fun q => B ≤ q)) D B cA 6 0 0 S I [(0, .ref (B + 491)), (1, .int a1), (2, .int a2), (3, .int a3), (4, .int a4)] [] 0
  refine zr_aload_n C dyX12_laysTry_0 rfl 0 rfl ?_
  refine zr_iconst C dyX12_laysTry_1 zc_i_0 ?_
  refine zp_12_277 C hS dyX12_laysTry_2 ?_
  refine zn_mem C (fun I_1 eI_1 => ?_)
  replace h := h I_1 eI_1
  refine zr_iconst C dyX12_laysTry_5 zc_i_0 ?_
  refine zr_istore C dyX12_laysTry_6 (Nat.le_of_ble_eq_true rfl) (lv2 := [(5, .int 0), (0, .ref (B + 491)), (1, .int a1), (2, .int a2), (3, .int a3), (4, .int a4)]) rfl ?_
  refine zjn (h (fun (v5_2 : Int32) (I_3 : zI) => zX p l e (zrm 0 0) s m args below meth c (MQ below (zQc D B cA (zqV S K)) args s 0 0 (fun q => B ≤ q)) D B cA 6 0 0 S I_3 [(5, .int v5_2), (0, .ref (B + 491)), (1, .int a1), (2, .int a2), (3, .int a3), (4, .int a4)] [] 8) (fun v5_2 I_3 h => ?_)) (fun h => ?_)
  · refine zr_iload C dyX12_laysTry_8 0 rfl ?_
    refine zr_aload_n C dyX12_laysTry_10 rfl 1 rfl ?_
    refine zg_12_235 C hS dyX12_laysTry_11 ?_
    refine zr_icmp_ge C dyX12_laysTry_14 (tgt := 93) (by decide) (fun hc_14 => ?_) (fun hc_14 => ?_)
    · replace h := zif_pos hc_14 h
      exact zr_vret C rfl dyX12_laysTry_93 ⟨rfl, rfl, h⟩
    · replace h := zif_neg hc_14 h
      refine zr_iload C dyX12_laysTry_17 0 rfl ?_
      refine zr_iload_n C dyX12_laysTry_19 rfl 4 rfl ?_
      refine zjn (h (fun (I_4 : zI) => zX p l e (zrm 0 0) s m args below meth c (MQ below (zQc D B cA (zqV S K)) args s 0 0 (fun q => B ≤ q)) D B cA 6 0 0 S I_4 [(5, .int v5_2), (0, .ref (B + 491)), (1, .int a1), (2, .int a2), (3, .int a3), (4, .int a4)] [] 44) (fun I_4 h => ?_)) (fun h => ?_)
      · refine zr_iload C dyX12_laysTry_44 0 rfl ?_
        refine zr_iload_n C dyX12_laysTry_46 rfl 2 rfl ?_
        refine zjn (h (fun (I_5 : zI) => zX p l e (zrm 0 0) s m args below meth c (MQ below (zQc D B cA (zqV S K)) args s 0 0 (fun q => B ≤ q)) D B cA 6 0 0 S I_5 [(5, .int v5_2), (0, .ref (B + 491)), (1, .int a1), (2, .int a2), (3, .int a3), (4, .int a4)] [] 87) (fun I_5 h => ?_)) (fun h => ?_)
        · refine zn_iinc C (fun v5_6 => [(5, .int v5_6), (0, .ref (B + 491)), (1, .int a1), (2, .int a2), (3, .int a3), (4, .int a4)]) dyX12_laysTry_87 0 rfl zc_i_1 (Nat.le_of_ble_eq_true rfl) (fun _ => rfl) (fun v5_6 ev5_6 => ?_)
          replace h := h v5_6 ev5_6
          refine zr_goto C dyX12_laysTry_90 (tgt := 8) (by decide) ?_
          exact h
        refine zjn (h (zX p l e (zrm 0 0) s m args below meth c (MQ below (zQc D B cA (zqV S K)) args s 0 0 (fun q => B ≤ q)) D B cA 6 0 0 S I_4 [(5, .int v5_2), (0, .ref (B + 491)), (1, .int a1), (2, .int a2), (3, .int a3), (4, .int a4)] [] 61) (fun  h => ?_)) (fun h => ?_)
        · refine zr_aload_n C dyX12_laysTry_61 rfl 1 rfl ?_
          refine zg_12_96 C hS dyX12_laysTry_62 ?_
          refine zr_aload_n C dyX12_laysTry_65 rfl 1 rfl ?_
          refine zg_12_277 C hS dyX12_laysTry_66 ?_
          refine zr_aload_n C dyX12_laysTry_69 rfl 1 rfl ?_
          refine zg_12_38 C hS dyX12_laysTry_70 ?_
          refine zr_iload C dyX12_laysTry_73 0 rfl ?_
          refine zr_iald C (hS _ _ zs_501) h.1 dyX12_laysTry_75 ?_
          replace h := h.2
          refine zr_iast C (hS _ _ zs_520) h.1 dyX12_laysTry_76 ?_
          replace h := h.2
          refine zn_mem C (fun I_7 eI_7 => ?_)
          replace h := h I_7 eI_7
          refine zr_aload_n C dyX12_laysTry_77 rfl 1 rfl ?_
          refine zr_dup C dyX12_laysTry_78 rfl ?_
          refine zg_12_277 C hS dyX12_laysTry_79 ?_
          refine zr_iconst C dyX12_laysTry_82 zc_i_1 ?_
          refine zr_iadd C dyX12_laysTry_83 ?_
          refine zp_12_277 C hS dyX12_laysTry_84 ?_
          refine zn_mem C (fun I_8 eI_8 => ?_)
          replace h := h I_8 eI_8
          exact h
        refine zr_icmp_lt C dyX12_laysTry_47 (tgt := 61) (by decide) (fun hc_10 => ?_) (fun hc_10 => ?_)
        · replace h := zif_pos hc_10 h
          exact h
        · replace h := zif_neg hc_10 h
          refine zr_iload C dyX12_laysTry_50 0 rfl ?_
          refine zr_iload_n C dyX12_laysTry_52 rfl 2 rfl ?_
          refine zr_iload_n C dyX12_laysTry_53 rfl 3 rfl ?_
          refine zr_iadd C dyX12_laysTry_54 ?_
          refine zr_icmp_ge C dyX12_laysTry_55 (tgt := 61) (by decide) (fun hc_9 => ?_) (fun hc_9 => ?_)
          · replace h := zif_pos hc_9 h
            exact h
          · replace h := zif_neg hc_9 h
            refine zr_goto C dyX12_laysTry_58 (tgt := 87) (by decide) ?_
            exact h
      refine zr_icmp_ne C dyX12_laysTry_20 (tgt := 44) (by decide) (fun hc_13 => ?_) (fun hc_13 => ?_)
      · replace h := zif_neg hc_13 h
        exact h
      · replace h := zif_pos hc_13 h
        refine zr_aload_n C dyX12_laysTry_23 rfl 1 rfl ?_
        refine zg_12_96 C hS dyX12_laysTry_24 ?_
        refine zr_aload_n C dyX12_laysTry_27 rfl 1 rfl ?_
        refine zg_12_277 C hS dyX12_laysTry_28 ?_
        refine zr_iload C dyX12_laysTry_31 5 rfl ?_
        refine zr_iast C (hS _ _ zs_520) h.1 dyX12_laysTry_33 ?_
        replace h := h.2
        refine zn_mem C (fun I_11 eI_11 => ?_)
        replace h := h I_11 eI_11
        refine zr_aload_n C dyX12_laysTry_34 rfl 1 rfl ?_
        refine zr_dup C dyX12_laysTry_35 rfl ?_
        refine zg_12_277 C hS dyX12_laysTry_36 ?_
        refine zr_iconst C dyX12_laysTry_39 zc_i_1 ?_
        refine zr_iadd C dyX12_laysTry_40 ?_
        refine zp_12_277 C hS dyX12_laysTry_41 ?_
        refine zn_mem C (fun I_12 eI_12 => ?_)
        replace h := h I_12 eI_12
        exact h
  exact h
theorem zp_12_290 {p : Program} {l : Launch} {e : Env} {R : Room} {s : State} {m : MethodId} {args : Array Value} {below : List Frame} {meth : Method} {c : Code} {Q : State → Prop} {D : va_G} {B : Nat} {cA : Nat → ClassId} {ad : Nat → Nat} {cc : ByteArray} {nL : Nat} {ret : Option FieldType} {S : List zC} {I : zI} {lv : List (Nat × Value)} {st : List Value} {pc : Nat} (C : zCx p s m args meth c cc nL RX12 ret D B cA ad) (hS : zOkM S) {v : Int32} (hd : decode cc pc = .ok (.putfield 290, 3)) (kk : zX p l e R s m args below meth c Q D B cA nL 0 0 S (zu I 491 51 v) lv st (pc + 3)) : zX p l e R s m args below meth c Q D B cA nL 0 0 S I lv (.int v :: .ref (B + 491) :: st) pc :=
  zr_puti C (ci := 12) (Cn := RX12) (T := TX12) (N := 82) (k := 491) (j := 51) (fs := [none, some (some 492), some (some 493), none, some (some 494), none, some (some 495), none, none, none, some (some 496), some (some 497), some (some 498), some (some 499), some (some 500), none, some (some 501), some (some 502), some (some 503), none, some (some 504), some (some 505), some (some 506), some (some 507), some (some 508), none, some (some 509), some (some 510), some (some 511), some (some 512), some (some 513), some (some 514), some (some 515), some (some 516), some (some 517), some (some 518), none, none, some (some 519), none, some (some 520), none, none, none, some (some 521), some (some 522), some (some 523), some (some 524), some (some 525), some (some 526), some (some 527), none, some (some 528), none, some (some 529), none, some (some 530), some (some 531), some (some 532), none, some (some 533), some (some 534), some (some 535), some (some 536), some (some 537), none, none, none, some (some 538), some (some 539), some (some 540), none, none, none, some (some 541), none, none, some (some 542), some (some 543), some (some 544), none, some (some 545)]) rfl zin_12 (Nat.le_of_ble_eq_true rfl) rfl (hS _ _ zs_491) rfl tyX12 tyX12_ok nmX12 (ty := .int) zpd_I rfl rfl rfl zk_fl_12_290 hd kk
theorem zp_12_293 {p : Program} {l : Launch} {e : Env} {R : Room} {s : State} {m : MethodId} {args : Array Value} {below : List Frame} {meth : Method} {c : Code} {Q : State → Prop} {D : va_G} {B : Nat} {cA : Nat → ClassId} {ad : Nat → Nat} {cc : ByteArray} {nL : Nat} {ret : Option FieldType} {S : List zC} {I : zI} {lv : List (Nat × Value)} {st : List Value} {pc : Nat} (C : zCx p s m args meth c cc nL RX12 ret D B cA ad) (hS : zOkM S) {v : Int32} (hd : decode cc pc = .ok (.putfield 293, 3)) (kk : zX p l e R s m args below meth c Q D B cA nL 0 0 S (zu I 491 53 v) lv st (pc + 3)) : zX p l e R s m args below meth c Q D B cA nL 0 0 S I lv (.int v :: .ref (B + 491) :: st) pc :=
  zr_puti C (ci := 12) (Cn := RX12) (T := TX12) (N := 82) (k := 491) (j := 53) (fs := [none, some (some 492), some (some 493), none, some (some 494), none, some (some 495), none, none, none, some (some 496), some (some 497), some (some 498), some (some 499), some (some 500), none, some (some 501), some (some 502), some (some 503), none, some (some 504), some (some 505), some (some 506), some (some 507), some (some 508), none, some (some 509), some (some 510), some (some 511), some (some 512), some (some 513), some (some 514), some (some 515), some (some 516), some (some 517), some (some 518), none, none, some (some 519), none, some (some 520), none, none, none, some (some 521), some (some 522), some (some 523), some (some 524), some (some 525), some (some 526), some (some 527), none, some (some 528), none, some (some 529), none, some (some 530), some (some 531), some (some 532), none, some (some 533), some (some 534), some (some 535), some (some 536), some (some 537), none, none, none, some (some 538), some (some 539), some (some 540), none, none, none, some (some 541), none, none, some (some 542), some (some 543), some (some 544), none, some (some 545)]) rfl zin_12 (Nat.le_of_ble_eq_true rfl) rfl (hS _ _ zs_491) rfl tyX12 tyX12_ok nmX12 (ty := .int) zpd_I rfl rfl rfl zk_fl_12_293 hd kk
theorem zg_12_280 {p : Program} {l : Launch} {e : Env} {R : Room} {s : State} {m : MethodId} {args : Array Value} {below : List Frame} {meth : Method} {c : Code} {Q : State → Prop} {D : va_G} {B : Nat} {cA : Nat → ClassId} {ad : Nat → Nat} {cc : ByteArray} {nL : Nat} {ret : Option FieldType} {S : List zC} {I : zI} {lv : List (Nat × Value)} {st : List Value} {pc : Nat} (C : zCx p s m args meth c cc nL RX12 ret D B cA ad) (hS : zOkM S) (hd : decode cc pc = .ok (.getfield 280, 3)) (kk : zX p l e R s m args below meth c Q D B cA nL 0 0 S I lv (.int (I.1 491 43) :: st) (pc + 3)) : zX p l e R s m args below meth c Q D B cA nL 0 0 S I lv (.ref (B + 491) :: st) pc :=
  zr_geti C (ci := 12) (Cn := RX12) (T := TX12) (N := 82) (k := 491) (j := 43) (fs := [none, some (some 492), some (some 493), none, some (some 494), none, some (some 495), none, none, none, some (some 496), some (some 497), some (some 498), some (some 499), some (some 500), none, some (some 501), some (some 502), some (some 503), none, some (some 504), some (some 505), some (some 506), some (some 507), some (some 508), none, some (some 509), some (some 510), some (some 511), some (some 512), some (some 513), some (some 514), some (some 515), some (some 516), some (some 517), some (some 518), none, none, some (some 519), none, some (some 520), none, none, none, some (some 521), some (some 522), some (some 523), some (some 524), some (some 525), some (some 526), some (some 527), none, some (some 528), none, some (some 529), none, some (some 530), some (some 531), some (some 532), none, some (some 533), some (some 534), some (some 535), some (some 536), some (some 537), none, none, none, some (some 538), some (some 539), some (some 540), none, none, none, some (some 541), none, none, some (some 542), some (some 543), some (some 544), none, some (some 545)]) rfl zin_12 (Nat.le_of_ble_eq_true rfl) rfl (hS _ _ zs_491) rfl zk_fl_12_280 hd kk
theorem zg_12_99 {p : Program} {l : Launch} {e : Env} {R : Room} {s : State} {m : MethodId} {args : Array Value} {below : List Frame} {meth : Method} {c : Code} {Q : State → Prop} {D : va_G} {B : Nat} {cA : Nat → ClassId} {ad : Nat → Nat} {cc : ByteArray} {nL : Nat} {ret : Option FieldType} {S : List zC} {I : zI} {lv : List (Nat × Value)} {st : List Value} {pc : Nat} (C : zCx p s m args meth c cc nL RX12 ret D B cA ad) (hS : zOkM S) (hd : decode cc pc = .ok (.getfield 99, 3)) (kk : zX p l e R s m args below meth c Q D B cA nL 0 0 S I lv (.ref (B + 521) :: st) (pc + 3)) : zX p l e R s m args below meth c Q D B cA nL 0 0 S I lv (.ref (B + 491) :: st) pc :=
  zr_getr C (ci := 12) (Cn := RX12) (T := TX12) (N := 82) (k := 491) (j := 44) (fs := [none, some (some 492), some (some 493), none, some (some 494), none, some (some 495), none, none, none, some (some 496), some (some 497), some (some 498), some (some 499), some (some 500), none, some (some 501), some (some 502), some (some 503), none, some (some 504), some (some 505), some (some 506), some (some 507), some (some 508), none, some (some 509), some (some 510), some (some 511), some (some 512), some (some 513), some (some 514), some (some 515), some (some 516), some (some 517), some (some 518), none, none, some (some 519), none, some (some 520), none, none, none, some (some 521), some (some 522), some (some 523), some (some 524), some (some 525), some (some 526), some (some 527), none, some (some 528), none, some (some 529), none, some (some 530), some (some 531), some (some 532), none, some (some 533), some (some 534), some (some 535), some (some 536), some (some 537), none, none, none, some (some 538), some (some 539), some (some 540), none, none, none, some (some 541), none, none, some (some 542), some (some 543), some (some 544), none, some (some 545)]) rfl zin_12 (Nat.le_of_ble_eq_true rfl) rfl (hS _ _ zs_491) rfl zk_fl_12_99 hd kk
theorem zg_12_120 {p : Program} {l : Launch} {e : Env} {R : Room} {s : State} {m : MethodId} {args : Array Value} {below : List Frame} {meth : Method} {c : Code} {Q : State → Prop} {D : va_G} {B : Nat} {cA : Nat → ClassId} {ad : Nat → Nat} {cc : ByteArray} {nL : Nat} {ret : Option FieldType} {S : List zC} {I : zI} {lv : List (Nat × Value)} {st : List Value} {pc : Nat} (C : zCx p s m args meth c cc nL RX12 ret D B cA ad) (hS : zOkM S) (hd : decode cc pc = .ok (.getfield 120, 3)) (kk : zX p l e R s m args below meth c Q D B cA nL 0 0 S I lv (.ref (B + 528) :: st) (pc + 3)) : zX p l e R s m args below meth c Q D B cA nL 0 0 S I lv (.ref (B + 491) :: st) pc :=
  zr_getr C (ci := 12) (Cn := RX12) (T := TX12) (N := 82) (k := 491) (j := 52) (fs := [none, some (some 492), some (some 493), none, some (some 494), none, some (some 495), none, none, none, some (some 496), some (some 497), some (some 498), some (some 499), some (some 500), none, some (some 501), some (some 502), some (some 503), none, some (some 504), some (some 505), some (some 506), some (some 507), some (some 508), none, some (some 509), some (some 510), some (some 511), some (some 512), some (some 513), some (some 514), some (some 515), some (some 516), some (some 517), some (some 518), none, none, some (some 519), none, some (some 520), none, none, none, some (some 521), some (some 522), some (some 523), some (some 524), some (some 525), some (some 526), some (some 527), none, some (some 528), none, some (some 529), none, some (some 530), some (some 531), some (some 532), none, some (some 533), some (some 534), some (some 535), some (some 536), some (some 537), none, none, none, some (some 538), some (some 539), some (some 540), none, none, none, some (some 541), none, none, some (some 542), some (some 543), some (some 544), none, some (some 545)]) rfl zin_12 (Nat.le_of_ble_eq_true rfl) rfl (hS _ _ zs_491) rfl zk_fl_12_120 hd kk
theorem zg_12_290 {p : Program} {l : Launch} {e : Env} {R : Room} {s : State} {m : MethodId} {args : Array Value} {below : List Frame} {meth : Method} {c : Code} {Q : State → Prop} {D : va_G} {B : Nat} {cA : Nat → ClassId} {ad : Nat → Nat} {cc : ByteArray} {nL : Nat} {ret : Option FieldType} {S : List zC} {I : zI} {lv : List (Nat × Value)} {st : List Value} {pc : Nat} (C : zCx p s m args meth c cc nL RX12 ret D B cA ad) (hS : zOkM S) (hd : decode cc pc = .ok (.getfield 290, 3)) (kk : zX p l e R s m args below meth c Q D B cA nL 0 0 S I lv (.int (I.1 491 51) :: st) (pc + 3)) : zX p l e R s m args below meth c Q D B cA nL 0 0 S I lv (.ref (B + 491) :: st) pc :=
  zr_geti C (ci := 12) (Cn := RX12) (T := TX12) (N := 82) (k := 491) (j := 51) (fs := [none, some (some 492), some (some 493), none, some (some 494), none, some (some 495), none, none, none, some (some 496), some (some 497), some (some 498), some (some 499), some (some 500), none, some (some 501), some (some 502), some (some 503), none, some (some 504), some (some 505), some (some 506), some (some 507), some (some 508), none, some (some 509), some (some 510), some (some 511), some (some 512), some (some 513), some (some 514), some (some 515), some (some 516), some (some 517), some (some 518), none, none, some (some 519), none, some (some 520), none, none, none, some (some 521), some (some 522), some (some 523), some (some 524), some (some 525), some (some 526), some (some 527), none, some (some 528), none, some (some 529), none, some (some 530), some (some 531), some (some 532), none, some (some 533), some (some 534), some (some 535), some (some 536), some (some 537), none, none, none, some (some 538), some (some 539), some (some 540), none, none, none, some (some 541), none, none, some (some 542), some (some 543), some (some 544), none, some (some 545)]) rfl zin_12 (Nat.le_of_ble_eq_true rfl) rfl (hS _ _ zs_491) rfl zk_fl_12_290 hd kk
theorem zg_12_102 {p : Program} {l : Launch} {e : Env} {R : Room} {s : State} {m : MethodId} {args : Array Value} {below : List Frame} {meth : Method} {c : Code} {Q : State → Prop} {D : va_G} {B : Nat} {cA : Nat → ClassId} {ad : Nat → Nat} {cc : ByteArray} {nL : Nat} {ret : Option FieldType} {S : List zC} {I : zI} {lv : List (Nat × Value)} {st : List Value} {pc : Nat} (C : zCx p s m args meth c cc nL RX12 ret D B cA ad) (hS : zOkM S) (hd : decode cc pc = .ok (.getfield 102, 3)) (kk : zX p l e R s m args below meth c Q D B cA nL 0 0 S I lv (.ref (B + 522) :: st) (pc + 3)) : zX p l e R s m args below meth c Q D B cA nL 0 0 S I lv (.ref (B + 491) :: st) pc :=
  zr_getr C (ci := 12) (Cn := RX12) (T := TX12) (N := 82) (k := 491) (j := 45) (fs := [none, some (some 492), some (some 493), none, some (some 494), none, some (some 495), none, none, none, some (some 496), some (some 497), some (some 498), some (some 499), some (some 500), none, some (some 501), some (some 502), some (some 503), none, some (some 504), some (some 505), some (some 506), some (some 507), some (some 508), none, some (some 509), some (some 510), some (some 511), some (some 512), some (some 513), some (some 514), some (some 515), some (some 516), some (some 517), some (some 518), none, none, some (some 519), none, some (some 520), none, none, none, some (some 521), some (some 522), some (some 523), some (some 524), some (some 525), some (some 526), some (some 527), none, some (some 528), none, some (some 529), none, some (some 530), some (some 531), some (some 532), none, some (some 533), some (some 534), some (some 535), some (some 536), some (some 537), none, none, none, some (some 538), some (some 539), some (some 540), none, none, none, some (some 541), none, none, some (some 542), some (some 543), some (some 544), none, some (some 545)]) rfl zin_12 (Nat.le_of_ble_eq_true rfl) rfl (hS _ _ zs_491) rfl zk_fl_12_102 hd kk
theorem zg_12_123 {p : Program} {l : Launch} {e : Env} {R : Room} {s : State} {m : MethodId} {args : Array Value} {below : List Frame} {meth : Method} {c : Code} {Q : State → Prop} {D : va_G} {B : Nat} {cA : Nat → ClassId} {ad : Nat → Nat} {cc : ByteArray} {nL : Nat} {ret : Option FieldType} {S : List zC} {I : zI} {lv : List (Nat × Value)} {st : List Value} {pc : Nat} (C : zCx p s m args meth c cc nL RX12 ret D B cA ad) (hS : zOkM S) (hd : decode cc pc = .ok (.getfield 123, 3)) (kk : zX p l e R s m args below meth c Q D B cA nL 0 0 S I lv (.ref (B + 529) :: st) (pc + 3)) : zX p l e R s m args below meth c Q D B cA nL 0 0 S I lv (.ref (B + 491) :: st) pc :=
  zr_getr C (ci := 12) (Cn := RX12) (T := TX12) (N := 82) (k := 491) (j := 54) (fs := [none, some (some 492), some (some 493), none, some (some 494), none, some (some 495), none, none, none, some (some 496), some (some 497), some (some 498), some (some 499), some (some 500), none, some (some 501), some (some 502), some (some 503), none, some (some 504), some (some 505), some (some 506), some (some 507), some (some 508), none, some (some 509), some (some 510), some (some 511), some (some 512), some (some 513), some (some 514), some (some 515), some (some 516), some (some 517), some (some 518), none, none, some (some 519), none, some (some 520), none, none, none, some (some 521), some (some 522), some (some 523), some (some 524), some (some 525), some (some 526), some (some 527), none, some (some 528), none, some (some 529), none, some (some 530), some (some 531), some (some 532), none, some (some 533), some (some 534), some (some 535), some (some 536), some (some 537), none, none, none, some (some 538), some (some 539), some (some 540), none, none, none, some (some 541), none, none, some (some 542), some (some 543), some (some 544), none, some (some 545)]) rfl zin_12 (Nat.le_of_ble_eq_true rfl) rfl (hS _ _ zs_491) rfl zk_fl_12_123 hd kk
theorem zg_12_293 {p : Program} {l : Launch} {e : Env} {R : Room} {s : State} {m : MethodId} {args : Array Value} {below : List Frame} {meth : Method} {c : Code} {Q : State → Prop} {D : va_G} {B : Nat} {cA : Nat → ClassId} {ad : Nat → Nat} {cc : ByteArray} {nL : Nat} {ret : Option FieldType} {S : List zC} {I : zI} {lv : List (Nat × Value)} {st : List Value} {pc : Nat} (C : zCx p s m args meth c cc nL RX12 ret D B cA ad) (hS : zOkM S) (hd : decode cc pc = .ok (.getfield 293, 3)) (kk : zX p l e R s m args below meth c Q D B cA nL 0 0 S I lv (.int (I.1 491 53) :: st) (pc + 3)) : zX p l e R s m args below meth c Q D B cA nL 0 0 S I lv (.ref (B + 491) :: st) pc :=
  zr_geti C (ci := 12) (Cn := RX12) (T := TX12) (N := 82) (k := 491) (j := 53) (fs := [none, some (some 492), some (some 493), none, some (some 494), none, some (some 495), none, none, none, some (some 496), some (some 497), some (some 498), some (some 499), some (some 500), none, some (some 501), some (some 502), some (some 503), none, some (some 504), some (some 505), some (some 506), some (some 507), some (some 508), none, some (some 509), some (some 510), some (some 511), some (some 512), some (some 513), some (some 514), some (some 515), some (some 516), some (some 517), some (some 518), none, none, some (some 519), none, some (some 520), none, none, none, some (some 521), some (some 522), some (some 523), some (some 524), some (some 525), some (some 526), some (some 527), none, some (some 528), none, some (some 529), none, some (some 530), some (some 531), some (some 532), none, some (some 533), some (some 534), some (some 535), some (some 536), some (some 537), none, none, none, some (some 538), some (some 539), some (some 540), none, none, none, some (some 541), none, none, some (some 542), some (some 543), some (some 544), none, some (some 545)]) rfl zin_12 (Nat.le_of_ble_eq_true rfl) rfl (hS _ _ zs_491) rfl zk_fl_12_293 hd kk
def w_M_fillsRuns  (I : zI) (K : zI → Prop) : Prop :=
  ∀ I_1, I_1 = (zu I 491 51 0) → ∀ I_2, I_2 = (zu I_1 491 53 0) → ∀ (P14 : Int32 → Int32 → zI → Prop), (∀ (v1_3 : Int32) (v2_4 : Int32) (I_5 : zI), ((if (I_5.1 491 43) ≤ v2_4 then K I_5 else (vp_in v2_4 700 ∧ (∀ v3_6, v3_6 = (I_5.1 521 (Int32.toNatClampNeg v2_4)) → vp_in v3_6 3700 ∧ (∀ (P59 : zI → Prop), (∀ (I_7 : zI), (∀ (P114 : Int32 → zI → Prop), (∀ (v1_8 : Int32) (I_9 : zI), (∀ v2_10, v2_10 = (v2_4 + 1) → P14 v1_8 v2_10 I_9) → P114 v1_8 I_9) → (if v2_4 < v1_3 then P114 v1_3 I_7 else (vp_in v3_6 3700 ∧ (∀ (P87 : Prop), ((vp_in (I_7.1 491 51) 110 ∧ (∀ I_11, I_11 = (zu I_7 528 (Int32.toNatClampNeg (I_7.1 491 51)) v3_6) → ∀ I_12, I_12 = (zu I_11 491 51 ((I_11.1 491 51) + 1)) → vp_in v2_4 700 ∧ (∀ v1_13, v1_13 = (I_12.1 522 (Int32.toNatClampNeg v2_4)) → P114 v1_13 I_12))) → P87) → (if (I_7.1 509 (Int32.toNatClampNeg v3_6)) = 2 then P87 else (vp_in v3_6 3700 ∧ (if (I_7.1 509 (Int32.toNatClampNeg v3_6)) = 3 then P87 else P114 v1_3 I_7))))))) → P59 I_7) → (if (I_5.1 509 (Int32.toNatClampNeg v3_6)) = 2 then (vp_in (I_5.1 491 53) 110 ∧ (∀ I_17, I_17 = (zu I_5 529 (Int32.toNatClampNeg (I_5.1 491 53)) v3_6) → ∀ I_18, I_18 = (zu I_17 491 53 ((I_17.1 491 53) + 1)) → P59 I_18)) else P59 I_5)))))) → P14 v1_3 v2_4 I_5) → P14 0 0 I_2
theorem dyX12_fillsRuns_0 : decode cX12_fillsRuns 0 = .ok (.aload_n 0, 1) := by decide +kernel
theorem dyX12_fillsRuns_1 : decode cX12_fillsRuns 1 = .ok (.iconst 0, 1) := by decide +kernel
theorem dyX12_fillsRuns_2 : decode cX12_fillsRuns 2 = .ok (.putfield 290, 3) := by decide +kernel
theorem dyX12_fillsRuns_5 : decode cX12_fillsRuns 5 = .ok (.aload_n 0, 1) := by decide +kernel
theorem dyX12_fillsRuns_6 : decode cX12_fillsRuns 6 = .ok (.iconst 0, 1) := by decide +kernel
theorem dyX12_fillsRuns_7 : decode cX12_fillsRuns 7 = .ok (.putfield 293, 3) := by decide +kernel
theorem dyX12_fillsRuns_10 : decode cX12_fillsRuns 10 = .ok (.iconst 0, 1) := by decide +kernel
theorem dyX12_fillsRuns_11 : decode cX12_fillsRuns 11 = .ok (.istore_n 1, 1) := by decide +kernel
theorem dyX12_fillsRuns_12 : decode cX12_fillsRuns 12 = .ok (.iconst 0, 1) := by decide +kernel
theorem dyX12_fillsRuns_13 : decode cX12_fillsRuns 13 = .ok (.istore_n 2, 1) := by decide +kernel
theorem dyX12_fillsRuns_14 : decode cX12_fillsRuns 14 = .ok (.iload_n 2, 1) := by decide +kernel
theorem dyX12_fillsRuns_15 : decode cX12_fillsRuns 15 = .ok (.aload_n 0, 1) := by decide +kernel
theorem dyX12_fillsRuns_16 : decode cX12_fillsRuns 16 = .ok (.getfield 280, 3) := by decide +kernel
theorem dyX12_fillsRuns_19 : decode cX12_fillsRuns 19 = .ok (.if_icmp .ge 101, 3) := by decide +kernel
theorem dyX12_fillsRuns_22 : decode cX12_fillsRuns 22 = .ok (.aload_n 0, 1) := by decide +kernel
theorem dyX12_fillsRuns_23 : decode cX12_fillsRuns 23 = .ok (.getfield 99, 3) := by decide +kernel
theorem dyX12_fillsRuns_26 : decode cX12_fillsRuns 26 = .ok (.iload_n 2, 1) := by decide +kernel
theorem dyX12_fillsRuns_27 : decode cX12_fillsRuns 27 = .ok (.iaload, 1) := by decide +kernel
theorem dyX12_fillsRuns_28 : decode cX12_fillsRuns 28 = .ok (.istore_n 3, 1) := by decide +kernel
theorem dyX12_fillsRuns_29 : decode cX12_fillsRuns 29 = .ok (.aload_n 0, 1) := by decide +kernel
theorem dyX12_fillsRuns_30 : decode cX12_fillsRuns 30 = .ok (.getfield 62, 3) := by decide +kernel
theorem dyX12_fillsRuns_33 : decode cX12_fillsRuns 33 = .ok (.iload_n 3, 1) := by decide +kernel
theorem dyX12_fillsRuns_34 : decode cX12_fillsRuns 34 = .ok (.iaload, 1) := by decide +kernel
theorem dyX12_fillsRuns_35 : decode cX12_fillsRuns 35 = .ok (.iconst 2, 1) := by decide +kernel
theorem dyX12_fillsRuns_36 : decode cX12_fillsRuns 36 = .ok (.if_icmp .ne 23, 3) := by decide +kernel
theorem dyX12_fillsRuns_39 : decode cX12_fillsRuns 39 = .ok (.aload_n 0, 1) := by decide +kernel
theorem dyX12_fillsRuns_40 : decode cX12_fillsRuns 40 = .ok (.getfield 123, 3) := by decide +kernel
theorem dyX12_fillsRuns_43 : decode cX12_fillsRuns 43 = .ok (.aload_n 0, 1) := by decide +kernel
theorem dyX12_fillsRuns_44 : decode cX12_fillsRuns 44 = .ok (.getfield 293, 3) := by decide +kernel
theorem dyX12_fillsRuns_47 : decode cX12_fillsRuns 47 = .ok (.iload_n 3, 1) := by decide +kernel
theorem dyX12_fillsRuns_48 : decode cX12_fillsRuns 48 = .ok (.iastore, 1) := by decide +kernel
theorem dyX12_fillsRuns_49 : decode cX12_fillsRuns 49 = .ok (.aload_n 0, 1) := by decide +kernel
theorem dyX12_fillsRuns_50 : decode cX12_fillsRuns 50 = .ok (.dup, 1) := by decide +kernel
theorem dyX12_fillsRuns_51 : decode cX12_fillsRuns 51 = .ok (.getfield 293, 3) := by decide +kernel
theorem dyX12_fillsRuns_54 : decode cX12_fillsRuns 54 = .ok (.iconst 1, 1) := by decide +kernel
theorem dyX12_fillsRuns_55 : decode cX12_fillsRuns 55 = .ok (.iadd, 1) := by decide +kernel
theorem dyX12_fillsRuns_56 : decode cX12_fillsRuns 56 = .ok (.putfield 293, 3) := by decide +kernel
theorem dyX12_fillsRuns_59 : decode cX12_fillsRuns 59 = .ok (.iload_n 2, 1) := by decide +kernel
theorem dyX12_fillsRuns_60 : decode cX12_fillsRuns 60 = .ok (.iload_n 1, 1) := by decide +kernel
theorem dyX12_fillsRuns_61 : decode cX12_fillsRuns 61 = .ok (.if_icmp .lt 53, 3) := by decide +kernel
theorem dyX12_fillsRuns_64 : decode cX12_fillsRuns 64 = .ok (.aload_n 0, 1) := by decide +kernel
theorem dyX12_fillsRuns_65 : decode cX12_fillsRuns 65 = .ok (.getfield 62, 3) := by decide +kernel
theorem dyX12_fillsRuns_68 : decode cX12_fillsRuns 68 = .ok (.iload_n 3, 1) := by decide +kernel
theorem dyX12_fillsRuns_69 : decode cX12_fillsRuns 69 = .ok (.iaload, 1) := by decide +kernel
theorem dyX12_fillsRuns_70 : decode cX12_fillsRuns 70 = .ok (.iconst 2, 1) := by decide +kernel
theorem dyX12_fillsRuns_71 : decode cX12_fillsRuns 71 = .ok (.if_icmp .eq 16, 3) := by decide +kernel
theorem dyX12_fillsRuns_74 : decode cX12_fillsRuns 74 = .ok (.aload_n 0, 1) := by decide +kernel
theorem dyX12_fillsRuns_75 : decode cX12_fillsRuns 75 = .ok (.getfield 62, 3) := by decide +kernel
theorem dyX12_fillsRuns_78 : decode cX12_fillsRuns 78 = .ok (.iload_n 3, 1) := by decide +kernel
theorem dyX12_fillsRuns_79 : decode cX12_fillsRuns 79 = .ok (.iaload, 1) := by decide +kernel
theorem dyX12_fillsRuns_80 : decode cX12_fillsRuns 80 = .ok (.iconst 3, 1) := by decide +kernel
theorem dyX12_fillsRuns_81 : decode cX12_fillsRuns 81 = .ok (.if_icmp .eq 6, 3) := by decide +kernel
theorem dyX12_fillsRuns_84 : decode cX12_fillsRuns 84 = .ok (.goto 30, 3) := by decide +kernel
theorem dyX12_fillsRuns_87 : decode cX12_fillsRuns 87 = .ok (.aload_n 0, 1) := by decide +kernel
theorem dyX12_fillsRuns_88 : decode cX12_fillsRuns 88 = .ok (.getfield 120, 3) := by decide +kernel
theorem dyX12_fillsRuns_91 : decode cX12_fillsRuns 91 = .ok (.aload_n 0, 1) := by decide +kernel
theorem dyX12_fillsRuns_92 : decode cX12_fillsRuns 92 = .ok (.getfield 290, 3) := by decide +kernel
theorem dyX12_fillsRuns_95 : decode cX12_fillsRuns 95 = .ok (.iload_n 3, 1) := by decide +kernel
theorem dyX12_fillsRuns_96 : decode cX12_fillsRuns 96 = .ok (.iastore, 1) := by decide +kernel
theorem dyX12_fillsRuns_97 : decode cX12_fillsRuns 97 = .ok (.aload_n 0, 1) := by decide +kernel
theorem dyX12_fillsRuns_98 : decode cX12_fillsRuns 98 = .ok (.dup, 1) := by decide +kernel
theorem dyX12_fillsRuns_99 : decode cX12_fillsRuns 99 = .ok (.getfield 290, 3) := by decide +kernel
theorem dyX12_fillsRuns_102 : decode cX12_fillsRuns 102 = .ok (.iconst 1, 1) := by decide +kernel
theorem dyX12_fillsRuns_103 : decode cX12_fillsRuns 103 = .ok (.iadd, 1) := by decide +kernel
theorem dyX12_fillsRuns_104 : decode cX12_fillsRuns 104 = .ok (.putfield 290, 3) := by decide +kernel
theorem dyX12_fillsRuns_107 : decode cX12_fillsRuns 107 = .ok (.aload_n 0, 1) := by decide +kernel
theorem dyX12_fillsRuns_108 : decode cX12_fillsRuns 108 = .ok (.getfield 102, 3) := by decide +kernel
theorem dyX12_fillsRuns_111 : decode cX12_fillsRuns 111 = .ok (.iload_n 2, 1) := by decide +kernel
theorem dyX12_fillsRuns_112 : decode cX12_fillsRuns 112 = .ok (.iaload, 1) := by decide +kernel
theorem dyX12_fillsRuns_113 : decode cX12_fillsRuns 113 = .ok (.istore_n 1, 1) := by decide +kernel
theorem dyX12_fillsRuns_114 : decode cX12_fillsRuns 114 = .ok (.iinc 2 1, 3) := by decide +kernel
theorem dyX12_fillsRuns_117 : decode cX12_fillsRuns 117 = .ok (.goto (-103), 3) := by decide +kernel
theorem dyX12_fillsRuns_120 : decode cX12_fillsRuns 120 = .ok (.return_, 1) := by decide +kernel
theorem zsg_yX12_fillsRuns : yX12_fillsRuns.cls = RX12 ∧ yX12_fillsRuns.cls ≠ "java/lang/invoke/MethodHandle" ∧ yX12_fillsRuns.cls ≠ "java/lang/invoke/VarHandle" ∧ (parseMethodDescriptor yX12_fillsRuns.desc).map (fun d => d.parameters.length) = some 0 := by decide +kernel
set_option maxRecDepth 20000 in
theorem c_M_fillsRuns {l : Launch} {D : va_G} {B : Nat} {cA : Nat → ClassId} {ad : Nat → Nat} {S : List zC} (hS : zOkM S)  {I : zI} {K : zI → Prop}  (h : w_M_fillsRuns  I K) : Met l yX12_fillsRuns (zws yX12_fillsRuns cX12_fillsRuns 4 none) (zrm 0 0) (zPc D B cA ad [.ref (B + 491)] S I) (zQc D B cA (zqV S K)) 0 0 (fun q => B ≤ q) := by
  refine zm_of (cc := cX12_fillsRuns) (maxL := 4) (ret := none) (by decide +kernel) rfl (Nat.le_of_ble_eq_true rfl) trivial ?_
  intro p e s m args below meth c C _
  unfold w_M_fillsRuns at h
  show zX p l e (zrm 0 0) s m args below meth c (MQ below (zQc D B cA (zqV S K)) args s 0 0 (fun q => B ≤ q)) D B cA 4 0 0 S I [(0, .ref (B + 491))] [] 0
  refine zr_aload_n C dyX12_fillsRuns_0 rfl 0 rfl ?_
  refine zr_iconst C dyX12_fillsRuns_1 zc_i_0 ?_
  refine zp_12_290 C hS dyX12_fillsRuns_2 ?_
  refine zn_mem C (fun I_1 eI_1 => ?_)
  replace h := h I_1 eI_1
  refine zr_aload_n C dyX12_fillsRuns_5 rfl 0 rfl ?_
  refine zr_iconst C dyX12_fillsRuns_6 zc_i_0 ?_
  refine zp_12_293 C hS dyX12_fillsRuns_7 ?_
  refine zn_mem C (fun I_2 eI_2 => ?_)
  replace h := h I_2 eI_2
  refine zr_iconst C dyX12_fillsRuns_10 zc_i_0 ?_
  refine zr_istore_n C dyX12_fillsRuns_11 rfl (Nat.le_of_ble_eq_true rfl) (lv2 := [(1, .int 0), (0, .ref (B + 491))]) rfl ?_
  refine zr_iconst C dyX12_fillsRuns_12 zc_i_0 ?_
  refine zr_istore_n C dyX12_fillsRuns_13 rfl (Nat.le_of_ble_eq_true rfl) (lv2 := [(2, .int 0), (1, .int 0), (0, .ref (B + 491))]) rfl ?_
  refine zjn (h (fun (v1_3 : Int32) (v2_4 : Int32) (I_5 : zI) => zX p l e (zrm 0 0) s m args below meth c (MQ below (zQc D B cA (zqV S K)) args s 0 0 (fun q => B ≤ q)) D B cA 4 0 0 S I_5 [(2, .int v2_4), (1, .int v1_3), (0, .ref (B + 491))] [] 14) (fun v1_3 v2_4 I_5 h => ?_)) (fun h => ?_)
  · refine zr_iload_n C dyX12_fillsRuns_14 rfl 0 rfl ?_
    refine zr_aload_n C dyX12_fillsRuns_15 rfl 2 rfl ?_
    refine zg_12_280 C hS dyX12_fillsRuns_16 ?_
    refine zr_icmp_ge C dyX12_fillsRuns_19 (tgt := 120) (by decide) (fun hc_20 => ?_) (fun hc_20 => ?_)
    · replace h := zif_pos hc_20 h
      exact zr_vret C rfl dyX12_fillsRuns_120 ⟨rfl, rfl, h⟩
    · replace h := zif_neg hc_20 h
      refine zr_aload_n C dyX12_fillsRuns_22 rfl 2 rfl ?_
      refine zg_12_99 C hS dyX12_fillsRuns_23 ?_
      refine zr_iload_n C dyX12_fillsRuns_26 rfl 0 rfl ?_
      refine zr_iald C (hS _ _ zs_521) h.1 dyX12_fillsRuns_27 ?_
      replace h := h.2
      refine zn_istore_n C (fun v3_6 => [(3, .int v3_6), (2, .int v2_4), (1, .int v1_3), (0, .ref (B + 491))]) dyX12_fillsRuns_28 rfl (Nat.le_of_ble_eq_true rfl) (fun _ => rfl) (fun v3_6 ev3_6 => ?_)
      replace h := h v3_6 ev3_6
      refine zr_aload_n C dyX12_fillsRuns_29 rfl 3 rfl ?_
      refine zg_12_62 C hS dyX12_fillsRuns_30 ?_
      refine zr_iload_n C dyX12_fillsRuns_33 rfl 0 rfl ?_
      refine zr_iald C (hS _ _ zs_509) h.1 dyX12_fillsRuns_34 ?_
      replace h := h.2
      refine zr_iconst C dyX12_fillsRuns_35 zc_i_2 ?_
      refine zjn (h (fun (I_7 : zI) => zX p l e (zrm 0 0) s m args below meth c (MQ below (zQc D B cA (zqV S K)) args s 0 0 (fun q => B ≤ q)) D B cA 4 0 0 S I_7 [(3, .int v3_6), (2, .int v2_4), (1, .int v1_3), (0, .ref (B + 491))] [] 59) (fun I_7 h => ?_)) (fun h => ?_)
      · refine zr_iload_n C dyX12_fillsRuns_59 rfl 1 rfl ?_
        refine zr_iload_n C dyX12_fillsRuns_60 rfl 2 rfl ?_
        refine zjn (h (fun (v1_8 : Int32) (I_9 : zI) => zX p l e (zrm 0 0) s m args below meth c (MQ below (zQc D B cA (zqV S K)) args s 0 0 (fun q => B ≤ q)) D B cA 4 0 0 S I_9 [(2, .int v2_4), (1, .int v1_8), (0, .ref (B + 491))] [] 114) (fun v1_8 I_9 h => ?_)) (fun h => ?_)
        · refine zn_iinc C (fun v2_10 => [(2, .int v2_10), (1, .int v1_8), (0, .ref (B + 491))]) dyX12_fillsRuns_114 0 rfl zc_i_1 (Nat.le_of_ble_eq_true rfl) (fun _ => rfl) (fun v2_10 ev2_10 => ?_)
          replace h := h v2_10 ev2_10
          refine zr_goto C dyX12_fillsRuns_117 (tgt := 14) (by decide) ?_
          exact h
        refine zr_icmp_lt C dyX12_fillsRuns_61 (tgt := 114) (by decide) (fun hc_16 => ?_) (fun hc_16 => ?_)
        · replace h := zif_pos hc_16 h
          refine zr_sub (lv2 := [(2, .int v2_4), (1, .int v1_3), (0, .ref (B + 491))]) [1, 2, 3] rfl ?_
          exact h
        · replace h := zif_neg hc_16 h
          refine zr_aload_n C dyX12_fillsRuns_64 rfl 3 rfl ?_
          refine zg_12_62 C hS dyX12_fillsRuns_65 ?_
          refine zr_iload_n C dyX12_fillsRuns_68 rfl 0 rfl ?_
          refine zr_iald C (hS _ _ zs_509) h.1 dyX12_fillsRuns_69 ?_
          replace h := h.2
          refine zr_iconst C dyX12_fillsRuns_70 zc_i_2 ?_
          refine zjn (h (zX p l e (zrm 0 0) s m args below meth c (MQ below (zQc D B cA (zqV S K)) args s 0 0 (fun q => B ≤ q)) D B cA 4 0 0 S I_7 [(3, .int v3_6), (2, .int v2_4), (0, .ref (B + 491))] [] 87) (fun  h => ?_)) (fun h => ?_)
          · refine zr_aload_n C dyX12_fillsRuns_87 rfl 2 rfl ?_
            refine zg_12_120 C hS dyX12_fillsRuns_88 ?_
            refine zr_aload_n C dyX12_fillsRuns_91 rfl 2 rfl ?_
            refine zg_12_290 C hS dyX12_fillsRuns_92 ?_
            refine zr_iload_n C dyX12_fillsRuns_95 rfl 0 rfl ?_
            refine zr_iast C (hS _ _ zs_528) h.1 dyX12_fillsRuns_96 ?_
            replace h := h.2
            refine zn_mem C (fun I_11 eI_11 => ?_)
            replace h := h I_11 eI_11
            refine zr_aload_n C dyX12_fillsRuns_97 rfl 2 rfl ?_
            refine zr_dup C dyX12_fillsRuns_98 rfl ?_
            refine zg_12_290 C hS dyX12_fillsRuns_99 ?_
            refine zr_iconst C dyX12_fillsRuns_102 zc_i_1 ?_
            refine zr_iadd C dyX12_fillsRuns_103 ?_
            refine zp_12_290 C hS dyX12_fillsRuns_104 ?_
            refine zn_mem C (fun I_12 eI_12 => ?_)
            replace h := h I_12 eI_12
            refine zr_aload_n C dyX12_fillsRuns_107 rfl 2 rfl ?_
            refine zg_12_102 C hS dyX12_fillsRuns_108 ?_
            refine zr_iload_n C dyX12_fillsRuns_111 rfl 1 rfl ?_
            refine zr_iald C (hS _ _ zs_522) h.1 dyX12_fillsRuns_112 ?_
            replace h := h.2
            refine zn_istore_n C (fun v1_13 => [(1, .int v1_13), (3, .int v3_6), (2, .int v2_4), (0, .ref (B + 491))]) dyX12_fillsRuns_113 rfl (Nat.le_of_ble_eq_true rfl) (fun _ => rfl) (fun v1_13 ev1_13 => ?_)
            replace h := h v1_13 ev1_13
            refine zr_sub (lv2 := [(2, .int v2_4), (1, .int v1_13), (0, .ref (B + 491))]) [2, 0, 3] rfl ?_
            exact h
          refine zr_icmp_eq C dyX12_fillsRuns_71 (tgt := 87) (by decide) (fun hc_15 => ?_) (fun hc_15 => ?_)
          · replace h := zif_pos hc_15 h
            refine zr_sub (lv2 := [(3, .int v3_6), (2, .int v2_4), (0, .ref (B + 491))]) [0, 1, 3] rfl ?_
            exact h
          · replace h := zif_neg hc_15 h
            refine zr_aload_n C dyX12_fillsRuns_74 rfl 3 rfl ?_
            refine zg_12_62 C hS dyX12_fillsRuns_75 ?_
            refine zr_iload_n C dyX12_fillsRuns_78 rfl 0 rfl ?_
            refine zr_iald C (hS _ _ zs_509) h.1 dyX12_fillsRuns_79 ?_
            replace h := h.2
            refine zr_iconst C dyX12_fillsRuns_80 zc_i_3 ?_
            refine zr_icmp_eq C dyX12_fillsRuns_81 (tgt := 87) (by decide) (fun hc_14 => ?_) (fun hc_14 => ?_)
            · replace h := zif_pos hc_14 h
              refine zr_sub (lv2 := [(3, .int v3_6), (2, .int v2_4), (0, .ref (B + 491))]) [0, 1, 3] rfl ?_
              exact h
            · replace h := zif_neg hc_14 h
              refine zr_goto C dyX12_fillsRuns_84 (tgt := 114) (by decide) ?_
              refine zr_sub (lv2 := [(2, .int v2_4), (1, .int v1_3), (0, .ref (B + 491))]) [1, 2, 3] rfl ?_
              exact h
      refine zr_icmp_ne C dyX12_fillsRuns_36 (tgt := 59) (by decide) (fun hc_19 => ?_) (fun hc_19 => ?_)
      · replace h := zif_neg hc_19 h
        exact h
      · replace h := zif_pos hc_19 h
        refine zr_aload_n C dyX12_fillsRuns_39 rfl 3 rfl ?_
        refine zg_12_123 C hS dyX12_fillsRuns_40 ?_
        refine zr_aload_n C dyX12_fillsRuns_43 rfl 3 rfl ?_
        refine zg_12_293 C hS dyX12_fillsRuns_44 ?_
        refine zr_iload_n C dyX12_fillsRuns_47 rfl 0 rfl ?_
        refine zr_iast C (hS _ _ zs_529) h.1 dyX12_fillsRuns_48 ?_
        replace h := h.2
        refine zn_mem C (fun I_17 eI_17 => ?_)
        replace h := h I_17 eI_17
        refine zr_aload_n C dyX12_fillsRuns_49 rfl 3 rfl ?_
        refine zr_dup C dyX12_fillsRuns_50 rfl ?_
        refine zg_12_293 C hS dyX12_fillsRuns_51 ?_
        refine zr_iconst C dyX12_fillsRuns_54 zc_i_1 ?_
        refine zr_iadd C dyX12_fillsRuns_55 ?_
        refine zp_12_293 C hS dyX12_fillsRuns_56 ?_
        refine zn_mem C (fun I_18 eI_18 => ?_)
        replace h := h I_18 eI_18
        exact h
  exact h
theorem zp_12_280 {p : Program} {l : Launch} {e : Env} {R : Room} {s : State} {m : MethodId} {args : Array Value} {below : List Frame} {meth : Method} {c : Code} {Q : State → Prop} {D : va_G} {B : Nat} {cA : Nat → ClassId} {ad : Nat → Nat} {cc : ByteArray} {nL : Nat} {ret : Option FieldType} {S : List zC} {I : zI} {lv : List (Nat × Value)} {st : List Value} {pc : Nat} (C : zCx p s m args meth c cc nL RX12 ret D B cA ad) (hS : zOkM S) {v : Int32} (hd : decode cc pc = .ok (.putfield 280, 3)) (kk : zX p l e R s m args below meth c Q D B cA nL 0 0 S (zu I 491 43 v) lv st (pc + 3)) : zX p l e R s m args below meth c Q D B cA nL 0 0 S I lv (.int v :: .ref (B + 491) :: st) pc :=
  zr_puti C (ci := 12) (Cn := RX12) (T := TX12) (N := 82) (k := 491) (j := 43) (fs := [none, some (some 492), some (some 493), none, some (some 494), none, some (some 495), none, none, none, some (some 496), some (some 497), some (some 498), some (some 499), some (some 500), none, some (some 501), some (some 502), some (some 503), none, some (some 504), some (some 505), some (some 506), some (some 507), some (some 508), none, some (some 509), some (some 510), some (some 511), some (some 512), some (some 513), some (some 514), some (some 515), some (some 516), some (some 517), some (some 518), none, none, some (some 519), none, some (some 520), none, none, none, some (some 521), some (some 522), some (some 523), some (some 524), some (some 525), some (some 526), some (some 527), none, some (some 528), none, some (some 529), none, some (some 530), some (some 531), some (some 532), none, some (some 533), some (some 534), some (some 535), some (some 536), some (some 537), none, none, none, some (some 538), some (some 539), some (some 540), none, none, none, some (some 541), none, none, some (some 542), some (some 543), some (some 544), none, some (some 545)]) rfl zin_12 (Nat.le_of_ble_eq_true rfl) rfl (hS _ _ zs_491) rfl tyX12 tyX12_ok nmX12 (ty := .int) zpd_I rfl rfl rfl zk_fl_12_280 hd kk
theorem zg_12_117 {p : Program} {l : Launch} {e : Env} {R : Room} {s : State} {m : MethodId} {args : Array Value} {below : List Frame} {meth : Method} {c : Code} {Q : State → Prop} {D : va_G} {B : Nat} {cA : Nat → ClassId} {ad : Nat → Nat} {cc : ByteArray} {nL : Nat} {ret : Option FieldType} {S : List zC} {I : zI} {lv : List (Nat × Value)} {st : List Value} {pc : Nat} (C : zCx p s m args meth c cc nL RX12 ret D B cA ad) (hS : zOkM S) (hd : decode cc pc = .ok (.getfield 117, 3)) (kk : zX p l e R s m args below meth c Q D B cA nL 0 0 S I lv (.ref (B + 527) :: st) (pc + 3)) : zX p l e R s m args below meth c Q D B cA nL 0 0 S I lv (.ref (B + 491) :: st) pc :=
  zr_getr C (ci := 12) (Cn := RX12) (T := TX12) (N := 82) (k := 491) (j := 50) (fs := [none, some (some 492), some (some 493), none, some (some 494), none, some (some 495), none, none, none, some (some 496), some (some 497), some (some 498), some (some 499), some (some 500), none, some (some 501), some (some 502), some (some 503), none, some (some 504), some (some 505), some (some 506), some (some 507), some (some 508), none, some (some 509), some (some 510), some (some 511), some (some 512), some (some 513), some (some 514), some (some 515), some (some 516), some (some 517), some (some 518), none, none, some (some 519), none, some (some 520), none, none, none, some (some 521), some (some 522), some (some 523), some (some 524), some (some 525), some (some 526), some (some 527), none, some (some 528), none, some (some 529), none, some (some 530), some (some 531), some (some 532), none, some (some 533), some (some 534), some (some 535), some (some 536), some (some 537), none, none, none, some (some 538), some (some 539), some (some 540), none, none, none, some (some 541), none, none, some (some 542), some (some 543), some (some 544), none, some (some 545)]) rfl zin_12 (Nat.le_of_ble_eq_true rfl) rfl (hS _ _ zs_491) rfl zk_fl_12_117 hd kk
theorem zg_12_178 {p : Program} {l : Launch} {e : Env} {R : Room} {s : State} {m : MethodId} {args : Array Value} {below : List Frame} {meth : Method} {c : Code} {Q : State → Prop} {D : va_G} {B : Nat} {cA : Nat → ClassId} {ad : Nat → Nat} {cc : ByteArray} {nL : Nat} {ret : Option FieldType} {S : List zC} {I : zI} {lv : List (Nat × Value)} {st : List Value} {pc : Nat} (C : zCx p s m args meth c cc nL RX12 ret D B cA ad) (hS : zOkM S) (hd : decode cc pc = .ok (.getfield 178, 3)) (kk : zX p l e R s m args below meth c Q D B cA nL 0 0 S I lv (.int (I.1 491 37) :: st) (pc + 3)) : zX p l e R s m args below meth c Q D B cA nL 0 0 S I lv (.ref (B + 491) :: st) pc :=
  zr_geti C (ci := 12) (Cn := RX12) (T := TX12) (N := 82) (k := 491) (j := 37) (fs := [none, some (some 492), some (some 493), none, some (some 494), none, some (some 495), none, none, none, some (some 496), some (some 497), some (some 498), some (some 499), some (some 500), none, some (some 501), some (some 502), some (some 503), none, some (some 504), some (some 505), some (some 506), some (some 507), some (some 508), none, some (some 509), some (some 510), some (some 511), some (some 512), some (some 513), some (some 514), some (some 515), some (some 516), some (some 517), some (some 518), none, none, some (some 519), none, some (some 520), none, none, none, some (some 521), some (some 522), some (some 523), some (some 524), some (some 525), some (some 526), some (some 527), none, some (some 528), none, some (some 529), none, some (some 530), some (some 531), some (some 532), none, some (some 533), some (some 534), some (some 535), some (some 536), some (some 537), none, none, none, some (some 538), some (some 539), some (some 540), none, none, none, some (some 541), none, none, some (some 542), some (some 543), some (some 544), none, some (some 545)]) rfl zin_12 (Nat.le_of_ble_eq_true rfl) rfl (hS _ _ zs_491) rfl zk_fl_12_178 hd kk
theorem zg_12_108 {p : Program} {l : Launch} {e : Env} {R : Room} {s : State} {m : MethodId} {args : Array Value} {below : List Frame} {meth : Method} {c : Code} {Q : State → Prop} {D : va_G} {B : Nat} {cA : Nat → ClassId} {ad : Nat → Nat} {cc : ByteArray} {nL : Nat} {ret : Option FieldType} {S : List zC} {I : zI} {lv : List (Nat × Value)} {st : List Value} {pc : Nat} (C : zCx p s m args meth c cc nL RX12 ret D B cA ad) (hS : zOkM S) (hd : decode cc pc = .ok (.getfield 108, 3)) (kk : zX p l e R s m args below meth c Q D B cA nL 0 0 S I lv (.ref (B + 524) :: st) (pc + 3)) : zX p l e R s m args below meth c Q D B cA nL 0 0 S I lv (.ref (B + 491) :: st) pc :=
  zr_getr C (ci := 12) (Cn := RX12) (T := TX12) (N := 82) (k := 491) (j := 47) (fs := [none, some (some 492), some (some 493), none, some (some 494), none, some (some 495), none, none, none, some (some 496), some (some 497), some (some 498), some (some 499), some (some 500), none, some (some 501), some (some 502), some (some 503), none, some (some 504), some (some 505), some (some 506), some (some 507), some (some 508), none, some (some 509), some (some 510), some (some 511), some (some 512), some (some 513), some (some 514), some (some 515), some (some 516), some (some 517), some (some 518), none, none, some (some 519), none, some (some 520), none, none, none, some (some 521), some (some 522), some (some 523), some (some 524), some (some 525), some (some 526), some (some 527), none, some (some 528), none, some (some 529), none, some (some 530), some (some 531), some (some 532), none, some (some 533), some (some 534), some (some 535), some (some 536), some (some 537), none, none, none, some (some 538), some (some 539), some (some 540), none, none, none, some (some 541), none, none, some (some 542), some (some 543), some (some 544), none, some (some 545)]) rfl zin_12 (Nat.le_of_ble_eq_true rfl) rfl (hS _ _ zs_491) rfl zk_fl_12_108 hd kk
theorem zg_12_111 {p : Program} {l : Launch} {e : Env} {R : Room} {s : State} {m : MethodId} {args : Array Value} {below : List Frame} {meth : Method} {c : Code} {Q : State → Prop} {D : va_G} {B : Nat} {cA : Nat → ClassId} {ad : Nat → Nat} {cc : ByteArray} {nL : Nat} {ret : Option FieldType} {S : List zC} {I : zI} {lv : List (Nat × Value)} {st : List Value} {pc : Nat} (C : zCx p s m args meth c cc nL RX12 ret D B cA ad) (hS : zOkM S) (hd : decode cc pc = .ok (.getfield 111, 3)) (kk : zX p l e R s m args below meth c Q D B cA nL 0 0 S I lv (.ref (B + 525) :: st) (pc + 3)) : zX p l e R s m args below meth c Q D B cA nL 0 0 S I lv (.ref (B + 491) :: st) pc :=
  zr_getr C (ci := 12) (Cn := RX12) (T := TX12) (N := 82) (k := 491) (j := 48) (fs := [none, some (some 492), some (some 493), none, some (some 494), none, some (some 495), none, none, none, some (some 496), some (some 497), some (some 498), some (some 499), some (some 500), none, some (some 501), some (some 502), some (some 503), none, some (some 504), some (some 505), some (some 506), some (some 507), some (some 508), none, some (some 509), some (some 510), some (some 511), some (some 512), some (some 513), some (some 514), some (some 515), some (some 516), some (some 517), some (some 518), none, none, some (some 519), none, some (some 520), none, none, none, some (some 521), some (some 522), some (some 523), some (some 524), some (some 525), some (some 526), some (some 527), none, some (some 528), none, some (some 529), none, some (some 530), some (some 531), some (some 532), none, some (some 533), some (some 534), some (some 535), some (some 536), some (some 537), none, none, none, some (some 538), some (some 539), some (some 540), none, none, none, some (some 541), none, none, some (some 542), some (some 543), some (some 544), none, some (some 545)]) rfl zin_12 (Nat.le_of_ble_eq_true rfl) rfl (hS _ _ zs_491) rfl zk_fl_12_111 hd kk
theorem zv_12_283 {p : Program} {l : Launch} {e : Env} {R : Room} {s : State} {m : MethodId} {args : Array Value} {below : List Frame} {meth : Method} {c : Code} {Q : State → Prop} {D : va_G} {B : Nat} {cA : Nat → ClassId} {ad : Nat → Nat} {cc : ByteArray} {nL : Nat} {ret : Option FieldType} {S : List zC} {I : zI} {lv : List (Nat × Value)} {st : List Value} {pc : Nat} (C : zCx p s m args meth c cc nL RX12 ret D B cA ad) {K : zI → Prop}  (hS : zOkM S)  (h : w_M_fillsRuns I K) (hR : 0 + 1 ≤ R.frames ∧ 8 + (4 + 11) + (0) ≤ R.locals) (hw : (st.map fun v => v.category).sum ≤ 8) (hd : decode cc pc = .ok (.invokevirtual 283, 3)) (kk : ∀ I2, K I2 → zX p l e R s m args below meth c Q D B cA nL 0 0 S I2 lv st (pc + 3)) : zX p l e R s m args below meth c Q D B cA nL 0 0 S I lv (.ref (B + 491) :: st) pc :=
  have hf : 0 ≤ R.cells ∧ 0 ≤ R.slots := ⟨Nat.zero_le _, Nat.zero_le _⟩
  zc_VqV C (ci := 12) (q := (RX12, TX12, 82)) (k := 491) (fs := [none, some (some 492), some (some 493), none, some (some 494), none, some (some 495), none, none, none, some (some 496), some (some 497), some (some 498), some (some 499), some (some 500), none, some (some 501), some (some 502), some (some 503), none, some (some 504), some (some 505), some (some 506), some (some 507), some (some 508), none, some (some 509), some (some 510), some (some 511), some (some 512), some (some 513), some (some 514), some (some 515), some (some 516), some (some 517), some (some 518), none, none, some (some 519), none, some (some 520), none, none, none, some (some 521), some (some 522), some (some 523), some (some 524), some (some 525), some (some 526), some (some 527), none, some (some 528), none, some (some 529), none, some (some 530), some (some 531), some (some 532), none, some (some 533), some (some 534), some (some 535), some (some 536), some (some 537), none, none, none, some (some 538), some (some 539), some (some 540), none, none, none, some (some 541), none, none, some (some 542), some (some 543), some (some 544), none, some (some 545)]) (As := []) (st := st) rfl (hS _ _ zs_491) (c_M_fillsRuns hS h) (zgV zk_ml_12_283 zk_im_yX12_fillsRuns zk_se_yX12_fillsRuns zk_in_12 zk_cd_yX12_fillsRuns) zsg_yX12_fillsRuns hR rfl rfl hw hd hf kk
theorem zg_12_105 {p : Program} {l : Launch} {e : Env} {R : Room} {s : State} {m : MethodId} {args : Array Value} {below : List Frame} {meth : Method} {c : Code} {Q : State → Prop} {D : va_G} {B : Nat} {cA : Nat → ClassId} {ad : Nat → Nat} {cc : ByteArray} {nL : Nat} {ret : Option FieldType} {S : List zC} {I : zI} {lv : List (Nat × Value)} {st : List Value} {pc : Nat} (C : zCx p s m args meth c cc nL RX12 ret D B cA ad) (hS : zOkM S) (hd : decode cc pc = .ok (.getfield 105, 3)) (kk : zX p l e R s m args below meth c Q D B cA nL 0 0 S I lv (.ref (B + 523) :: st) (pc + 3)) : zX p l e R s m args below meth c Q D B cA nL 0 0 S I lv (.ref (B + 491) :: st) pc :=
  zr_getr C (ci := 12) (Cn := RX12) (T := TX12) (N := 82) (k := 491) (j := 46) (fs := [none, some (some 492), some (some 493), none, some (some 494), none, some (some 495), none, none, none, some (some 496), some (some 497), some (some 498), some (some 499), some (some 500), none, some (some 501), some (some 502), some (some 503), none, some (some 504), some (some 505), some (some 506), some (some 507), some (some 508), none, some (some 509), some (some 510), some (some 511), some (some 512), some (some 513), some (some 514), some (some 515), some (some 516), some (some 517), some (some 518), none, none, some (some 519), none, some (some 520), none, none, none, some (some 521), some (some 522), some (some 523), some (some 524), some (some 525), some (some 526), some (some 527), none, some (some 528), none, some (some 529), none, some (some 530), some (some 531), some (some 532), none, some (some 533), some (some 534), some (some 535), some (some 536), some (some 537), none, none, none, some (some 538), some (some 539), some (some 540), none, none, none, some (some 541), none, none, some (some 542), some (some 543), some (some 544), none, some (some 545)]) rfl zin_12 (Nat.le_of_ble_eq_true rfl) rfl (hS _ _ zs_491) rfl zk_fl_12_105 hd kk
theorem zg_12_74 {p : Program} {l : Launch} {e : Env} {R : Room} {s : State} {m : MethodId} {args : Array Value} {below : List Frame} {meth : Method} {c : Code} {Q : State → Prop} {D : va_G} {B : Nat} {cA : Nat → ClassId} {ad : Nat → Nat} {cc : ByteArray} {nL : Nat} {ret : Option FieldType} {S : List zC} {I : zI} {lv : List (Nat × Value)} {st : List Value} {pc : Nat} (C : zCx p s m args meth c cc nL RX12 ret D B cA ad) (hS : zOkM S) (hd : decode cc pc = .ok (.getfield 74, 3)) (kk : zX p l e R s m args below meth c Q D B cA nL 0 0 S I lv (.ref (B + 513) :: st) (pc + 3)) : zX p l e R s m args below meth c Q D B cA nL 0 0 S I lv (.ref (B + 491) :: st) pc :=
  zr_getr C (ci := 12) (Cn := RX12) (T := TX12) (N := 82) (k := 491) (j := 30) (fs := [none, some (some 492), some (some 493), none, some (some 494), none, some (some 495), none, none, none, some (some 496), some (some 497), some (some 498), some (some 499), some (some 500), none, some (some 501), some (some 502), some (some 503), none, some (some 504), some (some 505), some (some 506), some (some 507), some (some 508), none, some (some 509), some (some 510), some (some 511), some (some 512), some (some 513), some (some 514), some (some 515), some (some 516), some (some 517), some (some 518), none, none, some (some 519), none, some (some 520), none, none, none, some (some 521), some (some 522), some (some 523), some (some 524), some (some 525), some (some 526), some (some 527), none, some (some 528), none, some (some 529), none, some (some 530), some (some 531), some (some 532), none, some (some 533), some (some 534), some (some 535), some (some 536), some (some 537), none, none, none, some (some 538), some (some 539), some (some 540), none, none, none, some (some 541), none, none, some (some 542), some (some 543), some (some 544), none, some (some 545)]) rfl zin_12 (Nat.le_of_ble_eq_true rfl) rfl (hS _ _ zs_491) rfl zk_fl_12_74 hd kk
theorem zg_12_114 {p : Program} {l : Launch} {e : Env} {R : Room} {s : State} {m : MethodId} {args : Array Value} {below : List Frame} {meth : Method} {c : Code} {Q : State → Prop} {D : va_G} {B : Nat} {cA : Nat → ClassId} {ad : Nat → Nat} {cc : ByteArray} {nL : Nat} {ret : Option FieldType} {S : List zC} {I : zI} {lv : List (Nat × Value)} {st : List Value} {pc : Nat} (C : zCx p s m args meth c cc nL RX12 ret D B cA ad) (hS : zOkM S) (hd : decode cc pc = .ok (.getfield 114, 3)) (kk : zX p l e R s m args below meth c Q D B cA nL 0 0 S I lv (.ref (B + 526) :: st) (pc + 3)) : zX p l e R s m args below meth c Q D B cA nL 0 0 S I lv (.ref (B + 491) :: st) pc :=
  zr_getr C (ci := 12) (Cn := RX12) (T := TX12) (N := 82) (k := 491) (j := 49) (fs := [none, some (some 492), some (some 493), none, some (some 494), none, some (some 495), none, none, none, some (some 496), some (some 497), some (some 498), some (some 499), some (some 500), none, some (some 501), some (some 502), some (some 503), none, some (some 504), some (some 505), some (some 506), some (some 507), some (some 508), none, some (some 509), some (some 510), some (some 511), some (some 512), some (some 513), some (some 514), some (some 515), some (some 516), some (some 517), some (some 518), none, none, some (some 519), none, some (some 520), none, none, none, some (some 521), some (some 522), some (some 523), some (some 524), some (some 525), some (some 526), some (some 527), none, some (some 528), none, some (some 529), none, some (some 530), some (some 531), some (some 532), none, some (some 533), some (some 534), some (some 535), some (some 536), some (some 537), none, none, none, some (some 538), some (some 539), some (some 540), none, none, none, some (some 541), none, none, some (some 542), some (some 543), some (some 544), none, some (some 545)]) rfl zin_12 (Nat.le_of_ble_eq_true rfl) rfl (hS _ _ zs_491) rfl zk_fl_12_114 hd kk
def w_M_fillsTree  (I : zI) (K : zI → Prop) : Prop :=
  ∀ (P2 : Int32 → zI → Prop), (∀ (v1_1 : Int32) (I_2 : zI), ((if 3700 ≤ v1_1 then (∀ I_3, I_3 = (zu I_2 491 43 0) → vp_in 0 700 ∧ (∀ I_4, I_4 = (zu I_3 527 0 (I_3.1 491 37)) → vp_in (I_4.1 491 37) 3700 ∧ (∀ I_5, I_5 = (zu I_4 524 (Int32.toNatClampNeg (I_4.1 491 37)) (-2)) → vp_in (I_5.1 491 37) 3700 ∧ (∀ I_6, I_6 = (zu I_5 525 (Int32.toNatClampNeg (I_5.1 491 37)) 0) → ∀ (P62 : Int32 → Int32 → zI → Prop), (∀ (v1_7 : Int32) (v2_8 : Int32) (I_9 : zI), ((if v2_8 ≤ 0 then (∀ v3_10, v3_10 = ((I_9.1 491 43) - 1) → ∀ (P197 : Int32 → zI → Prop), (∀ (v3_11 : Int32) (I_12 : zI), ((if v3_11 < 0 then (w_M_fillsRuns I_12 (fun I_13 => K I_13)) else (vp_in v3_11 700 ∧ (∀ v4_14, v4_14 = (I_12.1 521 (Int32.toNatClampNeg v3_11)) → vp_in v4_14 3700 ∧ (∀ v5_15, v5_15 = (I_12.1 512 (Int32.toNatClampNeg v4_14)) → ∀ (P258 : Int32 → Prop), (∀ (t_16 : Int32), (vp_in v3_11 700 ∧ (∀ I_17, I_17 = (zu I_12 522 (Int32.toNatClampNeg v3_11) t_16) → ∀ v3_18, v3_18 = (v3_11 + (-1)) → P197 v3_18 I_17)) → P258 t_16) → (if v5_15 = 0 then (P258 (v3_11 + 1)) else (vp_in (((4 * v4_14) + v5_15) - 1) 14800 ∧ (vp_in (I_12.1 513 (Int32.toNatClampNeg (((4 * v4_14) + v5_15) - 1))) 3700 ∧ (vp_in (I_12.1 523 (Int32.toNatClampNeg (I_12.1 513 (Int32.toNatClampNeg (((4 * v4_14) + v5_15) - 1))))) 700 ∧ (P258 (I_12.1 522 (Int32.toNatClampNeg (I_12.1 523 (Int32.toNatClampNeg (I_12.1 513 (Int32.toNatClampNeg (((4 * v4_14) + v5_15) - 1))))))))))))))))) → P197 v3_11 I_12) → P197 v3_10 I_9) else (∀ v2_21, v2_21 = (v2_8 + (-1)) → vp_in v2_21 700 ∧ (∀ v3_22, v3_22 = (I_9.1 527 (Int32.toNatClampNeg v2_21)) → vp_in v3_22 3700 ∧ (∀ I_23, I_23 = (zu I_9 523 (Int32.toNatClampNeg v3_22) (I_9.1 491 43)) → vp_in (I_23.1 491 43) 700 ∧ (∀ I_24, I_24 = (zu I_23 521 (Int32.toNatClampNeg (I_23.1 491 43)) v3_22) → ∀ I_25, I_25 = (zu I_24 491 43 ((I_24.1 491 43) + 1)) → vp_in v3_22 3700 ∧ (∀ I_26, I_26 = (zu I_25 526 (Int32.toNatClampNeg v3_22) v1_7) → vp_in v3_22 3700 ∧ (∀ (P125 : Int32 → Prop), (∀ (v1_27 : Int32), (vp_in v3_22 3700 ∧ (∀ v4_28, v4_28 = ((I_26.1 512 (Int32.toNatClampNeg v3_22)) - 1) → ∀ (P135 : Int32 → Int32 → zI → Prop), (∀ (v2_29 : Int32) (v4_30 : Int32) (I_31 : zI), ((if v4_30 < 0 then P62 v1_27 v2_29 I_31 else (vp_in ((4 * v3_22) + v4_30) 14800 ∧ (∀ v5_32, v5_32 = (I_31.1 513 (Int32.toNatClampNeg ((4 * v3_22) + v4_30))) → vp_in v5_32 3700 ∧ (∀ I_33, I_33 = (zu I_31 524 (Int32.toNatClampNeg v5_32) v3_22) → vp_in v5_32 3700 ∧ (∀ I_34, I_34 = (zu I_33 525 (Int32.toNatClampNeg v5_32) v4_30) → vp_in v2_29 700 ∧ (∀ I_35, I_35 = (zu I_34 527 (Int32.toNatClampNeg v2_29) v5_32) → ∀ v2_36, v2_36 = (v2_29 + 1) → ∀ v4_37, v4_37 = (v4_30 + (-1)) → P135 v2_36 v4_37 I_35))))))) → P135 v2_29 v4_30 I_31) → P135 v2_21 v4_28 I_26)) → P125 v1_27) → (if 0 ≤ (I_26.1 509 (Int32.toNatClampNeg v3_22)) then P125 v1_7 else (∀ v1_39, v1_39 = (v1_7 + 1) → P125 v1_39)))))))))) → P62 v1_7 v2_8 I_9) → P62 0 1 I_6)))) else (vp_in v1_1 3700 ∧ (∀ I_42, I_42 = (zu I_2 523 (Int32.toNatClampNeg v1_1) (-1)) → ∀ v1_43, v1_43 = (v1_1 + 1) → P2 v1_43 I_42)))) → P2 v1_1 I_2) → P2 0 I
theorem dyX12_fillsTree_0 : decode cX12_fillsTree 0 = .ok (.iconst 0, 1) := by decide +kernel
theorem dyX12_fillsTree_1 : decode cX12_fillsTree 1 = .ok (.istore_n 1, 1) := by decide +kernel
theorem dyX12_fillsTree_2 : decode cX12_fillsTree 2 = .ok (.iload_n 1, 1) := by decide +kernel
theorem dyX12_fillsTree_3 : decode cX12_fillsTree 3 = .ok (.sipush 3700, 3) := by decide +kernel
theorem dyX12_fillsTree_6 : decode cX12_fillsTree 6 = .ok (.if_icmp .ge 16, 3) := by decide +kernel
theorem dyX12_fillsTree_9 : decode cX12_fillsTree 9 = .ok (.aload_n 0, 1) := by decide +kernel
theorem dyX12_fillsTree_10 : decode cX12_fillsTree 10 = .ok (.getfield 105, 3) := by decide +kernel
theorem dyX12_fillsTree_13 : decode cX12_fillsTree 13 = .ok (.iload_n 1, 1) := by decide +kernel
theorem dyX12_fillsTree_14 : decode cX12_fillsTree 14 = .ok (.iconst (-1), 1) := by decide +kernel
theorem dyX12_fillsTree_15 : decode cX12_fillsTree 15 = .ok (.iastore, 1) := by decide +kernel
theorem dyX12_fillsTree_16 : decode cX12_fillsTree 16 = .ok (.iinc 1 1, 3) := by decide +kernel
theorem dyX12_fillsTree_19 : decode cX12_fillsTree 19 = .ok (.goto (-17), 3) := by decide +kernel
theorem dyX12_fillsTree_22 : decode cX12_fillsTree 22 = .ok (.aload_n 0, 1) := by decide +kernel
theorem dyX12_fillsTree_23 : decode cX12_fillsTree 23 = .ok (.iconst 0, 1) := by decide +kernel
theorem dyX12_fillsTree_24 : decode cX12_fillsTree 24 = .ok (.putfield 280, 3) := by decide +kernel
theorem dyX12_fillsTree_27 : decode cX12_fillsTree 27 = .ok (.iconst 0, 1) := by decide +kernel
theorem dyX12_fillsTree_28 : decode cX12_fillsTree 28 = .ok (.istore_n 1, 1) := by decide +kernel
theorem dyX12_fillsTree_29 : decode cX12_fillsTree 29 = .ok (.iconst 1, 1) := by decide +kernel
theorem dyX12_fillsTree_30 : decode cX12_fillsTree 30 = .ok (.istore_n 2, 1) := by decide +kernel
theorem dyX12_fillsTree_31 : decode cX12_fillsTree 31 = .ok (.aload_n 0, 1) := by decide +kernel
theorem dyX12_fillsTree_32 : decode cX12_fillsTree 32 = .ok (.getfield 117, 3) := by decide +kernel
theorem dyX12_fillsTree_35 : decode cX12_fillsTree 35 = .ok (.iconst 0, 1) := by decide +kernel
theorem dyX12_fillsTree_36 : decode cX12_fillsTree 36 = .ok (.aload_n 0, 1) := by decide +kernel
theorem dyX12_fillsTree_37 : decode cX12_fillsTree 37 = .ok (.getfield 178, 3) := by decide +kernel
theorem dyX12_fillsTree_40 : decode cX12_fillsTree 40 = .ok (.iastore, 1) := by decide +kernel
theorem dyX12_fillsTree_41 : decode cX12_fillsTree 41 = .ok (.aload_n 0, 1) := by decide +kernel
theorem dyX12_fillsTree_42 : decode cX12_fillsTree 42 = .ok (.getfield 108, 3) := by decide +kernel
theorem dyX12_fillsTree_45 : decode cX12_fillsTree 45 = .ok (.aload_n 0, 1) := by decide +kernel
theorem dyX12_fillsTree_46 : decode cX12_fillsTree 46 = .ok (.getfield 178, 3) := by decide +kernel
theorem dyX12_fillsTree_49 : decode cX12_fillsTree 49 = .ok (.bipush (-2), 2) := by decide +kernel
theorem dyX12_fillsTree_51 : decode cX12_fillsTree 51 = .ok (.iastore, 1) := by decide +kernel
theorem dyX12_fillsTree_52 : decode cX12_fillsTree 52 = .ok (.aload_n 0, 1) := by decide +kernel
theorem dyX12_fillsTree_53 : decode cX12_fillsTree 53 = .ok (.getfield 111, 3) := by decide +kernel
theorem dyX12_fillsTree_56 : decode cX12_fillsTree 56 = .ok (.aload_n 0, 1) := by decide +kernel
theorem dyX12_fillsTree_57 : decode cX12_fillsTree 57 = .ok (.getfield 178, 3) := by decide +kernel
theorem dyX12_fillsTree_60 : decode cX12_fillsTree 60 = .ok (.iconst 0, 1) := by decide +kernel
theorem dyX12_fillsTree_61 : decode cX12_fillsTree 61 = .ok (.iastore, 1) := by decide +kernel
theorem dyX12_fillsTree_62 : decode cX12_fillsTree 62 = .ok (.iload_n 2, 1) := by decide +kernel
theorem dyX12_fillsTree_63 : decode cX12_fillsTree 63 = .ok (.ifCond .le 127, 3) := by decide +kernel
theorem dyX12_fillsTree_66 : decode cX12_fillsTree 66 = .ok (.iinc 2 (-1), 3) := by decide +kernel
theorem dyX12_fillsTree_69 : decode cX12_fillsTree 69 = .ok (.aload_n 0, 1) := by decide +kernel
theorem dyX12_fillsTree_70 : decode cX12_fillsTree 70 = .ok (.getfield 117, 3) := by decide +kernel
theorem dyX12_fillsTree_73 : decode cX12_fillsTree 73 = .ok (.iload_n 2, 1) := by decide +kernel
theorem dyX12_fillsTree_74 : decode cX12_fillsTree 74 = .ok (.iaload, 1) := by decide +kernel
theorem dyX12_fillsTree_75 : decode cX12_fillsTree 75 = .ok (.istore_n 3, 1) := by decide +kernel
theorem dyX12_fillsTree_76 : decode cX12_fillsTree 76 = .ok (.aload_n 0, 1) := by decide +kernel
theorem dyX12_fillsTree_77 : decode cX12_fillsTree 77 = .ok (.getfield 105, 3) := by decide +kernel
theorem dyX12_fillsTree_80 : decode cX12_fillsTree 80 = .ok (.iload_n 3, 1) := by decide +kernel
theorem dyX12_fillsTree_81 : decode cX12_fillsTree 81 = .ok (.aload_n 0, 1) := by decide +kernel
theorem dyX12_fillsTree_82 : decode cX12_fillsTree 82 = .ok (.getfield 280, 3) := by decide +kernel
theorem dyX12_fillsTree_85 : decode cX12_fillsTree 85 = .ok (.iastore, 1) := by decide +kernel
theorem dyX12_fillsTree_86 : decode cX12_fillsTree 86 = .ok (.aload_n 0, 1) := by decide +kernel
theorem dyX12_fillsTree_87 : decode cX12_fillsTree 87 = .ok (.getfield 99, 3) := by decide +kernel
theorem dyX12_fillsTree_90 : decode cX12_fillsTree 90 = .ok (.aload_n 0, 1) := by decide +kernel
theorem dyX12_fillsTree_91 : decode cX12_fillsTree 91 = .ok (.getfield 280, 3) := by decide +kernel
theorem dyX12_fillsTree_94 : decode cX12_fillsTree 94 = .ok (.iload_n 3, 1) := by decide +kernel
theorem dyX12_fillsTree_95 : decode cX12_fillsTree 95 = .ok (.iastore, 1) := by decide +kernel
theorem dyX12_fillsTree_96 : decode cX12_fillsTree 96 = .ok (.aload_n 0, 1) := by decide +kernel
theorem dyX12_fillsTree_97 : decode cX12_fillsTree 97 = .ok (.dup, 1) := by decide +kernel
theorem dyX12_fillsTree_98 : decode cX12_fillsTree 98 = .ok (.getfield 280, 3) := by decide +kernel
theorem dyX12_fillsTree_101 : decode cX12_fillsTree 101 = .ok (.iconst 1, 1) := by decide +kernel
theorem dyX12_fillsTree_102 : decode cX12_fillsTree 102 = .ok (.iadd, 1) := by decide +kernel
theorem dyX12_fillsTree_103 : decode cX12_fillsTree 103 = .ok (.putfield 280, 3) := by decide +kernel
theorem dyX12_fillsTree_106 : decode cX12_fillsTree 106 = .ok (.aload_n 0, 1) := by decide +kernel
theorem dyX12_fillsTree_107 : decode cX12_fillsTree 107 = .ok (.getfield 114, 3) := by decide +kernel
theorem dyX12_fillsTree_110 : decode cX12_fillsTree 110 = .ok (.iload_n 3, 1) := by decide +kernel
theorem dyX12_fillsTree_111 : decode cX12_fillsTree 111 = .ok (.iload_n 1, 1) := by decide +kernel
theorem dyX12_fillsTree_112 : decode cX12_fillsTree 112 = .ok (.iastore, 1) := by decide +kernel
theorem dyX12_fillsTree_113 : decode cX12_fillsTree 113 = .ok (.aload_n 0, 1) := by decide +kernel
theorem dyX12_fillsTree_114 : decode cX12_fillsTree 114 = .ok (.getfield 62, 3) := by decide +kernel
theorem dyX12_fillsTree_117 : decode cX12_fillsTree 117 = .ok (.iload_n 3, 1) := by decide +kernel
theorem dyX12_fillsTree_118 : decode cX12_fillsTree 118 = .ok (.iaload, 1) := by decide +kernel
theorem dyX12_fillsTree_119 : decode cX12_fillsTree 119 = .ok (.ifCond .ge 6, 3) := by decide +kernel
theorem dyX12_fillsTree_122 : decode cX12_fillsTree 122 = .ok (.iinc 1 1, 3) := by decide +kernel
theorem dyX12_fillsTree_125 : decode cX12_fillsTree 125 = .ok (.aload_n 0, 1) := by decide +kernel
theorem dyX12_fillsTree_126 : decode cX12_fillsTree 126 = .ok (.getfield 71, 3) := by decide +kernel
theorem dyX12_fillsTree_129 : decode cX12_fillsTree 129 = .ok (.iload_n 3, 1) := by decide +kernel
theorem dyX12_fillsTree_130 : decode cX12_fillsTree 130 = .ok (.iaload, 1) := by decide +kernel
theorem dyX12_fillsTree_131 : decode cX12_fillsTree 131 = .ok (.iconst 1, 1) := by decide +kernel
theorem dyX12_fillsTree_132 : decode cX12_fillsTree 132 = .ok (.isub, 1) := by decide +kernel
theorem dyX12_fillsTree_133 : decode cX12_fillsTree 133 = .ok (.istore 4, 2) := by decide +kernel
theorem dyX12_fillsTree_135 : decode cX12_fillsTree 135 = .ok (.iload 4, 2) := by decide +kernel
theorem dyX12_fillsTree_137 : decode cX12_fillsTree 137 = .ok (.ifCond .lt 50, 3) := by decide +kernel
theorem dyX12_fillsTree_140 : decode cX12_fillsTree 140 = .ok (.aload_n 0, 1) := by decide +kernel
theorem dyX12_fillsTree_141 : decode cX12_fillsTree 141 = .ok (.getfield 74, 3) := by decide +kernel
theorem dyX12_fillsTree_144 : decode cX12_fillsTree 144 = .ok (.iconst 4, 1) := by decide +kernel
theorem dyX12_fillsTree_145 : decode cX12_fillsTree 145 = .ok (.iload_n 3, 1) := by decide +kernel
theorem dyX12_fillsTree_146 : decode cX12_fillsTree 146 = .ok (.imul, 1) := by decide +kernel
theorem dyX12_fillsTree_147 : decode cX12_fillsTree 147 = .ok (.iload 4, 2) := by decide +kernel
theorem dyX12_fillsTree_149 : decode cX12_fillsTree 149 = .ok (.iadd, 1) := by decide +kernel
theorem dyX12_fillsTree_150 : decode cX12_fillsTree 150 = .ok (.iaload, 1) := by decide +kernel
theorem dyX12_fillsTree_151 : decode cX12_fillsTree 151 = .ok (.istore 5, 2) := by decide +kernel
theorem dyX12_fillsTree_153 : decode cX12_fillsTree 153 = .ok (.aload_n 0, 1) := by decide +kernel
theorem dyX12_fillsTree_154 : decode cX12_fillsTree 154 = .ok (.getfield 108, 3) := by decide +kernel
theorem dyX12_fillsTree_157 : decode cX12_fillsTree 157 = .ok (.iload 5, 2) := by decide +kernel
theorem dyX12_fillsTree_159 : decode cX12_fillsTree 159 = .ok (.iload_n 3, 1) := by decide +kernel
theorem dyX12_fillsTree_160 : decode cX12_fillsTree 160 = .ok (.iastore, 1) := by decide +kernel
theorem dyX12_fillsTree_161 : decode cX12_fillsTree 161 = .ok (.aload_n 0, 1) := by decide +kernel
theorem dyX12_fillsTree_162 : decode cX12_fillsTree 162 = .ok (.getfield 111, 3) := by decide +kernel
theorem dyX12_fillsTree_165 : decode cX12_fillsTree 165 = .ok (.iload 5, 2) := by decide +kernel
theorem dyX12_fillsTree_167 : decode cX12_fillsTree 167 = .ok (.iload 4, 2) := by decide +kernel
theorem dyX12_fillsTree_169 : decode cX12_fillsTree 169 = .ok (.iastore, 1) := by decide +kernel
theorem dyX12_fillsTree_170 : decode cX12_fillsTree 170 = .ok (.aload_n 0, 1) := by decide +kernel
theorem dyX12_fillsTree_171 : decode cX12_fillsTree 171 = .ok (.getfield 117, 3) := by decide +kernel
theorem dyX12_fillsTree_174 : decode cX12_fillsTree 174 = .ok (.iload_n 2, 1) := by decide +kernel
theorem dyX12_fillsTree_175 : decode cX12_fillsTree 175 = .ok (.iload 5, 2) := by decide +kernel
theorem dyX12_fillsTree_177 : decode cX12_fillsTree 177 = .ok (.iastore, 1) := by decide +kernel
theorem dyX12_fillsTree_178 : decode cX12_fillsTree 178 = .ok (.iinc 2 1, 3) := by decide +kernel
theorem dyX12_fillsTree_181 : decode cX12_fillsTree 181 = .ok (.iinc 4 (-1), 3) := by decide +kernel
theorem dyX12_fillsTree_184 : decode cX12_fillsTree 184 = .ok (.goto (-49), 3) := by decide +kernel
theorem dyX12_fillsTree_187 : decode cX12_fillsTree 187 = .ok (.goto (-125), 3) := by decide +kernel
theorem dyX12_fillsTree_190 : decode cX12_fillsTree 190 = .ok (.aload_n 0, 1) := by decide +kernel
theorem dyX12_fillsTree_191 : decode cX12_fillsTree 191 = .ok (.getfield 280, 3) := by decide +kernel
theorem dyX12_fillsTree_194 : decode cX12_fillsTree 194 = .ok (.iconst 1, 1) := by decide +kernel
theorem dyX12_fillsTree_195 : decode cX12_fillsTree 195 = .ok (.isub, 1) := by decide +kernel
theorem dyX12_fillsTree_196 : decode cX12_fillsTree 196 = .ok (.istore_n 3, 1) := by decide +kernel
theorem dyX12_fillsTree_197 : decode cX12_fillsTree 197 = .ok (.iload_n 3, 1) := by decide +kernel
theorem dyX12_fillsTree_198 : decode cX12_fillsTree 198 = .ok (.ifCond .lt 67, 3) := by decide +kernel
theorem dyX12_fillsTree_201 : decode cX12_fillsTree 201 = .ok (.aload_n 0, 1) := by decide +kernel
theorem dyX12_fillsTree_202 : decode cX12_fillsTree 202 = .ok (.getfield 99, 3) := by decide +kernel
theorem dyX12_fillsTree_205 : decode cX12_fillsTree 205 = .ok (.iload_n 3, 1) := by decide +kernel
theorem dyX12_fillsTree_206 : decode cX12_fillsTree 206 = .ok (.iaload, 1) := by decide +kernel
theorem dyX12_fillsTree_207 : decode cX12_fillsTree 207 = .ok (.istore 4, 2) := by decide +kernel
theorem dyX12_fillsTree_209 : decode cX12_fillsTree 209 = .ok (.aload_n 0, 1) := by decide +kernel
theorem dyX12_fillsTree_210 : decode cX12_fillsTree 210 = .ok (.getfield 71, 3) := by decide +kernel
theorem dyX12_fillsTree_213 : decode cX12_fillsTree 213 = .ok (.iload 4, 2) := by decide +kernel
theorem dyX12_fillsTree_215 : decode cX12_fillsTree 215 = .ok (.iaload, 1) := by decide +kernel
theorem dyX12_fillsTree_216 : decode cX12_fillsTree 216 = .ok (.istore 5, 2) := by decide +kernel
theorem dyX12_fillsTree_218 : decode cX12_fillsTree 218 = .ok (.aload_n 0, 1) := by decide +kernel
theorem dyX12_fillsTree_219 : decode cX12_fillsTree 219 = .ok (.getfield 102, 3) := by decide +kernel
theorem dyX12_fillsTree_222 : decode cX12_fillsTree 222 = .ok (.iload_n 3, 1) := by decide +kernel
theorem dyX12_fillsTree_223 : decode cX12_fillsTree 223 = .ok (.iload 5, 2) := by decide +kernel
theorem dyX12_fillsTree_225 : decode cX12_fillsTree 225 = .ok (.ifCond .ne 9, 3) := by decide +kernel
theorem dyX12_fillsTree_228 : decode cX12_fillsTree 228 = .ok (.iload_n 3, 1) := by decide +kernel
theorem dyX12_fillsTree_229 : decode cX12_fillsTree 229 = .ok (.iconst 1, 1) := by decide +kernel
theorem dyX12_fillsTree_230 : decode cX12_fillsTree 230 = .ok (.iadd, 1) := by decide +kernel
theorem dyX12_fillsTree_231 : decode cX12_fillsTree 231 = .ok (.goto 27, 3) := by decide +kernel
theorem dyX12_fillsTree_234 : decode cX12_fillsTree 234 = .ok (.aload_n 0, 1) := by decide +kernel
theorem dyX12_fillsTree_235 : decode cX12_fillsTree 235 = .ok (.getfield 102, 3) := by decide +kernel
theorem dyX12_fillsTree_238 : decode cX12_fillsTree 238 = .ok (.aload_n 0, 1) := by decide +kernel
theorem dyX12_fillsTree_239 : decode cX12_fillsTree 239 = .ok (.getfield 105, 3) := by decide +kernel
theorem dyX12_fillsTree_242 : decode cX12_fillsTree 242 = .ok (.aload_n 0, 1) := by decide +kernel
theorem dyX12_fillsTree_243 : decode cX12_fillsTree 243 = .ok (.getfield 74, 3) := by decide +kernel
theorem dyX12_fillsTree_246 : decode cX12_fillsTree 246 = .ok (.iconst 4, 1) := by decide +kernel
theorem dyX12_fillsTree_247 : decode cX12_fillsTree 247 = .ok (.iload 4, 2) := by decide +kernel
theorem dyX12_fillsTree_249 : decode cX12_fillsTree 249 = .ok (.imul, 1) := by decide +kernel
theorem dyX12_fillsTree_250 : decode cX12_fillsTree 250 = .ok (.iload 5, 2) := by decide +kernel
theorem dyX12_fillsTree_252 : decode cX12_fillsTree 252 = .ok (.iadd, 1) := by decide +kernel
theorem dyX12_fillsTree_253 : decode cX12_fillsTree 253 = .ok (.iconst 1, 1) := by decide +kernel
theorem dyX12_fillsTree_254 : decode cX12_fillsTree 254 = .ok (.isub, 1) := by decide +kernel
theorem dyX12_fillsTree_255 : decode cX12_fillsTree 255 = .ok (.iaload, 1) := by decide +kernel
theorem dyX12_fillsTree_256 : decode cX12_fillsTree 256 = .ok (.iaload, 1) := by decide +kernel
theorem dyX12_fillsTree_257 : decode cX12_fillsTree 257 = .ok (.iaload, 1) := by decide +kernel
theorem dyX12_fillsTree_258 : decode cX12_fillsTree 258 = .ok (.iastore, 1) := by decide +kernel
theorem dyX12_fillsTree_259 : decode cX12_fillsTree 259 = .ok (.iinc 3 (-1), 3) := by decide +kernel
theorem dyX12_fillsTree_262 : decode cX12_fillsTree 262 = .ok (.goto (-65), 3) := by decide +kernel
theorem dyX12_fillsTree_265 : decode cX12_fillsTree 265 = .ok (.aload_n 0, 1) := by decide +kernel
theorem dyX12_fillsTree_266 : decode cX12_fillsTree 266 = .ok (.invokevirtual 283, 3) := by decide +kernel
theorem dyX12_fillsTree_269 : decode cX12_fillsTree 269 = .ok (.return_, 1) := by decide +kernel
theorem zsg_yX12_fillsTree : yX12_fillsTree.cls = RX12 ∧ yX12_fillsTree.cls ≠ "java/lang/invoke/MethodHandle" ∧ yX12_fillsTree.cls ≠ "java/lang/invoke/VarHandle" ∧ (parseMethodDescriptor yX12_fillsTree.desc).map (fun d => d.parameters.length) = some 0 := by decide +kernel
set_option maxRecDepth 20000 in
theorem c_M_fillsTree {l : Launch} {D : va_G} {B : Nat} {cA : Nat → ClassId} {ad : Nat → Nat} {S : List zC} (hS : zOkM S)  {I : zI} {K : zI → Prop}  (h : w_M_fillsTree  I K) : Met l yX12_fillsTree (zws yX12_fillsTree cX12_fillsTree 6 none) (zrm 1 23) (zPc D B cA ad [.ref (B + 491)] S I) (zQc D B cA (zqV S K)) 0 0 (fun q => B ≤ q) := by
  refine zm_of (cc := cX12_fillsTree) (maxL := 6) (ret := none) (by decide +kernel) rfl (Nat.le_of_ble_eq_true rfl) trivial ?_
  intro p e s m args below meth c C _
  unfold w_M_fillsTree at h
  show zX p l e (zrm 1 23) s m args below meth c (MQ below (zQc D B cA (zqV S K)) args s 0 0 (fun q => B ≤ q)) D B cA 6 0 0 S I [(0, .ref (B + 491))] [] 0
  refine zr_iconst C dyX12_fillsTree_0 zc_i_0 ?_
  refine zr_istore_n C dyX12_fillsTree_1 rfl (Nat.le_of_ble_eq_true rfl) (lv2 := [(1, .int 0), (0, .ref (B + 491))]) rfl ?_
  refine zjn (h (fun (v1_1 : Int32) (I_2 : zI) => zX p l e (zrm 1 23) s m args below meth c (MQ below (zQc D B cA (zqV S K)) args s 0 0 (fun q => B ≤ q)) D B cA 6 0 0 S I_2 [(1, .int v1_1), (0, .ref (B + 491))] [] 2) (fun v1_1 I_2 h => ?_)) (fun h => ?_)
  · refine zr_iload_n C dyX12_fillsTree_2 rfl 0 rfl ?_
    refine zr_sipush C dyX12_fillsTree_3 zc_s_3700 ?_
    refine zr_icmp_ge C dyX12_fillsTree_6 (tgt := 22) (by decide) (fun hc_44 => ?_) (fun hc_44 => ?_)
    · replace h := zif_pos hc_44 h
      refine zr_aload_n C dyX12_fillsTree_22 rfl 1 rfl ?_
      refine zr_iconst C dyX12_fillsTree_23 zc_i_0 ?_
      refine zp_12_280 C hS dyX12_fillsTree_24 ?_
      refine zn_mem C (fun I_3 eI_3 => ?_)
      replace h := h I_3 eI_3
      refine zr_iconst C dyX12_fillsTree_27 zc_i_0 ?_
      refine zr_istore_n C dyX12_fillsTree_28 rfl (Nat.le_of_ble_eq_true rfl) (lv2 := [(1, .int 0), (0, .ref (B + 491))]) rfl ?_
      refine zr_iconst C dyX12_fillsTree_29 zc_i_1 ?_
      refine zr_istore_n C dyX12_fillsTree_30 rfl (Nat.le_of_ble_eq_true rfl) (lv2 := [(2, .int 1), (1, .int 0), (0, .ref (B + 491))]) rfl ?_
      refine zr_aload_n C dyX12_fillsTree_31 rfl 2 rfl ?_
      refine zg_12_117 C hS dyX12_fillsTree_32 ?_
      refine zr_iconst C dyX12_fillsTree_35 zc_i_0 ?_
      refine zr_aload_n C dyX12_fillsTree_36 rfl 2 rfl ?_
      refine zg_12_178 C hS dyX12_fillsTree_37 ?_
      refine zr_iast C (hS _ _ zs_527) h.1 dyX12_fillsTree_40 ?_
      replace h := h.2
      refine zn_mem C (fun I_4 eI_4 => ?_)
      replace h := h I_4 eI_4
      refine zr_aload_n C dyX12_fillsTree_41 rfl 2 rfl ?_
      refine zg_12_108 C hS dyX12_fillsTree_42 ?_
      refine zr_aload_n C dyX12_fillsTree_45 rfl 2 rfl ?_
      refine zg_12_178 C hS dyX12_fillsTree_46 ?_
      refine zr_bipush C dyX12_fillsTree_49 zc_b_m2 ?_
      refine zr_iast C (hS _ _ zs_524) h.1 dyX12_fillsTree_51 ?_
      replace h := h.2
      refine zn_mem C (fun I_5 eI_5 => ?_)
      replace h := h I_5 eI_5
      refine zr_aload_n C dyX12_fillsTree_52 rfl 2 rfl ?_
      refine zg_12_111 C hS dyX12_fillsTree_53 ?_
      refine zr_aload_n C dyX12_fillsTree_56 rfl 2 rfl ?_
      refine zg_12_178 C hS dyX12_fillsTree_57 ?_
      refine zr_iconst C dyX12_fillsTree_60 zc_i_0 ?_
      refine zr_iast C (hS _ _ zs_525) h.1 dyX12_fillsTree_61 ?_
      replace h := h.2
      refine zn_mem C (fun I_6 eI_6 => ?_)
      replace h := h I_6 eI_6
      refine zjn (h (fun (v1_7 : Int32) (v2_8 : Int32) (I_9 : zI) => zX p l e (zrm 1 23) s m args below meth c (MQ below (zQc D B cA (zqV S K)) args s 0 0 (fun q => B ≤ q)) D B cA 6 0 0 S I_9 [(2, .int v2_8), (1, .int v1_7), (0, .ref (B + 491))] [] 62) (fun v1_7 v2_8 I_9 h => ?_)) (fun h => ?_)
      · refine zr_iload_n C dyX12_fillsTree_62 rfl 0 rfl ?_
        refine zr_if_le C dyX12_fillsTree_63 (tgt := 190) (by decide) (fun hc_41 => ?_) (fun hc_41 => ?_)
        · replace h := zif_pos hc_41 h
          refine zr_aload_n C dyX12_fillsTree_190 rfl 2 rfl ?_
          refine zg_12_280 C hS dyX12_fillsTree_191 ?_
          refine zr_iconst C dyX12_fillsTree_194 zc_i_1 ?_
          refine zr_isub C dyX12_fillsTree_195 ?_
          refine zn_istore_n C (fun v3_10 => [(3, .int v3_10), (2, .int v2_8), (1, .int v1_7), (0, .ref (B + 491))]) dyX12_fillsTree_196 rfl (Nat.le_of_ble_eq_true rfl) (fun _ => rfl) (fun v3_10 ev3_10 => ?_)
          replace h := h v3_10 ev3_10
          refine zjn (h (fun (v3_11 : Int32) (I_12 : zI) => zX p l e (zrm 1 23) s m args below meth c (MQ below (zQc D B cA (zqV S K)) args s 0 0 (fun q => B ≤ q)) D B cA 6 0 0 S I_12 [(3, .int v3_11), (0, .ref (B + 491))] [] 197) (fun v3_11 I_12 h => ?_)) (fun h => ?_)
          · refine zr_iload_n C dyX12_fillsTree_197 rfl 0 rfl ?_
            refine zr_if_lt C dyX12_fillsTree_198 (tgt := 265) (by decide) (fun hc_20 => ?_) (fun hc_20 => ?_)
            · replace h := zif_pos hc_20 h
              refine zr_aload_n C dyX12_fillsTree_265 rfl 1 rfl ?_
              refine zv_12_283 C hS (st := []) h ⟨Nat.le_of_ble_eq_true rfl, Nat.le_of_ble_eq_true rfl⟩ (Nat.le_of_ble_eq_true rfl) dyX12_fillsTree_266 (fun I_13 h => ?_)
              exact zr_vret C rfl dyX12_fillsTree_269 ⟨rfl, rfl, h⟩
            · replace h := zif_neg hc_20 h
              refine zr_aload_n C dyX12_fillsTree_201 rfl 1 rfl ?_
              refine zg_12_99 C hS dyX12_fillsTree_202 ?_
              refine zr_iload_n C dyX12_fillsTree_205 rfl 0 rfl ?_
              refine zr_iald C (hS _ _ zs_521) h.1 dyX12_fillsTree_206 ?_
              replace h := h.2
              refine zn_istore C (fun v4_14 => [(4, .int v4_14), (3, .int v3_11), (0, .ref (B + 491))]) dyX12_fillsTree_207 (Nat.le_of_ble_eq_true rfl) (fun _ => rfl) (fun v4_14 ev4_14 => ?_)
              replace h := h v4_14 ev4_14
              refine zr_aload_n C dyX12_fillsTree_209 rfl 2 rfl ?_
              refine zg_12_71 C hS dyX12_fillsTree_210 ?_
              refine zr_iload C dyX12_fillsTree_213 0 rfl ?_
              refine zr_iald C (hS _ _ zs_512) h.1 dyX12_fillsTree_215 ?_
              replace h := h.2
              refine zn_istore C (fun v5_15 => [(5, .int v5_15), (4, .int v4_14), (3, .int v3_11), (0, .ref (B + 491))]) dyX12_fillsTree_216 (Nat.le_of_ble_eq_true rfl) (fun _ => rfl) (fun v5_15 ev5_15 => ?_)
              replace h := h v5_15 ev5_15
              refine zr_aload_n C dyX12_fillsTree_218 rfl 3 rfl ?_
              refine zg_12_102 C hS dyX12_fillsTree_219 ?_
              refine zr_iload_n C dyX12_fillsTree_222 rfl 2 rfl ?_
              refine zr_iload C dyX12_fillsTree_223 0 rfl ?_
              refine zjn (h (fun (t_16 : Int32) => zX p l e (zrm 1 23) s m args below meth c (MQ below (zQc D B cA (zqV S K)) args s 0 0 (fun q => B ≤ q)) D B cA 6 0 0 S I_12 [(3, .int v3_11), (0, .ref (B + 491))] [.int t_16, .int v3_11, .ref (B + 522)] 258) (fun t_16 h => ?_)) (fun h => ?_)
              · refine zr_iast C (hS _ _ zs_522) h.1 dyX12_fillsTree_258 ?_
                replace h := h.2
                refine zn_mem C (fun I_17 eI_17 => ?_)
                replace h := h I_17 eI_17
                refine zn_iinc C (fun v3_18 => [(3, .int v3_18), (0, .ref (B + 491))]) dyX12_fillsTree_259 0 rfl zc_i_m1 (Nat.le_of_ble_eq_true rfl) (fun _ => rfl) (fun v3_18 ev3_18 => ?_)
                replace h := h v3_18 ev3_18
                refine zr_goto C dyX12_fillsTree_262 (tgt := 197) (by decide) ?_
                exact h
              refine zr_if_ne C dyX12_fillsTree_225 (tgt := 234) (by decide) (fun hc_19 => ?_) (fun hc_19 => ?_)
              · replace h := zif_neg hc_19 h
                refine zr_aload_n C dyX12_fillsTree_234 rfl 3 rfl ?_
                refine zg_12_102 C hS dyX12_fillsTree_235 ?_
                refine zr_aload_n C dyX12_fillsTree_238 rfl 3 rfl ?_
                refine zg_12_105 C hS dyX12_fillsTree_239 ?_
                refine zr_aload_n C dyX12_fillsTree_242 rfl 3 rfl ?_
                refine zg_12_74 C hS dyX12_fillsTree_243 ?_
                refine zr_iconst C dyX12_fillsTree_246 zc_i_4 ?_
                refine zr_iload C dyX12_fillsTree_247 1 rfl ?_
                refine zr_imul C dyX12_fillsTree_249 ?_
                refine zr_iload C dyX12_fillsTree_250 0 rfl ?_
                refine zr_iadd C dyX12_fillsTree_252 ?_
                refine zr_iconst C dyX12_fillsTree_253 zc_i_1 ?_
                refine zr_isub C dyX12_fillsTree_254 ?_
                refine zr_iald C (hS _ _ zs_513) h.1 dyX12_fillsTree_255 ?_
                replace h := h.2
                refine zr_iald C (hS _ _ zs_523) h.1 dyX12_fillsTree_256 ?_
                replace h := h.2
                refine zr_iald C (hS _ _ zs_522) h.1 dyX12_fillsTree_257 ?_
                replace h := h.2
                refine zr_sub (lv2 := [(3, .int v3_11), (0, .ref (B + 491))]) [2, 3] rfl ?_
                exact h
              · replace h := zif_pos hc_19 h
                refine zr_iload_n C dyX12_fillsTree_228 rfl 2 rfl ?_
                refine zr_iconst C dyX12_fillsTree_229 zc_i_1 ?_
                refine zr_iadd C dyX12_fillsTree_230 ?_
                refine zr_goto C dyX12_fillsTree_231 (tgt := 258) (by decide) ?_
                refine zr_sub (lv2 := [(3, .int v3_11), (0, .ref (B + 491))]) [2, 3] rfl ?_
                exact h
          refine zr_sub (lv2 := [(3, .int v3_10), (0, .ref (B + 491))]) [0, 3] rfl ?_
          exact h
        · replace h := zif_neg hc_41 h
          refine zn_iinc C (fun v2_21 => [(2, .int v2_21), (1, .int v1_7), (0, .ref (B + 491))]) dyX12_fillsTree_66 0 rfl zc_i_m1 (Nat.le_of_ble_eq_true rfl) (fun _ => rfl) (fun v2_21 ev2_21 => ?_)
          replace h := h v2_21 ev2_21
          refine zr_aload_n C dyX12_fillsTree_69 rfl 2 rfl ?_
          refine zg_12_117 C hS dyX12_fillsTree_70 ?_
          refine zr_iload_n C dyX12_fillsTree_73 rfl 0 rfl ?_
          refine zr_iald C (hS _ _ zs_527) h.1 dyX12_fillsTree_74 ?_
          replace h := h.2
          refine zn_istore_n C (fun v3_22 => [(3, .int v3_22), (2, .int v2_21), (1, .int v1_7), (0, .ref (B + 491))]) dyX12_fillsTree_75 rfl (Nat.le_of_ble_eq_true rfl) (fun _ => rfl) (fun v3_22 ev3_22 => ?_)
          replace h := h v3_22 ev3_22
          refine zr_aload_n C dyX12_fillsTree_76 rfl 3 rfl ?_
          refine zg_12_105 C hS dyX12_fillsTree_77 ?_
          refine zr_iload_n C dyX12_fillsTree_80 rfl 0 rfl ?_
          refine zr_aload_n C dyX12_fillsTree_81 rfl 3 rfl ?_
          refine zg_12_280 C hS dyX12_fillsTree_82 ?_
          refine zr_iast C (hS _ _ zs_523) h.1 dyX12_fillsTree_85 ?_
          replace h := h.2
          refine zn_mem C (fun I_23 eI_23 => ?_)
          replace h := h I_23 eI_23
          refine zr_aload_n C dyX12_fillsTree_86 rfl 3 rfl ?_
          refine zg_12_99 C hS dyX12_fillsTree_87 ?_
          refine zr_aload_n C dyX12_fillsTree_90 rfl 3 rfl ?_
          refine zg_12_280 C hS dyX12_fillsTree_91 ?_
          refine zr_iload_n C dyX12_fillsTree_94 rfl 0 rfl ?_
          refine zr_iast C (hS _ _ zs_521) h.1 dyX12_fillsTree_95 ?_
          replace h := h.2
          refine zn_mem C (fun I_24 eI_24 => ?_)
          replace h := h I_24 eI_24
          refine zr_aload_n C dyX12_fillsTree_96 rfl 3 rfl ?_
          refine zr_dup C dyX12_fillsTree_97 rfl ?_
          refine zg_12_280 C hS dyX12_fillsTree_98 ?_
          refine zr_iconst C dyX12_fillsTree_101 zc_i_1 ?_
          refine zr_iadd C dyX12_fillsTree_102 ?_
          refine zp_12_280 C hS dyX12_fillsTree_103 ?_
          refine zn_mem C (fun I_25 eI_25 => ?_)
          replace h := h I_25 eI_25
          refine zr_aload_n C dyX12_fillsTree_106 rfl 3 rfl ?_
          refine zg_12_114 C hS dyX12_fillsTree_107 ?_
          refine zr_iload_n C dyX12_fillsTree_110 rfl 0 rfl ?_
          refine zr_iload_n C dyX12_fillsTree_111 rfl 2 rfl ?_
          refine zr_iast C (hS _ _ zs_526) h.1 dyX12_fillsTree_112 ?_
          replace h := h.2
          refine zn_mem C (fun I_26 eI_26 => ?_)
          replace h := h I_26 eI_26
          refine zr_aload_n C dyX12_fillsTree_113 rfl 3 rfl ?_
          refine zg_12_62 C hS dyX12_fillsTree_114 ?_
          refine zr_iload_n C dyX12_fillsTree_117 rfl 0 rfl ?_
          refine zr_iald C (hS _ _ zs_509) h.1 dyX12_fillsTree_118 ?_
          replace h := h.2
          refine zjn (h (fun (v1_27 : Int32) => zX p l e (zrm 1 23) s m args below meth c (MQ below (zQc D B cA (zqV S K)) args s 0 0 (fun q => B ≤ q)) D B cA 6 0 0 S I_26 [(3, .int v3_22), (2, .int v2_21), (1, .int v1_27), (0, .ref (B + 491))] [] 125) (fun v1_27 h => ?_)) (fun h => ?_)
          · refine zr_aload_n C dyX12_fillsTree_125 rfl 3 rfl ?_
            refine zg_12_71 C hS dyX12_fillsTree_126 ?_
            refine zr_iload_n C dyX12_fillsTree_129 rfl 0 rfl ?_
            refine zr_iald C (hS _ _ zs_512) h.1 dyX12_fillsTree_130 ?_
            replace h := h.2
            refine zr_iconst C dyX12_fillsTree_131 zc_i_1 ?_
            refine zr_isub C dyX12_fillsTree_132 ?_
            refine zn_istore C (fun v4_28 => [(4, .int v4_28), (3, .int v3_22), (2, .int v2_21), (1, .int v1_27), (0, .ref (B + 491))]) dyX12_fillsTree_133 (Nat.le_of_ble_eq_true rfl) (fun _ => rfl) (fun v4_28 ev4_28 => ?_)
            replace h := h v4_28 ev4_28
            refine zjn (h (fun (v2_29 : Int32) (v4_30 : Int32) (I_31 : zI) => zX p l e (zrm 1 23) s m args below meth c (MQ below (zQc D B cA (zqV S K)) args s 0 0 (fun q => B ≤ q)) D B cA 6 0 0 S I_31 [(4, .int v4_30), (3, .int v3_22), (2, .int v2_29), (1, .int v1_27), (0, .ref (B + 491))] [] 135) (fun v2_29 v4_30 I_31 h => ?_)) (fun h => ?_)
            · refine zr_iload C dyX12_fillsTree_135 0 rfl ?_
              refine zr_if_lt C dyX12_fillsTree_137 (tgt := 187) (by decide) (fun hc_38 => ?_) (fun hc_38 => ?_)
              · replace h := zif_pos hc_38 h
                refine zr_goto C dyX12_fillsTree_187 (tgt := 62) (by decide) ?_
                refine zr_sub (lv2 := [(2, .int v2_29), (1, .int v1_27), (0, .ref (B + 491))]) [2, 3, 4] rfl ?_
                exact h
              · replace h := zif_neg hc_38 h
                refine zr_aload_n C dyX12_fillsTree_140 rfl 4 rfl ?_
                refine zg_12_74 C hS dyX12_fillsTree_141 ?_
                refine zr_iconst C dyX12_fillsTree_144 zc_i_4 ?_
                refine zr_iload_n C dyX12_fillsTree_145 rfl 1 rfl ?_
                refine zr_imul C dyX12_fillsTree_146 ?_
                refine zr_iload C dyX12_fillsTree_147 0 rfl ?_
                refine zr_iadd C dyX12_fillsTree_149 ?_
                refine zr_iald C (hS _ _ zs_513) h.1 dyX12_fillsTree_150 ?_
                replace h := h.2
                refine zn_istore C (fun v5_32 => [(5, .int v5_32), (4, .int v4_30), (3, .int v3_22), (2, .int v2_29), (1, .int v1_27), (0, .ref (B + 491))]) dyX12_fillsTree_151 (Nat.le_of_ble_eq_true rfl) (fun _ => rfl) (fun v5_32 ev5_32 => ?_)
                replace h := h v5_32 ev5_32
                refine zr_aload_n C dyX12_fillsTree_153 rfl 5 rfl ?_
                refine zg_12_108 C hS dyX12_fillsTree_154 ?_
                refine zr_iload C dyX12_fillsTree_157 0 rfl ?_
                refine zr_iload_n C dyX12_fillsTree_159 rfl 2 rfl ?_
                refine zr_iast C (hS _ _ zs_524) h.1 dyX12_fillsTree_160 ?_
                replace h := h.2
                refine zn_mem C (fun I_33 eI_33 => ?_)
                replace h := h I_33 eI_33
                refine zr_aload_n C dyX12_fillsTree_161 rfl 5 rfl ?_
                refine zg_12_111 C hS dyX12_fillsTree_162 ?_
                refine zr_iload C dyX12_fillsTree_165 0 rfl ?_
                refine zr_iload C dyX12_fillsTree_167 1 rfl ?_
                refine zr_iast C (hS _ _ zs_525) h.1 dyX12_fillsTree_169 ?_
                replace h := h.2
                refine zn_mem C (fun I_34 eI_34 => ?_)
                replace h := h I_34 eI_34
                refine zr_aload_n C dyX12_fillsTree_170 rfl 5 rfl ?_
                refine zg_12_117 C hS dyX12_fillsTree_171 ?_
                refine zr_iload_n C dyX12_fillsTree_174 rfl 3 rfl ?_
                refine zr_iload C dyX12_fillsTree_175 0 rfl ?_
                refine zr_iast C (hS _ _ zs_527) h.1 dyX12_fillsTree_177 ?_
                replace h := h.2
                refine zn_mem C (fun I_35 eI_35 => ?_)
                replace h := h I_35 eI_35
                refine zn_iinc C (fun v2_36 => [(2, .int v2_36), (5, .int v5_32), (4, .int v4_30), (3, .int v3_22), (1, .int v1_27), (0, .ref (B + 491))]) dyX12_fillsTree_178 3 rfl zc_i_1 (Nat.le_of_ble_eq_true rfl) (fun _ => rfl) (fun v2_36 ev2_36 => ?_)
                replace h := h v2_36 ev2_36
                refine zn_iinc C (fun v4_37 => [(4, .int v4_37), (2, .int v2_36), (5, .int v5_32), (3, .int v3_22), (1, .int v1_27), (0, .ref (B + 491))]) dyX12_fillsTree_181 2 rfl zc_i_m1 (Nat.le_of_ble_eq_true rfl) (fun _ => rfl) (fun v4_37 ev4_37 => ?_)
                replace h := h v4_37 ev4_37
                refine zr_goto C dyX12_fillsTree_184 (tgt := 135) (by decide) ?_
                refine zr_sub (lv2 := [(4, .int v4_37), (3, .int v3_22), (2, .int v2_36), (1, .int v1_27), (0, .ref (B + 491))]) [0, 3, 1, 4, 5] rfl ?_
                exact h
            exact h
          refine zr_if_ge C dyX12_fillsTree_119 (tgt := 125) (by decide) (fun hc_40 => ?_) (fun hc_40 => ?_)
          · replace h := zif_pos hc_40 h
            exact h
          · replace h := zif_neg hc_40 h
            refine zn_iinc C (fun v1_39 => [(1, .int v1_39), (3, .int v3_22), (2, .int v2_21), (0, .ref (B + 491))]) dyX12_fillsTree_122 2 rfl zc_i_1 (Nat.le_of_ble_eq_true rfl) (fun _ => rfl) (fun v1_39 ev1_39 => ?_)
            replace h := h v1_39 ev1_39
            refine zr_sub (lv2 := [(3, .int v3_22), (2, .int v2_21), (1, .int v1_39), (0, .ref (B + 491))]) [1, 2, 0, 3] rfl ?_
            exact h
      exact h
    · replace h := zif_neg hc_44 h
      refine zr_aload_n C dyX12_fillsTree_9 rfl 1 rfl ?_
      refine zg_12_105 C hS dyX12_fillsTree_10 ?_
      refine zr_iload_n C dyX12_fillsTree_13 rfl 0 rfl ?_
      refine zr_iconst C dyX12_fillsTree_14 zc_i_m1 ?_
      refine zr_iast C (hS _ _ zs_523) h.1 dyX12_fillsTree_15 ?_
      replace h := h.2
      refine zn_mem C (fun I_42 eI_42 => ?_)
      replace h := h I_42 eI_42
      refine zn_iinc C (fun v1_43 => [(1, .int v1_43), (0, .ref (B + 491))]) dyX12_fillsTree_16 0 rfl zc_i_1 (Nat.le_of_ble_eq_true rfl) (fun _ => rfl) (fun v1_43 ev1_43 => ?_)
      replace h := h v1_43 ev1_43
      refine zr_goto C dyX12_fillsTree_19 (tgt := 2) (by decide) ?_
      exact h
  exact h
theorem zv_12_286 {p : Program} {l : Launch} {e : Env} {R : Room} {s : State} {m : MethodId} {args : Array Value} {below : List Frame} {meth : Method} {c : Code} {Q : State → Prop} {D : va_G} {B : Nat} {cA : Nat → ClassId} {ad : Nat → Nat} {cc : ByteArray} {nL : Nat} {ret : Option FieldType} {S : List zC} {I : zI} {lv : List (Nat × Value)} {st : List Value} {pc : Nat} (C : zCx p s m args meth c cc nL RX12 ret D B cA ad) {K : Int32 → Prop} {xa0 : Int32} {xa1 : Int32} {xa2 : Int32} (hS : zOkM S)  (h : w_M_in xa0 xa1 xa2 I K) (hR : 0 + 1 ≤ R.frames ∧ 8 + (3 + 11) + (0) ≤ R.locals) (hw : (st.map fun v => v.category).sum ≤ 8) (hd : decode cc pc = .ok (.invokestatic 286, 3)) (kk : ∀ v, K v → zX p l e R s m args below meth c Q D B cA nL 0 0 S I lv (.int v :: st) (pc + 3)) : zX p l e R s m args below meth c Q D B cA nL 0 0 S I lv (.int xa2 :: .int xa1 :: .int xa0 :: st) pc :=
  have hf : 0 ≤ R.cells ∧ 0 ≤ R.slots := ⟨Nat.zero_le _, Nat.zero_le _⟩
  zc_SpI C (As := [.int xa0, .int xa1, .int xa2]) (st := st) (c_M_in hS h) (zgM zk_cd_yX12_in) zk_ml_12_286 zk_st_yX12_in zk_in_12 zsg_yX12_in hR rfl rfl hw hd hf kk
def w_M_isIn (a1 : Int32) (I : zI) (K : Int32 → Prop) : Prop :=
  w_M_in a1 0 ((I.1 491 25) - 1) I (fun r_1 => (if r_1 = 0 then K 0 else (vp_in a1 3700 ∧ (if (I.1 523 (Int32.toNatClampNeg a1)) < 0 then K 0 else K 1))))
theorem dyX12_isIn_0 : decode cX12_isIn 0 = .ok (.iload_n 1, 1) := by decide +kernel
theorem dyX12_isIn_1 : decode cX12_isIn 1 = .ok (.iconst 0, 1) := by decide +kernel
theorem dyX12_isIn_2 : decode cX12_isIn 2 = .ok (.aload_n 0, 1) := by decide +kernel
theorem dyX12_isIn_3 : decode cX12_isIn 3 = .ok (.getfield 247, 3) := by decide +kernel
theorem dyX12_isIn_6 : decode cX12_isIn 6 = .ok (.iconst 1, 1) := by decide +kernel
theorem dyX12_isIn_7 : decode cX12_isIn 7 = .ok (.isub, 1) := by decide +kernel
theorem dyX12_isIn_8 : decode cX12_isIn 8 = .ok (.invokestatic 286, 3) := by decide +kernel
theorem dyX12_isIn_11 : decode cX12_isIn 11 = .ok (.ifCond .eq 16, 3) := by decide +kernel
theorem dyX12_isIn_14 : decode cX12_isIn 14 = .ok (.aload_n 0, 1) := by decide +kernel
theorem dyX12_isIn_15 : decode cX12_isIn 15 = .ok (.getfield 105, 3) := by decide +kernel
theorem dyX12_isIn_18 : decode cX12_isIn 18 = .ok (.iload_n 1, 1) := by decide +kernel
theorem dyX12_isIn_19 : decode cX12_isIn 19 = .ok (.iaload, 1) := by decide +kernel
theorem dyX12_isIn_20 : decode cX12_isIn 20 = .ok (.ifCond .lt 7, 3) := by decide +kernel
theorem dyX12_isIn_23 : decode cX12_isIn 23 = .ok (.iconst 1, 1) := by decide +kernel
theorem dyX12_isIn_24 : decode cX12_isIn 24 = .ok (.goto 4, 3) := by decide +kernel
theorem dyX12_isIn_27 : decode cX12_isIn 27 = .ok (.iconst 0, 1) := by decide +kernel
theorem dyX12_isIn_28 : decode cX12_isIn 28 = .ok (.ireturn, 1) := by decide +kernel
theorem zsg_yX12_isIn : yX12_isIn.cls = RX12 ∧ yX12_isIn.cls ≠ "java/lang/invoke/MethodHandle" ∧ yX12_isIn.cls ≠ "java/lang/invoke/VarHandle" ∧ (parseMethodDescriptor yX12_isIn.desc).map (fun d => d.parameters.length) = some 1 := by decide +kernel
set_option maxRecDepth 20000 in
theorem c_M_isIn {l : Launch} {D : va_G} {B : Nat} {cA : Nat → ClassId} {ad : Nat → Nat} {S : List zC} (hS : zOkM S) {a1 : Int32} {I : zI} {K : Int32 → Prop}  (h : w_M_isIn a1 I K) : Met l yX12_isIn (zws yX12_isIn cX12_isIn 2 (some .boolean)) (zrm 1 22) (zPc D B cA ad [.ref (B + 491), .int a1] S I) (zQc D B cA (zpI S I K)) 0 0 (fun q => B ≤ q) := by
  refine zm_of (cc := cX12_isIn) (maxL := 2) (ret := (some .boolean)) (by decide +kernel) rfl (Nat.le_of_ble_eq_true rfl) trivial ?_
  intro p e s m args below meth c C _
  unfold w_M_isIn at h
  show zX p l e (zrm 1 22) s m args below meth c (MQ below (zQc D B cA (zpI S I K)) args s 0 0 (fun q => B ≤ q)) D B cA 2 0 0 S I [(0, .ref (B + 491)), (1, .int a1)] [] 0
  refine zr_iload_n C dyX12_isIn_0 rfl 1 rfl ?_
  refine zr_iconst C dyX12_isIn_1 zc_i_0 ?_
  refine zr_aload_n C dyX12_isIn_2 rfl 0 rfl ?_
  refine zg_12_247 C hS dyX12_isIn_3 ?_
  refine zr_iconst C dyX12_isIn_6 zc_i_1 ?_
  refine zr_isub C dyX12_isIn_7 ?_
  refine zv_12_286 C hS (st := []) h ⟨Nat.le_of_ble_eq_true rfl, Nat.le_of_ble_eq_true rfl⟩ (Nat.le_of_ble_eq_true rfl) dyX12_isIn_8 (fun r_1 h => ?_)
  refine zr_if_eq C dyX12_isIn_11 (tgt := 27) (by decide) (fun hc_3 => ?_) (fun hc_3 => ?_)
  · replace h := zif_pos hc_3 h
    refine zr_iconst C dyX12_isIn_27 zc_i_0 ?_
    exact zr_zret C rfl (zb.nar zb_0) dyX12_isIn_28 ⟨rfl, rfl, _, rfl, h⟩
  · replace h := zif_neg hc_3 h
    refine zr_aload_n C dyX12_isIn_14 rfl 0 rfl ?_
    refine zg_12_105 C hS dyX12_isIn_15 ?_
    refine zr_iload_n C dyX12_isIn_18 rfl 1 rfl ?_
    refine zr_iald C (hS _ _ zs_523) h.1 dyX12_isIn_19 ?_
    replace h := h.2
    refine zr_if_lt C dyX12_isIn_20 (tgt := 27) (by decide) (fun hc_2 => ?_) (fun hc_2 => ?_)
    · replace h := zif_pos hc_2 h
      refine zr_iconst C dyX12_isIn_27 zc_i_0 ?_
      exact zr_zret C rfl (zb.nar zb_0) dyX12_isIn_28 ⟨rfl, rfl, _, rfl, h⟩
    · replace h := zif_neg hc_2 h
      refine zr_iconst C dyX12_isIn_23 zc_i_1 ?_
      refine zr_goto C dyX12_isIn_24 (tgt := 28) (by decide) ?_
      exact zr_zret C rfl (zb.nar zb_1) dyX12_isIn_28 ⟨rfl, rfl, _, rfl, h⟩
theorem zg_12_296 {p : Program} {l : Launch} {e : Env} {R : Room} {s : State} {m : MethodId} {args : Array Value} {below : List Frame} {meth : Method} {c : Code} {Q : State → Prop} {D : va_G} {B : Nat} {cA : Nat → ClassId} {ad : Nat → Nat} {cc : ByteArray} {nL : Nat} {ret : Option FieldType} {S : List zC} {I : zI} {lv : List (Nat × Value)} {st : List Value} {pc : Nat} (C : zCx p s m args meth c cc nL RX12 ret D B cA ad) (hS : zOkM S) (hd : decode cc pc = .ok (.getfield 296, 3)) (kk : zX p l e R s m args below meth c Q D B cA nL 0 0 S I lv (.int (I.1 491 55) :: st) (pc + 3)) : zX p l e R s m args below meth c Q D B cA nL 0 0 S I lv (.ref (B + 491) :: st) pc :=
  zr_geti C (ci := 12) (Cn := RX12) (T := TX12) (N := 82) (k := 491) (j := 55) (fs := [none, some (some 492), some (some 493), none, some (some 494), none, some (some 495), none, none, none, some (some 496), some (some 497), some (some 498), some (some 499), some (some 500), none, some (some 501), some (some 502), some (some 503), none, some (some 504), some (some 505), some (some 506), some (some 507), some (some 508), none, some (some 509), some (some 510), some (some 511), some (some 512), some (some 513), some (some 514), some (some 515), some (some 516), some (some 517), some (some 518), none, none, some (some 519), none, some (some 520), none, none, none, some (some 521), some (some 522), some (some 523), some (some 524), some (some 525), some (some 526), some (some 527), none, some (some 528), none, some (some 529), none, some (some 530), some (some 531), some (some 532), none, some (some 533), some (some 534), some (some 535), some (some 536), some (some 537), none, none, none, some (some 538), some (some 539), some (some 540), none, none, none, some (some 541), none, none, some (some 542), some (some 543), some (some 544), none, some (some 545)]) rfl zin_12 (Nat.le_of_ble_eq_true rfl) rfl (hS _ _ zs_491) rfl zk_fl_12_296 hd kk
theorem zg_12_126 {p : Program} {l : Launch} {e : Env} {R : Room} {s : State} {m : MethodId} {args : Array Value} {below : List Frame} {meth : Method} {c : Code} {Q : State → Prop} {D : va_G} {B : Nat} {cA : Nat → ClassId} {ad : Nat → Nat} {cc : ByteArray} {nL : Nat} {ret : Option FieldType} {S : List zC} {I : zI} {lv : List (Nat × Value)} {st : List Value} {pc : Nat} (C : zCx p s m args meth c cc nL RX12 ret D B cA ad) (hS : zOkM S) (hd : decode cc pc = .ok (.getfield 126, 3)) (kk : zX p l e R s m args below meth c Q D B cA nL 0 0 S I lv (.ref (B + 530) :: st) (pc + 3)) : zX p l e R s m args below meth c Q D B cA nL 0 0 S I lv (.ref (B + 491) :: st) pc :=
  zr_getr C (ci := 12) (Cn := RX12) (T := TX12) (N := 82) (k := 491) (j := 56) (fs := [none, some (some 492), some (some 493), none, some (some 494), none, some (some 495), none, none, none, some (some 496), some (some 497), some (some 498), some (some 499), some (some 500), none, some (some 501), some (some 502), some (some 503), none, some (some 504), some (some 505), some (some 506), some (some 507), some (some 508), none, some (some 509), some (some 510), some (some 511), some (some 512), some (some 513), some (some 514), some (some 515), some (some 516), some (some 517), some (some 518), none, none, some (some 519), none, some (some 520), none, none, none, some (some 521), some (some 522), some (some 523), some (some 524), some (some 525), some (some 526), some (some 527), none, some (some 528), none, some (some 529), none, some (some 530), some (some 531), some (some 532), none, some (some 533), some (some 534), some (some 535), some (some 536), some (some 537), none, none, none, some (some 538), some (some 539), some (some 540), none, none, none, some (some 541), none, none, some (some 542), some (some 543), some (some 544), none, some (some 545)]) rfl zin_12 (Nat.le_of_ble_eq_true rfl) rfl (hS _ _ zs_491) rfl zk_fl_12_126 hd kk
theorem zg_12_129 {p : Program} {l : Launch} {e : Env} {R : Room} {s : State} {m : MethodId} {args : Array Value} {below : List Frame} {meth : Method} {c : Code} {Q : State → Prop} {D : va_G} {B : Nat} {cA : Nat → ClassId} {ad : Nat → Nat} {cc : ByteArray} {nL : Nat} {ret : Option FieldType} {S : List zC} {I : zI} {lv : List (Nat × Value)} {st : List Value} {pc : Nat} (C : zCx p s m args meth c cc nL RX12 ret D B cA ad) (hS : zOkM S) (hd : decode cc pc = .ok (.getfield 129, 3)) (kk : zX p l e R s m args below meth c Q D B cA nL 0 0 S I lv (.ref (B + 531) :: st) (pc + 3)) : zX p l e R s m args below meth c Q D B cA nL 0 0 S I lv (.ref (B + 491) :: st) pc :=
  zr_getr C (ci := 12) (Cn := RX12) (T := TX12) (N := 82) (k := 491) (j := 57) (fs := [none, some (some 492), some (some 493), none, some (some 494), none, some (some 495), none, none, none, some (some 496), some (some 497), some (some 498), some (some 499), some (some 500), none, some (some 501), some (some 502), some (some 503), none, some (some 504), some (some 505), some (some 506), some (some 507), some (some 508), none, some (some 509), some (some 510), some (some 511), some (some 512), some (some 513), some (some 514), some (some 515), some (some 516), some (some 517), some (some 518), none, none, some (some 519), none, some (some 520), none, none, none, some (some 521), some (some 522), some (some 523), some (some 524), some (some 525), some (some 526), some (some 527), none, some (some 528), none, some (some 529), none, some (some 530), some (some 531), some (some 532), none, some (some 533), some (some 534), some (some 535), some (some 536), some (some 537), none, none, none, some (some 538), some (some 539), some (some 540), none, none, none, some (some 541), none, none, some (some 542), some (some 543), some (some 544), none, some (some 545)]) rfl zin_12 (Nat.le_of_ble_eq_true rfl) rfl (hS _ _ zs_491) rfl zk_fl_12_129 hd kk
theorem zp_12_296 {p : Program} {l : Launch} {e : Env} {R : Room} {s : State} {m : MethodId} {args : Array Value} {below : List Frame} {meth : Method} {c : Code} {Q : State → Prop} {D : va_G} {B : Nat} {cA : Nat → ClassId} {ad : Nat → Nat} {cc : ByteArray} {nL : Nat} {ret : Option FieldType} {S : List zC} {I : zI} {lv : List (Nat × Value)} {st : List Value} {pc : Nat} (C : zCx p s m args meth c cc nL RX12 ret D B cA ad) (hS : zOkM S) {v : Int32} (hd : decode cc pc = .ok (.putfield 296, 3)) (kk : zX p l e R s m args below meth c Q D B cA nL 0 0 S (zu I 491 55 v) lv st (pc + 3)) : zX p l e R s m args below meth c Q D B cA nL 0 0 S I lv (.int v :: .ref (B + 491) :: st) pc :=
  zr_puti C (ci := 12) (Cn := RX12) (T := TX12) (N := 82) (k := 491) (j := 55) (fs := [none, some (some 492), some (some 493), none, some (some 494), none, some (some 495), none, none, none, some (some 496), some (some 497), some (some 498), some (some 499), some (some 500), none, some (some 501), some (some 502), some (some 503), none, some (some 504), some (some 505), some (some 506), some (some 507), some (some 508), none, some (some 509), some (some 510), some (some 511), some (some 512), some (some 513), some (some 514), some (some 515), some (some 516), some (some 517), some (some 518), none, none, some (some 519), none, some (some 520), none, none, none, some (some 521), some (some 522), some (some 523), some (some 524), some (some 525), some (some 526), some (some 527), none, some (some 528), none, some (some 529), none, some (some 530), some (some 531), some (some 532), none, some (some 533), some (some 534), some (some 535), some (some 536), some (some 537), none, none, none, some (some 538), some (some 539), some (some 540), none, none, none, some (some 541), none, none, some (some 542), some (some 543), some (some 544), none, some (some 545)]) rfl zin_12 (Nat.le_of_ble_eq_true rfl) rfl (hS _ _ zs_491) rfl tyX12 tyX12_ok nmX12 (ty := .int) zpd_I rfl rfl rfl zk_fl_12_296 hd kk
def w_M_nameOf (a1 : Int64) (I : zI) (K : Int32 → zI → Prop) : Prop :=
  ∀ (P2 : Int32 → Prop), (∀ (v3_1 : Int32), ((if (I.1 491 55) ≤ v3_1 then (vp_in (I.1 491 55) 60 ∧ (∀ I_2, I_2 = (zul I 530 (Int32.toNatClampNeg (I.1 491 55)) a1) → vp_in (I_2.1 491 55) 60 ∧ (∀ I_3, I_3 = (zu I_2 531 (Int32.toNatClampNeg (I_2.1 491 55)) 0) → ∀ I_4, I_4 = (zu I_3 491 55 ((I_3.1 491 55) + 1)) → K ((I_4.1 491 55) - 1) I_4))) else (vp_in v3_1 60 ∧ (if (lg_cmp (I.2 530 (Int32.toNatClampNeg v3_1)) a1) = 0 then K v3_1 I else (∀ v3_5, v3_5 = (v3_1 + 1) → P2 v3_5))))) → P2 v3_1) → P2 0
theorem dyX12_nameOf_0 : decode cX12_nameOf 0 = .ok (.iconst 0, 1) := by decide +kernel
theorem dyX12_nameOf_1 : decode cX12_nameOf 1 = .ok (.istore_n 3, 1) := by decide +kernel
theorem dyX12_nameOf_2 : decode cX12_nameOf 2 = .ok (.iload_n 3, 1) := by decide +kernel
theorem dyX12_nameOf_3 : decode cX12_nameOf 3 = .ok (.aload_n 0, 1) := by decide +kernel
theorem dyX12_nameOf_4 : decode cX12_nameOf 4 = .ok (.getfield 296, 3) := by decide +kernel
theorem dyX12_nameOf_7 : decode cX12_nameOf 7 = .ok (.if_icmp .ge 22, 3) := by decide +kernel
theorem dyX12_nameOf_10 : decode cX12_nameOf 10 = .ok (.aload_n 0, 1) := by decide +kernel
theorem dyX12_nameOf_11 : decode cX12_nameOf 11 = .ok (.getfield 126, 3) := by decide +kernel
theorem dyX12_nameOf_14 : decode cX12_nameOf 14 = .ok (.iload_n 3, 1) := by decide +kernel
theorem dyX12_nameOf_15 : decode cX12_nameOf 15 = .ok (.laload, 1) := by decide +kernel
theorem dyX12_nameOf_16 : decode cX12_nameOf 16 = .ok (.lload_n 1, 1) := by decide +kernel
theorem dyX12_nameOf_17 : decode cX12_nameOf 17 = .ok (.lcmp, 1) := by decide +kernel
theorem dyX12_nameOf_18 : decode cX12_nameOf 18 = .ok (.ifCond .ne 5, 3) := by decide +kernel
theorem dyX12_nameOf_21 : decode cX12_nameOf 21 = .ok (.iload_n 3, 1) := by decide +kernel
theorem dyX12_nameOf_22 : decode cX12_nameOf 22 = .ok (.ireturn, 1) := by decide +kernel
theorem dyX12_nameOf_23 : decode cX12_nameOf 23 = .ok (.iinc 3 1, 3) := by decide +kernel
theorem dyX12_nameOf_26 : decode cX12_nameOf 26 = .ok (.goto (-24), 3) := by decide +kernel
theorem dyX12_nameOf_29 : decode cX12_nameOf 29 = .ok (.aload_n 0, 1) := by decide +kernel
theorem dyX12_nameOf_30 : decode cX12_nameOf 30 = .ok (.getfield 126, 3) := by decide +kernel
theorem dyX12_nameOf_33 : decode cX12_nameOf 33 = .ok (.aload_n 0, 1) := by decide +kernel
theorem dyX12_nameOf_34 : decode cX12_nameOf 34 = .ok (.getfield 296, 3) := by decide +kernel
theorem dyX12_nameOf_37 : decode cX12_nameOf 37 = .ok (.lload_n 1, 1) := by decide +kernel
theorem dyX12_nameOf_38 : decode cX12_nameOf 38 = .ok (.lastore, 1) := by decide +kernel
theorem dyX12_nameOf_39 : decode cX12_nameOf 39 = .ok (.aload_n 0, 1) := by decide +kernel
theorem dyX12_nameOf_40 : decode cX12_nameOf 40 = .ok (.getfield 129, 3) := by decide +kernel
theorem dyX12_nameOf_43 : decode cX12_nameOf 43 = .ok (.aload_n 0, 1) := by decide +kernel
theorem dyX12_nameOf_44 : decode cX12_nameOf 44 = .ok (.getfield 296, 3) := by decide +kernel
theorem dyX12_nameOf_47 : decode cX12_nameOf 47 = .ok (.iconst 0, 1) := by decide +kernel
theorem dyX12_nameOf_48 : decode cX12_nameOf 48 = .ok (.iastore, 1) := by decide +kernel
theorem dyX12_nameOf_49 : decode cX12_nameOf 49 = .ok (.aload_n 0, 1) := by decide +kernel
theorem dyX12_nameOf_50 : decode cX12_nameOf 50 = .ok (.dup, 1) := by decide +kernel
theorem dyX12_nameOf_51 : decode cX12_nameOf 51 = .ok (.getfield 296, 3) := by decide +kernel
theorem dyX12_nameOf_54 : decode cX12_nameOf 54 = .ok (.iconst 1, 1) := by decide +kernel
theorem dyX12_nameOf_55 : decode cX12_nameOf 55 = .ok (.iadd, 1) := by decide +kernel
theorem dyX12_nameOf_56 : decode cX12_nameOf 56 = .ok (.putfield 296, 3) := by decide +kernel
theorem dyX12_nameOf_59 : decode cX12_nameOf 59 = .ok (.aload_n 0, 1) := by decide +kernel
theorem dyX12_nameOf_60 : decode cX12_nameOf 60 = .ok (.getfield 296, 3) := by decide +kernel
theorem dyX12_nameOf_63 : decode cX12_nameOf 63 = .ok (.iconst 1, 1) := by decide +kernel
theorem dyX12_nameOf_64 : decode cX12_nameOf 64 = .ok (.isub, 1) := by decide +kernel
theorem dyX12_nameOf_65 : decode cX12_nameOf 65 = .ok (.ireturn, 1) := by decide +kernel
theorem zsg_yX12_nameOf : yX12_nameOf.cls = RX12 ∧ yX12_nameOf.cls ≠ "java/lang/invoke/MethodHandle" ∧ yX12_nameOf.cls ≠ "java/lang/invoke/VarHandle" ∧ (parseMethodDescriptor yX12_nameOf.desc).map (fun d => d.parameters.length) = some 1 := by decide +kernel
set_option maxRecDepth 20000 in
theorem c_M_nameOf {l : Launch} {D : va_G} {B : Nat} {cA : Nat → ClassId} {ad : Nat → Nat} {S : List zC} (hS : zOkM S) {a1 : Int64} {I : zI} {K : Int32 → zI → Prop}  (h : w_M_nameOf a1 I K) : Met l yX12_nameOf (zws yX12_nameOf cX12_nameOf 4 (some .int)) (zrm 0 0) (zPc D B cA ad [.ref (B + 491), .long a1] S I) (zQc D B cA (zqI S K)) 0 0 (fun q => B ≤ q) := by
  refine zm_of (cc := cX12_nameOf) (maxL := 4) (ret := (some .int)) (by decide +kernel) rfl (Nat.le_of_ble_eq_true rfl) trivial ?_
  intro p e s m args below meth c C _
  unfold w_M_nameOf at h
  show zX p l e (zrm 0 0) s m args below meth c (MQ below (zQc D B cA (zqI S K)) args s 0 0 (fun q => B ≤ q)) D B cA 4 0 0 S I [(0, .ref (B + 491)), (1, .long a1)] [] 0
  refine zr_iconst C dyX12_nameOf_0 zc_i_0 ?_
  refine zr_istore_n C dyX12_nameOf_1 rfl (Nat.le_of_ble_eq_true rfl) (lv2 := [(3, .int 0), (0, .ref (B + 491)), (1, .long a1)]) rfl ?_
  refine zjn (h (fun (v3_1 : Int32) => zX p l e (zrm 0 0) s m args below meth c (MQ below (zQc D B cA (zqI S K)) args s 0 0 (fun q => B ≤ q)) D B cA 4 0 0 S I [(3, .int v3_1), (0, .ref (B + 491)), (1, .long a1)] [] 2) (fun v3_1 h => ?_)) (fun h => ?_)
  · refine zr_iload_n C dyX12_nameOf_2 rfl 0 rfl ?_
    refine zr_aload_n C dyX12_nameOf_3 rfl 1 rfl ?_
    refine zg_12_296 C hS dyX12_nameOf_4 ?_
    refine zr_icmp_ge C dyX12_nameOf_7 (tgt := 29) (by decide) (fun hc_7 => ?_) (fun hc_7 => ?_)
    · replace h := zif_pos hc_7 h
      refine zr_aload_n C dyX12_nameOf_29 rfl 1 rfl ?_
      refine zg_12_126 C hS dyX12_nameOf_30 ?_
      refine zr_aload_n C dyX12_nameOf_33 rfl 1 rfl ?_
      refine zg_12_296 C hS dyX12_nameOf_34 ?_
      refine zr_lload_n C dyX12_nameOf_37 rfl 2 rfl ?_
      refine zr_last C (hS _ _ zs_530) h.1 dyX12_nameOf_38 ?_
      replace h := h.2
      refine zn_mem C (fun I_2 eI_2 => ?_)
      replace h := h I_2 eI_2
      refine zr_aload_n C dyX12_nameOf_39 rfl 1 rfl ?_
      refine zg_12_129 C hS dyX12_nameOf_40 ?_
      refine zr_aload_n C dyX12_nameOf_43 rfl 1 rfl ?_
      refine zg_12_296 C hS dyX12_nameOf_44 ?_
      refine zr_iconst C dyX12_nameOf_47 zc_i_0 ?_
      refine zr_iast C (hS _ _ zs_531) h.1 dyX12_nameOf_48 ?_
      replace h := h.2
      refine zn_mem C (fun I_3 eI_3 => ?_)
      replace h := h I_3 eI_3
      refine zr_aload_n C dyX12_nameOf_49 rfl 1 rfl ?_
      refine zr_dup C dyX12_nameOf_50 rfl ?_
      refine zg_12_296 C hS dyX12_nameOf_51 ?_
      refine zr_iconst C dyX12_nameOf_54 zc_i_1 ?_
      refine zr_iadd C dyX12_nameOf_55 ?_
      refine zp_12_296 C hS dyX12_nameOf_56 ?_
      refine zn_mem C (fun I_4 eI_4 => ?_)
      replace h := h I_4 eI_4
      refine zr_aload_n C dyX12_nameOf_59 rfl 1 rfl ?_
      refine zg_12_296 C hS dyX12_nameOf_60 ?_
      refine zr_iconst C dyX12_nameOf_63 zc_i_1 ?_
      refine zr_isub C dyX12_nameOf_64 ?_
      exact zr_iret C rfl dyX12_nameOf_65 ⟨rfl, _, rfl, h⟩
    · replace h := zif_neg hc_7 h
      refine zr_aload_n C dyX12_nameOf_10 rfl 1 rfl ?_
      refine zg_12_126 C hS dyX12_nameOf_11 ?_
      refine zr_iload_n C dyX12_nameOf_14 rfl 0 rfl ?_
      refine zr_lald C (hS _ _ zs_530) h.1 dyX12_nameOf_15 ?_
      replace h := h.2
      refine zr_lload_n C dyX12_nameOf_16 rfl 2 rfl ?_
      refine zr_lcmp C dyX12_nameOf_17 ?_
      refine zr_if_ne C dyX12_nameOf_18 (tgt := 23) (by decide) (fun hc_6 => ?_) (fun hc_6 => ?_)
      · replace h := zif_neg hc_6 h
        refine zn_iinc C (fun v3_5 => [(3, .int v3_5), (0, .ref (B + 491)), (1, .long a1)]) dyX12_nameOf_23 0 rfl zc_i_1 (Nat.le_of_ble_eq_true rfl) (fun _ => rfl) (fun v3_5 ev3_5 => ?_)
        replace h := h v3_5 ev3_5
        refine zr_goto C dyX12_nameOf_26 (tgt := 2) (by decide) ?_
        exact h
      · replace h := zif_pos hc_6 h
        refine zr_iload_n C dyX12_nameOf_21 rfl 0 rfl ?_
        exact zr_iret C rfl dyX12_nameOf_22 ⟨rfl, _, rfl, h⟩
  exact h
def w_M_childOf (a1 : Int32) (a2 : Int32) (I : zI) (K : Int32 → Prop) : Prop :=
  vp_in ((4 * a1) + a2) 14800 ∧ (K (I.1 513 (Int32.toNatClampNeg ((4 * a1) + a2))))
theorem dyX12_childOf_0 : decode cX12_childOf 0 = .ok (.aload_n 0, 1) := by decide +kernel
theorem dyX12_childOf_1 : decode cX12_childOf 1 = .ok (.getfield 74, 3) := by decide +kernel
theorem dyX12_childOf_4 : decode cX12_childOf 4 = .ok (.iconst 4, 1) := by decide +kernel
theorem dyX12_childOf_5 : decode cX12_childOf 5 = .ok (.iload_n 1, 1) := by decide +kernel
theorem dyX12_childOf_6 : decode cX12_childOf 6 = .ok (.imul, 1) := by decide +kernel
theorem dyX12_childOf_7 : decode cX12_childOf 7 = .ok (.iload_n 2, 1) := by decide +kernel
theorem dyX12_childOf_8 : decode cX12_childOf 8 = .ok (.iadd, 1) := by decide +kernel
theorem dyX12_childOf_9 : decode cX12_childOf 9 = .ok (.iaload, 1) := by decide +kernel
theorem dyX12_childOf_10 : decode cX12_childOf 10 = .ok (.ireturn, 1) := by decide +kernel
theorem zsg_yX12_childOf : yX12_childOf.cls = RX12 ∧ yX12_childOf.cls ≠ "java/lang/invoke/MethodHandle" ∧ yX12_childOf.cls ≠ "java/lang/invoke/VarHandle" ∧ (parseMethodDescriptor yX12_childOf.desc).map (fun d => d.parameters.length) = some 2 := by decide +kernel
set_option maxRecDepth 20000 in
theorem c_M_childOf {l : Launch} {D : va_G} {B : Nat} {cA : Nat → ClassId} {ad : Nat → Nat} {S : List zC} (hS : zOkM S) {a1 : Int32} {a2 : Int32} {I : zI} {K : Int32 → Prop}  (h : w_M_childOf a1 a2 I K) : Met l yX12_childOf (zws yX12_childOf cX12_childOf 3 (some .int)) (zrm 0 0) (zPc D B cA ad [.ref (B + 491), .int a1, .int a2] S I) (zQc D B cA (zpI S I K)) 0 0 (fun q => B ≤ q) := by
  refine zm_of (cc := cX12_childOf) (maxL := 3) (ret := (some .int)) (by decide +kernel) rfl (Nat.le_of_ble_eq_true rfl) trivial ?_
  intro p e s m args below meth c C _
  unfold w_M_childOf at h
  show zX p l e (zrm 0 0) s m args below meth c (MQ below (zQc D B cA (zpI S I K)) args s 0 0 (fun q => B ≤ q)) D B cA 3 0 0 S I [(0, .ref (B + 491)), (1, .int a1), (2, .int a2)] [] 0
  refine zr_aload_n C dyX12_childOf_0 rfl 0 rfl ?_
  refine zg_12_74 C hS dyX12_childOf_1 ?_
  refine zr_iconst C dyX12_childOf_4 zc_i_4 ?_
  refine zr_iload_n C dyX12_childOf_5 rfl 1 rfl ?_
  refine zr_imul C dyX12_childOf_6 ?_
  refine zr_iload_n C dyX12_childOf_7 rfl 2 rfl ?_
  refine zr_iadd C dyX12_childOf_8 ?_
  refine zr_iald C (hS _ _ zs_513) h.1 dyX12_childOf_9 ?_
  replace h := h.2
  exact zr_iret C rfl dyX12_childOf_10 ⟨rfl, rfl, _, rfl, h⟩
theorem zg_12_132 {p : Program} {l : Launch} {e : Env} {R : Room} {s : State} {m : MethodId} {args : Array Value} {below : List Frame} {meth : Method} {c : Code} {Q : State → Prop} {D : va_G} {B : Nat} {cA : Nat → ClassId} {ad : Nat → Nat} {cc : ByteArray} {nL : Nat} {ret : Option FieldType} {S : List zC} {I : zI} {lv : List (Nat × Value)} {st : List Value} {pc : Nat} (C : zCx p s m args meth c cc nL RX12 ret D B cA ad) (hS : zOkM S) (hd : decode cc pc = .ok (.getfield 132, 3)) (kk : zX p l e R s m args below meth c Q D B cA nL 0 0 S I lv (.ref (B + 532) :: st) (pc + 3)) : zX p l e R s m args below meth c Q D B cA nL 0 0 S I lv (.ref (B + 491) :: st) pc :=
  zr_getr C (ci := 12) (Cn := RX12) (T := TX12) (N := 82) (k := 491) (j := 58) (fs := [none, some (some 492), some (some 493), none, some (some 494), none, some (some 495), none, none, none, some (some 496), some (some 497), some (some 498), some (some 499), some (some 500), none, some (some 501), some (some 502), some (some 503), none, some (some 504), some (some 505), some (some 506), some (some 507), some (some 508), none, some (some 509), some (some 510), some (some 511), some (some 512), some (some 513), some (some 514), some (some 515), some (some 516), some (some 517), some (some 518), none, none, some (some 519), none, some (some 520), none, none, none, some (some 521), some (some 522), some (some 523), some (some 524), some (some 525), some (some 526), some (some 527), none, some (some 528), none, some (some 529), none, some (some 530), some (some 531), some (some 532), none, some (some 533), some (some 534), some (some 535), some (some 536), some (some 537), none, none, none, some (some 538), some (some 539), some (some 540), none, none, none, some (some 541), none, none, some (some 542), some (some 543), some (some 544), none, some (some 545)]) rfl zin_12 (Nat.le_of_ble_eq_true rfl) rfl (hS _ _ zs_491) rfl zk_fl_12_132 hd kk
theorem zv_12_299 {p : Program} {l : Launch} {e : Env} {R : Room} {s : State} {m : MethodId} {args : Array Value} {below : List Frame} {meth : Method} {c : Code} {Q : State → Prop} {D : va_G} {B : Nat} {cA : Nat → ClassId} {ad : Nat → Nat} {cc : ByteArray} {nL : Nat} {ret : Option FieldType} {S : List zC} {I : zI} {lv : List (Nat × Value)} {st : List Value} {pc : Nat} (C : zCx p s m args meth c cc nL RX12 ret D B cA ad) {K : Int32 → Prop} {xa1 : Int32} {xa2 : Int32} (hS : zOkM S)  (h : w_M_childOf xa1 xa2 I K) (hR : 0 + 1 ≤ R.frames ∧ 8 + (3 + 11) + (0) ≤ R.locals) (hw : (st.map fun v => v.category).sum ≤ 8) (hd : decode cc pc = .ok (.invokevirtual 299, 3)) (kk : ∀ v, K v → zX p l e R s m args below meth c Q D B cA nL 0 0 S I lv (.int v :: st) (pc + 3)) : zX p l e R s m args below meth c Q D B cA nL 0 0 S I lv (.int xa2 :: .int xa1 :: .ref (B + 491) :: st) pc :=
  have hf : 0 ≤ R.cells ∧ 0 ≤ R.slots := ⟨Nat.zero_le _, Nat.zero_le _⟩
  zc_VpI C (ci := 12) (q := (RX12, TX12, 82)) (k := 491) (fs := [none, some (some 492), some (some 493), none, some (some 494), none, some (some 495), none, none, none, some (some 496), some (some 497), some (some 498), some (some 499), some (some 500), none, some (some 501), some (some 502), some (some 503), none, some (some 504), some (some 505), some (some 506), some (some 507), some (some 508), none, some (some 509), some (some 510), some (some 511), some (some 512), some (some 513), some (some 514), some (some 515), some (some 516), some (some 517), some (some 518), none, none, some (some 519), none, some (some 520), none, none, none, some (some 521), some (some 522), some (some 523), some (some 524), some (some 525), some (some 526), some (some 527), none, some (some 528), none, some (some 529), none, some (some 530), some (some 531), some (some 532), none, some (some 533), some (some 534), some (some 535), some (some 536), some (some 537), none, none, none, some (some 538), some (some 539), some (some 540), none, none, none, some (some 541), none, none, some (some 542), some (some 543), some (some 544), none, some (some 545)]) (As := [.int xa1, .int xa2]) (st := st) rfl (hS _ _ zs_491) (c_M_childOf hS h) (zgV zk_ml_12_299 zk_im_yX12_childOf zk_se_yX12_childOf zk_in_12 zk_cd_yX12_childOf) zsg_yX12_childOf hR rfl rfl hw hd hf kk
theorem zv_12_302 {p : Program} {l : Launch} {e : Env} {R : Room} {s : State} {m : MethodId} {args : Array Value} {below : List Frame} {meth : Method} {c : Code} {Q : State → Prop} {D : va_G} {B : Nat} {cA : Nat → ClassId} {ad : Nat → Nat} {cc : ByteArray} {nL : Nat} {ret : Option FieldType} {S : List zC} {I : zI} {lv : List (Nat × Value)} {st : List Value} {pc : Nat} (C : zCx p s m args meth c cc nL RX12 ret D B cA ad) {K : Int32 → zI → Prop} {xa1 : Int64} (hS : zOkM S)  (h : w_M_nameOf xa1 I K) (hR : 0 + 1 ≤ R.frames ∧ 8 + (4 + 11) + (0) ≤ R.locals) (hw : (st.map fun v => v.category).sum ≤ 8) (hd : decode cc pc = .ok (.invokevirtual 302, 3)) (kk : ∀ v I2, K v I2 → zX p l e R s m args below meth c Q D B cA nL 0 0 S I2 lv (.int v :: st) (pc + 3)) : zX p l e R s m args below meth c Q D B cA nL 0 0 S I lv (.long xa1 :: .ref (B + 491) :: st) pc :=
  have hf : 0 ≤ R.cells ∧ 0 ≤ R.slots := ⟨Nat.zero_le _, Nat.zero_le _⟩
  zc_VqI C (ci := 12) (q := (RX12, TX12, 82)) (k := 491) (fs := [none, some (some 492), some (some 493), none, some (some 494), none, some (some 495), none, none, none, some (some 496), some (some 497), some (some 498), some (some 499), some (some 500), none, some (some 501), some (some 502), some (some 503), none, some (some 504), some (some 505), some (some 506), some (some 507), some (some 508), none, some (some 509), some (some 510), some (some 511), some (some 512), some (some 513), some (some 514), some (some 515), some (some 516), some (some 517), some (some 518), none, none, some (some 519), none, some (some 520), none, none, none, some (some 521), some (some 522), some (some 523), some (some 524), some (some 525), some (some 526), some (some 527), none, some (some 528), none, some (some 529), none, some (some 530), some (some 531), some (some 532), none, some (some 533), some (some 534), some (some 535), some (some 536), some (some 537), none, none, none, some (some 538), some (some 539), some (some 540), none, none, none, some (some 541), none, none, some (some 542), some (some 543), some (some 544), none, some (some 545)]) (As := [.long xa1]) (st := st) rfl (hS _ _ zs_491) (c_M_nameOf hS h) (zgV zk_ml_12_302 zk_im_yX12_nameOf zk_se_yX12_nameOf zk_in_12 zk_cd_yX12_nameOf) zsg_yX12_nameOf hR rfl rfl hw hd hf kk
def w_M_reckons (a1 : Int32) (I : zI) (K : zI → Prop) : Prop :=
  vp_in a1 700 ∧ (∀ v2_1, v2_1 = ((I.1 522 (Int32.toNatClampNeg a1)) - 1) → ∀ (P9 : Int32 → zI → Prop), (∀ (v2_2 : Int32) (I_3 : zI), ((if v2_2 < a1 then K I_3 else (vp_in v2_2 700 ∧ (∀ v3_4, v3_4 = (I_3.1 521 (Int32.toNatClampNeg v2_2)) → vp_in v3_4 3700 ∧ (∀ x_5, x_5 = (I_3.1 509 (Int32.toNatClampNeg v3_4)) → ∀ (P222 : zI → Prop), (∀ (I_6 : zI), (∀ v2_7, v2_7 = (v2_2 + (-1)) → P9 v2_7 I_6) → P222 I_6) → ∀ (P132 : Prop), ((w_M_childOf v3_4 0 I_3 (fun r_8 => vp_in r_8 3700 ∧ (vp_in v3_4 3700 ∧ (∀ I_9, I_9 = (zu I_3 532 (Int32.toNatClampNeg v3_4) (I_3.1 532 (Int32.toNatClampNeg r_8))) → P222 I_9)))) → P132) → (if x_5 = 4 then (w_M_childOf v3_4 0 I_3 (fun r_11 => vp_in r_11 3700 ∧ (w_M_childOf v3_4 2 I_3 (fun r_12 => vp_in r_12 3700 ∧ (vp_in v3_4 3700 ∧ (∀ I_13, I_13 = (zu I_3 532 (Int32.toNatClampNeg v3_4) ((I_3.1 532 (Int32.toNatClampNeg r_11)) + (I_3.1 532 (Int32.toNatClampNeg r_12)))) → P222 I_13)))))) else (if x_5 = 5 then P132 else (if x_5 = 6 then (w_M_childOf v3_4 0 I_3 (fun r_16 => vp_in r_16 3700 ∧ (w_M_childOf v3_4 2 I_3 (fun r_17 => vp_in r_17 3700 ∧ (vp_in v3_4 3700 ∧ (∀ I_18, I_18 = (zu I_3 532 (Int32.toNatClampNeg v3_4) ((I_3.1 532 (Int32.toNatClampNeg r_16)) * (I_3.1 532 (Int32.toNatClampNeg r_17)))) → P222 I_18)))))) else (if x_5 = 7 then P132 else (if x_5 = 8 then (w_M_childOf v3_4 0 I_3 (fun r_21 => vp_in r_21 3700 ∧ (w_M_nameOf (I_3.2 511 (Int32.toNatClampNeg r_21)) I_3 (fun r_22 I_23 => vp_in r_22 60 ∧ (vp_in v3_4 3700 ∧ (∀ I_24, I_24 = (zu I_23 532 (Int32.toNatClampNeg v3_4) (I_23.1 531 (Int32.toNatClampNeg r_22))) → P222 I_24)))))) else (if x_5 = 9 then (w_M_childOf v3_4 0 I_3 (fun r_26 => vp_in r_26 3700 ∧ (vp_in v3_4 3700 ∧ (∀ I_27, I_27 = (zu I_3 532 (Int32.toNatClampNeg v3_4) (Int64.toInt32 (I_3.2 511 (Int32.toNatClampNeg r_26)))) → P222 I_27)))) else (if x_5 = 10 then (w_M_childOf v3_4 1 I_3 (fun r_29 => vp_in r_29 3700 ∧ (vp_in v3_4 3700 ∧ (∀ I_30, I_30 = (zu I_3 532 (Int32.toNatClampNeg v3_4) (I_3.1 532 (Int32.toNatClampNeg r_29))) → P222 I_30)))) else P222 I_3)))))))))))) → P9 v2_2 I_3) → P9 v2_1 I)
theorem dyX12_reckons_0 : decode cX12_reckons 0 = .ok (.aload_n 0, 1) := by decide +kernel
theorem dyX12_reckons_1 : decode cX12_reckons 1 = .ok (.getfield 102, 3) := by decide +kernel
theorem dyX12_reckons_4 : decode cX12_reckons 4 = .ok (.iload_n 1, 1) := by decide +kernel
theorem dyX12_reckons_5 : decode cX12_reckons 5 = .ok (.iaload, 1) := by decide +kernel
theorem dyX12_reckons_6 : decode cX12_reckons 6 = .ok (.iconst 1, 1) := by decide +kernel
theorem dyX12_reckons_7 : decode cX12_reckons 7 = .ok (.isub, 1) := by decide +kernel
theorem dyX12_reckons_8 : decode cX12_reckons 8 = .ok (.istore_n 2, 1) := by decide +kernel
theorem dyX12_reckons_9 : decode cX12_reckons 9 = .ok (.iload_n 2, 1) := by decide +kernel
theorem dyX12_reckons_10 : decode cX12_reckons 10 = .ok (.iload_n 1, 1) := by decide +kernel
theorem dyX12_reckons_11 : decode cX12_reckons 11 = .ok (.if_icmp .lt 217, 3) := by decide +kernel
theorem dyX12_reckons_14 : decode cX12_reckons 14 = .ok (.aload_n 0, 1) := by decide +kernel
theorem dyX12_reckons_15 : decode cX12_reckons 15 = .ok (.getfield 99, 3) := by decide +kernel
theorem dyX12_reckons_18 : decode cX12_reckons 18 = .ok (.iload_n 2, 1) := by decide +kernel
theorem dyX12_reckons_19 : decode cX12_reckons 19 = .ok (.iaload, 1) := by decide +kernel
theorem dyX12_reckons_20 : decode cX12_reckons 20 = .ok (.istore_n 3, 1) := by decide +kernel
theorem dyX12_reckons_21 : decode cX12_reckons 21 = .ok (.aload_n 0, 1) := by decide +kernel
theorem dyX12_reckons_22 : decode cX12_reckons 22 = .ok (.getfield 62, 3) := by decide +kernel
theorem dyX12_reckons_25 : decode cX12_reckons 25 = .ok (.iload_n 3, 1) := by decide +kernel
theorem dyX12_reckons_26 : decode cX12_reckons 26 = .ok (.iaload, 1) := by decide +kernel
theorem dyX12_reckons_27 : decode cX12_reckons 27 = .ok (.tableswitch 195 4 10 #[41, 105, 73, 105, 125, 154, 175], 41) := by decide +kernel
theorem dyX12_reckons_68 : decode cX12_reckons 68 = .ok (.aload_n 0, 1) := by decide +kernel
theorem dyX12_reckons_69 : decode cX12_reckons 69 = .ok (.getfield 132, 3) := by decide +kernel
theorem dyX12_reckons_72 : decode cX12_reckons 72 = .ok (.iload_n 3, 1) := by decide +kernel
theorem dyX12_reckons_73 : decode cX12_reckons 73 = .ok (.aload_n 0, 1) := by decide +kernel
theorem dyX12_reckons_74 : decode cX12_reckons 74 = .ok (.getfield 132, 3) := by decide +kernel
theorem dyX12_reckons_77 : decode cX12_reckons 77 = .ok (.aload_n 0, 1) := by decide +kernel
theorem dyX12_reckons_78 : decode cX12_reckons 78 = .ok (.iload_n 3, 1) := by decide +kernel
theorem dyX12_reckons_79 : decode cX12_reckons 79 = .ok (.iconst 0, 1) := by decide +kernel
theorem dyX12_reckons_80 : decode cX12_reckons 80 = .ok (.invokevirtual 299, 3) := by decide +kernel
theorem dyX12_reckons_83 : decode cX12_reckons 83 = .ok (.iaload, 1) := by decide +kernel
theorem dyX12_reckons_84 : decode cX12_reckons 84 = .ok (.aload_n 0, 1) := by decide +kernel
theorem dyX12_reckons_85 : decode cX12_reckons 85 = .ok (.getfield 132, 3) := by decide +kernel
theorem dyX12_reckons_88 : decode cX12_reckons 88 = .ok (.aload_n 0, 1) := by decide +kernel
theorem dyX12_reckons_89 : decode cX12_reckons 89 = .ok (.iload_n 3, 1) := by decide +kernel
theorem dyX12_reckons_90 : decode cX12_reckons 90 = .ok (.iconst 2, 1) := by decide +kernel
theorem dyX12_reckons_91 : decode cX12_reckons 91 = .ok (.invokevirtual 299, 3) := by decide +kernel
theorem dyX12_reckons_94 : decode cX12_reckons 94 = .ok (.iaload, 1) := by decide +kernel
theorem dyX12_reckons_95 : decode cX12_reckons 95 = .ok (.iadd, 1) := by decide +kernel
theorem dyX12_reckons_96 : decode cX12_reckons 96 = .ok (.iastore, 1) := by decide +kernel
theorem dyX12_reckons_97 : decode cX12_reckons 97 = .ok (.goto 125, 3) := by decide +kernel
theorem dyX12_reckons_100 : decode cX12_reckons 100 = .ok (.aload_n 0, 1) := by decide +kernel
theorem dyX12_reckons_101 : decode cX12_reckons 101 = .ok (.getfield 132, 3) := by decide +kernel
theorem dyX12_reckons_104 : decode cX12_reckons 104 = .ok (.iload_n 3, 1) := by decide +kernel
theorem dyX12_reckons_105 : decode cX12_reckons 105 = .ok (.aload_n 0, 1) := by decide +kernel
theorem dyX12_reckons_106 : decode cX12_reckons 106 = .ok (.getfield 132, 3) := by decide +kernel
theorem dyX12_reckons_109 : decode cX12_reckons 109 = .ok (.aload_n 0, 1) := by decide +kernel
theorem dyX12_reckons_110 : decode cX12_reckons 110 = .ok (.iload_n 3, 1) := by decide +kernel
theorem dyX12_reckons_111 : decode cX12_reckons 111 = .ok (.iconst 0, 1) := by decide +kernel
theorem dyX12_reckons_112 : decode cX12_reckons 112 = .ok (.invokevirtual 299, 3) := by decide +kernel
theorem dyX12_reckons_115 : decode cX12_reckons 115 = .ok (.iaload, 1) := by decide +kernel
theorem dyX12_reckons_116 : decode cX12_reckons 116 = .ok (.aload_n 0, 1) := by decide +kernel
theorem dyX12_reckons_117 : decode cX12_reckons 117 = .ok (.getfield 132, 3) := by decide +kernel
theorem dyX12_reckons_120 : decode cX12_reckons 120 = .ok (.aload_n 0, 1) := by decide +kernel
theorem dyX12_reckons_121 : decode cX12_reckons 121 = .ok (.iload_n 3, 1) := by decide +kernel
theorem dyX12_reckons_122 : decode cX12_reckons 122 = .ok (.iconst 2, 1) := by decide +kernel
theorem dyX12_reckons_123 : decode cX12_reckons 123 = .ok (.invokevirtual 299, 3) := by decide +kernel
theorem dyX12_reckons_126 : decode cX12_reckons 126 = .ok (.iaload, 1) := by decide +kernel
theorem dyX12_reckons_127 : decode cX12_reckons 127 = .ok (.imul, 1) := by decide +kernel
theorem dyX12_reckons_128 : decode cX12_reckons 128 = .ok (.iastore, 1) := by decide +kernel
theorem dyX12_reckons_129 : decode cX12_reckons 129 = .ok (.goto 93, 3) := by decide +kernel
theorem dyX12_reckons_132 : decode cX12_reckons 132 = .ok (.aload_n 0, 1) := by decide +kernel
theorem dyX12_reckons_133 : decode cX12_reckons 133 = .ok (.getfield 132, 3) := by decide +kernel
theorem dyX12_reckons_136 : decode cX12_reckons 136 = .ok (.iload_n 3, 1) := by decide +kernel
theorem dyX12_reckons_137 : decode cX12_reckons 137 = .ok (.aload_n 0, 1) := by decide +kernel
theorem dyX12_reckons_138 : decode cX12_reckons 138 = .ok (.getfield 132, 3) := by decide +kernel
theorem dyX12_reckons_141 : decode cX12_reckons 141 = .ok (.aload_n 0, 1) := by decide +kernel
theorem dyX12_reckons_142 : decode cX12_reckons 142 = .ok (.iload_n 3, 1) := by decide +kernel
theorem dyX12_reckons_143 : decode cX12_reckons 143 = .ok (.iconst 0, 1) := by decide +kernel
theorem dyX12_reckons_144 : decode cX12_reckons 144 = .ok (.invokevirtual 299, 3) := by decide +kernel
theorem dyX12_reckons_147 : decode cX12_reckons 147 = .ok (.iaload, 1) := by decide +kernel
theorem dyX12_reckons_148 : decode cX12_reckons 148 = .ok (.iastore, 1) := by decide +kernel
theorem dyX12_reckons_149 : decode cX12_reckons 149 = .ok (.goto 73, 3) := by decide +kernel
theorem dyX12_reckons_152 : decode cX12_reckons 152 = .ok (.aload_n 0, 1) := by decide +kernel
theorem dyX12_reckons_153 : decode cX12_reckons 153 = .ok (.getfield 132, 3) := by decide +kernel
theorem dyX12_reckons_156 : decode cX12_reckons 156 = .ok (.iload_n 3, 1) := by decide +kernel
theorem dyX12_reckons_157 : decode cX12_reckons 157 = .ok (.aload_n 0, 1) := by decide +kernel
theorem dyX12_reckons_158 : decode cX12_reckons 158 = .ok (.getfield 129, 3) := by decide +kernel
theorem dyX12_reckons_161 : decode cX12_reckons 161 = .ok (.aload_n 0, 1) := by decide +kernel
theorem dyX12_reckons_162 : decode cX12_reckons 162 = .ok (.aload_n 0, 1) := by decide +kernel
theorem dyX12_reckons_163 : decode cX12_reckons 163 = .ok (.getfield 68, 3) := by decide +kernel
theorem dyX12_reckons_166 : decode cX12_reckons 166 = .ok (.aload_n 0, 1) := by decide +kernel
theorem dyX12_reckons_167 : decode cX12_reckons 167 = .ok (.iload_n 3, 1) := by decide +kernel
theorem dyX12_reckons_168 : decode cX12_reckons 168 = .ok (.iconst 0, 1) := by decide +kernel
theorem dyX12_reckons_169 : decode cX12_reckons 169 = .ok (.invokevirtual 299, 3) := by decide +kernel
theorem dyX12_reckons_172 : decode cX12_reckons 172 = .ok (.laload, 1) := by decide +kernel
theorem dyX12_reckons_173 : decode cX12_reckons 173 = .ok (.invokevirtual 302, 3) := by decide +kernel
theorem dyX12_reckons_176 : decode cX12_reckons 176 = .ok (.iaload, 1) := by decide +kernel
theorem dyX12_reckons_177 : decode cX12_reckons 177 = .ok (.iastore, 1) := by decide +kernel
theorem dyX12_reckons_178 : decode cX12_reckons 178 = .ok (.goto 44, 3) := by decide +kernel
theorem dyX12_reckons_181 : decode cX12_reckons 181 = .ok (.aload_n 0, 1) := by decide +kernel
theorem dyX12_reckons_182 : decode cX12_reckons 182 = .ok (.getfield 132, 3) := by decide +kernel
theorem dyX12_reckons_185 : decode cX12_reckons 185 = .ok (.iload_n 3, 1) := by decide +kernel
theorem dyX12_reckons_186 : decode cX12_reckons 186 = .ok (.aload_n 0, 1) := by decide +kernel
theorem dyX12_reckons_187 : decode cX12_reckons 187 = .ok (.getfield 68, 3) := by decide +kernel
theorem dyX12_reckons_190 : decode cX12_reckons 190 = .ok (.aload_n 0, 1) := by decide +kernel
theorem dyX12_reckons_191 : decode cX12_reckons 191 = .ok (.iload_n 3, 1) := by decide +kernel
theorem dyX12_reckons_192 : decode cX12_reckons 192 = .ok (.iconst 0, 1) := by decide +kernel
theorem dyX12_reckons_193 : decode cX12_reckons 193 = .ok (.invokevirtual 299, 3) := by decide +kernel
theorem dyX12_reckons_196 : decode cX12_reckons 196 = .ok (.laload, 1) := by decide +kernel
theorem dyX12_reckons_197 : decode cX12_reckons 197 = .ok (.l2i, 1) := by decide +kernel
theorem dyX12_reckons_198 : decode cX12_reckons 198 = .ok (.iastore, 1) := by decide +kernel
theorem dyX12_reckons_199 : decode cX12_reckons 199 = .ok (.goto 23, 3) := by decide +kernel
theorem dyX12_reckons_202 : decode cX12_reckons 202 = .ok (.aload_n 0, 1) := by decide +kernel
theorem dyX12_reckons_203 : decode cX12_reckons 203 = .ok (.getfield 132, 3) := by decide +kernel
theorem dyX12_reckons_206 : decode cX12_reckons 206 = .ok (.iload_n 3, 1) := by decide +kernel
theorem dyX12_reckons_207 : decode cX12_reckons 207 = .ok (.aload_n 0, 1) := by decide +kernel
theorem dyX12_reckons_208 : decode cX12_reckons 208 = .ok (.getfield 132, 3) := by decide +kernel
theorem dyX12_reckons_211 : decode cX12_reckons 211 = .ok (.aload_n 0, 1) := by decide +kernel
theorem dyX12_reckons_212 : decode cX12_reckons 212 = .ok (.iload_n 3, 1) := by decide +kernel
theorem dyX12_reckons_213 : decode cX12_reckons 213 = .ok (.iconst 1, 1) := by decide +kernel
theorem dyX12_reckons_214 : decode cX12_reckons 214 = .ok (.invokevirtual 299, 3) := by decide +kernel
theorem dyX12_reckons_217 : decode cX12_reckons 217 = .ok (.iaload, 1) := by decide +kernel
theorem dyX12_reckons_218 : decode cX12_reckons 218 = .ok (.iastore, 1) := by decide +kernel
theorem dyX12_reckons_219 : decode cX12_reckons 219 = .ok (.goto 3, 3) := by decide +kernel
theorem dyX12_reckons_222 : decode cX12_reckons 222 = .ok (.iinc 2 (-1), 3) := by decide +kernel
theorem dyX12_reckons_225 : decode cX12_reckons 225 = .ok (.goto (-216), 3) := by decide +kernel
theorem dyX12_reckons_228 : decode cX12_reckons 228 = .ok (.return_, 1) := by decide +kernel
theorem zsg_yX12_reckons : yX12_reckons.cls = RX12 ∧ yX12_reckons.cls ≠ "java/lang/invoke/MethodHandle" ∧ yX12_reckons.cls ≠ "java/lang/invoke/VarHandle" ∧ (parseMethodDescriptor yX12_reckons.desc).map (fun d => d.parameters.length) = some 1 := by decide +kernel
set_option maxRecDepth 20000 in
theorem c_M_reckons {l : Launch} {D : va_G} {B : Nat} {cA : Nat → ClassId} {ad : Nat → Nat} {S : List zC} (hS : zOkM S) {a1 : Int32} {I : zI} {K : zI → Prop}  (h : w_M_reckons a1 I K) : Met l yX12_reckons (zws yX12_reckons cX12_reckons 4 none) (zrm 1 23) (zPc D B cA ad [.ref (B + 491), .int a1] S I) (zQc D B cA (zqV S K)) 0 0 (fun q => B ≤ q) := by
  refine zm_of (cc := cX12_reckons) (maxL := 4) (ret := none) (by decide +kernel) rfl (Nat.le_of_ble_eq_true rfl) trivial ?_
  intro p e s m args below meth c C _
  unfold w_M_reckons at h
  show zX p l e (zrm 1 23) s m args below meth c (MQ below (zQc D B cA (zqV S K)) args s 0 0 (fun q => B ≤ q)) D B cA 4 0 0 S I [(0, .ref (B + 491)), (1, .int a1)] [] 0
  refine zr_aload_n C dyX12_reckons_0 rfl 0 rfl ?_
  refine zg_12_102 C hS dyX12_reckons_1 ?_
  refine zr_iload_n C dyX12_reckons_4 rfl 1 rfl ?_
  refine zr_iald C (hS _ _ zs_522) h.1 dyX12_reckons_5 ?_
  replace h := h.2
  refine zr_iconst C dyX12_reckons_6 zc_i_1 ?_
  refine zr_isub C dyX12_reckons_7 ?_
  refine zn_istore_n C (fun v2_1 => [(2, .int v2_1), (0, .ref (B + 491)), (1, .int a1)]) dyX12_reckons_8 rfl (Nat.le_of_ble_eq_true rfl) (fun _ => rfl) (fun v2_1 ev2_1 => ?_)
  replace h := h v2_1 ev2_1
  refine zjn (h (fun (v2_2 : Int32) (I_3 : zI) => zX p l e (zrm 1 23) s m args below meth c (MQ below (zQc D B cA (zqV S K)) args s 0 0 (fun q => B ≤ q)) D B cA 4 0 0 S I_3 [(2, .int v2_2), (0, .ref (B + 491)), (1, .int a1)] [] 9) (fun v2_2 I_3 h => ?_)) (fun h => ?_)
  · refine zr_iload_n C dyX12_reckons_9 rfl 0 rfl ?_
    refine zr_iload_n C dyX12_reckons_10 rfl 2 rfl ?_
    refine zr_icmp_lt C dyX12_reckons_11 (tgt := 228) (by decide) (fun hc_31 => ?_) (fun hc_31 => ?_)
    · replace h := zif_pos hc_31 h
      exact zr_vret C rfl dyX12_reckons_228 ⟨rfl, rfl, h⟩
    · replace h := zif_neg hc_31 h
      refine zr_aload_n C dyX12_reckons_14 rfl 1 rfl ?_
      refine zg_12_99 C hS dyX12_reckons_15 ?_
      refine zr_iload_n C dyX12_reckons_18 rfl 0 rfl ?_
      refine zr_iald C (hS _ _ zs_521) h.1 dyX12_reckons_19 ?_
      replace h := h.2
      refine zn_istore_n C (fun v3_4 => [(3, .int v3_4), (2, .int v2_2), (0, .ref (B + 491)), (1, .int a1)]) dyX12_reckons_20 rfl (Nat.le_of_ble_eq_true rfl) (fun _ => rfl) (fun v3_4 ev3_4 => ?_)
      replace h := h v3_4 ev3_4
      refine zr_aload_n C dyX12_reckons_21 rfl 2 rfl ?_
      refine zg_12_62 C hS dyX12_reckons_22 ?_
      refine zr_iload_n C dyX12_reckons_25 rfl 0 rfl ?_
      refine zr_iald C (hS _ _ zs_509) h.1 dyX12_reckons_26 ?_
      replace h := h.2
      refine zn_top C (fun x_5 ex_5 => ?_)
      replace h := h x_5 ex_5
      refine zjn (h (fun (I_6 : zI) => zX p l e (zrm 1 23) s m args below meth c (MQ below (zQc D B cA (zqV S K)) args s 0 0 (fun q => B ≤ q)) D B cA 4 0 0 S I_6 [(2, .int v2_2), (0, .ref (B + 491)), (1, .int a1)] [] 222) (fun I_6 h => ?_)) (fun h => ?_)
      · refine zn_iinc C (fun v2_7 => [(2, .int v2_7), (0, .ref (B + 491)), (1, .int a1)]) dyX12_reckons_222 0 rfl zc_i_m1 (Nat.le_of_ble_eq_true rfl) (fun _ => rfl) (fun v2_7 ev2_7 => ?_)
        replace h := h v2_7 ev2_7
        refine zr_goto C dyX12_reckons_225 (tgt := 9) (by decide) ?_
        exact h
      refine zjn (h (zX p l e (zrm 1 23) s m args below meth c (MQ below (zQc D B cA (zqV S K)) args s 0 0 (fun q => B ≤ q)) D B cA 4 0 0 S I_3 [(3, .int v3_4), (2, .int v2_2), (0, .ref (B + 491)), (1, .int a1)] [] 132) (fun  h => ?_)) (fun h => ?_)
      · refine zr_aload_n C dyX12_reckons_132 rfl 2 rfl ?_
        refine zg_12_132 C hS dyX12_reckons_133 ?_
        refine zr_iload_n C dyX12_reckons_136 rfl 0 rfl ?_
        refine zr_aload_n C dyX12_reckons_137 rfl 2 rfl ?_
        refine zg_12_132 C hS dyX12_reckons_138 ?_
        refine zr_aload_n C dyX12_reckons_141 rfl 2 rfl ?_
        refine zr_iload_n C dyX12_reckons_142 rfl 0 rfl ?_
        refine zr_iconst C dyX12_reckons_143 zc_i_0 ?_
        refine zv_12_299 C hS (st := [.ref (B + 532), .int v3_4, .ref (B + 532)]) h ⟨Nat.le_of_ble_eq_true rfl, Nat.le_of_ble_eq_true rfl⟩ (Nat.le_of_ble_eq_true rfl) dyX12_reckons_144 (fun r_8 h => ?_)
        refine zr_iald C (hS _ _ zs_532) h.1 dyX12_reckons_147 ?_
        replace h := h.2
        refine zr_iast C (hS _ _ zs_532) h.1 dyX12_reckons_148 ?_
        replace h := h.2
        refine zn_mem C (fun I_9 eI_9 => ?_)
        replace h := h I_9 eI_9
        refine zr_goto C dyX12_reckons_149 (tgt := 222) (by decide) ?_
        refine zr_sub (lv2 := [(2, .int v2_2), (0, .ref (B + 491)), (1, .int a1)]) [1, 2, 3] rfl ?_
        exact h
      by_cases hc_10 : x_5 = 4
      · replace h := zif_pos hc_10 h
        refine zr_tableIn C dyX12_reckons_27 (by rw [hc_10]; decide) (by rw [hc_10]; decide) (off := 41) (by rw [hc_10]; decide) (tgt := 68) (by decide) ?_
        refine zr_aload_n C dyX12_reckons_68 rfl 2 rfl ?_
        refine zg_12_132 C hS dyX12_reckons_69 ?_
        refine zr_iload_n C dyX12_reckons_72 rfl 0 rfl ?_
        refine zr_aload_n C dyX12_reckons_73 rfl 2 rfl ?_
        refine zg_12_132 C hS dyX12_reckons_74 ?_
        refine zr_aload_n C dyX12_reckons_77 rfl 2 rfl ?_
        refine zr_iload_n C dyX12_reckons_78 rfl 0 rfl ?_
        refine zr_iconst C dyX12_reckons_79 zc_i_0 ?_
        refine zv_12_299 C hS (st := [.ref (B + 532), .int v3_4, .ref (B + 532)]) h ⟨Nat.le_of_ble_eq_true rfl, Nat.le_of_ble_eq_true rfl⟩ (Nat.le_of_ble_eq_true rfl) dyX12_reckons_80 (fun r_11 h => ?_)
        refine zr_iald C (hS _ _ zs_532) h.1 dyX12_reckons_83 ?_
        replace h := h.2
        refine zr_aload_n C dyX12_reckons_84 rfl 2 rfl ?_
        refine zg_12_132 C hS dyX12_reckons_85 ?_
        refine zr_aload_n C dyX12_reckons_88 rfl 2 rfl ?_
        refine zr_iload_n C dyX12_reckons_89 rfl 0 rfl ?_
        refine zr_iconst C dyX12_reckons_90 zc_i_2 ?_
        refine zv_12_299 C hS (st := [.ref (B + 532), .int (I_3.1 532 (Int32.toNatClampNeg r_11)), .int v3_4, .ref (B + 532)]) h ⟨Nat.le_of_ble_eq_true rfl, Nat.le_of_ble_eq_true rfl⟩ (Nat.le_of_ble_eq_true rfl) dyX12_reckons_91 (fun r_12 h => ?_)
        refine zr_iald C (hS _ _ zs_532) h.1 dyX12_reckons_94 ?_
        replace h := h.2
        refine zr_iadd C dyX12_reckons_95 ?_
        refine zr_iast C (hS _ _ zs_532) h.1 dyX12_reckons_96 ?_
        replace h := h.2
        refine zn_mem C (fun I_13 eI_13 => ?_)
        replace h := h I_13 eI_13
        refine zr_goto C dyX12_reckons_97 (tgt := 222) (by decide) ?_
        refine zr_sub (lv2 := [(2, .int v2_2), (0, .ref (B + 491)), (1, .int a1)]) [1, 2, 3] rfl ?_
        exact h
      replace h := zif_neg hc_10 h
      by_cases hc_14 : x_5 = 5
      · replace h := zif_pos hc_14 h
        refine zr_tableIn C dyX12_reckons_27 (by rw [hc_14]; decide) (by rw [hc_14]; decide) (off := 105) (by rw [hc_14]; decide) (tgt := 132) (by decide) ?_
        exact h
      replace h := zif_neg hc_14 h
      by_cases hc_15 : x_5 = 6
      · replace h := zif_pos hc_15 h
        refine zr_tableIn C dyX12_reckons_27 (by rw [hc_15]; decide) (by rw [hc_15]; decide) (off := 73) (by rw [hc_15]; decide) (tgt := 100) (by decide) ?_
        refine zr_aload_n C dyX12_reckons_100 rfl 2 rfl ?_
        refine zg_12_132 C hS dyX12_reckons_101 ?_
        refine zr_iload_n C dyX12_reckons_104 rfl 0 rfl ?_
        refine zr_aload_n C dyX12_reckons_105 rfl 2 rfl ?_
        refine zg_12_132 C hS dyX12_reckons_106 ?_
        refine zr_aload_n C dyX12_reckons_109 rfl 2 rfl ?_
        refine zr_iload_n C dyX12_reckons_110 rfl 0 rfl ?_
        refine zr_iconst C dyX12_reckons_111 zc_i_0 ?_
        refine zv_12_299 C hS (st := [.ref (B + 532), .int v3_4, .ref (B + 532)]) h ⟨Nat.le_of_ble_eq_true rfl, Nat.le_of_ble_eq_true rfl⟩ (Nat.le_of_ble_eq_true rfl) dyX12_reckons_112 (fun r_16 h => ?_)
        refine zr_iald C (hS _ _ zs_532) h.1 dyX12_reckons_115 ?_
        replace h := h.2
        refine zr_aload_n C dyX12_reckons_116 rfl 2 rfl ?_
        refine zg_12_132 C hS dyX12_reckons_117 ?_
        refine zr_aload_n C dyX12_reckons_120 rfl 2 rfl ?_
        refine zr_iload_n C dyX12_reckons_121 rfl 0 rfl ?_
        refine zr_iconst C dyX12_reckons_122 zc_i_2 ?_
        refine zv_12_299 C hS (st := [.ref (B + 532), .int (I_3.1 532 (Int32.toNatClampNeg r_16)), .int v3_4, .ref (B + 532)]) h ⟨Nat.le_of_ble_eq_true rfl, Nat.le_of_ble_eq_true rfl⟩ (Nat.le_of_ble_eq_true rfl) dyX12_reckons_123 (fun r_17 h => ?_)
        refine zr_iald C (hS _ _ zs_532) h.1 dyX12_reckons_126 ?_
        replace h := h.2
        refine zr_imul C dyX12_reckons_127 ?_
        refine zr_iast C (hS _ _ zs_532) h.1 dyX12_reckons_128 ?_
        replace h := h.2
        refine zn_mem C (fun I_18 eI_18 => ?_)
        replace h := h I_18 eI_18
        refine zr_goto C dyX12_reckons_129 (tgt := 222) (by decide) ?_
        refine zr_sub (lv2 := [(2, .int v2_2), (0, .ref (B + 491)), (1, .int a1)]) [1, 2, 3] rfl ?_
        exact h
      replace h := zif_neg hc_15 h
      by_cases hc_19 : x_5 = 7
      · replace h := zif_pos hc_19 h
        refine zr_tableIn C dyX12_reckons_27 (by rw [hc_19]; decide) (by rw [hc_19]; decide) (off := 105) (by rw [hc_19]; decide) (tgt := 132) (by decide) ?_
        exact h
      replace h := zif_neg hc_19 h
      by_cases hc_20 : x_5 = 8
      · replace h := zif_pos hc_20 h
        refine zr_tableIn C dyX12_reckons_27 (by rw [hc_20]; decide) (by rw [hc_20]; decide) (off := 125) (by rw [hc_20]; decide) (tgt := 152) (by decide) ?_
        refine zr_aload_n C dyX12_reckons_152 rfl 2 rfl ?_
        refine zg_12_132 C hS dyX12_reckons_153 ?_
        refine zr_iload_n C dyX12_reckons_156 rfl 0 rfl ?_
        refine zr_aload_n C dyX12_reckons_157 rfl 2 rfl ?_
        refine zg_12_129 C hS dyX12_reckons_158 ?_
        refine zr_aload_n C dyX12_reckons_161 rfl 2 rfl ?_
        refine zr_aload_n C dyX12_reckons_162 rfl 2 rfl ?_
        refine zg_12_68 C hS dyX12_reckons_163 ?_
        refine zr_aload_n C dyX12_reckons_166 rfl 2 rfl ?_
        refine zr_iload_n C dyX12_reckons_167 rfl 0 rfl ?_
        refine zr_iconst C dyX12_reckons_168 zc_i_0 ?_
        refine zv_12_299 C hS (st := [.ref (B + 511), .ref (B + 491), .ref (B + 531), .int v3_4, .ref (B + 532)]) h ⟨Nat.le_of_ble_eq_true rfl, Nat.le_of_ble_eq_true rfl⟩ (Nat.le_of_ble_eq_true rfl) dyX12_reckons_169 (fun r_21 h => ?_)
        refine zr_lald C (hS _ _ zs_511) h.1 dyX12_reckons_172 ?_
        replace h := h.2
        refine zv_12_302 C hS (st := [.ref (B + 531), .int v3_4, .ref (B + 532)]) h ⟨Nat.le_of_ble_eq_true rfl, Nat.le_of_ble_eq_true rfl⟩ (Nat.le_of_ble_eq_true rfl) dyX12_reckons_173 (fun r_22 I_23 h => ?_)
        refine zr_iald C (hS _ _ zs_531) h.1 dyX12_reckons_176 ?_
        replace h := h.2
        refine zr_iast C (hS _ _ zs_532) h.1 dyX12_reckons_177 ?_
        replace h := h.2
        refine zn_mem C (fun I_24 eI_24 => ?_)
        replace h := h I_24 eI_24
        refine zr_goto C dyX12_reckons_178 (tgt := 222) (by decide) ?_
        refine zr_sub (lv2 := [(2, .int v2_2), (0, .ref (B + 491)), (1, .int a1)]) [1, 2, 3] rfl ?_
        exact h
      replace h := zif_neg hc_20 h
      by_cases hc_25 : x_5 = 9
      · replace h := zif_pos hc_25 h
        refine zr_tableIn C dyX12_reckons_27 (by rw [hc_25]; decide) (by rw [hc_25]; decide) (off := 154) (by rw [hc_25]; decide) (tgt := 181) (by decide) ?_
        refine zr_aload_n C dyX12_reckons_181 rfl 2 rfl ?_
        refine zg_12_132 C hS dyX12_reckons_182 ?_
        refine zr_iload_n C dyX12_reckons_185 rfl 0 rfl ?_
        refine zr_aload_n C dyX12_reckons_186 rfl 2 rfl ?_
        refine zg_12_68 C hS dyX12_reckons_187 ?_
        refine zr_aload_n C dyX12_reckons_190 rfl 2 rfl ?_
        refine zr_iload_n C dyX12_reckons_191 rfl 0 rfl ?_
        refine zr_iconst C dyX12_reckons_192 zc_i_0 ?_
        refine zv_12_299 C hS (st := [.ref (B + 511), .int v3_4, .ref (B + 532)]) h ⟨Nat.le_of_ble_eq_true rfl, Nat.le_of_ble_eq_true rfl⟩ (Nat.le_of_ble_eq_true rfl) dyX12_reckons_193 (fun r_26 h => ?_)
        refine zr_lald C (hS _ _ zs_511) h.1 dyX12_reckons_196 ?_
        replace h := h.2
        refine zr_l2i C dyX12_reckons_197 ?_
        refine zr_iast C (hS _ _ zs_532) h.1 dyX12_reckons_198 ?_
        replace h := h.2
        refine zn_mem C (fun I_27 eI_27 => ?_)
        replace h := h I_27 eI_27
        refine zr_goto C dyX12_reckons_199 (tgt := 222) (by decide) ?_
        refine zr_sub (lv2 := [(2, .int v2_2), (0, .ref (B + 491)), (1, .int a1)]) [1, 2, 3] rfl ?_
        exact h
      replace h := zif_neg hc_25 h
      by_cases hc_28 : x_5 = 10
      · replace h := zif_pos hc_28 h
        refine zr_tableIn C dyX12_reckons_27 (by rw [hc_28]; decide) (by rw [hc_28]; decide) (off := 175) (by rw [hc_28]; decide) (tgt := 202) (by decide) ?_
        refine zr_aload_n C dyX12_reckons_202 rfl 2 rfl ?_
        refine zg_12_132 C hS dyX12_reckons_203 ?_
        refine zr_iload_n C dyX12_reckons_206 rfl 0 rfl ?_
        refine zr_aload_n C dyX12_reckons_207 rfl 2 rfl ?_
        refine zg_12_132 C hS dyX12_reckons_208 ?_
        refine zr_aload_n C dyX12_reckons_211 rfl 2 rfl ?_
        refine zr_iload_n C dyX12_reckons_212 rfl 0 rfl ?_
        refine zr_iconst C dyX12_reckons_213 zc_i_1 ?_
        refine zv_12_299 C hS (st := [.ref (B + 532), .int v3_4, .ref (B + 532)]) h ⟨Nat.le_of_ble_eq_true rfl, Nat.le_of_ble_eq_true rfl⟩ (Nat.le_of_ble_eq_true rfl) dyX12_reckons_214 (fun r_29 h => ?_)
        refine zr_iald C (hS _ _ zs_532) h.1 dyX12_reckons_217 ?_
        replace h := h.2
        refine zr_iast C (hS _ _ zs_532) h.1 dyX12_reckons_218 ?_
        replace h := h.2
        refine zn_mem C (fun I_30 eI_30 => ?_)
        replace h := h I_30 eI_30
        refine zr_goto C dyX12_reckons_219 (tgt := 222) (by decide) ?_
        refine zr_sub (lv2 := [(2, .int v2_2), (0, .ref (B + 491)), (1, .int a1)]) [1, 2, 3] rfl ?_
        exact h
      replace h := zif_neg hc_28 h
      refine zr_tableOut C dyX12_reckons_27 (ztab_out (fun i h1 h2 => ?_)) (tgt := 222) (by decide) ?_
      · rcases (by omega : i = 4 ∨ i = 5 ∨ i = 6 ∨ i = 7 ∨ i = 8 ∨ i = 9 ∨ i = 10) with rfl | rfl | rfl | rfl | rfl | rfl | rfl
        · exact hc_10
        · exact hc_14
        · exact hc_15
        · exact hc_19
        · exact hc_20
        · exact hc_25
        · exact hc_28
      refine zr_sub (lv2 := [(2, .int v2_2), (0, .ref (B + 491)), (1, .int a1)]) [1, 2, 3] rfl ?_
      exact h
  exact h
theorem zg_12_90 {p : Program} {l : Launch} {e : Env} {R : Room} {s : State} {m : MethodId} {args : Array Value} {below : List Frame} {meth : Method} {c : Code} {Q : State → Prop} {D : va_G} {B : Nat} {cA : Nat → ClassId} {ad : Nat → Nat} {cc : ByteArray} {nL : Nat} {ret : Option FieldType} {S : List zC} {I : zI} {lv : List (Nat × Value)} {st : List Value} {pc : Nat} (C : zCx p s m args meth c cc nL RX12 ret D B cA ad) (hS : zOkM S) (hd : decode cc pc = .ok (.getfield 90, 3)) (kk : zX p l e R s m args below meth c Q D B cA nL 0 0 S I lv (.ref (B + 518) :: st) (pc + 3)) : zX p l e R s m args below meth c Q D B cA nL 0 0 S I lv (.ref (B + 491) :: st) pc :=
  zr_getr C (ci := 12) (Cn := RX12) (T := TX12) (N := 82) (k := 491) (j := 35) (fs := [none, some (some 492), some (some 493), none, some (some 494), none, some (some 495), none, none, none, some (some 496), some (some 497), some (some 498), some (some 499), some (some 500), none, some (some 501), some (some 502), some (some 503), none, some (some 504), some (some 505), some (some 506), some (some 507), some (some 508), none, some (some 509), some (some 510), some (some 511), some (some 512), some (some 513), some (some 514), some (some 515), some (some 516), some (some 517), some (some 518), none, none, some (some 519), none, some (some 520), none, none, none, some (some 521), some (some 522), some (some 523), some (some 524), some (some 525), some (some 526), some (some 527), none, some (some 528), none, some (some 529), none, some (some 530), some (some 531), some (some 532), none, some (some 533), some (some 534), some (some 535), some (some 536), some (some 537), none, none, none, some (some 538), some (some 539), some (some 540), none, none, none, some (some 541), none, none, some (some 542), some (some 543), some (some 544), none, some (some 545)]) rfl zin_12 (Nat.le_of_ble_eq_true rfl) rfl (hS _ _ zs_491) rfl zk_fl_12_90 hd kk
def w_M_reads (a1 : Int32) (I : zI) (K : Int32 → zI → Prop) : Prop :=
  w_M_childOf a1 2 I (fun r_1 => vp_in r_1 3700 ∧ (∀ v2_2, v2_2 = (I.1 523 (Int32.toNatClampNeg r_1)) → vp_in a1 3700 ∧ (∀ (P29 : Int32 → Prop), (∀ (t_3 : Int32), (∀ (P34 : Int32 → Int32 → Int32 → zI → Prop), (∀ (v3_4 : Int32) (v4_5 : Int32) (v5_6 : Int32) (I_7 : zI), (vp_in v2_2 700 ∧ (if (I_7.1 522 (Int32.toNatClampNeg v2_2)) ≤ v5_6 then (vp_in a1 3700 ∧ (∀ I_8, I_8 = (zu I_7 517 (Int32.toNatClampNeg a1) v3_4) → K v4_5 I_8)) else (vp_in v5_6 700 ∧ (∀ v6_9, v6_9 = (I_7.1 521 (Int32.toNatClampNeg v5_6)) → vp_in v6_9 3700 ∧ (∀ (P137 : Int32 → Int32 → zI → Prop), (∀ (v3_10 : Int32) (v4_11 : Int32) (I_12 : zI), (∀ v5_13, v5_13 = (v5_6 + 1) → P34 v3_10 v4_11 v5_13 I_12) → P137 v3_10 v4_11 I_12) → (if (I_7.1 509 (Int32.toNatClampNeg v6_9)) = 8 then (w_M_childOf v6_9 0 I_7 (fun r_14 => vp_in r_14 3700 ∧ (w_M_nameOf (I_7.2 511 (Int32.toNatClampNeg r_14)) I_7 (fun r_15 I_16 => vp_in r_15 60 ∧ (∀ v7_17, v7_17 = (I_16.1 531 (Int32.toNatClampNeg r_15)) → vp_in a1 3700 ∧ (∀ (P121 : Int32 → Prop), (∀ (v4_18 : Int32), (vp_in ((50 * a1) + v3_4) 185000 ∧ (∀ I_19, I_19 = (zu I_16 518 (Int32.toNatClampNeg ((50 * a1) + v3_4)) v7_17) → ∀ v3_20, v3_20 = (v3_4 + 1) → P137 v3_20 v4_18 I_19)) → P121 v4_18) → (if (I_16.1 517 (Int32.toNatClampNeg a1)) = (-1) then P121 v4_5 else (vp_in ((50 * a1) + v3_4) 185000 ∧ (if (I_16.1 518 (Int32.toNatClampNeg ((50 * a1) + v3_4))) = v7_17 then P121 v4_5 else P121 1))))))))) else P137 v3_4 v4_5 I_7)))))) → P34 v3_4 v4_5 v5_6 I_7) → P34 0 t_3 v2_2 I) → P29 t_3) → (if (I.1 517 (Int32.toNatClampNeg a1)) = (-1) then P29 1 else P29 0))))
theorem dyX12_reads_0 : decode cX12_reads 0 = .ok (.aload_n 0, 1) := by decide +kernel
theorem dyX12_reads_1 : decode cX12_reads 1 = .ok (.getfield 105, 3) := by decide +kernel
theorem dyX12_reads_4 : decode cX12_reads 4 = .ok (.aload_n 0, 1) := by decide +kernel
theorem dyX12_reads_5 : decode cX12_reads 5 = .ok (.iload_n 1, 1) := by decide +kernel
theorem dyX12_reads_6 : decode cX12_reads 6 = .ok (.iconst 2, 1) := by decide +kernel
theorem dyX12_reads_7 : decode cX12_reads 7 = .ok (.invokevirtual 299, 3) := by decide +kernel
theorem dyX12_reads_10 : decode cX12_reads 10 = .ok (.iaload, 1) := by decide +kernel
theorem dyX12_reads_11 : decode cX12_reads 11 = .ok (.istore_n 2, 1) := by decide +kernel
theorem dyX12_reads_12 : decode cX12_reads 12 = .ok (.iconst 0, 1) := by decide +kernel
theorem dyX12_reads_13 : decode cX12_reads 13 = .ok (.istore_n 3, 1) := by decide +kernel
theorem dyX12_reads_14 : decode cX12_reads 14 = .ok (.aload_n 0, 1) := by decide +kernel
theorem dyX12_reads_15 : decode cX12_reads 15 = .ok (.getfield 86, 3) := by decide +kernel
theorem dyX12_reads_18 : decode cX12_reads 18 = .ok (.iload_n 1, 1) := by decide +kernel
theorem dyX12_reads_19 : decode cX12_reads 19 = .ok (.iaload, 1) := by decide +kernel
theorem dyX12_reads_20 : decode cX12_reads 20 = .ok (.iconst (-1), 1) := by decide +kernel
theorem dyX12_reads_21 : decode cX12_reads 21 = .ok (.if_icmp .ne 7, 3) := by decide +kernel
theorem dyX12_reads_24 : decode cX12_reads 24 = .ok (.iconst 1, 1) := by decide +kernel
theorem dyX12_reads_25 : decode cX12_reads 25 = .ok (.goto 4, 3) := by decide +kernel
theorem dyX12_reads_28 : decode cX12_reads 28 = .ok (.iconst 0, 1) := by decide +kernel
theorem dyX12_reads_29 : decode cX12_reads 29 = .ok (.istore 4, 2) := by decide +kernel
theorem dyX12_reads_31 : decode cX12_reads 31 = .ok (.iload_n 2, 1) := by decide +kernel
theorem dyX12_reads_32 : decode cX12_reads 32 = .ok (.istore 5, 2) := by decide +kernel
theorem dyX12_reads_34 : decode cX12_reads 34 = .ok (.iload 5, 2) := by decide +kernel
theorem dyX12_reads_36 : decode cX12_reads 36 = .ok (.aload_n 0, 1) := by decide +kernel
theorem dyX12_reads_37 : decode cX12_reads 37 = .ok (.getfield 102, 3) := by decide +kernel
theorem dyX12_reads_40 : decode cX12_reads 40 = .ok (.iload_n 2, 1) := by decide +kernel
theorem dyX12_reads_41 : decode cX12_reads 41 = .ok (.iaload, 1) := by decide +kernel
theorem dyX12_reads_42 : decode cX12_reads 42 = .ok (.if_icmp .ge 101, 3) := by decide +kernel
theorem dyX12_reads_45 : decode cX12_reads 45 = .ok (.aload_n 0, 1) := by decide +kernel
theorem dyX12_reads_46 : decode cX12_reads 46 = .ok (.getfield 99, 3) := by decide +kernel
theorem dyX12_reads_49 : decode cX12_reads 49 = .ok (.iload 5, 2) := by decide +kernel
theorem dyX12_reads_51 : decode cX12_reads 51 = .ok (.iaload, 1) := by decide +kernel
theorem dyX12_reads_52 : decode cX12_reads 52 = .ok (.istore 6, 2) := by decide +kernel
theorem dyX12_reads_54 : decode cX12_reads 54 = .ok (.aload_n 0, 1) := by decide +kernel
theorem dyX12_reads_55 : decode cX12_reads 55 = .ok (.getfield 62, 3) := by decide +kernel
theorem dyX12_reads_58 : decode cX12_reads 58 = .ok (.iload 6, 2) := by decide +kernel
theorem dyX12_reads_60 : decode cX12_reads 60 = .ok (.iaload, 1) := by decide +kernel
theorem dyX12_reads_61 : decode cX12_reads 61 = .ok (.bipush 8, 2) := by decide +kernel
theorem dyX12_reads_63 : decode cX12_reads 63 = .ok (.if_icmp .eq 6, 3) := by decide +kernel
theorem dyX12_reads_66 : decode cX12_reads 66 = .ok (.goto 71, 3) := by decide +kernel
theorem dyX12_reads_69 : decode cX12_reads 69 = .ok (.aload_n 0, 1) := by decide +kernel
theorem dyX12_reads_70 : decode cX12_reads 70 = .ok (.getfield 129, 3) := by decide +kernel
theorem dyX12_reads_73 : decode cX12_reads 73 = .ok (.aload_n 0, 1) := by decide +kernel
theorem dyX12_reads_74 : decode cX12_reads 74 = .ok (.aload_n 0, 1) := by decide +kernel
theorem dyX12_reads_75 : decode cX12_reads 75 = .ok (.getfield 68, 3) := by decide +kernel
theorem dyX12_reads_78 : decode cX12_reads 78 = .ok (.aload_n 0, 1) := by decide +kernel
theorem dyX12_reads_79 : decode cX12_reads 79 = .ok (.iload 6, 2) := by decide +kernel
theorem dyX12_reads_81 : decode cX12_reads 81 = .ok (.iconst 0, 1) := by decide +kernel
theorem dyX12_reads_82 : decode cX12_reads 82 = .ok (.invokevirtual 299, 3) := by decide +kernel
theorem dyX12_reads_85 : decode cX12_reads 85 = .ok (.laload, 1) := by decide +kernel
theorem dyX12_reads_86 : decode cX12_reads 86 = .ok (.invokevirtual 302, 3) := by decide +kernel
theorem dyX12_reads_89 : decode cX12_reads 89 = .ok (.iaload, 1) := by decide +kernel
theorem dyX12_reads_90 : decode cX12_reads 90 = .ok (.istore 7, 2) := by decide +kernel
theorem dyX12_reads_92 : decode cX12_reads 92 = .ok (.aload_n 0, 1) := by decide +kernel
theorem dyX12_reads_93 : decode cX12_reads 93 = .ok (.getfield 86, 3) := by decide +kernel
theorem dyX12_reads_96 : decode cX12_reads 96 = .ok (.iload_n 1, 1) := by decide +kernel
theorem dyX12_reads_97 : decode cX12_reads 97 = .ok (.iaload, 1) := by decide +kernel
theorem dyX12_reads_98 : decode cX12_reads 98 = .ok (.iconst (-1), 1) := by decide +kernel
theorem dyX12_reads_99 : decode cX12_reads 99 = .ok (.if_icmp .eq 22, 3) := by decide +kernel
theorem dyX12_reads_102 : decode cX12_reads 102 = .ok (.aload_n 0, 1) := by decide +kernel
theorem dyX12_reads_103 : decode cX12_reads 103 = .ok (.getfield 90, 3) := by decide +kernel
theorem dyX12_reads_106 : decode cX12_reads 106 = .ok (.bipush 50, 2) := by decide +kernel
theorem dyX12_reads_108 : decode cX12_reads 108 = .ok (.iload_n 1, 1) := by decide +kernel
theorem dyX12_reads_109 : decode cX12_reads 109 = .ok (.imul, 1) := by decide +kernel
theorem dyX12_reads_110 : decode cX12_reads 110 = .ok (.iload_n 3, 1) := by decide +kernel
theorem dyX12_reads_111 : decode cX12_reads 111 = .ok (.iadd, 1) := by decide +kernel
theorem dyX12_reads_112 : decode cX12_reads 112 = .ok (.iaload, 1) := by decide +kernel
theorem dyX12_reads_113 : decode cX12_reads 113 = .ok (.iload 7, 2) := by decide +kernel
theorem dyX12_reads_115 : decode cX12_reads 115 = .ok (.if_icmp .eq 6, 3) := by decide +kernel
theorem dyX12_reads_118 : decode cX12_reads 118 = .ok (.iconst 1, 1) := by decide +kernel
theorem dyX12_reads_119 : decode cX12_reads 119 = .ok (.istore 4, 2) := by decide +kernel
theorem dyX12_reads_121 : decode cX12_reads 121 = .ok (.aload_n 0, 1) := by decide +kernel
theorem dyX12_reads_122 : decode cX12_reads 122 = .ok (.getfield 90, 3) := by decide +kernel
theorem dyX12_reads_125 : decode cX12_reads 125 = .ok (.bipush 50, 2) := by decide +kernel
theorem dyX12_reads_127 : decode cX12_reads 127 = .ok (.iload_n 1, 1) := by decide +kernel
theorem dyX12_reads_128 : decode cX12_reads 128 = .ok (.imul, 1) := by decide +kernel
theorem dyX12_reads_129 : decode cX12_reads 129 = .ok (.iload_n 3, 1) := by decide +kernel
theorem dyX12_reads_130 : decode cX12_reads 130 = .ok (.iadd, 1) := by decide +kernel
theorem dyX12_reads_131 : decode cX12_reads 131 = .ok (.iload 7, 2) := by decide +kernel
theorem dyX12_reads_133 : decode cX12_reads 133 = .ok (.iastore, 1) := by decide +kernel
theorem dyX12_reads_134 : decode cX12_reads 134 = .ok (.iinc 3 1, 3) := by decide +kernel
theorem dyX12_reads_137 : decode cX12_reads 137 = .ok (.iinc 5 1, 3) := by decide +kernel
theorem dyX12_reads_140 : decode cX12_reads 140 = .ok (.goto (-106), 3) := by decide +kernel
theorem dyX12_reads_143 : decode cX12_reads 143 = .ok (.aload_n 0, 1) := by decide +kernel
theorem dyX12_reads_144 : decode cX12_reads 144 = .ok (.getfield 86, 3) := by decide +kernel
theorem dyX12_reads_147 : decode cX12_reads 147 = .ok (.iload_n 1, 1) := by decide +kernel
theorem dyX12_reads_148 : decode cX12_reads 148 = .ok (.iload_n 3, 1) := by decide +kernel
theorem dyX12_reads_149 : decode cX12_reads 149 = .ok (.iastore, 1) := by decide +kernel
theorem dyX12_reads_150 : decode cX12_reads 150 = .ok (.iload 4, 2) := by decide +kernel
theorem dyX12_reads_152 : decode cX12_reads 152 = .ok (.ireturn, 1) := by decide +kernel
theorem zsg_yX12_reads : yX12_reads.cls = RX12 ∧ yX12_reads.cls ≠ "java/lang/invoke/MethodHandle" ∧ yX12_reads.cls ≠ "java/lang/invoke/VarHandle" ∧ (parseMethodDescriptor yX12_reads.desc).map (fun d => d.parameters.length) = some 1 := by decide +kernel
set_option maxRecDepth 20000 in
theorem c_M_reads {l : Launch} {D : va_G} {B : Nat} {cA : Nat → ClassId} {ad : Nat → Nat} {S : List zC} (hS : zOkM S) {a1 : Int32} {I : zI} {K : Int32 → zI → Prop}  (h : w_M_reads a1 I K) : Met l yX12_reads (zws yX12_reads cX12_reads 8 (some .int)) (zrm 1 23) (zPc D B cA ad [.ref (B + 491), .int a1] S I) (zQc D B cA (zqI S K)) 0 0 (fun q => B ≤ q) := by
  refine zm_of (cc := cX12_reads) (maxL := 8) (ret := (some .int)) (by decide +kernel) rfl (Nat.le_of_ble_eq_true rfl) trivial ?_
  intro p e s m args below meth c C _
  unfold w_M_reads at h
  show zX p l e (zrm 1 23) s m args below meth c (MQ below (zQc D B cA (zqI S K)) args s 0 0 (fun q => B ≤ q)) D B cA 8 0 0 S I [(0, .ref (B + 491)), (1, .int a1)] [] 0
  refine zr_aload_n C dyX12_reads_0 rfl 0 rfl ?_
  refine zg_12_105 C hS dyX12_reads_1 ?_
  refine zr_aload_n C dyX12_reads_4 rfl 0 rfl ?_
  refine zr_iload_n C dyX12_reads_5 rfl 1 rfl ?_
  refine zr_iconst C dyX12_reads_6 zc_i_2 ?_
  refine zv_12_299 C hS (st := [.ref (B + 523)]) h ⟨Nat.le_of_ble_eq_true rfl, Nat.le_of_ble_eq_true rfl⟩ (Nat.le_of_ble_eq_true rfl) dyX12_reads_7 (fun r_1 h => ?_)
  refine zr_iald C (hS _ _ zs_523) h.1 dyX12_reads_10 ?_
  replace h := h.2
  refine zn_istore_n C (fun v2_2 => [(2, .int v2_2), (0, .ref (B + 491)), (1, .int a1)]) dyX12_reads_11 rfl (Nat.le_of_ble_eq_true rfl) (fun _ => rfl) (fun v2_2 ev2_2 => ?_)
  replace h := h v2_2 ev2_2
  refine zr_iconst C dyX12_reads_12 zc_i_0 ?_
  refine zr_istore_n C dyX12_reads_13 rfl (Nat.le_of_ble_eq_true rfl) (lv2 := [(3, .int 0), (2, .int v2_2), (0, .ref (B + 491)), (1, .int a1)]) rfl ?_
  refine zr_aload_n C dyX12_reads_14 rfl 2 rfl ?_
  refine zg_12_86 C hS dyX12_reads_15 ?_
  refine zr_iload_n C dyX12_reads_18 rfl 3 rfl ?_
  refine zr_iald C (hS _ _ zs_517) h.1 dyX12_reads_19 ?_
  replace h := h.2
  refine zr_iconst C dyX12_reads_20 zc_i_m1 ?_
  refine zjn (h (fun (t_3 : Int32) => zX p l e (zrm 1 23) s m args below meth c (MQ below (zQc D B cA (zqI S K)) args s 0 0 (fun q => B ≤ q)) D B cA 8 0 0 S I [(3, .int 0), (2, .int v2_2), (0, .ref (B + 491)), (1, .int a1)] [.int t_3] 29) (fun t_3 h => ?_)) (fun h => ?_)
  · refine zr_istore C dyX12_reads_29 (Nat.le_of_ble_eq_true rfl) (lv2 := [(4, .int t_3), (3, .int 0), (2, .int v2_2), (0, .ref (B + 491)), (1, .int a1)]) rfl ?_
    refine zr_iload_n C dyX12_reads_31 rfl 2 rfl ?_
    refine zr_istore C dyX12_reads_32 (Nat.le_of_ble_eq_true rfl) (lv2 := [(5, .int v2_2), (4, .int t_3), (3, .int 0), (2, .int v2_2), (0, .ref (B + 491)), (1, .int a1)]) rfl ?_
    refine zjn (h (fun (v3_4 : Int32) (v4_5 : Int32) (v5_6 : Int32) (I_7 : zI) => zX p l e (zrm 1 23) s m args below meth c (MQ below (zQc D B cA (zqI S K)) args s 0 0 (fun q => B ≤ q)) D B cA 8 0 0 S I_7 [(5, .int v5_6), (4, .int v4_5), (3, .int v3_4), (2, .int v2_2), (0, .ref (B + 491)), (1, .int a1)] [] 34) (fun v3_4 v4_5 v5_6 I_7 h => ?_)) (fun h => ?_)
    · refine zr_iload C dyX12_reads_34 0 rfl ?_
      refine zr_aload_n C dyX12_reads_36 rfl 4 rfl ?_
      refine zg_12_102 C hS dyX12_reads_37 ?_
      refine zr_iload_n C dyX12_reads_40 rfl 3 rfl ?_
      refine zr_iald C (hS _ _ zs_522) h.1 dyX12_reads_41 ?_
      replace h := h.2
      refine zr_icmp_ge C dyX12_reads_42 (tgt := 143) (by decide) (fun hc_24 => ?_) (fun hc_24 => ?_)
      · replace h := zif_pos hc_24 h
        refine zr_aload_n C dyX12_reads_143 rfl 4 rfl ?_
        refine zg_12_86 C hS dyX12_reads_144 ?_
        refine zr_iload_n C dyX12_reads_147 rfl 5 rfl ?_
        refine zr_iload_n C dyX12_reads_148 rfl 2 rfl ?_
        refine zr_iast C (hS _ _ zs_517) h.1 dyX12_reads_149 ?_
        replace h := h.2
        refine zn_mem C (fun I_8 eI_8 => ?_)
        replace h := h I_8 eI_8
        refine zr_iload C dyX12_reads_150 1 rfl ?_
        exact zr_iret C rfl dyX12_reads_152 ⟨rfl, _, rfl, h⟩
      · replace h := zif_neg hc_24 h
        refine zr_aload_n C dyX12_reads_45 rfl 4 rfl ?_
        refine zg_12_99 C hS dyX12_reads_46 ?_
        refine zr_iload C dyX12_reads_49 0 rfl ?_
        refine zr_iald C (hS _ _ zs_521) h.1 dyX12_reads_51 ?_
        replace h := h.2
        refine zn_istore C (fun v6_9 => [(6, .int v6_9), (5, .int v5_6), (4, .int v4_5), (3, .int v3_4), (2, .int v2_2), (0, .ref (B + 491)), (1, .int a1)]) dyX12_reads_52 (Nat.le_of_ble_eq_true rfl) (fun _ => rfl) (fun v6_9 ev6_9 => ?_)
        replace h := h v6_9 ev6_9
        refine zr_aload_n C dyX12_reads_54 rfl 5 rfl ?_
        refine zg_12_62 C hS dyX12_reads_55 ?_
        refine zr_iload C dyX12_reads_58 0 rfl ?_
        refine zr_iald C (hS _ _ zs_509) h.1 dyX12_reads_60 ?_
        replace h := h.2
        refine zr_bipush C dyX12_reads_61 zc_b_8 ?_
        refine zjn (h (fun (v3_10 : Int32) (v4_11 : Int32) (I_12 : zI) => zX p l e (zrm 1 23) s m args below meth c (MQ below (zQc D B cA (zqI S K)) args s 0 0 (fun q => B ≤ q)) D B cA 8 0 0 S I_12 [(5, .int v5_6), (4, .int v4_11), (3, .int v3_10), (2, .int v2_2), (0, .ref (B + 491)), (1, .int a1)] [] 137) (fun v3_10 v4_11 I_12 h => ?_)) (fun h => ?_)
        · refine zn_iinc C (fun v5_13 => [(5, .int v5_13), (4, .int v4_11), (3, .int v3_10), (2, .int v2_2), (0, .ref (B + 491)), (1, .int a1)]) dyX12_reads_137 0 rfl zc_i_1 (Nat.le_of_ble_eq_true rfl) (fun _ => rfl) (fun v5_13 ev5_13 => ?_)
          replace h := h v5_13 ev5_13
          refine zr_goto C dyX12_reads_140 (tgt := 34) (by decide) ?_
          exact h
        refine zr_icmp_eq C dyX12_reads_63 (tgt := 69) (by decide) (fun hc_23 => ?_) (fun hc_23 => ?_)
        · replace h := zif_pos hc_23 h
          refine zr_aload_n C dyX12_reads_69 rfl 5 rfl ?_
          refine zg_12_129 C hS dyX12_reads_70 ?_
          refine zr_aload_n C dyX12_reads_73 rfl 5 rfl ?_
          refine zr_aload_n C dyX12_reads_74 rfl 5 rfl ?_
          refine zg_12_68 C hS dyX12_reads_75 ?_
          refine zr_aload_n C dyX12_reads_78 rfl 5 rfl ?_
          refine zr_iload C dyX12_reads_79 0 rfl ?_
          refine zr_iconst C dyX12_reads_81 zc_i_0 ?_
          refine zv_12_299 C hS (st := [.ref (B + 511), .ref (B + 491), .ref (B + 531)]) h ⟨Nat.le_of_ble_eq_true rfl, Nat.le_of_ble_eq_true rfl⟩ (Nat.le_of_ble_eq_true rfl) dyX12_reads_82 (fun r_14 h => ?_)
          refine zr_lald C (hS _ _ zs_511) h.1 dyX12_reads_85 ?_
          replace h := h.2
          refine zv_12_302 C hS (st := [.ref (B + 531)]) h ⟨Nat.le_of_ble_eq_true rfl, Nat.le_of_ble_eq_true rfl⟩ (Nat.le_of_ble_eq_true rfl) dyX12_reads_86 (fun r_15 I_16 h => ?_)
          refine zr_iald C (hS _ _ zs_531) h.1 dyX12_reads_89 ?_
          replace h := h.2
          refine zn_istore C (fun v7_17 => [(7, .int v7_17), (6, .int v6_9), (5, .int v5_6), (4, .int v4_5), (3, .int v3_4), (2, .int v2_2), (0, .ref (B + 491)), (1, .int a1)]) dyX12_reads_90 (Nat.le_of_ble_eq_true rfl) (fun _ => rfl) (fun v7_17 ev7_17 => ?_)
          replace h := h v7_17 ev7_17
          refine zr_aload_n C dyX12_reads_92 rfl 6 rfl ?_
          refine zg_12_86 C hS dyX12_reads_93 ?_
          refine zr_iload_n C dyX12_reads_96 rfl 7 rfl ?_
          refine zr_iald C (hS _ _ zs_517) h.1 dyX12_reads_97 ?_
          replace h := h.2
          refine zr_iconst C dyX12_reads_98 zc_i_m1 ?_
          refine zjn (h (fun (v4_18 : Int32) => zX p l e (zrm 1 23) s m args below meth c (MQ below (zQc D B cA (zqI S K)) args s 0 0 (fun q => B ≤ q)) D B cA 8 0 0 S I_16 [(7, .int v7_17), (5, .int v5_6), (4, .int v4_18), (3, .int v3_4), (2, .int v2_2), (0, .ref (B + 491)), (1, .int a1)] [] 121) (fun v4_18 h => ?_)) (fun h => ?_)
          · refine zr_aload_n C dyX12_reads_121 rfl 5 rfl ?_
            refine zg_12_90 C hS dyX12_reads_122 ?_
            refine zr_bipush C dyX12_reads_125 zc_b_50 ?_
            refine zr_iload_n C dyX12_reads_127 rfl 6 rfl ?_
            refine zr_imul C dyX12_reads_128 ?_
            refine zr_iload_n C dyX12_reads_129 rfl 3 rfl ?_
            refine zr_iadd C dyX12_reads_130 ?_
            refine zr_iload C dyX12_reads_131 0 rfl ?_
            refine zr_iast C (hS _ _ zs_518) h.1 dyX12_reads_133 ?_
            replace h := h.2
            refine zn_mem C (fun I_19 eI_19 => ?_)
            replace h := h I_19 eI_19
            refine zn_iinc C (fun v3_20 => [(3, .int v3_20), (7, .int v7_17), (5, .int v5_6), (4, .int v4_18), (2, .int v2_2), (0, .ref (B + 491)), (1, .int a1)]) dyX12_reads_134 3 rfl zc_i_1 (Nat.le_of_ble_eq_true rfl) (fun _ => rfl) (fun v3_20 ev3_20 => ?_)
            replace h := h v3_20 ev3_20
            refine zr_sub (lv2 := [(5, .int v5_6), (4, .int v4_18), (3, .int v3_20), (2, .int v2_2), (0, .ref (B + 491)), (1, .int a1)]) [2, 3, 0, 4, 5, 6] rfl ?_
            exact h
          refine zr_icmp_eq C dyX12_reads_99 (tgt := 121) (by decide) (fun hc_22 => ?_) (fun hc_22 => ?_)
          · replace h := zif_pos hc_22 h
            refine zr_sub (lv2 := [(7, .int v7_17), (5, .int v5_6), (4, .int v4_5), (3, .int v3_4), (2, .int v2_2), (0, .ref (B + 491)), (1, .int a1)]) [0, 2, 3, 4, 5, 6, 7] rfl ?_
            exact h
          · replace h := zif_neg hc_22 h
            refine zr_aload_n C dyX12_reads_102 rfl 6 rfl ?_
            refine zg_12_90 C hS dyX12_reads_103 ?_
            refine zr_bipush C dyX12_reads_106 zc_b_50 ?_
            refine zr_iload_n C dyX12_reads_108 rfl 7 rfl ?_
            refine zr_imul C dyX12_reads_109 ?_
            refine zr_iload_n C dyX12_reads_110 rfl 4 rfl ?_
            refine zr_iadd C dyX12_reads_111 ?_
            refine zr_iald C (hS _ _ zs_518) h.1 dyX12_reads_112 ?_
            replace h := h.2
            refine zr_iload C dyX12_reads_113 0 rfl ?_
            refine zr_icmp_eq C dyX12_reads_115 (tgt := 121) (by decide) (fun hc_21 => ?_) (fun hc_21 => ?_)
            · replace h := zif_pos hc_21 h
              refine zr_sub (lv2 := [(7, .int v7_17), (5, .int v5_6), (4, .int v4_5), (3, .int v3_4), (2, .int v2_2), (0, .ref (B + 491)), (1, .int a1)]) [0, 2, 3, 4, 5, 6, 7] rfl ?_
              exact h
            · replace h := zif_neg hc_21 h
              refine zr_iconst C dyX12_reads_118 zc_i_1 ?_
              refine zr_istore C dyX12_reads_119 (Nat.le_of_ble_eq_true rfl) (lv2 := [(4, .int 1), (7, .int v7_17), (6, .int v6_9), (5, .int v5_6), (3, .int v3_4), (2, .int v2_2), (0, .ref (B + 491)), (1, .int a1)]) rfl ?_
              refine zr_sub (lv2 := [(7, .int v7_17), (5, .int v5_6), (4, .int 1), (3, .int v3_4), (2, .int v2_2), (0, .ref (B + 491)), (1, .int a1)]) [1, 3, 0, 4, 5, 6, 7] rfl ?_
              exact h
        · replace h := zif_neg hc_23 h
          refine zr_goto C dyX12_reads_66 (tgt := 137) (by decide) ?_
          refine zr_sub (lv2 := [(5, .int v5_6), (4, .int v4_5), (3, .int v3_4), (2, .int v2_2), (0, .ref (B + 491)), (1, .int a1)]) [1, 2, 3, 4, 5, 6] rfl ?_
          exact h
    exact h
  refine zr_icmp_ne C dyX12_reads_21 (tgt := 28) (by decide) (fun hc_25 => ?_) (fun hc_25 => ?_)
  · replace h := zif_neg hc_25 h
    refine zr_iconst C dyX12_reads_28 zc_i_0 ?_
    exact h
  · replace h := zif_pos hc_25 h
    refine zr_iconst C dyX12_reads_24 zc_i_1 ?_
    refine zr_goto C dyX12_reads_25 (tgt := 29) (by decide) ?_
    exact h
