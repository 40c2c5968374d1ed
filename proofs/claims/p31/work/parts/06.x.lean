theorem zg_2_52 {p : Program} {l : Launch} {e : Env} {R : Room} {s : State} {m : MethodId} {args : Array Value} {below : List Frame} {meth : Method} {c : Code} {Q : State → Prop} {D : va_G} {B : Nat} {cA : Nat → ClassId} {ad : Nat → Nat} {cc : ByteArray} {nL : Nat} {ret : Option FieldType} {S : List zC} {I : zI} {lv : List (Nat × Value)} {st : List Value} {pc : Nat} (C : zCx p s m args meth c cc nL RX2 ret D B cA ad) {k : Nat} (hk : zIsMoment S k) (hd : decode cc pc = .ok (.getfield 52, 3)) (kk : zX p l e R s m args below meth c Q D B cA nL 0 0 S I lv (.int (I.1 k 7) :: st) (pc + 3)) : zX p l e R s m args below meth c Q D B cA nL 0 0 S I lv (.ref (B + k) :: st) pc :=
  zr_geti C (ci := 2) (Cn := RX2) (T := TX2) (N := 9) (k := k) (j := 7) (fs := [some (some (k + 1)), none, some (some (k + 3)), none, some (some (k + 14)), some (some (k + 16)), none, none, none]) rfl zin_2 (Nat.le_of_ble_eq_true rfl) rfl hk.1 rfl zk_fl_2_52 hd kk
theorem zg_2_65 {p : Program} {l : Launch} {e : Env} {R : Room} {s : State} {m : MethodId} {args : Array Value} {below : List Frame} {meth : Method} {c : Code} {Q : State → Prop} {D : va_G} {B : Nat} {cA : Nat → ClassId} {ad : Nat → Nat} {cc : ByteArray} {nL : Nat} {ret : Option FieldType} {S : List zC} {I : zI} {lv : List (Nat × Value)} {st : List Value} {pc : Nat} (C : zCx p s m args meth c cc nL RX2 ret D B cA ad) {k : Nat} (hk : zIsMoment S k) (hd : decode cc pc = .ok (.getfield 65, 3)) (kk : zX p l e R s m args below meth c Q D B cA nL 0 0 S I lv (.int (I.1 k 8) :: st) (pc + 3)) : zX p l e R s m args below meth c Q D B cA nL 0 0 S I lv (.ref (B + k) :: st) pc :=
  zr_geti C (ci := 2) (Cn := RX2) (T := TX2) (N := 9) (k := k) (j := 8) (fs := [some (some (k + 1)), none, some (some (k + 3)), none, some (some (k + 14)), some (some (k + 16)), none, none, none]) rfl zin_2 (Nat.le_of_ble_eq_true rfl) rfl hk.1 rfl zk_fl_2_65 hd kk
theorem zp_2_65 {p : Program} {l : Launch} {e : Env} {R : Room} {s : State} {m : MethodId} {args : Array Value} {below : List Frame} {meth : Method} {c : Code} {Q : State → Prop} {D : va_G} {B : Nat} {cA : Nat → ClassId} {ad : Nat → Nat} {cc : ByteArray} {nL : Nat} {ret : Option FieldType} {S : List zC} {I : zI} {lv : List (Nat × Value)} {st : List Value} {pc : Nat} (C : zCx p s m args meth c cc nL RX2 ret D B cA ad) {k : Nat} (hk : zIsMoment S k) {v : Int32} (hd : decode cc pc = .ok (.putfield 65, 3)) (kk : zX p l e R s m args below meth c Q D B cA nL 0 0 S (zu I k 8 v) lv st (pc + 3)) : zX p l e R s m args below meth c Q D B cA nL 0 0 S I lv (.int v :: .ref (B + k) :: st) pc :=
  zr_puti C (ci := 2) (Cn := RX2) (T := TX2) (N := 9) (k := k) (j := 8) (fs := [some (some (k + 1)), none, some (some (k + 3)), none, some (some (k + 14)), some (some (k + 16)), none, none, none]) rfl zin_2 (Nat.le_of_ble_eq_true rfl) rfl hk.1 rfl tyX2 tyX2_ok nmX2 (ty := .int) zpd_I rfl rfl rfl zk_fl_2_65 hd kk
theorem zg_2_27 {p : Program} {l : Launch} {e : Env} {R : Room} {s : State} {m : MethodId} {args : Array Value} {below : List Frame} {meth : Method} {c : Code} {Q : State → Prop} {D : va_G} {B : Nat} {cA : Nat → ClassId} {ad : Nat → Nat} {cc : ByteArray} {nL : Nat} {ret : Option FieldType} {S : List zC} {I : zI} {lv : List (Nat × Value)} {st : List Value} {pc : Nat} (C : zCx p s m args meth c cc nL RX2 ret D B cA ad) {k : Nat} (hk : zIsMoment S k) (hd : decode cc pc = .ok (.getfield 27, 3)) (kk : zX p l e R s m args below meth c Q D B cA nL 0 0 S I lv (.ref (B + (k + 14)) :: st) (pc + 3)) : zX p l e R s m args below meth c Q D B cA nL 0 0 S I lv (.ref (B + k) :: st) pc :=
  zr_getr C (ci := 2) (Cn := RX2) (T := TX2) (N := 9) (k := k) (j := 4) (fs := [some (some (k + 1)), none, some (some (k + 3)), none, some (some (k + 14)), some (some (k + 16)), none, none, none]) rfl zin_2 (Nat.le_of_ble_eq_true rfl) rfl hk.1 rfl zk_fl_2_27 hd kk
def w_Moment_keepGood (k : Nat) (a1 : Nat) (I : zI) (K : zI → Prop) : Prop :=
  ∀ I_1, I_1 = (zu I k 3 0) → ∀ I_2, I_2 = (zu I_1 k 7 (I_1.1 a1 7)) → ∀ I_3, I_3 = (zu I_2 k 8 (I_2.1 a1 8)) → ∀ I_4, I_4 = (zu I_3 k 6 (I_3.1 a1 6)) → w_Row_copyFrom (k + 14) 100 (a1 + 14) 100 (I_4.1 k 6) I_4 (fun I_5 => w_Row_copyFrom (k + 16) 100 (a1 + 16) 100 (I_5.1 k 6) I_5 (fun I_6 => K I_6))
theorem dyX2_keepGood_0 : decode cX2_keepGood 0 = .ok (.aload_n 0, 1) := by decide +kernel
theorem dyX2_keepGood_1 : decode cX2_keepGood 1 = .ok (.iconst 0, 1) := by decide +kernel
theorem dyX2_keepGood_2 : decode cX2_keepGood 2 = .ok (.putfield 48, 3) := by decide +kernel
theorem dyX2_keepGood_5 : decode cX2_keepGood 5 = .ok (.aload_n 0, 1) := by decide +kernel
theorem dyX2_keepGood_6 : decode cX2_keepGood 6 = .ok (.aload_n 1, 1) := by decide +kernel
theorem dyX2_keepGood_7 : decode cX2_keepGood 7 = .ok (.getfield 52, 3) := by decide +kernel
theorem dyX2_keepGood_10 : decode cX2_keepGood 10 = .ok (.putfield 52, 3) := by decide +kernel
theorem dyX2_keepGood_13 : decode cX2_keepGood 13 = .ok (.aload_n 0, 1) := by decide +kernel
theorem dyX2_keepGood_14 : decode cX2_keepGood 14 = .ok (.aload_n 1, 1) := by decide +kernel
theorem dyX2_keepGood_15 : decode cX2_keepGood 15 = .ok (.getfield 65, 3) := by decide +kernel
theorem dyX2_keepGood_18 : decode cX2_keepGood 18 = .ok (.putfield 65, 3) := by decide +kernel
theorem dyX2_keepGood_21 : decode cX2_keepGood 21 = .ok (.aload_n 0, 1) := by decide +kernel
theorem dyX2_keepGood_22 : decode cX2_keepGood 22 = .ok (.aload_n 1, 1) := by decide +kernel
theorem dyX2_keepGood_23 : decode cX2_keepGood 23 = .ok (.getfield 33, 3) := by decide +kernel
theorem dyX2_keepGood_26 : decode cX2_keepGood 26 = .ok (.putfield 33, 3) := by decide +kernel
theorem dyX2_keepGood_29 : decode cX2_keepGood 29 = .ok (.aload_n 0, 1) := by decide +kernel
theorem dyX2_keepGood_30 : decode cX2_keepGood 30 = .ok (.getfield 27, 3) := by decide +kernel
theorem dyX2_keepGood_33 : decode cX2_keepGood 33 = .ok (.aload_n 1, 1) := by decide +kernel
theorem dyX2_keepGood_34 : decode cX2_keepGood 34 = .ok (.getfield 27, 3) := by decide +kernel
theorem dyX2_keepGood_37 : decode cX2_keepGood 37 = .ok (.aload_n 0, 1) := by decide +kernel
theorem dyX2_keepGood_38 : decode cX2_keepGood 38 = .ok (.getfield 33, 3) := by decide +kernel
theorem dyX2_keepGood_41 : decode cX2_keepGood 41 = .ok (.invokevirtual 61, 3) := by decide +kernel
theorem dyX2_keepGood_44 : decode cX2_keepGood 44 = .ok (.aload_n 0, 1) := by decide +kernel
theorem dyX2_keepGood_45 : decode cX2_keepGood 45 = .ok (.getfield 30, 3) := by decide +kernel
theorem dyX2_keepGood_48 : decode cX2_keepGood 48 = .ok (.aload_n 1, 1) := by decide +kernel
theorem dyX2_keepGood_49 : decode cX2_keepGood 49 = .ok (.getfield 30, 3) := by decide +kernel
theorem dyX2_keepGood_52 : decode cX2_keepGood 52 = .ok (.aload_n 0, 1) := by decide +kernel
theorem dyX2_keepGood_53 : decode cX2_keepGood 53 = .ok (.getfield 33, 3) := by decide +kernel
theorem dyX2_keepGood_56 : decode cX2_keepGood 56 = .ok (.invokevirtual 61, 3) := by decide +kernel
theorem dyX2_keepGood_59 : decode cX2_keepGood 59 = .ok (.return_, 1) := by decide +kernel
theorem zsg_yX2_keepGood : yX2_keepGood.cls = RX2 ∧ yX2_keepGood.cls ≠ "java/lang/invoke/MethodHandle" ∧ yX2_keepGood.cls ≠ "java/lang/invoke/VarHandle" ∧ (parseMethodDescriptor yX2_keepGood.desc).map (fun d => d.parameters.length) = some 1 := by decide +kernel
set_option maxRecDepth 20000 in
theorem c_Moment_keepGood {l : Launch} {D : va_G} {B : Nat} {cA : Nat → ClassId} {ad : Nat → Nat} {S : List zC} (hS : zOkX S) {k : Nat} {a1 : Nat} {I : zI} {K : zI → Prop} (hk : zIsMoment S k) (ha1 : zIsMoment S a1) (h : w_Moment_keepGood k a1 I K) : Met l yX2_keepGood (zws yX2_keepGood cX2_keepGood 2 none) (zrm 3 83) (zPc D B cA ad [.ref (B + k), .ref (B + a1)] S I) (zQc D B cA (zqV S K)) 0 0 (fun q => B ≤ q) := by
  refine zm_of (cc := cX2_keepGood) (maxL := 2) (ret := none) (by decide +kernel) rfl (Nat.le_of_ble_eq_true rfl) trivial ?_
  intro p e s m args below meth c C _
  unfold w_Moment_keepGood at h
  show zX p l e (zrm 3 83) s m args below meth c (MQ below (zQc D B cA (zqV S K)) args s 0 0 (fun q => B ≤ q)) D B cA 2 0 0 S I [(0, .ref (B + k)), (1, .ref (B + a1))] [] 0
  refine zr_aload_n C dyX2_keepGood_0 rfl 0 rfl ?_
  refine zr_iconst C dyX2_keepGood_1 zc_i_0 ?_
  refine zp_2_48 C hk zb_0 dyX2_keepGood_2 ?_
  refine zn_mem C (fun I_1 eI_1 => ?_)
  replace h := h I_1 eI_1
  refine zr_aload_n C dyX2_keepGood_5 rfl 0 rfl ?_
  refine zr_aload_n C dyX2_keepGood_6 rfl 1 rfl ?_
  refine zg_2_52 C ha1 dyX2_keepGood_7 ?_
  refine zp_2_52 C hk dyX2_keepGood_10 ?_
  refine zn_mem C (fun I_2 eI_2 => ?_)
  replace h := h I_2 eI_2
  refine zr_aload_n C dyX2_keepGood_13 rfl 0 rfl ?_
  refine zr_aload_n C dyX2_keepGood_14 rfl 1 rfl ?_
  refine zg_2_65 C ha1 dyX2_keepGood_15 ?_
  refine zp_2_65 C hk dyX2_keepGood_18 ?_
  refine zn_mem C (fun I_3 eI_3 => ?_)
  replace h := h I_3 eI_3
  refine zr_aload_n C dyX2_keepGood_21 rfl 0 rfl ?_
  refine zr_aload_n C dyX2_keepGood_22 rfl 1 rfl ?_
  refine zg_2_33 C ha1 dyX2_keepGood_23 ?_
  refine zp_2_33 C hk dyX2_keepGood_26 ?_
  refine zn_mem C (fun I_4 eI_4 => ?_)
  replace h := h I_4 eI_4
  refine zr_aload_n C dyX2_keepGood_29 rfl 0 rfl ?_
  refine zg_2_27 C hk dyX2_keepGood_30 ?_
  refine zr_aload_n C dyX2_keepGood_33 rfl 1 rfl ?_
  refine zg_2_27 C ha1 dyX2_keepGood_34 ?_
  refine zr_aload_n C dyX2_keepGood_37 rfl 0 rfl ?_
  refine zg_2_33 C hk dyX2_keepGood_38 ?_
  refine zv_2_61 C hS hk.2.2.2.1 ha1.2.2.2.1 (st := []) h ⟨Nat.le_of_ble_eq_true rfl, Nat.le_of_ble_eq_true rfl⟩ (Nat.le_of_ble_eq_true rfl) dyX2_keepGood_41 (fun I_5 h => ?_)
  refine zr_aload_n C dyX2_keepGood_44 rfl 0 rfl ?_
  refine zg_2_30 C hk dyX2_keepGood_45 ?_
  refine zr_aload_n C dyX2_keepGood_48 rfl 1 rfl ?_
  refine zg_2_30 C ha1 dyX2_keepGood_49 ?_
  refine zr_aload_n C dyX2_keepGood_52 rfl 0 rfl ?_
  refine zg_2_33 C hk dyX2_keepGood_53 ?_
  refine zv_2_61 C hS hk.2.2.2.2 ha1.2.2.2.2 (st := []) h ⟨Nat.le_of_ble_eq_true rfl, Nat.le_of_ble_eq_true rfl⟩ (Nat.le_of_ble_eq_true rfl) dyX2_keepGood_56 (fun I_6 h => ?_)
  exact zr_vret C rfl dyX2_keepGood_59 ⟨rfl, rfl, h⟩
theorem zg_8_32 {p : Program} {l : Launch} {e : Env} {R : Room} {s : State} {m : MethodId} {args : Array Value} {below : List Frame} {meth : Method} {c : Code} {Q : State → Prop} {D : va_G} {B : Nat} {cA : Nat → ClassId} {ad : Nat → Nat} {cc : ByteArray} {nL : Nat} {ret : Option FieldType} {S : List zC} {I : zI} {lv : List (Nat × Value)} {st : List Value} {pc : Nat} (C : zCx p s m args meth c cc nL RX8 ret D B cA ad) {k : Nat} (hk : zIsTokens S k) (hd : decode cc pc = .ok (.getfield 32, 3)) (kk : zX p l e R s m args below meth c Q D B cA nL 0 0 S I lv (.int (I.1 k 5) :: st) (pc + 3)) : zX p l e R s m args below meth c Q D B cA nL 0 0 S I lv (.ref (B + k) :: st) pc :=
  zr_geti C (ci := 8) (Cn := RX8) (T := TX8) (N := 6) (k := k) (j := 5) (fs := [some (some (k + 1)), some (some (k + 3)), some (some (k + 5)), some (some (k + 7)), some (some (k + 9)), none]) rfl zin_8 (Nat.le_of_ble_eq_true rfl) rfl hk.1 rfl zk_fl_8_32 hd kk
theorem zp_8_32 {p : Program} {l : Launch} {e : Env} {R : Room} {s : State} {m : MethodId} {args : Array Value} {below : List Frame} {meth : Method} {c : Code} {Q : State → Prop} {D : va_G} {B : Nat} {cA : Nat → ClassId} {ad : Nat → Nat} {cc : ByteArray} {nL : Nat} {ret : Option FieldType} {S : List zC} {I : zI} {lv : List (Nat × Value)} {st : List Value} {pc : Nat} (C : zCx p s m args meth c cc nL RX8 ret D B cA ad) {k : Nat} (hk : zIsTokens S k) {v : Int32} (hd : decode cc pc = .ok (.putfield 32, 3)) (kk : zX p l e R s m args below meth c Q D B cA nL 0 0 S (zu I k 5 v) lv st (pc + 3)) : zX p l e R s m args below meth c Q D B cA nL 0 0 S I lv (.int v :: .ref (B + k) :: st) pc :=
  zr_puti C (ci := 8) (Cn := RX8) (T := TX8) (N := 6) (k := k) (j := 5) (fs := [some (some (k + 1)), some (some (k + 3)), some (some (k + 5)), some (some (k + 7)), some (some (k + 9)), none]) rfl zin_8 (Nat.le_of_ble_eq_true rfl) rfl hk.1 rfl tyX8 tyX8_ok nmX8 (ty := .int) zpd_I rfl rfl rfl zk_fl_8_32 hd kk
theorem zg_8_14 {p : Program} {l : Launch} {e : Env} {R : Room} {s : State} {m : MethodId} {args : Array Value} {below : List Frame} {meth : Method} {c : Code} {Q : State → Prop} {D : va_G} {B : Nat} {cA : Nat → ClassId} {ad : Nat → Nat} {cc : ByteArray} {nL : Nat} {ret : Option FieldType} {S : List zC} {I : zI} {lv : List (Nat × Value)} {st : List Value} {pc : Nat} (C : zCx p s m args meth c cc nL RX8 ret D B cA ad) {k : Nat} (hk : zIsTokens S k) (hd : decode cc pc = .ok (.getfield 14, 3)) (kk : zX p l e R s m args below meth c Q D B cA nL 0 0 S I lv (.ref (B + (k + 1)) :: st) (pc + 3)) : zX p l e R s m args below meth c Q D B cA nL 0 0 S I lv (.ref (B + k) :: st) pc :=
  zr_getr C (ci := 8) (Cn := RX8) (T := TX8) (N := 6) (k := k) (j := 0) (fs := [some (some (k + 1)), some (some (k + 3)), some (some (k + 5)), some (some (k + 7)), some (some (k + 9)), none]) rfl zin_8 (Nat.le_of_ble_eq_true rfl) rfl hk.1 rfl zk_fl_8_14 hd kk
theorem zv_8_81 {p : Program} {l : Launch} {e : Env} {R : Room} {s : State} {m : MethodId} {args : Array Value} {below : List Frame} {meth : Method} {c : Code} {Q : State → Prop} {D : va_G} {B : Nat} {cA : Nat → ClassId} {ad : Nat → Nat} {cc : ByteArray} {nL : Nat} {ret : Option FieldType} {S : List zC} {I : zI} {lv : List (Nat × Value)} {st : List Value} {pc : Nat} (C : zCx p s m args meth c cc nL RX8 ret D B cA ad) {K : zI → Prop} {xk : Nat} {xn : Nat} {xa1 : Nat} {xa1n : Nat} {xa2 : Int32} (hS : zOkX S) (xhk : zIsRow S xk xn) (xha1 : zIsRow S xa1 xa1n) (h : w_Row_copyFrom xk xn xa1 xa1n xa2 I K) (hR : 2 + 1 ≤ R.frames ∧ 8 + (4 + 11) + (60) ≤ R.locals) (hw : (st.map fun v => v.category).sum ≤ 8) (hd : decode cc pc = .ok (.invokevirtual 81, 3)) (kk : ∀ I2, K I2 → zX p l e R s m args below meth c Q D B cA nL 0 0 S I2 lv st (pc + 3)) : zX p l e R s m args below meth c Q D B cA nL 0 0 S I lv (.int xa2 :: .ref (B + xa1) :: .ref (B + xk) :: st) pc :=
  have hf : 0 ≤ R.cells ∧ 0 ≤ R.slots := ⟨Nat.zero_le _, Nat.zero_le _⟩
  zc_VqV C (ci := 6) (q := (RX6, TX6, 1)) (k := xk) (fs := [some (some (xk + 1))]) (As := [.ref (B + xa1), .int xa2]) (st := st) rfl xhk.1 (c_Row_copyFrom hS xhk xha1 h) (zgV zk_ml_8_81 zk_im_yX6_copyFrom zk_se_yX6_copyFrom zk_in_6 zk_cd_yX6_copyFrom) zsg_yX6_copyFrom hR rfl rfl hw hd hf kk
theorem zg_8_20 {p : Program} {l : Launch} {e : Env} {R : Room} {s : State} {m : MethodId} {args : Array Value} {below : List Frame} {meth : Method} {c : Code} {Q : State → Prop} {D : va_G} {B : Nat} {cA : Nat → ClassId} {ad : Nat → Nat} {cc : ByteArray} {nL : Nat} {ret : Option FieldType} {S : List zC} {I : zI} {lv : List (Nat × Value)} {st : List Value} {pc : Nat} (C : zCx p s m args meth c cc nL RX8 ret D B cA ad) {k : Nat} (hk : zIsTokens S k) (hd : decode cc pc = .ok (.getfield 20, 3)) (kk : zX p l e R s m args below meth c Q D B cA nL 0 0 S I lv (.ref (B + (k + 3)) :: st) (pc + 3)) : zX p l e R s m args below meth c Q D B cA nL 0 0 S I lv (.ref (B + k) :: st) pc :=
  zr_getr C (ci := 8) (Cn := RX8) (T := TX8) (N := 6) (k := k) (j := 1) (fs := [some (some (k + 1)), some (some (k + 3)), some (some (k + 5)), some (some (k + 7)), some (some (k + 9)), none]) rfl zin_8 (Nat.le_of_ble_eq_true rfl) rfl hk.1 rfl zk_fl_8_20 hd kk
theorem zg_8_23 {p : Program} {l : Launch} {e : Env} {R : Room} {s : State} {m : MethodId} {args : Array Value} {below : List Frame} {meth : Method} {c : Code} {Q : State → Prop} {D : va_G} {B : Nat} {cA : Nat → ClassId} {ad : Nat → Nat} {cc : ByteArray} {nL : Nat} {ret : Option FieldType} {S : List zC} {I : zI} {lv : List (Nat × Value)} {st : List Value} {pc : Nat} (C : zCx p s m args meth c cc nL RX8 ret D B cA ad) {k : Nat} (hk : zIsTokens S k) (hd : decode cc pc = .ok (.getfield 23, 3)) (kk : zX p l e R s m args below meth c Q D B cA nL 0 0 S I lv (.ref (B + (k + 5)) :: st) (pc + 3)) : zX p l e R s m args below meth c Q D B cA nL 0 0 S I lv (.ref (B + k) :: st) pc :=
  zr_getr C (ci := 8) (Cn := RX8) (T := TX8) (N := 6) (k := k) (j := 2) (fs := [some (some (k + 1)), some (some (k + 3)), some (some (k + 5)), some (some (k + 7)), some (some (k + 9)), none]) rfl zin_8 (Nat.le_of_ble_eq_true rfl) rfl hk.1 rfl zk_fl_8_23 hd kk
theorem zg_8_26 {p : Program} {l : Launch} {e : Env} {R : Room} {s : State} {m : MethodId} {args : Array Value} {below : List Frame} {meth : Method} {c : Code} {Q : State → Prop} {D : va_G} {B : Nat} {cA : Nat → ClassId} {ad : Nat → Nat} {cc : ByteArray} {nL : Nat} {ret : Option FieldType} {S : List zC} {I : zI} {lv : List (Nat × Value)} {st : List Value} {pc : Nat} (C : zCx p s m args meth c cc nL RX8 ret D B cA ad) {k : Nat} (hk : zIsTokens S k) (hd : decode cc pc = .ok (.getfield 26, 3)) (kk : zX p l e R s m args below meth c Q D B cA nL 0 0 S I lv (.ref (B + (k + 7)) :: st) (pc + 3)) : zX p l e R s m args below meth c Q D B cA nL 0 0 S I lv (.ref (B + k) :: st) pc :=
  zr_getr C (ci := 8) (Cn := RX8) (T := TX8) (N := 6) (k := k) (j := 3) (fs := [some (some (k + 1)), some (some (k + 3)), some (some (k + 5)), some (some (k + 7)), some (some (k + 9)), none]) rfl zin_8 (Nat.le_of_ble_eq_true rfl) rfl hk.1 rfl zk_fl_8_26 hd kk
theorem zg_8_29 {p : Program} {l : Launch} {e : Env} {R : Room} {s : State} {m : MethodId} {args : Array Value} {below : List Frame} {meth : Method} {c : Code} {Q : State → Prop} {D : va_G} {B : Nat} {cA : Nat → ClassId} {ad : Nat → Nat} {cc : ByteArray} {nL : Nat} {ret : Option FieldType} {S : List zC} {I : zI} {lv : List (Nat × Value)} {st : List Value} {pc : Nat} (C : zCx p s m args meth c cc nL RX8 ret D B cA ad) {k : Nat} (hk : zIsTokens S k) (hd : decode cc pc = .ok (.getfield 29, 3)) (kk : zX p l e R s m args below meth c Q D B cA nL 0 0 S I lv (.ref (B + (k + 9)) :: st) (pc + 3)) : zX p l e R s m args below meth c Q D B cA nL 0 0 S I lv (.ref (B + k) :: st) pc :=
  zr_getr C (ci := 8) (Cn := RX8) (T := TX8) (N := 6) (k := k) (j := 4) (fs := [some (some (k + 1)), some (some (k + 3)), some (some (k + 5)), some (some (k + 7)), some (some (k + 9)), none]) rfl zin_8 (Nat.le_of_ble_eq_true rfl) rfl hk.1 rfl zk_fl_8_29 hd kk
def w_Tokens_copyFrom (k : Nat) (a1 : Nat) (I : zI) (K : zI → Prop) : Prop :=
  ∀ I_1, I_1 = (zu I k 5 (I.1 a1 5)) → w_Row_copyFrom (k + 1) 100 (a1 + 1) 100 (I_1.1 k 5) I_1 (fun I_2 => w_Row_copyFrom (k + 3) 100 (a1 + 3) 100 (I_2.1 k 5) I_2 (fun I_3 => w_Row_copyFrom (k + 5) 100 (a1 + 5) 100 (I_3.1 k 5) I_3 (fun I_4 => w_Row_copyFrom (k + 7) 100 (a1 + 7) 100 (I_4.1 k 5) I_4 (fun I_5 => w_Row_copyFrom (k + 9) 100 (a1 + 9) 100 (I_5.1 k 5) I_5 (fun I_6 => K I_6)))))
theorem dyX8_copyFrom_0 : decode cX8_copyFrom 0 = .ok (.aload_n 0, 1) := by decide +kernel
theorem dyX8_copyFrom_1 : decode cX8_copyFrom 1 = .ok (.aload_n 1, 1) := by decide +kernel
theorem dyX8_copyFrom_2 : decode cX8_copyFrom 2 = .ok (.getfield 32, 3) := by decide +kernel
theorem dyX8_copyFrom_5 : decode cX8_copyFrom 5 = .ok (.putfield 32, 3) := by decide +kernel
theorem dyX8_copyFrom_8 : decode cX8_copyFrom 8 = .ok (.aload_n 0, 1) := by decide +kernel
theorem dyX8_copyFrom_9 : decode cX8_copyFrom 9 = .ok (.getfield 14, 3) := by decide +kernel
theorem dyX8_copyFrom_12 : decode cX8_copyFrom 12 = .ok (.aload_n 1, 1) := by decide +kernel
theorem dyX8_copyFrom_13 : decode cX8_copyFrom 13 = .ok (.getfield 14, 3) := by decide +kernel
theorem dyX8_copyFrom_16 : decode cX8_copyFrom 16 = .ok (.aload_n 0, 1) := by decide +kernel
theorem dyX8_copyFrom_17 : decode cX8_copyFrom 17 = .ok (.getfield 32, 3) := by decide +kernel
theorem dyX8_copyFrom_20 : decode cX8_copyFrom 20 = .ok (.invokevirtual 81, 3) := by decide +kernel
theorem dyX8_copyFrom_23 : decode cX8_copyFrom 23 = .ok (.aload_n 0, 1) := by decide +kernel
theorem dyX8_copyFrom_24 : decode cX8_copyFrom 24 = .ok (.getfield 20, 3) := by decide +kernel
theorem dyX8_copyFrom_27 : decode cX8_copyFrom 27 = .ok (.aload_n 1, 1) := by decide +kernel
theorem dyX8_copyFrom_28 : decode cX8_copyFrom 28 = .ok (.getfield 20, 3) := by decide +kernel
theorem dyX8_copyFrom_31 : decode cX8_copyFrom 31 = .ok (.aload_n 0, 1) := by decide +kernel
theorem dyX8_copyFrom_32 : decode cX8_copyFrom 32 = .ok (.getfield 32, 3) := by decide +kernel
theorem dyX8_copyFrom_35 : decode cX8_copyFrom 35 = .ok (.invokevirtual 81, 3) := by decide +kernel
theorem dyX8_copyFrom_38 : decode cX8_copyFrom 38 = .ok (.aload_n 0, 1) := by decide +kernel
theorem dyX8_copyFrom_39 : decode cX8_copyFrom 39 = .ok (.getfield 23, 3) := by decide +kernel
theorem dyX8_copyFrom_42 : decode cX8_copyFrom 42 = .ok (.aload_n 1, 1) := by decide +kernel
theorem dyX8_copyFrom_43 : decode cX8_copyFrom 43 = .ok (.getfield 23, 3) := by decide +kernel
theorem dyX8_copyFrom_46 : decode cX8_copyFrom 46 = .ok (.aload_n 0, 1) := by decide +kernel
theorem dyX8_copyFrom_47 : decode cX8_copyFrom 47 = .ok (.getfield 32, 3) := by decide +kernel
theorem dyX8_copyFrom_50 : decode cX8_copyFrom 50 = .ok (.invokevirtual 81, 3) := by decide +kernel
theorem dyX8_copyFrom_53 : decode cX8_copyFrom 53 = .ok (.aload_n 0, 1) := by decide +kernel
theorem dyX8_copyFrom_54 : decode cX8_copyFrom 54 = .ok (.getfield 26, 3) := by decide +kernel
theorem dyX8_copyFrom_57 : decode cX8_copyFrom 57 = .ok (.aload_n 1, 1) := by decide +kernel
theorem dyX8_copyFrom_58 : decode cX8_copyFrom 58 = .ok (.getfield 26, 3) := by decide +kernel
theorem dyX8_copyFrom_61 : decode cX8_copyFrom 61 = .ok (.aload_n 0, 1) := by decide +kernel
theorem dyX8_copyFrom_62 : decode cX8_copyFrom 62 = .ok (.getfield 32, 3) := by decide +kernel
theorem dyX8_copyFrom_65 : decode cX8_copyFrom 65 = .ok (.invokevirtual 81, 3) := by decide +kernel
theorem dyX8_copyFrom_68 : decode cX8_copyFrom 68 = .ok (.aload_n 0, 1) := by decide +kernel
theorem dyX8_copyFrom_69 : decode cX8_copyFrom 69 = .ok (.getfield 29, 3) := by decide +kernel
theorem dyX8_copyFrom_72 : decode cX8_copyFrom 72 = .ok (.aload_n 1, 1) := by decide +kernel
theorem dyX8_copyFrom_73 : decode cX8_copyFrom 73 = .ok (.getfield 29, 3) := by decide +kernel
theorem dyX8_copyFrom_76 : decode cX8_copyFrom 76 = .ok (.aload_n 0, 1) := by decide +kernel
theorem dyX8_copyFrom_77 : decode cX8_copyFrom 77 = .ok (.getfield 32, 3) := by decide +kernel
theorem dyX8_copyFrom_80 : decode cX8_copyFrom 80 = .ok (.invokevirtual 81, 3) := by decide +kernel
theorem dyX8_copyFrom_83 : decode cX8_copyFrom 83 = .ok (.return_, 1) := by decide +kernel
theorem zsg_yX8_copyFrom : yX8_copyFrom.cls = RX8 ∧ yX8_copyFrom.cls ≠ "java/lang/invoke/MethodHandle" ∧ yX8_copyFrom.cls ≠ "java/lang/invoke/VarHandle" ∧ (parseMethodDescriptor yX8_copyFrom.desc).map (fun d => d.parameters.length) = some 1 := by decide +kernel
set_option maxRecDepth 20000 in
theorem c_Tokens_copyFrom {l : Launch} {D : va_G} {B : Nat} {cA : Nat → ClassId} {ad : Nat → Nat} {S : List zC} (hS : zOkX S) {k : Nat} {a1 : Nat} {I : zI} {K : zI → Prop} (hk : zIsTokens S k) (ha1 : zIsTokens S a1) (h : w_Tokens_copyFrom k a1 I K) : Met l yX8_copyFrom (zws yX8_copyFrom cX8_copyFrom 2 none) (zrm 3 83) (zPc D B cA ad [.ref (B + k), .ref (B + a1)] S I) (zQc D B cA (zqV S K)) 0 0 (fun q => B ≤ q) := by
  refine zm_of (cc := cX8_copyFrom) (maxL := 2) (ret := none) (by decide +kernel) rfl (Nat.le_of_ble_eq_true rfl) trivial ?_
  intro p e s m args below meth c C _
  unfold w_Tokens_copyFrom at h
  show zX p l e (zrm 3 83) s m args below meth c (MQ below (zQc D B cA (zqV S K)) args s 0 0 (fun q => B ≤ q)) D B cA 2 0 0 S I [(0, .ref (B + k)), (1, .ref (B + a1))] [] 0
  refine zr_aload_n C dyX8_copyFrom_0 rfl 0 rfl ?_
  refine zr_aload_n C dyX8_copyFrom_1 rfl 1 rfl ?_
  refine zg_8_32 C ha1 dyX8_copyFrom_2 ?_
  refine zp_8_32 C hk dyX8_copyFrom_5 ?_
  refine zn_mem C (fun I_1 eI_1 => ?_)
  replace h := h I_1 eI_1
  refine zr_aload_n C dyX8_copyFrom_8 rfl 0 rfl ?_
  refine zg_8_14 C hk dyX8_copyFrom_9 ?_
  refine zr_aload_n C dyX8_copyFrom_12 rfl 1 rfl ?_
  refine zg_8_14 C ha1 dyX8_copyFrom_13 ?_
  refine zr_aload_n C dyX8_copyFrom_16 rfl 0 rfl ?_
  refine zg_8_32 C hk dyX8_copyFrom_17 ?_
  refine zv_8_81 C hS hk.2.1 ha1.2.1 (st := []) h ⟨Nat.le_of_ble_eq_true rfl, Nat.le_of_ble_eq_true rfl⟩ (Nat.le_of_ble_eq_true rfl) dyX8_copyFrom_20 (fun I_2 h => ?_)
  refine zr_aload_n C dyX8_copyFrom_23 rfl 0 rfl ?_
  refine zg_8_20 C hk dyX8_copyFrom_24 ?_
  refine zr_aload_n C dyX8_copyFrom_27 rfl 1 rfl ?_
  refine zg_8_20 C ha1 dyX8_copyFrom_28 ?_
  refine zr_aload_n C dyX8_copyFrom_31 rfl 0 rfl ?_
  refine zg_8_32 C hk dyX8_copyFrom_32 ?_
  refine zv_8_81 C hS hk.2.2.1 ha1.2.2.1 (st := []) h ⟨Nat.le_of_ble_eq_true rfl, Nat.le_of_ble_eq_true rfl⟩ (Nat.le_of_ble_eq_true rfl) dyX8_copyFrom_35 (fun I_3 h => ?_)
  refine zr_aload_n C dyX8_copyFrom_38 rfl 0 rfl ?_
  refine zg_8_23 C hk dyX8_copyFrom_39 ?_
  refine zr_aload_n C dyX8_copyFrom_42 rfl 1 rfl ?_
  refine zg_8_23 C ha1 dyX8_copyFrom_43 ?_
  refine zr_aload_n C dyX8_copyFrom_46 rfl 0 rfl ?_
  refine zg_8_32 C hk dyX8_copyFrom_47 ?_
  refine zv_8_81 C hS hk.2.2.2.1 ha1.2.2.2.1 (st := []) h ⟨Nat.le_of_ble_eq_true rfl, Nat.le_of_ble_eq_true rfl⟩ (Nat.le_of_ble_eq_true rfl) dyX8_copyFrom_50 (fun I_4 h => ?_)
  refine zr_aload_n C dyX8_copyFrom_53 rfl 0 rfl ?_
  refine zg_8_26 C hk dyX8_copyFrom_54 ?_
  refine zr_aload_n C dyX8_copyFrom_57 rfl 1 rfl ?_
  refine zg_8_26 C ha1 dyX8_copyFrom_58 ?_
  refine zr_aload_n C dyX8_copyFrom_61 rfl 0 rfl ?_
  refine zg_8_32 C hk dyX8_copyFrom_62 ?_
  refine zv_8_81 C hS hk.2.2.2.2.1 ha1.2.2.2.2.1 (st := []) h ⟨Nat.le_of_ble_eq_true rfl, Nat.le_of_ble_eq_true rfl⟩ (Nat.le_of_ble_eq_true rfl) dyX8_copyFrom_65 (fun I_5 h => ?_)
  refine zr_aload_n C dyX8_copyFrom_68 rfl 0 rfl ?_
  refine zg_8_29 C hk dyX8_copyFrom_69 ?_
  refine zr_aload_n C dyX8_copyFrom_72 rfl 1 rfl ?_
  refine zg_8_29 C ha1 dyX8_copyFrom_73 ?_
  refine zr_aload_n C dyX8_copyFrom_76 rfl 0 rfl ?_
  refine zg_8_32 C hk dyX8_copyFrom_77 ?_
  refine zv_8_81 C hS hk.2.2.2.2.2 ha1.2.2.2.2.2 (st := []) h ⟨Nat.le_of_ble_eq_true rfl, Nat.le_of_ble_eq_true rfl⟩ (Nat.le_of_ble_eq_true rfl) dyX8_copyFrom_80 (fun I_6 h => ?_)
  exact zr_vret C rfl dyX8_copyFrom_83 ⟨rfl, rfl, h⟩
theorem zv_2_68 {p : Program} {l : Launch} {e : Env} {R : Room} {s : State} {m : MethodId} {args : Array Value} {below : List Frame} {meth : Method} {c : Code} {Q : State → Prop} {D : va_G} {B : Nat} {cA : Nat → ClassId} {ad : Nat → Nat} {cc : ByteArray} {nL : Nat} {ret : Option FieldType} {S : List zC} {I : zI} {lv : List (Nat × Value)} {st : List Value} {pc : Nat} (C : zCx p s m args meth c cc nL RX2 ret D B cA ad) {K : zI → Prop} {xk : Nat} {xa1 : Nat} (hS : zOkX S) (xhk : zIsTokens S xk) (xha1 : zIsTokens S xa1) (h : w_Tokens_copyFrom xk xa1 I K) (hR : 3 + 1 ≤ R.frames ∧ 8 + (2 + 11) + (83) ≤ R.locals) (hw : (st.map fun v => v.category).sum ≤ 8) (hd : decode cc pc = .ok (.invokevirtual 68, 3)) (kk : ∀ I2, K I2 → zX p l e R s m args below meth c Q D B cA nL 0 0 S I2 lv st (pc + 3)) : zX p l e R s m args below meth c Q D B cA nL 0 0 S I lv (.ref (B + xa1) :: .ref (B + xk) :: st) pc :=
  have hf : 0 ≤ R.cells ∧ 0 ≤ R.slots := ⟨Nat.zero_le _, Nat.zero_le _⟩
  zc_VqV C (ci := 8) (q := (RX8, TX8, 6)) (k := xk) (fs := [some (some (xk + 1)), some (some (xk + 3)), some (some (xk + 5)), some (some (xk + 7)), some (some (xk + 9)), none]) (As := [.ref (B + xa1)]) (st := st) rfl xhk.1 (c_Tokens_copyFrom hS xhk xha1 h) (zgV zk_ml_2_68 zk_im_yX8_copyFrom zk_se_yX8_copyFrom zk_in_8 zk_cd_yX8_copyFrom) zsg_yX8_copyFrom hR rfl rfl hw hd hf kk
theorem zv_2_71 {p : Program} {l : Launch} {e : Env} {R : Room} {s : State} {m : MethodId} {args : Array Value} {below : List Frame} {meth : Method} {c : Code} {Q : State → Prop} {D : va_G} {B : Nat} {cA : Nat → ClassId} {ad : Nat → Nat} {cc : ByteArray} {nL : Nat} {ret : Option FieldType} {S : List zC} {I : zI} {lv : List (Nat × Value)} {st : List Value} {pc : Nat} (C : zCx p s m args meth c cc nL RX2 ret D B cA ad) {K : zI → Prop} {xk : Nat} {xa1 : Nat} (hS : zOkX S) (xhk : zIsMoment S xk) (xha1 : zIsMoment S xa1) (h : w_Moment_keepGood xk xa1 I K) (hR : 3 + 1 ≤ R.frames ∧ 8 + (2 + 11) + (83) ≤ R.locals) (hw : (st.map fun v => v.category).sum ≤ 8) (hd : decode cc pc = .ok (.invokevirtual 71, 3)) (kk : ∀ I2, K I2 → zX p l e R s m args below meth c Q D B cA nL 0 0 S I2 lv st (pc + 3)) : zX p l e R s m args below meth c Q D B cA nL 0 0 S I lv (.ref (B + xa1) :: .ref (B + xk) :: st) pc :=
  have hf : 0 ≤ R.cells ∧ 0 ≤ R.slots := ⟨Nat.zero_le _, Nat.zero_le _⟩
  zc_VqV C (ci := 2) (q := (RX2, TX2, 9)) (k := xk) (fs := [some (some (xk + 1)), none, some (some (xk + 3)), none, some (some (xk + 14)), some (some (xk + 16)), none, none, none]) (As := [.ref (B + xa1)]) (st := st) rfl xhk.1 (c_Moment_keepGood hS xhk xha1 h) (zgV zk_ml_2_71 zk_im_yX2_keepGood zk_se_yX2_keepGood zk_in_2 zk_cd_yX2_keepGood) zsg_yX2_keepGood hR rfl rfl hw hd hf kk
theorem zg_2_48 {p : Program} {l : Launch} {e : Env} {R : Room} {s : State} {m : MethodId} {args : Array Value} {below : List Frame} {meth : Method} {c : Code} {Q : State → Prop} {D : va_G} {B : Nat} {cA : Nat → ClassId} {ad : Nat → Nat} {cc : ByteArray} {nL : Nat} {ret : Option FieldType} {S : List zC} {I : zI} {lv : List (Nat × Value)} {st : List Value} {pc : Nat} (C : zCx p s m args meth c cc nL RX2 ret D B cA ad) {k : Nat} (hk : zIsMoment S k) (hd : decode cc pc = .ok (.getfield 48, 3)) (kk : zX p l e R s m args below meth c Q D B cA nL 0 0 S I lv (.int (I.1 k 3) :: st) (pc + 3)) : zX p l e R s m args below meth c Q D B cA nL 0 0 S I lv (.ref (B + k) :: st) pc :=
  zr_geti C (ci := 2) (Cn := RX2) (T := TX2) (N := 9) (k := k) (j := 3) (fs := [some (some (k + 1)), none, some (some (k + 3)), none, some (some (k + 14)), some (some (k + 16)), none, none, none]) rfl zin_2 (Nat.le_of_ble_eq_true rfl) rfl hk.1 rfl zk_fl_2_48 hd kk
def w_Moment_copyFrom (k : Nat) (a1 : Nat) (I : zI) (K : zI → Prop) : Prop :=
  ∀ I_1, I_1 = (zu I k 1 (I.1 a1 1)) → w_Row_copyFrom (k + 1) 300 (a1 + 1) 300 (I_1.1 k 1) I_1 (fun I_2 => w_Tokens_copyFrom (k + 3) (a1 + 3) I_2 (fun I_3 => w_Moment_keepGood k a1 I_3 (fun I_4 => zb (I_4.1 a1 3) ∧ (∀ I_5, I_5 = (zu I_4 k 3 (I_4.1 a1 3)) → K I_5))))
theorem dyX2_copyFrom_0 : decode cX2_copyFrom 0 = .ok (.aload_n 0, 1) := by decide +kernel
theorem dyX2_copyFrom_1 : decode cX2_copyFrom 1 = .ok (.aload_n 1, 1) := by decide +kernel
theorem dyX2_copyFrom_2 : decode cX2_copyFrom 2 = .ok (.getfield 37, 3) := by decide +kernel
theorem dyX2_copyFrom_5 : decode cX2_copyFrom 5 = .ok (.putfield 37, 3) := by decide +kernel
theorem dyX2_copyFrom_8 : decode cX2_copyFrom 8 = .ok (.aload_n 0, 1) := by decide +kernel
theorem dyX2_copyFrom_9 : decode cX2_copyFrom 9 = .ok (.getfield 14, 3) := by decide +kernel
theorem dyX2_copyFrom_12 : decode cX2_copyFrom 12 = .ok (.aload_n 1, 1) := by decide +kernel
theorem dyX2_copyFrom_13 : decode cX2_copyFrom 13 = .ok (.getfield 14, 3) := by decide +kernel
theorem dyX2_copyFrom_16 : decode cX2_copyFrom 16 = .ok (.aload_n 0, 1) := by decide +kernel
theorem dyX2_copyFrom_17 : decode cX2_copyFrom 17 = .ok (.getfield 37, 3) := by decide +kernel
theorem dyX2_copyFrom_20 : decode cX2_copyFrom 20 = .ok (.invokevirtual 61, 3) := by decide +kernel
theorem dyX2_copyFrom_23 : decode cX2_copyFrom 23 = .ok (.aload_n 0, 1) := by decide +kernel
theorem dyX2_copyFrom_24 : decode cX2_copyFrom 24 = .ok (.getfield 23, 3) := by decide +kernel
theorem dyX2_copyFrom_27 : decode cX2_copyFrom 27 = .ok (.aload_n 1, 1) := by decide +kernel
theorem dyX2_copyFrom_28 : decode cX2_copyFrom 28 = .ok (.getfield 23, 3) := by decide +kernel
theorem dyX2_copyFrom_31 : decode cX2_copyFrom 31 = .ok (.invokevirtual 68, 3) := by decide +kernel
theorem dyX2_copyFrom_34 : decode cX2_copyFrom 34 = .ok (.aload_n 0, 1) := by decide +kernel
theorem dyX2_copyFrom_35 : decode cX2_copyFrom 35 = .ok (.aload_n 1, 1) := by decide +kernel
theorem dyX2_copyFrom_36 : decode cX2_copyFrom 36 = .ok (.invokevirtual 71, 3) := by decide +kernel
theorem dyX2_copyFrom_39 : decode cX2_copyFrom 39 = .ok (.aload_n 0, 1) := by decide +kernel
theorem dyX2_copyFrom_40 : decode cX2_copyFrom 40 = .ok (.aload_n 1, 1) := by decide +kernel
theorem dyX2_copyFrom_41 : decode cX2_copyFrom 41 = .ok (.getfield 48, 3) := by decide +kernel
theorem dyX2_copyFrom_44 : decode cX2_copyFrom 44 = .ok (.putfield 48, 3) := by decide +kernel
theorem dyX2_copyFrom_47 : decode cX2_copyFrom 47 = .ok (.return_, 1) := by decide +kernel
theorem zsg_yX2_copyFrom : yX2_copyFrom.cls = RX2 ∧ yX2_copyFrom.cls ≠ "java/lang/invoke/MethodHandle" ∧ yX2_copyFrom.cls ≠ "java/lang/invoke/VarHandle" ∧ (parseMethodDescriptor yX2_copyFrom.desc).map (fun d => d.parameters.length) = some 1 := by decide +kernel
set_option maxRecDepth 20000 in
theorem c_Moment_copyFrom {l : Launch} {D : va_G} {B : Nat} {cA : Nat → ClassId} {ad : Nat → Nat} {S : List zC} (hS : zOkX S) {k : Nat} {a1 : Nat} {I : zI} {K : zI → Prop} (hk : zIsMoment S k) (ha1 : zIsMoment S a1) (h : w_Moment_copyFrom k a1 I K) : Met l yX2_copyFrom (zws yX2_copyFrom cX2_copyFrom 2 none) (zrm 4 104) (zPc D B cA ad [.ref (B + k), .ref (B + a1)] S I) (zQc D B cA (zqV S K)) 0 0 (fun q => B ≤ q) := by
  refine zm_of (cc := cX2_copyFrom) (maxL := 2) (ret := none) (by decide +kernel) rfl (Nat.le_of_ble_eq_true rfl) trivial ?_
  intro p e s m args below meth c C _
  unfold w_Moment_copyFrom at h
  show zX p l e (zrm 4 104) s m args below meth c (MQ below (zQc D B cA (zqV S K)) args s 0 0 (fun q => B ≤ q)) D B cA 2 0 0 S I [(0, .ref (B + k)), (1, .ref (B + a1))] [] 0
  refine zr_aload_n C dyX2_copyFrom_0 rfl 0 rfl ?_
  refine zr_aload_n C dyX2_copyFrom_1 rfl 1 rfl ?_
  refine zg_2_37 C ha1 dyX2_copyFrom_2 ?_
  refine zp_2_37 C hk dyX2_copyFrom_5 ?_
  refine zn_mem C (fun I_1 eI_1 => ?_)
  replace h := h I_1 eI_1
  refine zr_aload_n C dyX2_copyFrom_8 rfl 0 rfl ?_
  refine zg_2_14 C hk dyX2_copyFrom_9 ?_
  refine zr_aload_n C dyX2_copyFrom_12 rfl 1 rfl ?_
  refine zg_2_14 C ha1 dyX2_copyFrom_13 ?_
  refine zr_aload_n C dyX2_copyFrom_16 rfl 0 rfl ?_
  refine zg_2_37 C hk dyX2_copyFrom_17 ?_
  refine zv_2_61 C hS hk.2.1 ha1.2.1 (st := []) h ⟨Nat.le_of_ble_eq_true rfl, Nat.le_of_ble_eq_true rfl⟩ (Nat.le_of_ble_eq_true rfl) dyX2_copyFrom_20 (fun I_2 h => ?_)
  refine zr_aload_n C dyX2_copyFrom_23 rfl 0 rfl ?_
  refine zg_2_23 C hk dyX2_copyFrom_24 ?_
  refine zr_aload_n C dyX2_copyFrom_27 rfl 1 rfl ?_
  refine zg_2_23 C ha1 dyX2_copyFrom_28 ?_
  refine zv_2_68 C hS hk.2.2.1 ha1.2.2.1 (st := []) h ⟨Nat.le_of_ble_eq_true rfl, Nat.le_of_ble_eq_true rfl⟩ (Nat.le_of_ble_eq_true rfl) dyX2_copyFrom_31 (fun I_3 h => ?_)
  refine zr_aload_n C dyX2_copyFrom_34 rfl 0 rfl ?_
  refine zr_aload_n C dyX2_copyFrom_35 rfl 1 rfl ?_
  refine zv_2_71 C hS hk ha1 (st := []) h ⟨Nat.le_of_ble_eq_true rfl, Nat.le_of_ble_eq_true rfl⟩ (Nat.le_of_ble_eq_true rfl) dyX2_copyFrom_36 (fun I_4 h => ?_)
  refine zr_aload_n C dyX2_copyFrom_39 rfl 0 rfl ?_
  refine zr_aload_n C dyX2_copyFrom_40 rfl 1 rfl ?_
  refine zg_2_48 C ha1 dyX2_copyFrom_41 ?_
  refine zp_2_48 C hk h.1 dyX2_copyFrom_44 ?_
  replace h := h.2
  refine zn_mem C (fun I_5 eI_5 => ?_)
  replace h := h I_5 eI_5
  exact zr_vret C rfl dyX2_copyFrom_47 ⟨rfl, rfl, h⟩
theorem zv_3_66 {p : Program} {l : Launch} {e : Env} {R : Room} {s : State} {m : MethodId} {args : Array Value} {below : List Frame} {meth : Method} {c : Code} {Q : State → Prop} {D : va_G} {B : Nat} {cA : Nat → ClassId} {ad : Nat → Nat} {cc : ByteArray} {nL : Nat} {ret : Option FieldType} {S : List zC} {I : zI} {lv : List (Nat × Value)} {st : List Value} {pc : Nat} (C : zCx p s m args meth c cc nL RX3 ret D B cA ad) {K : Int32 → Prop} {xa0 : Int32} (hS : zOkX S)  (h : w_Desk_lengthOf xa0 I K) (hR : 0 + 1 ≤ R.frames ∧ 8 + (1 + 11) + (0) ≤ R.locals) (hw : (st.map fun v => v.category).sum ≤ 8) (hd : decode cc pc = .ok (.invokestatic 66, 3)) (kk : ∀ v, K v → zX p l e R s m args below meth c Q D B cA nL 0 0 S I lv (.int v :: st) (pc + 3)) : zX p l e R s m args below meth c Q D B cA nL 0 0 S I lv (.int xa0 :: st) pc :=
  have hf : 0 ≤ R.cells ∧ 0 ≤ R.slots := ⟨Nat.zero_le _, Nat.zero_le _⟩
  zc_NpI C (As := [.int xa0]) (st := st) (c_Desk_lengthOf hS h) (zgM zk_cd_yX11_lengthOf) zk_mn_3_66 zk_st_yX11_lengthOf zk_in_11 zsg_yX11_lengthOf hR rfl rfl hw hd hf kk
def w_Nodes_childrenOf (a1 : Int32) (I : zI) (K : Int32 → Prop) : Prop :=
  w_Row_get 25 3400 a1 I (fun r_1 => w_Desk_lengthOf r_1 I (fun r_2 => K r_2))
theorem dyX3_childrenOf_0 : decode cX3_childrenOf 0 = .ok (.aload_n 0, 1) := by decide +kernel
theorem dyX3_childrenOf_1 : decode cX3_childrenOf 1 = .ok (.getfield 14, 3) := by decide +kernel
theorem dyX3_childrenOf_4 : decode cX3_childrenOf 4 = .ok (.iload_n 1, 1) := by decide +kernel
theorem dyX3_childrenOf_5 : decode cX3_childrenOf 5 = .ok (.invokevirtual 60, 3) := by decide +kernel
theorem dyX3_childrenOf_8 : decode cX3_childrenOf 8 = .ok (.invokestatic 66, 3) := by decide +kernel
theorem dyX3_childrenOf_11 : decode cX3_childrenOf 11 = .ok (.ireturn, 1) := by decide +kernel
theorem zsg_yX3_childrenOf : yX3_childrenOf.cls = RX3 ∧ yX3_childrenOf.cls ≠ "java/lang/invoke/MethodHandle" ∧ yX3_childrenOf.cls ≠ "java/lang/invoke/VarHandle" ∧ (parseMethodDescriptor yX3_childrenOf.desc).map (fun d => d.parameters.length) = some 1 := by decide +kernel
set_option maxRecDepth 20000 in
theorem c_Nodes_childrenOf {l : Launch} {D : va_G} {B : Nat} {cA : Nat → ClassId} {ad : Nat → Nat} {S : List zC} (hS : zOkX S) {a1 : Int32} {I : zI} {K : Int32 → Prop}  (h : w_Nodes_childrenOf a1 I K) : Met l yX3_childrenOf (zws yX3_childrenOf cX3_childrenOf 2 (some .int)) (zrm 1 21) (zPc D B cA ad [.ref (B + 24), .int a1] S I) (zQc D B cA (zpI S I K)) 0 0 (fun q => B ≤ q) := by
  refine zm_of (cc := cX3_childrenOf) (maxL := 2) (ret := (some .int)) (by decide +kernel) rfl (Nat.le_of_ble_eq_true rfl) trivial ?_
  intro p e s m args below meth c C _
  unfold w_Nodes_childrenOf at h
  show zX p l e (zrm 1 21) s m args below meth c (MQ below (zQc D B cA (zpI S I K)) args s 0 0 (fun q => B ≤ q)) D B cA 2 0 0 S I [(0, .ref (B + 24)), (1, .int a1)] [] 0
  refine zr_aload_n C dyX3_childrenOf_0 rfl 0 rfl ?_
  refine zg_3_14 C hS dyX3_childrenOf_1 ?_
  refine zr_iload_n C dyX3_childrenOf_4 rfl 1 rfl ?_
  refine zv_3_60 C hS (zIsRow.of hS zir_25) (st := []) h ⟨Nat.le_of_ble_eq_true rfl, Nat.le_of_ble_eq_true rfl⟩ (Nat.le_of_ble_eq_true rfl) dyX3_childrenOf_5 (fun r_1 h => ?_)
  refine zv_3_66 C hS (st := []) h ⟨Nat.le_of_ble_eq_true rfl, Nat.le_of_ble_eq_true rfl⟩ (Nat.le_of_ble_eq_true rfl) dyX3_childrenOf_8 (fun r_2 h => ?_)
  exact zr_iret C rfl dyX3_childrenOf_11 ⟨rfl, rfl, _, rfl, h⟩
def w_Nodes_childOf (a1 : Int32) (a2 : Int32) (I : zI) (K : Int32 → Prop) : Prop :=
  w_Row_get 41 13600 ((a1 * 4) + a2) I (fun r_1 => K r_1)
theorem dyX3_childOf_0 : decode cX3_childOf 0 = .ok (.aload_n 0, 1) := by decide +kernel
theorem dyX3_childOf_1 : decode cX3_childOf 1 = .ok (.getfield 41, 3) := by decide +kernel
theorem dyX3_childOf_4 : decode cX3_childOf 4 = .ok (.iload_n 1, 1) := by decide +kernel
theorem dyX3_childOf_5 : decode cX3_childOf 5 = .ok (.iconst 4, 1) := by decide +kernel
theorem dyX3_childOf_6 : decode cX3_childOf 6 = .ok (.imul, 1) := by decide +kernel
theorem dyX3_childOf_7 : decode cX3_childOf 7 = .ok (.iload_n 2, 1) := by decide +kernel
theorem dyX3_childOf_8 : decode cX3_childOf 8 = .ok (.iadd, 1) := by decide +kernel
theorem dyX3_childOf_9 : decode cX3_childOf 9 = .ok (.invokevirtual 60, 3) := by decide +kernel
theorem dyX3_childOf_12 : decode cX3_childOf 12 = .ok (.ireturn, 1) := by decide +kernel
theorem zsg_yX3_childOf : yX3_childOf.cls = RX3 ∧ yX3_childOf.cls ≠ "java/lang/invoke/MethodHandle" ∧ yX3_childOf.cls ≠ "java/lang/invoke/VarHandle" ∧ (parseMethodDescriptor yX3_childOf.desc).map (fun d => d.parameters.length) = some 2 := by decide +kernel
set_option maxRecDepth 20000 in
theorem c_Nodes_childOf {l : Launch} {D : va_G} {B : Nat} {cA : Nat → ClassId} {ad : Nat → Nat} {S : List zC} (hS : zOkX S) {a1 : Int32} {a2 : Int32} {I : zI} {K : Int32 → Prop}  (h : w_Nodes_childOf a1 a2 I K) : Met l yX3_childOf (zws yX3_childOf cX3_childOf 3 (some .int)) (zrm 1 21) (zPc D B cA ad [.ref (B + 24), .int a1, .int a2] S I) (zQc D B cA (zpI S I K)) 0 0 (fun q => B ≤ q) := by
  refine zm_of (cc := cX3_childOf) (maxL := 3) (ret := (some .int)) (by decide +kernel) rfl (Nat.le_of_ble_eq_true rfl) trivial ?_
  intro p e s m args below meth c C _
  unfold w_Nodes_childOf at h
  show zX p l e (zrm 1 21) s m args below meth c (MQ below (zQc D B cA (zpI S I K)) args s 0 0 (fun q => B ≤ q)) D B cA 3 0 0 S I [(0, .ref (B + 24)), (1, .int a1), (2, .int a2)] [] 0
  refine zr_aload_n C dyX3_childOf_0 rfl 0 rfl ?_
  refine zg_3_41 C hS dyX3_childOf_1 ?_
  refine zr_iload_n C dyX3_childOf_4 rfl 1 rfl ?_
  refine zr_iconst C dyX3_childOf_5 zc_i_4 ?_
  refine zr_imul C dyX3_childOf_6 ?_
  refine zr_iload_n C dyX3_childOf_7 rfl 2 rfl ?_
  refine zr_iadd C dyX3_childOf_8 ?_
  refine zv_3_60 C hS (zIsRow.of hS zir_41) (st := []) h ⟨Nat.le_of_ble_eq_true rfl, Nat.le_of_ble_eq_true rfl⟩ (Nat.le_of_ble_eq_true rfl) dyX3_childOf_9 (fun r_1 h => ?_)
  exact zr_iret C rfl dyX3_childOf_12 ⟨rfl, rfl, _, rfl, h⟩
def w_Nodes_isToken (a1 : Int32) (I : zI) (K : Int32 → Prop) : Prop :=
  w_Row_get 25 3400 a1 I (fun r_1 => (if 0 ≤ r_1 then K 0 else K 1))
theorem dyX3_isToken_0 : decode cX3_isToken 0 = .ok (.aload_n 0, 1) := by decide +kernel
theorem dyX3_isToken_1 : decode cX3_isToken 1 = .ok (.getfield 14, 3) := by decide +kernel
theorem dyX3_isToken_4 : decode cX3_isToken 4 = .ok (.iload_n 1, 1) := by decide +kernel
theorem dyX3_isToken_5 : decode cX3_isToken 5 = .ok (.invokevirtual 60, 3) := by decide +kernel
theorem dyX3_isToken_8 : decode cX3_isToken 8 = .ok (.ifCond .ge 7, 3) := by decide +kernel
theorem dyX3_isToken_11 : decode cX3_isToken 11 = .ok (.iconst 1, 1) := by decide +kernel
theorem dyX3_isToken_12 : decode cX3_isToken 12 = .ok (.goto 4, 3) := by decide +kernel
theorem dyX3_isToken_15 : decode cX3_isToken 15 = .ok (.iconst 0, 1) := by decide +kernel
theorem dyX3_isToken_16 : decode cX3_isToken 16 = .ok (.ireturn, 1) := by decide +kernel
theorem zsg_yX3_isToken : yX3_isToken.cls = RX3 ∧ yX3_isToken.cls ≠ "java/lang/invoke/MethodHandle" ∧ yX3_isToken.cls ≠ "java/lang/invoke/VarHandle" ∧ (parseMethodDescriptor yX3_isToken.desc).map (fun d => d.parameters.length) = some 1 := by decide +kernel
set_option maxRecDepth 20000 in
theorem c_Nodes_isToken {l : Launch} {D : va_G} {B : Nat} {cA : Nat → ClassId} {ad : Nat → Nat} {S : List zC} (hS : zOkX S) {a1 : Int32} {I : zI} {K : Int32 → Prop}  (h : w_Nodes_isToken a1 I K) : Met l yX3_isToken (zws yX3_isToken cX3_isToken 2 (some .boolean)) (zrm 1 21) (zPc D B cA ad [.ref (B + 24), .int a1] S I) (zQc D B cA (zpI S I K)) 0 0 (fun q => B ≤ q) := by
  refine zm_of (cc := cX3_isToken) (maxL := 2) (ret := (some .boolean)) (by decide +kernel) rfl (Nat.le_of_ble_eq_true rfl) trivial ?_
  intro p e s m args below meth c C _
  unfold w_Nodes_isToken at h
  show zX p l e (zrm 1 21) s m args below meth c (MQ below (zQc D B cA (zpI S I K)) args s 0 0 (fun q => B ≤ q)) D B cA 2 0 0 S I [(0, .ref (B + 24)), (1, .int a1)] [] 0
  refine zr_aload_n C dyX3_isToken_0 rfl 0 rfl ?_
  refine zg_3_14 C hS dyX3_isToken_1 ?_
  refine zr_iload_n C dyX3_isToken_4 rfl 1 rfl ?_
  refine zv_3_60 C hS (zIsRow.of hS zir_25) (st := []) h ⟨Nat.le_of_ble_eq_true rfl, Nat.le_of_ble_eq_true rfl⟩ (Nat.le_of_ble_eq_true rfl) dyX3_isToken_5 (fun r_1 h => ?_)
  refine zr_if_ge C dyX3_isToken_8 (tgt := 15) (by decide) (fun hc_2 => ?_) (fun hc_2 => ?_)
  · replace h := zif_pos hc_2 h
    refine zr_iconst C dyX3_isToken_15 zc_i_0 ?_
    exact zr_zret C rfl (zb.nar zb_0) dyX3_isToken_16 ⟨rfl, rfl, _, rfl, h⟩
  · replace h := zif_neg hc_2 h
    refine zr_iconst C dyX3_isToken_11 zc_i_1 ?_
    refine zr_goto C dyX3_isToken_12 (tgt := 16) (by decide) ?_
    exact zr_zret C rfl (zb.nar zb_1) dyX3_isToken_16 ⟨rfl, rfl, _, rfl, h⟩
def w_Nodes_byteOf (a1 : Int32) (a2 : Int32) (I : zI) (K : Int32 → Prop) : Prop :=
  ∀ (P24 : Int32 → Prop), (∀ (t_1 : Int32), (K (((t_1.toUInt32 >>> ((24 - (8 * (a2 &&& 3))).toUInt32 &&& Int32.toUInt32 31)).toInt32) &&& 255)) → P24 t_1) → (if 4 ≤ a2 then (w_Row_get 39 3400 a1 I (fun r_2 => P24 r_2)) else (w_Row_get 37 3400 a1 I (fun r_3 => P24 r_3)))
theorem dyX3_byteOf_0 : decode cX3_byteOf 0 = .ok (.iload_n 2, 1) := by decide +kernel
theorem dyX3_byteOf_1 : decode cX3_byteOf 1 = .ok (.iconst 4, 1) := by decide +kernel
theorem dyX3_byteOf_2 : decode cX3_byteOf 2 = .ok (.if_icmp .ge 14, 3) := by decide +kernel
theorem dyX3_byteOf_5 : decode cX3_byteOf 5 = .ok (.aload_n 0, 1) := by decide +kernel
theorem dyX3_byteOf_6 : decode cX3_byteOf 6 = .ok (.getfield 35, 3) := by decide +kernel
theorem dyX3_byteOf_9 : decode cX3_byteOf 9 = .ok (.iload_n 1, 1) := by decide +kernel
theorem dyX3_byteOf_10 : decode cX3_byteOf 10 = .ok (.invokevirtual 60, 3) := by decide +kernel
theorem dyX3_byteOf_13 : decode cX3_byteOf 13 = .ok (.goto 11, 3) := by decide +kernel
theorem dyX3_byteOf_16 : decode cX3_byteOf 16 = .ok (.aload_n 0, 1) := by decide +kernel
theorem dyX3_byteOf_17 : decode cX3_byteOf 17 = .ok (.getfield 38, 3) := by decide +kernel
theorem dyX3_byteOf_20 : decode cX3_byteOf 20 = .ok (.iload_n 1, 1) := by decide +kernel
theorem dyX3_byteOf_21 : decode cX3_byteOf 21 = .ok (.invokevirtual 60, 3) := by decide +kernel
theorem dyX3_byteOf_24 : decode cX3_byteOf 24 = .ok (.istore_n 3, 1) := by decide +kernel
theorem dyX3_byteOf_25 : decode cX3_byteOf 25 = .ok (.iload_n 3, 1) := by decide +kernel
theorem dyX3_byteOf_26 : decode cX3_byteOf 26 = .ok (.bipush 24, 2) := by decide +kernel
theorem dyX3_byteOf_28 : decode cX3_byteOf 28 = .ok (.bipush 8, 2) := by decide +kernel
theorem dyX3_byteOf_30 : decode cX3_byteOf 30 = .ok (.iload_n 2, 1) := by decide +kernel
theorem dyX3_byteOf_31 : decode cX3_byteOf 31 = .ok (.iconst 3, 1) := by decide +kernel
theorem dyX3_byteOf_32 : decode cX3_byteOf 32 = .ok (.iand, 1) := by decide +kernel
theorem dyX3_byteOf_33 : decode cX3_byteOf 33 = .ok (.imul, 1) := by decide +kernel
theorem dyX3_byteOf_34 : decode cX3_byteOf 34 = .ok (.isub, 1) := by decide +kernel
theorem dyX3_byteOf_35 : decode cX3_byteOf 35 = .ok (.iushr, 1) := by decide +kernel
theorem dyX3_byteOf_36 : decode cX3_byteOf 36 = .ok (.sipush 255, 3) := by decide +kernel
theorem dyX3_byteOf_39 : decode cX3_byteOf 39 = .ok (.iand, 1) := by decide +kernel
theorem dyX3_byteOf_40 : decode cX3_byteOf 40 = .ok (.ireturn, 1) := by decide +kernel
theorem zsg_yX3_byteOf : yX3_byteOf.cls = RX3 ∧ yX3_byteOf.cls ≠ "java/lang/invoke/MethodHandle" ∧ yX3_byteOf.cls ≠ "java/lang/invoke/VarHandle" ∧ (parseMethodDescriptor yX3_byteOf.desc).map (fun d => d.parameters.length) = some 2 := by decide +kernel
set_option maxRecDepth 20000 in
theorem c_Nodes_byteOf {l : Launch} {D : va_G} {B : Nat} {cA : Nat → ClassId} {ad : Nat → Nat} {S : List zC} (hS : zOkX S) {a1 : Int32} {a2 : Int32} {I : zI} {K : Int32 → Prop}  (h : w_Nodes_byteOf a1 a2 I K) : Met l yX3_byteOf (zws yX3_byteOf cX3_byteOf 4 (some .int)) (zrm 1 21) (zPc D B cA ad [.ref (B + 24), .int a1, .int a2] S I) (zQc D B cA (zpI S I K)) 0 0 (fun q => B ≤ q) := by
  refine zm_of (cc := cX3_byteOf) (maxL := 4) (ret := (some .int)) (by decide +kernel) rfl (Nat.le_of_ble_eq_true rfl) trivial ?_
  intro p e s m args below meth c C _
  unfold w_Nodes_byteOf at h
  show zX p l e (zrm 1 21) s m args below meth c (MQ below (zQc D B cA (zpI S I K)) args s 0 0 (fun q => B ≤ q)) D B cA 4 0 0 S I [(0, .ref (B + 24)), (1, .int a1), (2, .int a2)] [] 0
  refine zr_iload_n C dyX3_byteOf_0 rfl 2 rfl ?_
  refine zr_iconst C dyX3_byteOf_1 zc_i_4 ?_
  refine zjn (h (fun (t_1 : Int32) => zX p l e (zrm 1 21) s m args below meth c (MQ below (zQc D B cA (zpI S I K)) args s 0 0 (fun q => B ≤ q)) D B cA 4 0 0 S I [(2, .int a2)] [.int t_1] 24) (fun t_1 h => ?_)) (fun h => ?_)
  · refine zr_istore_n C dyX3_byteOf_24 rfl (Nat.le_of_ble_eq_true rfl) (lv2 := [(3, .int t_1), (2, .int a2)]) rfl ?_
    refine zr_iload_n C dyX3_byteOf_25 rfl 0 rfl ?_
    refine zr_bipush C dyX3_byteOf_26 zc_b_24 ?_
    refine zr_bipush C dyX3_byteOf_28 zc_b_8 ?_
    refine zr_iload_n C dyX3_byteOf_30 rfl 1 rfl ?_
    refine zr_iconst C dyX3_byteOf_31 zc_i_3 ?_
    refine zr_iand C dyX3_byteOf_32 ?_
    refine zr_imul C dyX3_byteOf_33 ?_
    refine zr_isub C dyX3_byteOf_34 ?_
    refine zr_iushr C dyX3_byteOf_35 ?_
    refine zr_sipush C dyX3_byteOf_36 zc_s_255 ?_
    refine zr_iand C dyX3_byteOf_39 ?_
    exact zr_iret C rfl dyX3_byteOf_40 ⟨rfl, rfl, _, rfl, h⟩
  refine zr_icmp_ge C dyX3_byteOf_2 (tgt := 16) (by decide) (fun hc_4 => ?_) (fun hc_4 => ?_)
  · replace h := zif_pos hc_4 h
    refine zr_aload_n C dyX3_byteOf_16 rfl 0 rfl ?_
    refine zg_3_38 C hS dyX3_byteOf_17 ?_
    refine zr_iload_n C dyX3_byteOf_20 rfl 1 rfl ?_
    refine zv_3_60 C hS (zIsRow.of hS zir_39) (st := []) h ⟨Nat.le_of_ble_eq_true rfl, Nat.le_of_ble_eq_true rfl⟩ (Nat.le_of_ble_eq_true rfl) dyX3_byteOf_21 (fun r_2 h => ?_)
    refine zr_sub (lv2 := [(2, .int a2)]) [2] rfl ?_
    exact h
  · replace h := zif_neg hc_4 h
    refine zr_aload_n C dyX3_byteOf_5 rfl 0 rfl ?_
    refine zg_3_35 C hS dyX3_byteOf_6 ?_
    refine zr_iload_n C dyX3_byteOf_9 rfl 1 rfl ?_
    refine zv_3_60 C hS (zIsRow.of hS zir_37) (st := []) h ⟨Nat.le_of_ble_eq_true rfl, Nat.le_of_ble_eq_true rfl⟩ (Nat.le_of_ble_eq_true rfl) dyX3_byteOf_10 (fun r_3 h => ?_)
    refine zr_goto C dyX3_byteOf_13 (tgt := 24) (by decide) ?_
    refine zr_sub (lv2 := [(2, .int a2)]) [2] rfl ?_
    exact h
def w_Nodes_sameBytes (a1 : Int32) (a2 : Int32) (I : zI) (K : Int32 → Prop) : Prop :=
  w_Row_get 27 3400 a1 I (fun r_1 => w_Row_get 27 3400 a2 I (fun r_2 => (if r_1 = r_2 then (w_Row_get 35 3400 a1 I (fun r_3 => w_Row_get 35 3400 a2 I (fun r_4 => (if r_3 = r_4 then (w_Row_get 37 3400 a1 I (fun r_5 => w_Row_get 37 3400 a2 I (fun r_6 => (if r_5 = r_6 then (w_Row_get 39 3400 a1 I (fun r_7 => w_Row_get 39 3400 a2 I (fun r_8 => (if r_7 = r_8 then K 1 else K 0)))) else K 0)))) else K 0)))) else K 0)))
theorem dyX3_sameBytes_0 : decode cX3_sameBytes 0 = .ok (.aload_n 0, 1) := by decide +kernel
theorem dyX3_sameBytes_1 : decode cX3_sameBytes 1 = .ok (.getfield 20, 3) := by decide +kernel
theorem dyX3_sameBytes_4 : decode cX3_sameBytes 4 = .ok (.iload_n 1, 1) := by decide +kernel
theorem dyX3_sameBytes_5 : decode cX3_sameBytes 5 = .ok (.invokevirtual 60, 3) := by decide +kernel
theorem dyX3_sameBytes_8 : decode cX3_sameBytes 8 = .ok (.aload_n 0, 1) := by decide +kernel
theorem dyX3_sameBytes_9 : decode cX3_sameBytes 9 = .ok (.getfield 20, 3) := by decide +kernel
theorem dyX3_sameBytes_12 : decode cX3_sameBytes 12 = .ok (.iload_n 2, 1) := by decide +kernel
theorem dyX3_sameBytes_13 : decode cX3_sameBytes 13 = .ok (.invokevirtual 60, 3) := by decide +kernel
theorem dyX3_sameBytes_16 : decode cX3_sameBytes 16 = .ok (.if_icmp .ne 64, 3) := by decide +kernel
theorem dyX3_sameBytes_19 : decode cX3_sameBytes 19 = .ok (.aload_n 0, 1) := by decide +kernel
theorem dyX3_sameBytes_20 : decode cX3_sameBytes 20 = .ok (.getfield 32, 3) := by decide +kernel
theorem dyX3_sameBytes_23 : decode cX3_sameBytes 23 = .ok (.iload_n 1, 1) := by decide +kernel
theorem dyX3_sameBytes_24 : decode cX3_sameBytes 24 = .ok (.invokevirtual 60, 3) := by decide +kernel
theorem dyX3_sameBytes_27 : decode cX3_sameBytes 27 = .ok (.aload_n 0, 1) := by decide +kernel
theorem dyX3_sameBytes_28 : decode cX3_sameBytes 28 = .ok (.getfield 32, 3) := by decide +kernel
theorem dyX3_sameBytes_31 : decode cX3_sameBytes 31 = .ok (.iload_n 2, 1) := by decide +kernel
theorem dyX3_sameBytes_32 : decode cX3_sameBytes 32 = .ok (.invokevirtual 60, 3) := by decide +kernel
theorem dyX3_sameBytes_35 : decode cX3_sameBytes 35 = .ok (.if_icmp .ne 45, 3) := by decide +kernel
theorem dyX3_sameBytes_38 : decode cX3_sameBytes 38 = .ok (.aload_n 0, 1) := by decide +kernel
theorem dyX3_sameBytes_39 : decode cX3_sameBytes 39 = .ok (.getfield 35, 3) := by decide +kernel
theorem dyX3_sameBytes_42 : decode cX3_sameBytes 42 = .ok (.iload_n 1, 1) := by decide +kernel
theorem dyX3_sameBytes_43 : decode cX3_sameBytes 43 = .ok (.invokevirtual 60, 3) := by decide +kernel
theorem dyX3_sameBytes_46 : decode cX3_sameBytes 46 = .ok (.aload_n 0, 1) := by decide +kernel
theorem dyX3_sameBytes_47 : decode cX3_sameBytes 47 = .ok (.getfield 35, 3) := by decide +kernel
theorem dyX3_sameBytes_50 : decode cX3_sameBytes 50 = .ok (.iload_n 2, 1) := by decide +kernel
theorem dyX3_sameBytes_51 : decode cX3_sameBytes 51 = .ok (.invokevirtual 60, 3) := by decide +kernel
theorem dyX3_sameBytes_54 : decode cX3_sameBytes 54 = .ok (.if_icmp .ne 26, 3) := by decide +kernel
theorem dyX3_sameBytes_57 : decode cX3_sameBytes 57 = .ok (.aload_n 0, 1) := by decide +kernel
theorem dyX3_sameBytes_58 : decode cX3_sameBytes 58 = .ok (.getfield 38, 3) := by decide +kernel
theorem dyX3_sameBytes_61 : decode cX3_sameBytes 61 = .ok (.iload_n 1, 1) := by decide +kernel
theorem dyX3_sameBytes_62 : decode cX3_sameBytes 62 = .ok (.invokevirtual 60, 3) := by decide +kernel
theorem dyX3_sameBytes_65 : decode cX3_sameBytes 65 = .ok (.aload_n 0, 1) := by decide +kernel
theorem dyX3_sameBytes_66 : decode cX3_sameBytes 66 = .ok (.getfield 38, 3) := by decide +kernel
theorem dyX3_sameBytes_69 : decode cX3_sameBytes 69 = .ok (.iload_n 2, 1) := by decide +kernel
theorem dyX3_sameBytes_70 : decode cX3_sameBytes 70 = .ok (.invokevirtual 60, 3) := by decide +kernel
theorem dyX3_sameBytes_73 : decode cX3_sameBytes 73 = .ok (.if_icmp .ne 7, 3) := by decide +kernel
theorem dyX3_sameBytes_76 : decode cX3_sameBytes 76 = .ok (.iconst 1, 1) := by decide +kernel
theorem dyX3_sameBytes_77 : decode cX3_sameBytes 77 = .ok (.goto 4, 3) := by decide +kernel
theorem dyX3_sameBytes_80 : decode cX3_sameBytes 80 = .ok (.iconst 0, 1) := by decide +kernel
theorem dyX3_sameBytes_81 : decode cX3_sameBytes 81 = .ok (.ireturn, 1) := by decide +kernel
theorem zsg_yX3_sameBytes : yX3_sameBytes.cls = RX3 ∧ yX3_sameBytes.cls ≠ "java/lang/invoke/MethodHandle" ∧ yX3_sameBytes.cls ≠ "java/lang/invoke/VarHandle" ∧ (parseMethodDescriptor yX3_sameBytes.desc).map (fun d => d.parameters.length) = some 2 := by decide +kernel
set_option maxRecDepth 20000 in
theorem c_Nodes_sameBytes {l : Launch} {D : va_G} {B : Nat} {cA : Nat → ClassId} {ad : Nat → Nat} {S : List zC} (hS : zOkX S) {a1 : Int32} {a2 : Int32} {I : zI} {K : Int32 → Prop}  (h : w_Nodes_sameBytes a1 a2 I K) : Met l yX3_sameBytes (zws yX3_sameBytes cX3_sameBytes 3 (some .boolean)) (zrm 1 21) (zPc D B cA ad [.ref (B + 24), .int a1, .int a2] S I) (zQc D B cA (zpI S I K)) 0 0 (fun q => B ≤ q) := by
  refine zm_of (cc := cX3_sameBytes) (maxL := 3) (ret := (some .boolean)) (by decide +kernel) rfl (Nat.le_of_ble_eq_true rfl) trivial ?_
  intro p e s m args below meth c C _
  unfold w_Nodes_sameBytes at h
  show zX p l e (zrm 1 21) s m args below meth c (MQ below (zQc D B cA (zpI S I K)) args s 0 0 (fun q => B ≤ q)) D B cA 3 0 0 S I [(0, .ref (B + 24)), (1, .int a1), (2, .int a2)] [] 0
  refine zr_aload_n C dyX3_sameBytes_0 rfl 0 rfl ?_
  refine zg_3_20 C hS dyX3_sameBytes_1 ?_
  refine zr_iload_n C dyX3_sameBytes_4 rfl 1 rfl ?_
  refine zv_3_60 C hS (zIsRow.of hS zir_27) (st := []) h ⟨Nat.le_of_ble_eq_true rfl, Nat.le_of_ble_eq_true rfl⟩ (Nat.le_of_ble_eq_true rfl) dyX3_sameBytes_5 (fun r_1 h => ?_)
  refine zr_aload_n C dyX3_sameBytes_8 rfl 0 rfl ?_
  refine zg_3_20 C hS dyX3_sameBytes_9 ?_
  refine zr_iload_n C dyX3_sameBytes_12 rfl 2 rfl ?_
  refine zv_3_60 C hS (zIsRow.of hS zir_27) (st := [.int r_1]) h ⟨Nat.le_of_ble_eq_true rfl, Nat.le_of_ble_eq_true rfl⟩ (Nat.le_of_ble_eq_true rfl) dyX3_sameBytes_13 (fun r_2 h => ?_)
  refine zr_icmp_ne C dyX3_sameBytes_16 (tgt := 80) (by decide) (fun hc_12 => ?_) (fun hc_12 => ?_)
  · replace h := zif_neg hc_12 h
    refine zr_iconst C dyX3_sameBytes_80 zc_i_0 ?_
    exact zr_zret C rfl (zb.nar zb_0) dyX3_sameBytes_81 ⟨rfl, rfl, _, rfl, h⟩
  · replace h := zif_pos hc_12 h
    refine zr_aload_n C dyX3_sameBytes_19 rfl 0 rfl ?_
    refine zg_3_32 C hS dyX3_sameBytes_20 ?_
    refine zr_iload_n C dyX3_sameBytes_23 rfl 1 rfl ?_
    refine zv_3_60 C hS (zIsRow.of hS zir_35) (st := []) h ⟨Nat.le_of_ble_eq_true rfl, Nat.le_of_ble_eq_true rfl⟩ (Nat.le_of_ble_eq_true rfl) dyX3_sameBytes_24 (fun r_3 h => ?_)
    refine zr_aload_n C dyX3_sameBytes_27 rfl 0 rfl ?_
    refine zg_3_32 C hS dyX3_sameBytes_28 ?_
    refine zr_iload_n C dyX3_sameBytes_31 rfl 2 rfl ?_
    refine zv_3_60 C hS (zIsRow.of hS zir_35) (st := [.int r_3]) h ⟨Nat.le_of_ble_eq_true rfl, Nat.le_of_ble_eq_true rfl⟩ (Nat.le_of_ble_eq_true rfl) dyX3_sameBytes_32 (fun r_4 h => ?_)
    refine zr_icmp_ne C dyX3_sameBytes_35 (tgt := 80) (by decide) (fun hc_11 => ?_) (fun hc_11 => ?_)
    · replace h := zif_neg hc_11 h
      refine zr_iconst C dyX3_sameBytes_80 zc_i_0 ?_
      exact zr_zret C rfl (zb.nar zb_0) dyX3_sameBytes_81 ⟨rfl, rfl, _, rfl, h⟩
    · replace h := zif_pos hc_11 h
      refine zr_aload_n C dyX3_sameBytes_38 rfl 0 rfl ?_
      refine zg_3_35 C hS dyX3_sameBytes_39 ?_
      refine zr_iload_n C dyX3_sameBytes_42 rfl 1 rfl ?_
      refine zv_3_60 C hS (zIsRow.of hS zir_37) (st := []) h ⟨Nat.le_of_ble_eq_true rfl, Nat.le_of_ble_eq_true rfl⟩ (Nat.le_of_ble_eq_true rfl) dyX3_sameBytes_43 (fun r_5 h => ?_)
      refine zr_aload_n C dyX3_sameBytes_46 rfl 0 rfl ?_
      refine zg_3_35 C hS dyX3_sameBytes_47 ?_
      refine zr_iload_n C dyX3_sameBytes_50 rfl 2 rfl ?_
      refine zv_3_60 C hS (zIsRow.of hS zir_37) (st := [.int r_5]) h ⟨Nat.le_of_ble_eq_true rfl, Nat.le_of_ble_eq_true rfl⟩ (Nat.le_of_ble_eq_true rfl) dyX3_sameBytes_51 (fun r_6 h => ?_)
      refine zr_icmp_ne C dyX3_sameBytes_54 (tgt := 80) (by decide) (fun hc_10 => ?_) (fun hc_10 => ?_)
      · replace h := zif_neg hc_10 h
        refine zr_iconst C dyX3_sameBytes_80 zc_i_0 ?_
        exact zr_zret C rfl (zb.nar zb_0) dyX3_sameBytes_81 ⟨rfl, rfl, _, rfl, h⟩
      · replace h := zif_pos hc_10 h
        refine zr_aload_n C dyX3_sameBytes_57 rfl 0 rfl ?_
        refine zg_3_38 C hS dyX3_sameBytes_58 ?_
        refine zr_iload_n C dyX3_sameBytes_61 rfl 1 rfl ?_
        refine zv_3_60 C hS (zIsRow.of hS zir_39) (st := []) h ⟨Nat.le_of_ble_eq_true rfl, Nat.le_of_ble_eq_true rfl⟩ (Nat.le_of_ble_eq_true rfl) dyX3_sameBytes_62 (fun r_7 h => ?_)
        refine zr_aload_n C dyX3_sameBytes_65 rfl 0 rfl ?_
        refine zg_3_38 C hS dyX3_sameBytes_66 ?_
        refine zr_iload_n C dyX3_sameBytes_69 rfl 2 rfl ?_
        refine zv_3_60 C hS (zIsRow.of hS zir_39) (st := [.int r_7]) h ⟨Nat.le_of_ble_eq_true rfl, Nat.le_of_ble_eq_true rfl⟩ (Nat.le_of_ble_eq_true rfl) dyX3_sameBytes_70 (fun r_8 h => ?_)
        refine zr_icmp_ne C dyX3_sameBytes_73 (tgt := 80) (by decide) (fun hc_9 => ?_) (fun hc_9 => ?_)
        · replace h := zif_neg hc_9 h
          refine zr_iconst C dyX3_sameBytes_80 zc_i_0 ?_
          exact zr_zret C rfl (zb.nar zb_0) dyX3_sameBytes_81 ⟨rfl, rfl, _, rfl, h⟩
        · replace h := zif_pos hc_9 h
          refine zr_iconst C dyX3_sameBytes_76 zc_i_1 ?_
          refine zr_goto C dyX3_sameBytes_77 (tgt := 81) (by decide) ?_
          exact zr_zret C rfl (zb.nar zb_1) dyX3_sameBytes_81 ⟨rfl, rfl, _, rfl, h⟩
theorem zg_4_26 {p : Program} {l : Launch} {e : Env} {R : Room} {s : State} {m : MethodId} {args : Array Value} {below : List Frame} {meth : Method} {c : Code} {Q : State → Prop} {D : va_G} {B : Nat} {cA : Nat → ClassId} {ad : Nat → Nat} {cc : ByteArray} {nL : Nat} {ret : Option FieldType} {S : List zC} {I : zI} {lv : List (Nat × Value)} {st : List Value} {pc : Nat} (C : zCx p s m args meth c cc nL RX4 ret D B cA ad) (hS : zOkX S) (hd : decode cc pc = .ok (.getfield 26, 3)) (kk : zX p l e R s m args below meth c Q D B cA nL 0 0 S I lv (.ref (B + 95) :: st) (pc + 3)) : zX p l e R s m args below meth c Q D B cA nL 0 0 S I lv (.ref (B + 88) :: st) pc :=
  zr_getr C (ci := 4) (Cn := RX4) (T := TX4) (N := 5) (k := 88) (j := 3) (fs := [some (some 89), some (some 91), some (some 93), some (some 95), none]) rfl zin_4 (Nat.le_of_ble_eq_true rfl) rfl (hS _ _ zs_88) rfl zk_fl_4_26 hd kk
theorem zv_4_33 {p : Program} {l : Launch} {e : Env} {R : Room} {s : State} {m : MethodId} {args : Array Value} {below : List Frame} {meth : Method} {c : Code} {Q : State → Prop} {D : va_G} {B : Nat} {cA : Nat → ClassId} {ad : Nat → Nat} {cc : ByteArray} {nL : Nat} {ret : Option FieldType} {S : List zC} {I : zI} {lv : List (Nat × Value)} {st : List Value} {pc : Nat} (C : zCx p s m args meth c cc nL RX4 ret D B cA ad) {K : Int32 → Prop} {xk : Nat} {xn : Nat} {xa1 : Int32} (hS : zOkX S) (xhk : zIsRow S xk xn) (h : w_Row_get xk xn xa1 I K) (hR : 0 + 1 ≤ R.frames ∧ 8 + (2 + 11) + (0) ≤ R.locals) (hw : (st.map fun v => v.category).sum ≤ 8) (hd : decode cc pc = .ok (.invokevirtual 33, 3)) (kk : ∀ v, K v → zX p l e R s m args below meth c Q D B cA nL 0 0 S I lv (.int v :: st) (pc + 3)) : zX p l e R s m args below meth c Q D B cA nL 0 0 S I lv (.int xa1 :: .ref (B + xk) :: st) pc :=
  have hf : 0 ≤ R.cells ∧ 0 ≤ R.slots := ⟨Nat.zero_le _, Nat.zero_le _⟩
  zc_VpI C (ci := 6) (q := (RX6, TX6, 1)) (k := xk) (fs := [some (some (xk + 1))]) (As := [.int xa1]) (st := st) rfl xhk.1 (c_Row_get hS xhk h) (zgV zk_ml_4_33 zk_im_yX6_get zk_se_yX6_get zk_in_6 zk_cd_yX6_get) zsg_yX6_get hR rfl rfl hw hd hf kk
theorem zg_4_14 {p : Program} {l : Launch} {e : Env} {R : Room} {s : State} {m : MethodId} {args : Array Value} {below : List Frame} {meth : Method} {c : Code} {Q : State → Prop} {D : va_G} {B : Nat} {cA : Nat → ClassId} {ad : Nat → Nat} {cc : ByteArray} {nL : Nat} {ret : Option FieldType} {S : List zC} {I : zI} {lv : List (Nat × Value)} {st : List Value} {pc : Nat} (C : zCx p s m args meth c cc nL RX4 ret D B cA ad) (hS : zOkX S) (hd : decode cc pc = .ok (.getfield 14, 3)) (kk : zX p l e R s m args below meth c Q D B cA nL 0 0 S I lv (.ref (B + 89) :: st) (pc + 3)) : zX p l e R s m args below meth c Q D B cA nL 0 0 S I lv (.ref (B + 88) :: st) pc :=
  zr_getr C (ci := 4) (Cn := RX4) (T := TX4) (N := 5) (k := 88) (j := 0) (fs := [some (some 89), some (some 91), some (some 93), some (some 95), none]) rfl zin_4 (Nat.le_of_ble_eq_true rfl) rfl (hS _ _ zs_88) rfl zk_fl_4_14 hd kk
theorem zg_4_41 {p : Program} {l : Launch} {e : Env} {R : Room} {s : State} {m : MethodId} {args : Array Value} {below : List Frame} {meth : Method} {c : Code} {Q : State → Prop} {D : va_G} {B : Nat} {cA : Nat → ClassId} {ad : Nat → Nat} {cc : ByteArray} {nL : Nat} {ret : Option FieldType} {S : List zC} {I : zI} {lv : List (Nat × Value)} {st : List Value} {pc : Nat} (C : zCx p s m args meth c cc nL RX4 ret D B cA ad) (hS : zOkX S) (hd : decode cc pc = .ok (.getfield 41, 3)) (kk : zX p l e R s m args below meth c Q D B cA nL 0 0 S I lv (.int (I.1 88 4) :: st) (pc + 3)) : zX p l e R s m args below meth c Q D B cA nL 0 0 S I lv (.ref (B + 88) :: st) pc :=
  zr_geti C (ci := 4) (Cn := RX4) (T := TX4) (N := 5) (k := 88) (j := 4) (fs := [some (some 89), some (some 91), some (some 93), some (some 95), none]) rfl zin_4 (Nat.le_of_ble_eq_true rfl) rfl (hS _ _ zs_88) rfl zk_fl_4_41 hd kk
theorem zv_4_45 {p : Program} {l : Launch} {e : Env} {R : Room} {s : State} {m : MethodId} {args : Array Value} {below : List Frame} {meth : Method} {c : Code} {Q : State → Prop} {D : va_G} {B : Nat} {cA : Nat → ClassId} {ad : Nat → Nat} {cc : ByteArray} {nL : Nat} {ret : Option FieldType} {S : List zC} {I : zI} {lv : List (Nat × Value)} {st : List Value} {pc : Nat} (C : zCx p s m args meth c cc nL RX4 ret D B cA ad) {K : zI → Prop} {xk : Nat} {xn : Nat} {xa1 : Int32} {xa2 : Int32} (hS : zOkX S) (xhk : zIsRow S xk xn) (h : w_Row_set xk xn xa1 xa2 I K) (hR : 0 + 1 ≤ R.frames ∧ 8 + (3 + 11) + (0) ≤ R.locals) (hw : (st.map fun v => v.category).sum ≤ 8) (hd : decode cc pc = .ok (.invokevirtual 45, 3)) (kk : ∀ I2, K I2 → zX p l e R s m args below meth c Q D B cA nL 0 0 S I2 lv st (pc + 3)) : zX p l e R s m args below meth c Q D B cA nL 0 0 S I lv (.int xa2 :: .int xa1 :: .ref (B + xk) :: st) pc :=
  have hf : 0 ≤ R.cells ∧ 0 ≤ R.slots := ⟨Nat.zero_le _, Nat.zero_le _⟩
  zc_VqV C (ci := 6) (q := (RX6, TX6, 1)) (k := xk) (fs := [some (some (xk + 1))]) (As := [.int xa1, .int xa2]) (st := st) rfl xhk.1 (c_Row_set hS xhk h) (zgV zk_ml_4_45 zk_im_yX6_set zk_se_yX6_set zk_in_6 zk_cd_yX6_set) zsg_yX6_set hR rfl rfl hw hd hf kk
theorem zg_4_20 {p : Program} {l : Launch} {e : Env} {R : Room} {s : State} {m : MethodId} {args : Array Value} {below : List Frame} {meth : Method} {c : Code} {Q : State → Prop} {D : va_G} {B : Nat} {cA : Nat → ClassId} {ad : Nat → Nat} {cc : ByteArray} {nL : Nat} {ret : Option FieldType} {S : List zC} {I : zI} {lv : List (Nat × Value)} {st : List Value} {pc : Nat} (C : zCx p s m args meth c cc nL RX4 ret D B cA ad) (hS : zOkX S) (hd : decode cc pc = .ok (.getfield 20, 3)) (kk : zX p l e R s m args below meth c Q D B cA nL 0 0 S I lv (.ref (B + 91) :: st) (pc + 3)) : zX p l e R s m args below meth c Q D B cA nL 0 0 S I lv (.ref (B + 88) :: st) pc :=
  zr_getr C (ci := 4) (Cn := RX4) (T := TX4) (N := 5) (k := 88) (j := 1) (fs := [some (some 89), some (some 91), some (some 93), some (some 95), none]) rfl zin_4 (Nat.le_of_ble_eq_true rfl) rfl (hS _ _ zs_88) rfl zk_fl_4_20 hd kk
theorem zg_4_23 {p : Program} {l : Launch} {e : Env} {R : Room} {s : State} {m : MethodId} {args : Array Value} {below : List Frame} {meth : Method} {c : Code} {Q : State → Prop} {D : va_G} {B : Nat} {cA : Nat → ClassId} {ad : Nat → Nat} {cc : ByteArray} {nL : Nat} {ret : Option FieldType} {S : List zC} {I : zI} {lv : List (Nat × Value)} {st : List Value} {pc : Nat} (C : zCx p s m args meth c cc nL RX4 ret D B cA ad) (hS : zOkX S) (hd : decode cc pc = .ok (.getfield 23, 3)) (kk : zX p l e R s m args below meth c Q D B cA nL 0 0 S I lv (.ref (B + 93) :: st) (pc + 3)) : zX p l e R s m args below meth c Q D B cA nL 0 0 S I lv (.ref (B + 88) :: st) pc :=
  zr_getr C (ci := 4) (Cn := RX4) (T := TX4) (N := 5) (k := 88) (j := 2) (fs := [some (some 89), some (some 91), some (some 93), some (some 95), none]) rfl zin_4 (Nat.le_of_ble_eq_true rfl) rfl (hS _ _ zs_88) rfl zk_fl_4_23 hd kk
theorem zp_4_41 {p : Program} {l : Launch} {e : Env} {R : Room} {s : State} {m : MethodId} {args : Array Value} {below : List Frame} {meth : Method} {c : Code} {Q : State → Prop} {D : va_G} {B : Nat} {cA : Nat → ClassId} {ad : Nat → Nat} {cc : ByteArray} {nL : Nat} {ret : Option FieldType} {S : List zC} {I : zI} {lv : List (Nat × Value)} {st : List Value} {pc : Nat} (C : zCx p s m args meth c cc nL RX4 ret D B cA ad) (hS : zOkX S) {v : Int32} (hd : decode cc pc = .ok (.putfield 41, 3)) (kk : zX p l e R s m args below meth c Q D B cA nL 0 0 S (zu I 88 4 v) lv st (pc + 3)) : zX p l e R s m args below meth c Q D B cA nL 0 0 S I lv (.int v :: .ref (B + 88) :: st) pc :=
  zr_puti C (ci := 4) (Cn := RX4) (T := TX4) (N := 5) (k := 88) (j := 4) (fs := [some (some 89), some (some 91), some (some 93), some (some 95), none]) rfl zin_4 (Nat.le_of_ble_eq_true rfl) rfl (hS _ _ zs_88) rfl tyX4 tyX4_ok nmX4 (ty := .int) zpd_I rfl rfl rfl zk_fl_4_41 hd kk
def w_Pairs_findOrMake (a1 : Int32) (a2 : Int32) (I : zI) (K : Int32 → zI → Prop) : Prop :=
  ∀ (P20 : Int32 → Prop), (∀ (t_1 : Int32), (w_Row_get 95 7400 t_1 I (fun r_2 => ∀ (P34 : Int32 → Int32 → Prop), (∀ (v4_3 : Int32) (v5_4 : Int32), (∀ (P86 : Prop), ((w_Row_set 89 4000 (I.1 88 4) a1 I (fun I_5 => w_Row_set 91 4000 (I_5.1 88 4) a2 I_5 (fun I_6 => w_Row_get 95 7400 t_1 I_6 (fun r_7 => w_Row_set 93 4000 (I_6.1 88 4) r_7 I_6 (fun I_8 => w_Row_set 95 7400 t_1 ((I_8.1 88 4) + 1) I_8 (fun I_9 => ∀ I_10, I_10 = (zu I_9 88 4 ((I_9.1 88 4) + 1)) → K ((I_10.1 88 4) - 1) I_10)))))) → P86) → (if 4000 ≤ v5_4 then P86 else (if v4_3 ≤ 0 then P86 else (w_Row_get 91 4000 (v4_3 - 1) I (fun r_11 => (if r_11 = a2 then (K (v4_3 - 1) I) else (w_Row_get 93 4000 (v4_3 - 1) I (fun r_12 => ∀ v5_13, v5_13 = (v5_4 + 1) → P34 r_12 v5_13)))))))) → P34 v4_3 v5_4) → P34 r_2 0)) → P20 t_1) → (if 10000 ≤ a1 then (P20 ((a1 - 10000) + 3400)) else P20 a1)
theorem dyX4_findOrMake_0 : decode cX4_findOrMake 0 = .ok (.iload_n 1, 1) := by decide +kernel
theorem dyX4_findOrMake_1 : decode cX4_findOrMake 1 = .ok (.sipush 10000, 3) := by decide +kernel
theorem dyX4_findOrMake_4 : decode cX4_findOrMake 4 = .ok (.if_icmp .ge 7, 3) := by decide +kernel
theorem dyX4_findOrMake_7 : decode cX4_findOrMake 7 = .ok (.iload_n 1, 1) := by decide +kernel
theorem dyX4_findOrMake_8 : decode cX4_findOrMake 8 = .ok (.goto 12, 3) := by decide +kernel
theorem dyX4_findOrMake_11 : decode cX4_findOrMake 11 = .ok (.iload_n 1, 1) := by decide +kernel
theorem dyX4_findOrMake_12 : decode cX4_findOrMake 12 = .ok (.sipush 10000, 3) := by decide +kernel
theorem dyX4_findOrMake_15 : decode cX4_findOrMake 15 = .ok (.isub, 1) := by decide +kernel
theorem dyX4_findOrMake_16 : decode cX4_findOrMake 16 = .ok (.sipush 3400, 3) := by decide +kernel
theorem dyX4_findOrMake_19 : decode cX4_findOrMake 19 = .ok (.iadd, 1) := by decide +kernel
theorem dyX4_findOrMake_20 : decode cX4_findOrMake 20 = .ok (.istore_n 3, 1) := by decide +kernel
theorem dyX4_findOrMake_21 : decode cX4_findOrMake 21 = .ok (.aload_n 0, 1) := by decide +kernel
theorem dyX4_findOrMake_22 : decode cX4_findOrMake 22 = .ok (.getfield 26, 3) := by decide +kernel
theorem dyX4_findOrMake_25 : decode cX4_findOrMake 25 = .ok (.iload_n 3, 1) := by decide +kernel
theorem dyX4_findOrMake_26 : decode cX4_findOrMake 26 = .ok (.invokevirtual 33, 3) := by decide +kernel
theorem dyX4_findOrMake_29 : decode cX4_findOrMake 29 = .ok (.istore 4, 2) := by decide +kernel
theorem dyX4_findOrMake_31 : decode cX4_findOrMake 31 = .ok (.iconst 0, 1) := by decide +kernel
theorem dyX4_findOrMake_32 : decode cX4_findOrMake 32 = .ok (.istore 5, 2) := by decide +kernel
theorem dyX4_findOrMake_34 : decode cX4_findOrMake 34 = .ok (.iload 5, 2) := by decide +kernel
theorem dyX4_findOrMake_36 : decode cX4_findOrMake 36 = .ok (.sipush 4000, 3) := by decide +kernel
theorem dyX4_findOrMake_39 : decode cX4_findOrMake 39 = .ok (.if_icmp .ge 47, 3) := by decide +kernel
theorem dyX4_findOrMake_42 : decode cX4_findOrMake 42 = .ok (.iload 4, 2) := by decide +kernel
theorem dyX4_findOrMake_44 : decode cX4_findOrMake 44 = .ok (.ifCond .le 42, 3) := by decide +kernel
theorem dyX4_findOrMake_47 : decode cX4_findOrMake 47 = .ok (.aload_n 0, 1) := by decide +kernel
theorem dyX4_findOrMake_48 : decode cX4_findOrMake 48 = .ok (.getfield 20, 3) := by decide +kernel
theorem dyX4_findOrMake_51 : decode cX4_findOrMake 51 = .ok (.iload 4, 2) := by decide +kernel
theorem dyX4_findOrMake_53 : decode cX4_findOrMake 53 = .ok (.iconst 1, 1) := by decide +kernel
theorem dyX4_findOrMake_54 : decode cX4_findOrMake 54 = .ok (.isub, 1) := by decide +kernel
theorem dyX4_findOrMake_55 : decode cX4_findOrMake 55 = .ok (.invokevirtual 33, 3) := by decide +kernel
theorem dyX4_findOrMake_58 : decode cX4_findOrMake 58 = .ok (.iload_n 2, 1) := by decide +kernel
theorem dyX4_findOrMake_59 : decode cX4_findOrMake 59 = .ok (.if_icmp .ne 8, 3) := by decide +kernel
theorem dyX4_findOrMake_62 : decode cX4_findOrMake 62 = .ok (.iload 4, 2) := by decide +kernel
theorem dyX4_findOrMake_64 : decode cX4_findOrMake 64 = .ok (.iconst 1, 1) := by decide +kernel
theorem dyX4_findOrMake_65 : decode cX4_findOrMake 65 = .ok (.isub, 1) := by decide +kernel
theorem dyX4_findOrMake_66 : decode cX4_findOrMake 66 = .ok (.ireturn, 1) := by decide +kernel
theorem dyX4_findOrMake_67 : decode cX4_findOrMake 67 = .ok (.aload_n 0, 1) := by decide +kernel
theorem dyX4_findOrMake_68 : decode cX4_findOrMake 68 = .ok (.getfield 23, 3) := by decide +kernel
theorem dyX4_findOrMake_71 : decode cX4_findOrMake 71 = .ok (.iload 4, 2) := by decide +kernel
theorem dyX4_findOrMake_73 : decode cX4_findOrMake 73 = .ok (.iconst 1, 1) := by decide +kernel
theorem dyX4_findOrMake_74 : decode cX4_findOrMake 74 = .ok (.isub, 1) := by decide +kernel
theorem dyX4_findOrMake_75 : decode cX4_findOrMake 75 = .ok (.invokevirtual 33, 3) := by decide +kernel
theorem dyX4_findOrMake_78 : decode cX4_findOrMake 78 = .ok (.istore 4, 2) := by decide +kernel
theorem dyX4_findOrMake_80 : decode cX4_findOrMake 80 = .ok (.iinc 5 1, 3) := by decide +kernel
theorem dyX4_findOrMake_83 : decode cX4_findOrMake 83 = .ok (.goto (-49), 3) := by decide +kernel
theorem dyX4_findOrMake_86 : decode cX4_findOrMake 86 = .ok (.aload_n 0, 1) := by decide +kernel
theorem dyX4_findOrMake_87 : decode cX4_findOrMake 87 = .ok (.getfield 14, 3) := by decide +kernel
theorem dyX4_findOrMake_90 : decode cX4_findOrMake 90 = .ok (.aload_n 0, 1) := by decide +kernel
theorem dyX4_findOrMake_91 : decode cX4_findOrMake 91 = .ok (.getfield 41, 3) := by decide +kernel
theorem dyX4_findOrMake_94 : decode cX4_findOrMake 94 = .ok (.iload_n 1, 1) := by decide +kernel
theorem dyX4_findOrMake_95 : decode cX4_findOrMake 95 = .ok (.invokevirtual 45, 3) := by decide +kernel
theorem dyX4_findOrMake_98 : decode cX4_findOrMake 98 = .ok (.aload_n 0, 1) := by decide +kernel
theorem dyX4_findOrMake_99 : decode cX4_findOrMake 99 = .ok (.getfield 20, 3) := by decide +kernel
theorem dyX4_findOrMake_102 : decode cX4_findOrMake 102 = .ok (.aload_n 0, 1) := by decide +kernel
theorem dyX4_findOrMake_103 : decode cX4_findOrMake 103 = .ok (.getfield 41, 3) := by decide +kernel
theorem dyX4_findOrMake_106 : decode cX4_findOrMake 106 = .ok (.iload_n 2, 1) := by decide +kernel
theorem dyX4_findOrMake_107 : decode cX4_findOrMake 107 = .ok (.invokevirtual 45, 3) := by decide +kernel
theorem dyX4_findOrMake_110 : decode cX4_findOrMake 110 = .ok (.aload_n 0, 1) := by decide +kernel
theorem dyX4_findOrMake_111 : decode cX4_findOrMake 111 = .ok (.getfield 23, 3) := by decide +kernel
theorem dyX4_findOrMake_114 : decode cX4_findOrMake 114 = .ok (.aload_n 0, 1) := by decide +kernel
theorem dyX4_findOrMake_115 : decode cX4_findOrMake 115 = .ok (.getfield 41, 3) := by decide +kernel
theorem dyX4_findOrMake_118 : decode cX4_findOrMake 118 = .ok (.aload_n 0, 1) := by decide +kernel
theorem dyX4_findOrMake_119 : decode cX4_findOrMake 119 = .ok (.getfield 26, 3) := by decide +kernel
theorem dyX4_findOrMake_122 : decode cX4_findOrMake 122 = .ok (.iload_n 3, 1) := by decide +kernel
theorem dyX4_findOrMake_123 : decode cX4_findOrMake 123 = .ok (.invokevirtual 33, 3) := by decide +kernel
theorem dyX4_findOrMake_126 : decode cX4_findOrMake 126 = .ok (.invokevirtual 45, 3) := by decide +kernel
theorem dyX4_findOrMake_129 : decode cX4_findOrMake 129 = .ok (.aload_n 0, 1) := by decide +kernel
theorem dyX4_findOrMake_130 : decode cX4_findOrMake 130 = .ok (.getfield 26, 3) := by decide +kernel
theorem dyX4_findOrMake_133 : decode cX4_findOrMake 133 = .ok (.iload_n 3, 1) := by decide +kernel
theorem dyX4_findOrMake_134 : decode cX4_findOrMake 134 = .ok (.aload_n 0, 1) := by decide +kernel
theorem dyX4_findOrMake_135 : decode cX4_findOrMake 135 = .ok (.getfield 41, 3) := by decide +kernel
theorem dyX4_findOrMake_138 : decode cX4_findOrMake 138 = .ok (.iconst 1, 1) := by decide +kernel
theorem dyX4_findOrMake_139 : decode cX4_findOrMake 139 = .ok (.iadd, 1) := by decide +kernel
theorem dyX4_findOrMake_140 : decode cX4_findOrMake 140 = .ok (.invokevirtual 45, 3) := by decide +kernel
theorem dyX4_findOrMake_143 : decode cX4_findOrMake 143 = .ok (.aload_n 0, 1) := by decide +kernel
theorem dyX4_findOrMake_144 : decode cX4_findOrMake 144 = .ok (.dup, 1) := by decide +kernel
theorem dyX4_findOrMake_145 : decode cX4_findOrMake 145 = .ok (.getfield 41, 3) := by decide +kernel
theorem dyX4_findOrMake_148 : decode cX4_findOrMake 148 = .ok (.iconst 1, 1) := by decide +kernel
theorem dyX4_findOrMake_149 : decode cX4_findOrMake 149 = .ok (.iadd, 1) := by decide +kernel
theorem dyX4_findOrMake_150 : decode cX4_findOrMake 150 = .ok (.putfield 41, 3) := by decide +kernel
theorem dyX4_findOrMake_153 : decode cX4_findOrMake 153 = .ok (.aload_n 0, 1) := by decide +kernel
theorem dyX4_findOrMake_154 : decode cX4_findOrMake 154 = .ok (.getfield 41, 3) := by decide +kernel
theorem dyX4_findOrMake_157 : decode cX4_findOrMake 157 = .ok (.iconst 1, 1) := by decide +kernel
theorem dyX4_findOrMake_158 : decode cX4_findOrMake 158 = .ok (.isub, 1) := by decide +kernel
theorem dyX4_findOrMake_159 : decode cX4_findOrMake 159 = .ok (.ireturn, 1) := by decide +kernel
theorem zsg_yX4_findOrMake : yX4_findOrMake.cls = RX4 ∧ yX4_findOrMake.cls ≠ "java/lang/invoke/MethodHandle" ∧ yX4_findOrMake.cls ≠ "java/lang/invoke/VarHandle" ∧ (parseMethodDescriptor yX4_findOrMake.desc).map (fun d => d.parameters.length) = some 2 := by decide +kernel
set_option maxRecDepth 20000 in
theorem c_Pairs_findOrMake {l : Launch} {D : va_G} {B : Nat} {cA : Nat → ClassId} {ad : Nat → Nat} {S : List zC} (hS : zOkX S) {a1 : Int32} {a2 : Int32} {I : zI} {K : Int32 → zI → Prop}  (h : w_Pairs_findOrMake a1 a2 I K) : Met l yX4_findOrMake (zws yX4_findOrMake cX4_findOrMake 6 (some .int)) (zrm 1 22) (zPc D B cA ad [.ref (B + 88), .int a1, .int a2] S I) (zQc D B cA (zqI S K)) 0 0 (fun q => B ≤ q) := by
  refine zm_of (cc := cX4_findOrMake) (maxL := 6) (ret := (some .int)) (by decide +kernel) rfl (Nat.le_of_ble_eq_true rfl) trivial ?_
  intro p e s m args below meth c C _
  unfold w_Pairs_findOrMake at h
  show zX p l e (zrm 1 22) s m args below meth c (MQ below (zQc D B cA (zqI S K)) args s 0 0 (fun q => B ≤ q)) D B cA 6 0 0 S I [(0, .ref (B + 88)), (1, .int a1), (2, .int a2)] [] 0
  refine zr_iload_n C dyX4_findOrMake_0 rfl 1 rfl ?_
  refine zr_sipush C dyX4_findOrMake_1 zc_s_10000 ?_
  refine zjn (h (fun (t_1 : Int32) => zX p l e (zrm 1 22) s m args below meth c (MQ below (zQc D B cA (zqI S K)) args s 0 0 (fun q => B ≤ q)) D B cA 6 0 0 S I [(0, .ref (B + 88)), (1, .int a1), (2, .int a2)] [.int t_1] 20) (fun t_1 h => ?_)) (fun h => ?_)
  · refine zr_istore_n C dyX4_findOrMake_20 rfl (Nat.le_of_ble_eq_true rfl) (lv2 := [(3, .int t_1), (0, .ref (B + 88)), (1, .int a1), (2, .int a2)]) rfl ?_
    refine zr_aload_n C dyX4_findOrMake_21 rfl 1 rfl ?_
    refine zg_4_26 C hS dyX4_findOrMake_22 ?_
    refine zr_iload_n C dyX4_findOrMake_25 rfl 0 rfl ?_
    refine zv_4_33 C hS (zIsRow.of hS zir_95) (st := []) h ⟨Nat.le_of_ble_eq_true rfl, Nat.le_of_ble_eq_true rfl⟩ (Nat.le_of_ble_eq_true rfl) dyX4_findOrMake_26 (fun r_2 h => ?_)
    refine zr_istore C dyX4_findOrMake_29 (Nat.le_of_ble_eq_true rfl) (lv2 := [(4, .int r_2), (3, .int t_1), (0, .ref (B + 88)), (1, .int a1), (2, .int a2)]) rfl ?_
    refine zr_iconst C dyX4_findOrMake_31 zc_i_0 ?_
    refine zr_istore C dyX4_findOrMake_32 (Nat.le_of_ble_eq_true rfl) (lv2 := [(5, .int 0), (4, .int r_2), (3, .int t_1), (0, .ref (B + 88)), (1, .int a1), (2, .int a2)]) rfl ?_
    refine zjn (h (fun (v4_3 : Int32) (v5_4 : Int32) => zX p l e (zrm 1 22) s m args below meth c (MQ below (zQc D B cA (zqI S K)) args s 0 0 (fun q => B ≤ q)) D B cA 6 0 0 S I [(5, .int v5_4), (4, .int v4_3), (3, .int t_1), (0, .ref (B + 88)), (1, .int a1), (2, .int a2)] [] 34) (fun v4_3 v5_4 h => ?_)) (fun h => ?_)
    · refine zr_iload C dyX4_findOrMake_34 0 rfl ?_
      refine zr_sipush C dyX4_findOrMake_36 zc_s_4000 ?_
      refine zjn (h (zX p l e (zrm 1 22) s m args below meth c (MQ below (zQc D B cA (zqI S K)) args s 0 0 (fun q => B ≤ q)) D B cA 6 0 0 S I [(3, .int t_1), (0, .ref (B + 88)), (1, .int a1), (2, .int a2)] [] 86) (fun  h => ?_)) (fun h => ?_)
      · refine zr_aload_n C dyX4_findOrMake_86 rfl 1 rfl ?_
        refine zg_4_14 C hS dyX4_findOrMake_87 ?_
        refine zr_aload_n C dyX4_findOrMake_90 rfl 1 rfl ?_
        refine zg_4_41 C hS dyX4_findOrMake_91 ?_
        refine zr_iload_n C dyX4_findOrMake_94 rfl 2 rfl ?_
        refine zv_4_45 C hS (zIsRow.of hS zir_89) (st := []) h ⟨Nat.le_of_ble_eq_true rfl, Nat.le_of_ble_eq_true rfl⟩ (Nat.le_of_ble_eq_true rfl) dyX4_findOrMake_95 (fun I_5 h => ?_)
        refine zr_aload_n C dyX4_findOrMake_98 rfl 1 rfl ?_
        refine zg_4_20 C hS dyX4_findOrMake_99 ?_
        refine zr_aload_n C dyX4_findOrMake_102 rfl 1 rfl ?_
        refine zg_4_41 C hS dyX4_findOrMake_103 ?_
        refine zr_iload_n C dyX4_findOrMake_106 rfl 3 rfl ?_
        refine zv_4_45 C hS (zIsRow.of hS zir_91) (st := []) h ⟨Nat.le_of_ble_eq_true rfl, Nat.le_of_ble_eq_true rfl⟩ (Nat.le_of_ble_eq_true rfl) dyX4_findOrMake_107 (fun I_6 h => ?_)
        refine zr_aload_n C dyX4_findOrMake_110 rfl 1 rfl ?_
        refine zg_4_23 C hS dyX4_findOrMake_111 ?_
        refine zr_aload_n C dyX4_findOrMake_114 rfl 1 rfl ?_
        refine zg_4_41 C hS dyX4_findOrMake_115 ?_
        refine zr_aload_n C dyX4_findOrMake_118 rfl 1 rfl ?_
        refine zg_4_26 C hS dyX4_findOrMake_119 ?_
        refine zr_iload_n C dyX4_findOrMake_122 rfl 0 rfl ?_
        refine zv_4_33 C hS (zIsRow.of hS zir_95) (st := [.int (I_6.1 88 4), .ref (B + 93)]) h ⟨Nat.le_of_ble_eq_true rfl, Nat.le_of_ble_eq_true rfl⟩ (Nat.le_of_ble_eq_true rfl) dyX4_findOrMake_123 (fun r_7 h => ?_)
        refine zv_4_45 C hS (zIsRow.of hS zir_93) (st := []) h ⟨Nat.le_of_ble_eq_true rfl, Nat.le_of_ble_eq_true rfl⟩ (Nat.le_of_ble_eq_true rfl) dyX4_findOrMake_126 (fun I_8 h => ?_)
        refine zr_aload_n C dyX4_findOrMake_129 rfl 1 rfl ?_
        refine zg_4_26 C hS dyX4_findOrMake_130 ?_
        refine zr_iload_n C dyX4_findOrMake_133 rfl 0 rfl ?_
        refine zr_aload_n C dyX4_findOrMake_134 rfl 1 rfl ?_
        refine zg_4_41 C hS dyX4_findOrMake_135 ?_
        refine zr_iconst C dyX4_findOrMake_138 zc_i_1 ?_
        refine zr_iadd C dyX4_findOrMake_139 ?_
        refine zv_4_45 C hS (zIsRow.of hS zir_95) (st := []) h ⟨Nat.le_of_ble_eq_true rfl, Nat.le_of_ble_eq_true rfl⟩ (Nat.le_of_ble_eq_true rfl) dyX4_findOrMake_140 (fun I_9 h => ?_)
        refine zr_aload_n C dyX4_findOrMake_143 rfl 1 rfl ?_
        refine zr_dup C dyX4_findOrMake_144 rfl ?_
        refine zg_4_41 C hS dyX4_findOrMake_145 ?_
        refine zr_iconst C dyX4_findOrMake_148 zc_i_1 ?_
        refine zr_iadd C dyX4_findOrMake_149 ?_
        refine zp_4_41 C hS dyX4_findOrMake_150 ?_
        refine zn_mem C (fun I_10 eI_10 => ?_)
        replace h := h I_10 eI_10
        refine zr_aload_n C dyX4_findOrMake_153 rfl 1 rfl ?_
        refine zg_4_41 C hS dyX4_findOrMake_154 ?_
        refine zr_iconst C dyX4_findOrMake_157 zc_i_1 ?_
        refine zr_isub C dyX4_findOrMake_158 ?_
        exact zr_iret C rfl dyX4_findOrMake_159 ⟨rfl, _, rfl, h⟩
      refine zr_icmp_ge C dyX4_findOrMake_39 (tgt := 86) (by decide) (fun hc_16 => ?_) (fun hc_16 => ?_)
      · replace h := zif_pos hc_16 h
        refine zr_sub (lv2 := [(3, .int t_1), (0, .ref (B + 88)), (1, .int a1), (2, .int a2)]) [2, 3, 4, 5] rfl ?_
        exact h
      · replace h := zif_neg hc_16 h
        refine zr_iload C dyX4_findOrMake_42 1 rfl ?_
        refine zr_if_le C dyX4_findOrMake_44 (tgt := 86) (by decide) (fun hc_15 => ?_) (fun hc_15 => ?_)
        · replace h := zif_pos hc_15 h
          refine zr_sub (lv2 := [(3, .int t_1), (0, .ref (B + 88)), (1, .int a1), (2, .int a2)]) [2, 3, 4, 5] rfl ?_
          exact h
        · replace h := zif_neg hc_15 h
          refine zr_aload_n C dyX4_findOrMake_47 rfl 3 rfl ?_
          refine zg_4_20 C hS dyX4_findOrMake_48 ?_
          refine zr_iload C dyX4_findOrMake_51 1 rfl ?_
          refine zr_iconst C dyX4_findOrMake_53 zc_i_1 ?_
          refine zr_isub C dyX4_findOrMake_54 ?_
          refine zv_4_33 C hS (zIsRow.of hS zir_91) (st := []) h ⟨Nat.le_of_ble_eq_true rfl, Nat.le_of_ble_eq_true rfl⟩ (Nat.le_of_ble_eq_true rfl) dyX4_findOrMake_55 (fun r_11 h => ?_)
          refine zr_iload_n C dyX4_findOrMake_58 rfl 5 rfl ?_
          refine zr_icmp_ne C dyX4_findOrMake_59 (tgt := 67) (by decide) (fun hc_14 => ?_) (fun hc_14 => ?_)
          · replace h := zif_neg hc_14 h
            refine zr_aload_n C dyX4_findOrMake_67 rfl 3 rfl ?_
            refine zg_4_23 C hS dyX4_findOrMake_68 ?_
            refine zr_iload C dyX4_findOrMake_71 1 rfl ?_
            refine zr_iconst C dyX4_findOrMake_73 zc_i_1 ?_
            refine zr_isub C dyX4_findOrMake_74 ?_
            refine zv_4_33 C hS (zIsRow.of hS zir_93) (st := []) h ⟨Nat.le_of_ble_eq_true rfl, Nat.le_of_ble_eq_true rfl⟩ (Nat.le_of_ble_eq_true rfl) dyX4_findOrMake_75 (fun r_12 h => ?_)
            refine zr_istore C dyX4_findOrMake_78 (Nat.le_of_ble_eq_true rfl) (lv2 := [(4, .int r_12), (5, .int v5_4), (3, .int t_1), (0, .ref (B + 88)), (1, .int a1), (2, .int a2)]) rfl ?_
            refine zn_iinc C (fun v5_13 => [(5, .int v5_13), (4, .int r_12), (3, .int t_1), (0, .ref (B + 88)), (1, .int a1), (2, .int a2)]) dyX4_findOrMake_80 1 rfl zc_i_1 (Nat.le_of_ble_eq_true rfl) (fun _ => rfl) (fun v5_13 ev5_13 => ?_)
            replace h := h v5_13 ev5_13
            refine zr_goto C dyX4_findOrMake_83 (tgt := 34) (by decide) ?_
            exact h
          · replace h := zif_pos hc_14 h
            refine zr_iload C dyX4_findOrMake_62 1 rfl ?_
            refine zr_iconst C dyX4_findOrMake_64 zc_i_1 ?_
            refine zr_isub C dyX4_findOrMake_65 ?_
            exact zr_iret C rfl dyX4_findOrMake_66 ⟨rfl, _, rfl, h⟩
    exact h
  refine zr_icmp_ge C dyX4_findOrMake_4 (tgt := 11) (by decide) (fun hc_17 => ?_) (fun hc_17 => ?_)
  · replace h := zif_pos hc_17 h
    refine zr_iload_n C dyX4_findOrMake_11 rfl 1 rfl ?_
    refine zr_sipush C dyX4_findOrMake_12 zc_s_10000 ?_
    refine zr_isub C dyX4_findOrMake_15 ?_
    refine zr_sipush C dyX4_findOrMake_16 zc_s_3400 ?_
    refine zr_iadd C dyX4_findOrMake_19 ?_
    exact h
  · replace h := zif_neg hc_17 h
    refine zr_iload_n C dyX4_findOrMake_7 rfl 1 rfl ?_
    refine zr_goto C dyX4_findOrMake_8 (tgt := 20) (by decide) ?_
    exact h
theorem zv_4_37 {p : Program} {l : Launch} {e : Env} {R : Room} {s : State} {m : MethodId} {args : Array Value} {below : List Frame} {meth : Method} {c : Code} {Q : State → Prop} {D : va_G} {B : Nat} {cA : Nat → ClassId} {ad : Nat → Nat} {cc : ByteArray} {nL : Nat} {ret : Option FieldType} {S : List zC} {I : zI} {lv : List (Nat × Value)} {st : List Value} {pc : Nat} (C : zCx p s m args meth c cc nL RX4 ret D B cA ad) {K : Int32 → zI → Prop} {xa1 : Int32} {xa2 : Int32} (hS : zOkX S)  (h : w_Pairs_findOrMake xa1 xa2 I K) (hR : 1 + 1 ≤ R.frames ∧ 8 + (6 + 11) + (22) ≤ R.locals) (hw : (st.map fun v => v.category).sum ≤ 8) (hd : decode cc pc = .ok (.invokevirtual 37, 3)) (kk : ∀ v I2, K v I2 → zX p l e R s m args below meth c Q D B cA nL 0 0 S I2 lv (.int v :: st) (pc + 3)) : zX p l e R s m args below meth c Q D B cA nL 0 0 S I lv (.int xa2 :: .int xa1 :: .ref (B + 88) :: st) pc :=
  have hf : 0 ≤ R.cells ∧ 0 ≤ R.slots := ⟨Nat.zero_le _, Nat.zero_le _⟩
  zc_VqI C (ci := 4) (q := (RX4, TX4, 5)) (k := 88) (fs := [some (some 89), some (some 91), some (some 93), some (some 95), none]) (As := [.int xa1, .int xa2]) (st := st) rfl (hS _ _ zs_88) (c_Pairs_findOrMake hS h) (zgV zk_ml_4_37 zk_im_yX4_findOrMake zk_se_yX4_findOrMake zk_in_4 zk_cd_yX4_findOrMake) zsg_yX4_findOrMake hR rfl rfl hw hd hf kk
def w_Pairs_layPart : Nat → Nat → Nat → Int32 → Int32 → Int32 → zI → (Int32 → zI → Prop) → Prop
  | 0, _, _, _, _, _, _, _ => False
  | d + 1, a1, a1n, a2, a3, a4, I, K => ∀ (P12 : Prop), ((w_Row_get a1 a1n a2 I (fun r_1 => K r_1 I)) → P12) → (if a3 ≤ 1 then P12 else (if a4 ≤ 8 then (∀ v5_2, v5_2 = ((a3 + 1) / 2) → w_Pairs_layPart d a1 a1n a2 v5_2 (a4 + 1) I (fun r_3 I_4 => w_Pairs_layPart d a1 a1n (a2 + v5_2) (a3 - v5_2) (a4 + 1) I_4 (fun r_5 I_6 => w_Pairs_findOrMake r_3 r_5 I_6 (fun r_7 I_8 => K (10000 + r_7) I_8)))) else P12))
theorem dyX4_layPart_0 : decode cX4_layPart 0 = .ok (.iload_n 3, 1) := by decide +kernel
theorem dyX4_layPart_1 : decode cX4_layPart 1 = .ok (.iconst 1, 1) := by decide +kernel
theorem dyX4_layPart_2 : decode cX4_layPart 2 = .ok (.if_icmp .le 10, 3) := by decide +kernel
theorem dyX4_layPart_5 : decode cX4_layPart 5 = .ok (.iload 4, 2) := by decide +kernel
theorem dyX4_layPart_7 : decode cX4_layPart 7 = .ok (.bipush 8, 2) := by decide +kernel
theorem dyX4_layPart_9 : decode cX4_layPart 9 = .ok (.if_icmp .le 9, 3) := by decide +kernel
theorem dyX4_layPart_12 : decode cX4_layPart 12 = .ok (.aload_n 1, 1) := by decide +kernel
theorem dyX4_layPart_13 : decode cX4_layPart 13 = .ok (.iload_n 2, 1) := by decide +kernel
theorem dyX4_layPart_14 : decode cX4_layPart 14 = .ok (.invokevirtual 33, 3) := by decide +kernel
theorem dyX4_layPart_17 : decode cX4_layPart 17 = .ok (.ireturn, 1) := by decide +kernel
theorem dyX4_layPart_18 : decode cX4_layPart 18 = .ok (.iload_n 3, 1) := by decide +kernel
theorem dyX4_layPart_19 : decode cX4_layPart 19 = .ok (.iconst 1, 1) := by decide +kernel
theorem dyX4_layPart_20 : decode cX4_layPart 20 = .ok (.iadd, 1) := by decide +kernel
theorem dyX4_layPart_21 : decode cX4_layPart 21 = .ok (.iconst 2, 1) := by decide +kernel
theorem dyX4_layPart_22 : decode cX4_layPart 22 = .ok (.idiv, 1) := by decide +kernel
theorem dyX4_layPart_23 : decode cX4_layPart 23 = .ok (.istore 5, 2) := by decide +kernel
theorem dyX4_layPart_25 : decode cX4_layPart 25 = .ok (.aload_n 0, 1) := by decide +kernel
theorem dyX4_layPart_26 : decode cX4_layPart 26 = .ok (.aload_n 1, 1) := by decide +kernel
theorem dyX4_layPart_27 : decode cX4_layPart 27 = .ok (.iload_n 2, 1) := by decide +kernel
theorem dyX4_layPart_28 : decode cX4_layPart 28 = .ok (.iload 5, 2) := by decide +kernel
theorem dyX4_layPart_30 : decode cX4_layPart 30 = .ok (.iload 4, 2) := by decide +kernel
theorem dyX4_layPart_32 : decode cX4_layPart 32 = .ok (.iconst 1, 1) := by decide +kernel
theorem dyX4_layPart_33 : decode cX4_layPart 33 = .ok (.iadd, 1) := by decide +kernel
theorem dyX4_layPart_34 : decode cX4_layPart 34 = .ok (.invokestatic 29, 3) := by decide +kernel
theorem dyX4_layPart_37 : decode cX4_layPart 37 = .ok (.istore 6, 2) := by decide +kernel
theorem dyX4_layPart_39 : decode cX4_layPart 39 = .ok (.aload_n 0, 1) := by decide +kernel
theorem dyX4_layPart_40 : decode cX4_layPart 40 = .ok (.aload_n 1, 1) := by decide +kernel
theorem dyX4_layPart_41 : decode cX4_layPart 41 = .ok (.iload_n 2, 1) := by decide +kernel
theorem dyX4_layPart_42 : decode cX4_layPart 42 = .ok (.iload 5, 2) := by decide +kernel
theorem dyX4_layPart_44 : decode cX4_layPart 44 = .ok (.iadd, 1) := by decide +kernel
theorem dyX4_layPart_45 : decode cX4_layPart 45 = .ok (.iload_n 3, 1) := by decide +kernel
theorem dyX4_layPart_46 : decode cX4_layPart 46 = .ok (.iload 5, 2) := by decide +kernel
theorem dyX4_layPart_48 : decode cX4_layPart 48 = .ok (.isub, 1) := by decide +kernel
theorem dyX4_layPart_49 : decode cX4_layPart 49 = .ok (.iload 4, 2) := by decide +kernel
theorem dyX4_layPart_51 : decode cX4_layPart 51 = .ok (.iconst 1, 1) := by decide +kernel
theorem dyX4_layPart_52 : decode cX4_layPart 52 = .ok (.iadd, 1) := by decide +kernel
theorem dyX4_layPart_53 : decode cX4_layPart 53 = .ok (.invokestatic 29, 3) := by decide +kernel
theorem dyX4_layPart_56 : decode cX4_layPart 56 = .ok (.istore 7, 2) := by decide +kernel
theorem dyX4_layPart_58 : decode cX4_layPart 58 = .ok (.sipush 10000, 3) := by decide +kernel
theorem dyX4_layPart_61 : decode cX4_layPart 61 = .ok (.aload_n 0, 1) := by decide +kernel
theorem dyX4_layPart_62 : decode cX4_layPart 62 = .ok (.iload 6, 2) := by decide +kernel
theorem dyX4_layPart_64 : decode cX4_layPart 64 = .ok (.iload 7, 2) := by decide +kernel
theorem dyX4_layPart_66 : decode cX4_layPart 66 = .ok (.invokevirtual 37, 3) := by decide +kernel
theorem dyX4_layPart_69 : decode cX4_layPart 69 = .ok (.iadd, 1) := by decide +kernel
theorem dyX4_layPart_70 : decode cX4_layPart 70 = .ok (.ireturn, 1) := by decide +kernel
theorem zsg_yX4_layPart : yX4_layPart.cls ≠ "java/lang/invoke/MethodHandle" ∧ yX4_layPart.cls ≠ "java/lang/invoke/VarHandle" ∧ (parseMethodDescriptor yX4_layPart.desc).map (fun d => d.parameters.length) = some 5 := by decide +kernel
theorem zv_4_29r {p : Program} {l : Launch} {e : Env} {R : Room} {s : State} {m : MethodId} {args : Array Value} {below : List Frame} {meth : Method} {c : Code} {Q : State → Prop} {D : va_G} {B : Nat} {cA : Nat → ClassId} {ad : Nat → Nat} {cc : ByteArray} {nL : Nat} {ret : Option FieldType} {S : List zC} {I : zI} {lv : List (Nat × Value)} {st : List Value} {pc : Nat} (C : zCx p s m args meth c cc nL RX4 ret D B cA ad) {K : Int32 → zI → Prop} {xa1 : Nat} {xa1n : Nat} {xa2 : Int32} {xa3 : Int32} {xa4 : Int32} {d : Nat} (ih : ∀ {xa1 : Nat} {xa1n : Nat} {xa2 : Int32} {xa3 : Int32} {xa4 : Int32} {I : zI} {K : Int32 → zI → Prop} (xha1 : zIsRow S xa1 xa1n) (h : w_Pairs_layPart d xa1 xa1n xa2 xa3 xa4 I K), Met l yX4_layPart (zws yX4_layPart cX4_layPart 8 (some .int)) (zrm (d + 4) (30 * d + 200)) (zPc D B cA ad [.ref (B + 88), .ref (B + xa1), .int xa2, .int xa3, .int xa4] S I) (zQc D B cA (zqI S K)) 0 0 (fun q => B ≤ q)) (xha1 : zIsRow S xa1 xa1n) (h : w_Pairs_layPart d xa1 xa1n xa2 xa3 xa4 I K) (hR : d + 4 + 1 ≤ R.frames ∧ 8 + (8 + 11) + (30 * d + 200) ≤ R.locals) (hw : (st.map fun v => v.category).sum ≤ 8) (hd : decode cc pc = .ok (.invokestatic 29, 3)) (kk : ∀ v I2, K v I2 → zX p l e R s m args below meth c Q D B cA nL 0 0 S I2 lv (.int v :: st) (pc + 3)) : zX p l e R s m args below meth c Q D B cA nL 0 0 S I lv (.int xa4 :: .int xa3 :: .int xa2 :: .ref (B + xa1) :: .ref (B + 88) :: st) pc :=
  have hf : 0 ≤ R.cells ∧ 0 ≤ R.slots := ⟨Nat.zero_le _, Nat.zero_le _⟩
  zc_SqI C (As := [.ref (B + 88), .ref (B + xa1), .int xa2, .int xa3, .int xa4]) (st := st) (ih xha1 h) (zgM zk_cd_yX4_layPart) zk_ml_4_29 zk_st_yX4_layPart zk_in_4 zsg_yX4_layPart hR rfl rfl hw hd hf kk
set_option maxRecDepth 20000 in
theorem c_Pairs_layPart {l : Launch} {D : va_G} {B : Nat} {cA : Nat → ClassId} {ad : Nat → Nat} {S : List zC} (hS : zOkX S) (d : Nat) : ∀ {a1 : Nat} {a1n : Nat} {a2 : Int32} {a3 : Int32} {a4 : Int32} {I : zI} {K : Int32 → zI → Prop} (ha1 : zIsRow S a1 a1n) (h : w_Pairs_layPart d a1 a1n a2 a3 a4 I K), Met l yX4_layPart (zws yX4_layPart cX4_layPart 8 (some .int)) (zrm (d + 4) (30 * d + 200)) (zPc D B cA ad [.ref (B + 88), .ref (B + a1), .int a2, .int a3, .int a4] S I) (zQc D B cA (zqI S K)) 0 0 (fun q => B ≤ q) := by
  induction d with
  | zero =>
    intro a1 a1n a2 a3 a4 I K ha1 h
    exact False.elim h
  | succ d ih =>
  intro a1 a1n a2 a3 a4 I K ha1 h
  refine zm_of (cc := cX4_layPart) (maxL := 8) (ret := (some .int)) (by decide +kernel) rfl (Nat.le_of_ble_eq_true rfl) trivial ?_
  intro p e s m args below meth c C _
  simp only [w_Pairs_layPart] at h
  show zX p l e (zrm (d + 1 + 4) (30 * (d + 1) + 200)) s m args below meth c (MQ below (zQc D B cA (zqI S K)) args s 0 0 (fun q => B ≤ q)) D B cA 8 0 0 S I [(0, .ref (B + 88)), (1, .ref (B + a1)), (2, .int a2), (3, .int a3), (4, .int a4)] [] 0
  refine zr_iload_n C dyX4_layPart_0 rfl 3 rfl ?_
  refine zr_iconst C dyX4_layPart_1 zc_i_1 ?_
  refine zjn (h (zX p l e (zrm (d + 1 + 4) (30 * (d + 1) + 200)) s m args below meth c (MQ below (zQc D B cA (zqI S K)) args s 0 0 (fun q => B ≤ q)) D B cA 8 0 0 S I [(1, .ref (B + a1)), (2, .int a2)] [] 12) (fun  h => ?_)) (fun h => ?_)
  · refine zr_aload_n C dyX4_layPart_12 rfl 0 rfl ?_
    refine zr_iload_n C dyX4_layPart_13 rfl 1 rfl ?_
    refine zv_4_33 C hS ha1 (st := []) h ⟨Nat.le_of_ble_eq_true rfl, Nat.le_of_ble_eq_true rfl⟩ (Nat.le_of_ble_eq_true rfl) dyX4_layPart_14 (fun r_1 h => ?_)
    exact zr_iret C rfl dyX4_layPart_17 ⟨rfl, _, rfl, h⟩
  refine zr_icmp_le C dyX4_layPart_2 (tgt := 12) (by decide) (fun hc_10 => ?_) (fun hc_10 => ?_)
  · replace h := zif_pos hc_10 h
    refine zr_sub (lv2 := [(1, .ref (B + a1)), (2, .int a2)]) [1, 2] rfl ?_
    exact h
  · replace h := zif_neg hc_10 h
    refine zr_iload C dyX4_layPart_5 4 rfl ?_
    refine zr_bipush C dyX4_layPart_7 zc_b_8 ?_
    refine zr_icmp_le C dyX4_layPart_9 (tgt := 18) (by decide) (fun hc_9 => ?_) (fun hc_9 => ?_)
    · replace h := zif_pos hc_9 h
      refine zr_iload_n C dyX4_layPart_18 rfl 3 rfl ?_
      refine zr_iconst C dyX4_layPart_19 zc_i_1 ?_
      refine zr_iadd C dyX4_layPart_20 ?_
      refine zr_iconst C dyX4_layPart_21 zc_i_2 ?_
      refine zr_idiv C dyX4_layPart_22 (by decide) ?_
      refine zn_istore C (fun v5_2 => [(5, .int v5_2), (0, .ref (B + 88)), (1, .ref (B + a1)), (2, .int a2), (3, .int a3), (4, .int a4)]) dyX4_layPart_23 (Nat.le_of_ble_eq_true rfl) (fun _ => rfl) (fun v5_2 ev5_2 => ?_)
      replace h := h v5_2 ev5_2
      refine zr_aload_n C dyX4_layPart_25 rfl 1 rfl ?_
      refine zr_aload_n C dyX4_layPart_26 rfl 2 rfl ?_
      refine zr_iload_n C dyX4_layPart_27 rfl 3 rfl ?_
      refine zr_iload C dyX4_layPart_28 0 rfl ?_
      refine zr_iload C dyX4_layPart_30 5 rfl ?_
      refine zr_iconst C dyX4_layPart_32 zc_i_1 ?_
      refine zr_iadd C dyX4_layPart_33 ?_
      refine zv_4_29r C ih ha1 (st := []) h ⟨by show d + 4 + 1 ≤ d + 1 + 4; omega, by show _ ≤ 30 * (d + 1) + 200; omega⟩ (Nat.le_of_ble_eq_true rfl) dyX4_layPart_34 (fun r_3 I_4 h => ?_)
      refine zr_istore C dyX4_layPart_37 (Nat.le_of_ble_eq_true rfl) (lv2 := [(6, .int r_3), (5, .int v5_2), (0, .ref (B + 88)), (1, .ref (B + a1)), (2, .int a2), (3, .int a3), (4, .int a4)]) rfl ?_
      refine zr_aload_n C dyX4_layPart_39 rfl 2 rfl ?_
      refine zr_aload_n C dyX4_layPart_40 rfl 3 rfl ?_
      refine zr_iload_n C dyX4_layPart_41 rfl 4 rfl ?_
      refine zr_iload C dyX4_layPart_42 1 rfl ?_
      refine zr_iadd C dyX4_layPart_44 ?_
      refine zr_iload_n C dyX4_layPart_45 rfl 5 rfl ?_
      refine zr_iload C dyX4_layPart_46 1 rfl ?_
      refine zr_isub C dyX4_layPart_48 ?_
      refine zr_iload C dyX4_layPart_49 6 rfl ?_
      refine zr_iconst C dyX4_layPart_51 zc_i_1 ?_
      refine zr_iadd C dyX4_layPart_52 ?_
      refine zv_4_29r C ih ha1 (st := []) h ⟨by show d + 4 + 1 ≤ d + 1 + 4; omega, by show _ ≤ 30 * (d + 1) + 200; omega⟩ (Nat.le_of_ble_eq_true rfl) dyX4_layPart_53 (fun r_5 I_6 h => ?_)
      refine zr_istore C dyX4_layPart_56 (Nat.le_of_ble_eq_true rfl) (lv2 := [(7, .int r_5), (6, .int r_3), (5, .int v5_2), (0, .ref (B + 88)), (1, .ref (B + a1)), (2, .int a2), (3, .int a3), (4, .int a4)]) rfl ?_
      refine zr_sipush C dyX4_layPart_58 zc_s_10000 ?_
      refine zr_aload_n C dyX4_layPart_61 rfl 3 rfl ?_
      refine zr_iload C dyX4_layPart_62 1 rfl ?_
      refine zr_iload C dyX4_layPart_64 0 rfl ?_
      refine zv_4_37 C hS (st := [.int 10000]) h ⟨Nat.le_of_ble_eq_true rfl, Nat.le_of_ble_eq_true rfl⟩ (Nat.le_of_ble_eq_true rfl) dyX4_layPart_66 (fun r_7 I_8 h => ?_)
      refine zr_iadd C dyX4_layPart_69 ?_
      exact zr_iret C rfl dyX4_layPart_70 ⟨rfl, _, rfl, h⟩
    · replace h := zif_neg hc_9 h
      refine zr_sub (lv2 := [(1, .ref (B + a1)), (2, .int a2)]) [1, 2] rfl ?_
      exact h
theorem zv_4_29 {p : Program} {l : Launch} {e : Env} {R : Room} {s : State} {m : MethodId} {args : Array Value} {below : List Frame} {meth : Method} {c : Code} {Q : State → Prop} {D : va_G} {B : Nat} {cA : Nat → ClassId} {ad : Nat → Nat} {cc : ByteArray} {nL : Nat} {ret : Option FieldType} {S : List zC} {I : zI} {lv : List (Nat × Value)} {st : List Value} {pc : Nat} (C : zCx p s m args meth c cc nL RX4 ret D B cA ad) {K : Int32 → zI → Prop} {xa1 : Nat} {xa1n : Nat} {xa2 : Int32} {xa3 : Int32} {xa4 : Int32} (hS : zOkX S) (xha1 : zIsRow S xa1 xa1n) (h : w_Pairs_layPart 10 xa1 xa1n xa2 xa3 xa4 I K) (hR : 14 + 1 ≤ R.frames ∧ 8 + (8 + 11) + (500) ≤ R.locals) (hw : (st.map fun v => v.category).sum ≤ 8) (hd : decode cc pc = .ok (.invokestatic 29, 3)) (kk : ∀ v I2, K v I2 → zX p l e R s m args below meth c Q D B cA nL 0 0 S I2 lv (.int v :: st) (pc + 3)) : zX p l e R s m args below meth c Q D B cA nL 0 0 S I lv (.int xa4 :: .int xa3 :: .int xa2 :: .ref (B + xa1) :: .ref (B + 88) :: st) pc :=
  have hf : 0 ≤ R.cells ∧ 0 ≤ R.slots := ⟨Nat.zero_le _, Nat.zero_le _⟩
  zc_SqI C (As := [.ref (B + 88), .ref (B + xa1), .int xa2, .int xa3, .int xa4]) (st := st) (c_Pairs_layPart hS 10 xha1 h) (zgM zk_cd_yX4_layPart) zk_ml_4_29 zk_st_yX4_layPart zk_in_4 zsg_yX4_layPart hR rfl rfl hw hd hf kk
def w_Pairs_layAll (a1 : Nat) (a1n : Nat) (a2 : Int32) (I : zI) (K : Int32 → zI → Prop) : Prop :=
  (if a2 = 0 then (K (-2) I) else (w_Pairs_layPart 10 a1 a1n 0 a2 0 I (fun r_1 I_2 => K r_1 I_2)))
theorem dyX4_layAll_0 : decode cX4_layAll 0 = .ok (.iload_n 2, 1) := by decide +kernel
theorem dyX4_layAll_1 : decode cX4_layAll 1 = .ok (.ifCond .ne 8, 3) := by decide +kernel
theorem dyX4_layAll_4 : decode cX4_layAll 4 = .ok (.bipush (-2), 2) := by decide +kernel
theorem dyX4_layAll_6 : decode cX4_layAll 6 = .ok (.goto 11, 3) := by decide +kernel
theorem dyX4_layAll_9 : decode cX4_layAll 9 = .ok (.aload_n 0, 1) := by decide +kernel
theorem dyX4_layAll_10 : decode cX4_layAll 10 = .ok (.aload_n 1, 1) := by decide +kernel
theorem dyX4_layAll_11 : decode cX4_layAll 11 = .ok (.iconst 0, 1) := by decide +kernel
theorem dyX4_layAll_12 : decode cX4_layAll 12 = .ok (.iload_n 2, 1) := by decide +kernel
theorem dyX4_layAll_13 : decode cX4_layAll 13 = .ok (.iconst 0, 1) := by decide +kernel
theorem dyX4_layAll_14 : decode cX4_layAll 14 = .ok (.invokestatic 29, 3) := by decide +kernel
theorem dyX4_layAll_17 : decode cX4_layAll 17 = .ok (.ireturn, 1) := by decide +kernel
theorem zsg_yX4_layAll : yX4_layAll.cls = RX4 ∧ yX4_layAll.cls ≠ "java/lang/invoke/MethodHandle" ∧ yX4_layAll.cls ≠ "java/lang/invoke/VarHandle" ∧ (parseMethodDescriptor yX4_layAll.desc).map (fun d => d.parameters.length) = some 2 := by decide +kernel
set_option maxRecDepth 20000 in
theorem c_Pairs_layAll {l : Launch} {D : va_G} {B : Nat} {cA : Nat → ClassId} {ad : Nat → Nat} {S : List zC} (hS : zOkX S) {a1 : Nat} {a1n : Nat} {a2 : Int32} {I : zI} {K : Int32 → zI → Prop} (ha1 : zIsRow S a1 a1n) (h : w_Pairs_layAll a1 a1n a2 I K) : Met l yX4_layAll (zws yX4_layAll cX4_layAll 3 (some .int)) (zrm 15 527) (zPc D B cA ad [.ref (B + 88), .ref (B + a1), .int a2] S I) (zQc D B cA (zqI S K)) 0 0 (fun q => B ≤ q) := by
  refine zm_of (cc := cX4_layAll) (maxL := 3) (ret := (some .int)) (by decide +kernel) rfl (Nat.le_of_ble_eq_true rfl) trivial ?_
  intro p e s m args below meth c C _
  unfold w_Pairs_layAll at h
  show zX p l e (zrm 15 527) s m args below meth c (MQ below (zQc D B cA (zqI S K)) args s 0 0 (fun q => B ≤ q)) D B cA 3 0 0 S I [(0, .ref (B + 88)), (1, .ref (B + a1)), (2, .int a2)] [] 0
  refine zr_iload_n C dyX4_layAll_0 rfl 2 rfl ?_
  refine zr_if_ne C dyX4_layAll_1 (tgt := 9) (by decide) (fun hc_3 => ?_) (fun hc_3 => ?_)
  · replace h := zif_neg hc_3 h
    refine zr_aload_n C dyX4_layAll_9 rfl 0 rfl ?_
    refine zr_aload_n C dyX4_layAll_10 rfl 1 rfl ?_
    refine zr_iconst C dyX4_layAll_11 zc_i_0 ?_
    refine zr_iload_n C dyX4_layAll_12 rfl 2 rfl ?_
    refine zr_iconst C dyX4_layAll_13 zc_i_0 ?_
    refine zv_4_29 C hS ha1 (st := []) h ⟨Nat.le_of_ble_eq_true rfl, Nat.le_of_ble_eq_true rfl⟩ (Nat.le_of_ble_eq_true rfl) dyX4_layAll_14 (fun r_1 I_2 h => ?_)
    exact zr_iret C rfl dyX4_layAll_17 ⟨rfl, _, rfl, h⟩
  · replace h := zif_pos hc_3 h
    refine zr_bipush C dyX4_layAll_4 zc_b_m2 ?_
    refine zr_goto C dyX4_layAll_6 (tgt := 17) (by decide) ?_
    exact zr_iret C rfl dyX4_layAll_17 ⟨rfl, _, rfl, h⟩
def w_Pairs_depthOf (a0 : Int32) (I : zI) (K : Int32 → Prop) : Prop :=
  ∀ (P2 : Int32 → Prop), (∀ (v1_1 : Int32), ((if 30 ≤ v1_1 then K v1_1 else (if a0 ≤ (1 <<< (v1_1 &&& 31)) then K v1_1 else (∀ v1_2, v1_2 = (v1_1 + 1) → P2 v1_2)))) → P2 v1_1) → P2 0
theorem dyX4_depthOf_0 : decode cX4_depthOf 0 = .ok (.iconst 0, 1) := by decide +kernel
theorem dyX4_depthOf_1 : decode cX4_depthOf 1 = .ok (.istore_n 1, 1) := by decide +kernel
theorem dyX4_depthOf_2 : decode cX4_depthOf 2 = .ok (.iload_n 1, 1) := by decide +kernel
theorem dyX4_depthOf_3 : decode cX4_depthOf 3 = .ok (.bipush 30, 2) := by decide +kernel
theorem dyX4_depthOf_5 : decode cX4_depthOf 5 = .ok (.if_icmp .ge 16, 3) := by decide +kernel
theorem dyX4_depthOf_8 : decode cX4_depthOf 8 = .ok (.iconst 1, 1) := by decide +kernel
theorem dyX4_depthOf_9 : decode cX4_depthOf 9 = .ok (.iload_n 1, 1) := by decide +kernel
theorem dyX4_depthOf_10 : decode cX4_depthOf 10 = .ok (.ishl, 1) := by decide +kernel
theorem dyX4_depthOf_11 : decode cX4_depthOf 11 = .ok (.iload_n 0, 1) := by decide +kernel
theorem dyX4_depthOf_12 : decode cX4_depthOf 12 = .ok (.if_icmp .ge 9, 3) := by decide +kernel
theorem dyX4_depthOf_15 : decode cX4_depthOf 15 = .ok (.iinc 1 1, 3) := by decide +kernel
theorem dyX4_depthOf_18 : decode cX4_depthOf 18 = .ok (.goto (-16), 3) := by decide +kernel
theorem dyX4_depthOf_21 : decode cX4_depthOf 21 = .ok (.iload_n 1, 1) := by decide +kernel
theorem dyX4_depthOf_22 : decode cX4_depthOf 22 = .ok (.ireturn, 1) := by decide +kernel
theorem zsg_yX4_depthOf : yX4_depthOf.cls ≠ "java/lang/invoke/MethodHandle" ∧ yX4_depthOf.cls ≠ "java/lang/invoke/VarHandle" ∧ (parseMethodDescriptor yX4_depthOf.desc).map (fun d => d.parameters.length) = some 1 := by decide +kernel
set_option maxRecDepth 20000 in
theorem c_Pairs_depthOf {l : Launch} {D : va_G} {B : Nat} {cA : Nat → ClassId} {ad : Nat → Nat} {S : List zC} (hS : zOkX S) {a0 : Int32} {I : zI} {K : Int32 → Prop}  (h : w_Pairs_depthOf a0 I K) : Met l yX4_depthOf (zws yX4_depthOf cX4_depthOf 2 (some .int)) (zrm 0 0) (zPc D B cA ad [.int a0] S I) (zQc D B cA (zpI S I K)) 0 0 (fun q => B ≤ q) := by
  refine zm_of (cc := cX4_depthOf) (maxL := 2) (ret := (some .int)) (by decide +kernel) rfl (Nat.le_of_ble_eq_true rfl) trivial ?_
  intro p e s m args below meth c C _
  unfold w_Pairs_depthOf at h
  show zX p l e (zrm 0 0) s m args below meth c (MQ below (zQc D B cA (zpI S I K)) args s 0 0 (fun q => B ≤ q)) D B cA 2 0 0 S I [(0, .int a0)] [] 0
  refine zr_iconst C dyX4_depthOf_0 zc_i_0 ?_
  refine zr_istore_n C dyX4_depthOf_1 rfl (Nat.le_of_ble_eq_true rfl) (lv2 := [(1, .int 0), (0, .int a0)]) rfl ?_
  refine zjn (h (fun (v1_1 : Int32) => zX p l e (zrm 0 0) s m args below meth c (MQ below (zQc D B cA (zpI S I K)) args s 0 0 (fun q => B ≤ q)) D B cA 2 0 0 S I [(1, .int v1_1), (0, .int a0)] [] 2) (fun v1_1 h => ?_)) (fun h => ?_)
  · refine zr_iload_n C dyX4_depthOf_2 rfl 0 rfl ?_
    refine zr_bipush C dyX4_depthOf_3 zc_b_30 ?_
    refine zr_icmp_ge C dyX4_depthOf_5 (tgt := 21) (by decide) (fun hc_4 => ?_) (fun hc_4 => ?_)
    · replace h := zif_pos hc_4 h
      refine zr_iload_n C dyX4_depthOf_21 rfl 0 rfl ?_
      exact zr_iret C rfl dyX4_depthOf_22 ⟨rfl, rfl, _, rfl, h⟩
    · replace h := zif_neg hc_4 h
      refine zr_iconst C dyX4_depthOf_8 zc_i_1 ?_
      refine zr_iload_n C dyX4_depthOf_9 rfl 0 rfl ?_
      refine zr_ishl C dyX4_depthOf_10 ?_
      refine zr_iload_n C dyX4_depthOf_11 rfl 1 rfl ?_
      refine zr_icmp_ge C dyX4_depthOf_12 (tgt := 21) (by decide) (fun hc_3 => ?_) (fun hc_3 => ?_)
      · replace h := zif_pos hc_3 h
        refine zr_iload_n C dyX4_depthOf_21 rfl 0 rfl ?_
        exact zr_iret C rfl dyX4_depthOf_22 ⟨rfl, rfl, _, rfl, h⟩
      · replace h := zif_neg hc_3 h
        refine zn_iinc C (fun v1_2 => [(1, .int v1_2), (0, .int a0)]) dyX4_depthOf_15 0 rfl zc_i_1 (Nat.le_of_ble_eq_true rfl) (fun _ => rfl) (fun v1_2 ev1_2 => ?_)
        replace h := h v1_2 ev1_2
        refine zr_goto C dyX4_depthOf_18 (tgt := 2) (by decide) ?_
        exact h
  exact h
theorem zg_5_14 {p : Program} {l : Launch} {e : Env} {R : Room} {s : State} {m : MethodId} {args : Array Value} {below : List Frame} {meth : Method} {c : Code} {Q : State → Prop} {D : va_G} {B : Nat} {cA : Nat → ClassId} {ad : Nat → Nat} {cc : ByteArray} {nL : Nat} {ret : Option FieldType} {S : List zC} {I : zI} {lv : List (Nat × Value)} {st : List Value} {pc : Nat} (C : zCx p s m args meth c cc nL RX5 ret D B cA ad) (hS : zOkX S) (hd : decode cc pc = .ok (.getfield 14, 3)) (kk : zX p l e R s m args below meth c Q D B cA nL 0 0 S I lv (.ref (B + 98) :: st) (pc + 3)) : zX p l e R s m args below meth c Q D B cA nL 0 0 S I lv (.ref (B + 97) :: st) pc :=
  zr_getr C (ci := 5) (Cn := RX5) (T := TX5) (N := 4) (k := 97) (j := 1) (fs := [some (some 24), some (some 98), none, none]) rfl zin_5 (Nat.le_of_ble_eq_true rfl) rfl (hS _ _ zs_97) rfl zk_fl_5_14 hd kk
theorem zg_5_28 {p : Program} {l : Launch} {e : Env} {R : Room} {s : State} {m : MethodId} {args : Array Value} {below : List Frame} {meth : Method} {c : Code} {Q : State → Prop} {D : va_G} {B : Nat} {cA : Nat → ClassId} {ad : Nat → Nat} {cc : ByteArray} {nL : Nat} {ret : Option FieldType} {S : List zC} {I : zI} {lv : List (Nat × Value)} {st : List Value} {pc : Nat} (C : zCx p s m args meth c cc nL RX5 ret D B cA ad) (hS : zOkX S) (hd : decode cc pc = .ok (.getfield 28, 3)) (kk : zX p l e R s m args below meth c Q D B cA nL 0 0 S I lv (.int (I.1 97 2) :: st) (pc + 3)) : zX p l e R s m args below meth c Q D B cA nL 0 0 S I lv (.ref (B + 97) :: st) pc :=
  zr_geti C (ci := 5) (Cn := RX5) (T := TX5) (N := 4) (k := 97) (j := 2) (fs := [some (some 24), some (some 98), none, none]) rfl zin_5 (Nat.le_of_ble_eq_true rfl) rfl (hS _ _ zs_97) rfl zk_fl_5_28 hd kk
theorem zv_5_64 {p : Program} {l : Launch} {e : Env} {R : Room} {s : State} {m : MethodId} {args : Array Value} {below : List Frame} {meth : Method} {c : Code} {Q : State → Prop} {D : va_G} {B : Nat} {cA : Nat → ClassId} {ad : Nat → Nat} {cc : ByteArray} {nL : Nat} {ret : Option FieldType} {S : List zC} {I : zI} {lv : List (Nat × Value)} {st : List Value} {pc : Nat} (C : zCx p s m args meth c cc nL RX5 ret D B cA ad) {K : zI → Prop} {xk : Nat} {xn : Nat} {xa1 : Int32} {xa2 : Int32} (hS : zOkX S) (xhk : zIsRow S xk xn) (h : w_Row_set xk xn xa1 xa2 I K) (hR : 0 + 1 ≤ R.frames ∧ 8 + (3 + 11) + (0) ≤ R.locals) (hw : (st.map fun v => v.category).sum ≤ 8) (hd : decode cc pc = .ok (.invokevirtual 64, 3)) (kk : ∀ I2, K I2 → zX p l e R s m args below meth c Q D B cA nL 0 0 S I2 lv st (pc + 3)) : zX p l e R s m args below meth c Q D B cA nL 0 0 S I lv (.int xa2 :: .int xa1 :: .ref (B + xk) :: st) pc :=
  have hf : 0 ≤ R.cells ∧ 0 ≤ R.slots := ⟨Nat.zero_le _, Nat.zero_le _⟩
  zc_VqV C (ci := 6) (q := (RX6, TX6, 1)) (k := xk) (fs := [some (some (xk + 1))]) (As := [.int xa1, .int xa2]) (st := st) rfl xhk.1 (c_Row_set hS xhk h) (zgV zk_ml_5_64 zk_im_yX6_set zk_se_yX6_set zk_in_6 zk_cd_yX6_set) zsg_yX6_set hR rfl rfl hw hd hf kk
theorem zp_5_28 {p : Program} {l : Launch} {e : Env} {R : Room} {s : State} {m : MethodId} {args : Array Value} {below : List Frame} {meth : Method} {c : Code} {Q : State → Prop} {D : va_G} {B : Nat} {cA : Nat → ClassId} {ad : Nat → Nat} {cc : ByteArray} {nL : Nat} {ret : Option FieldType} {S : List zC} {I : zI} {lv : List (Nat × Value)} {st : List Value} {pc : Nat} (C : zCx p s m args meth c cc nL RX5 ret D B cA ad) (hS : zOkX S) {v : Int32} (hd : decode cc pc = .ok (.putfield 28, 3)) (kk : zX p l e R s m args below meth c Q D B cA nL 0 0 S (zu I 97 2 v) lv st (pc + 3)) : zX p l e R s m args below meth c Q D B cA nL 0 0 S I lv (.int v :: .ref (B + 97) :: st) pc :=
  zr_puti C (ci := 5) (Cn := RX5) (T := TX5) (N := 4) (k := 97) (j := 2) (fs := [some (some 24), some (some 98), none, none]) rfl zin_5 (Nat.le_of_ble_eq_true rfl) rfl (hS _ _ zs_97) rfl tyX5 tyX5_ok nmX5 (ty := .int) zpd_I rfl rfl rfl zk_fl_5_28 hd kk
def w_Printer_putOff (a1 : Int32) (I : zI) (K : zI → Prop) : Prop :=
  w_Row_set 98 1000 (I.1 97 2) a1 I (fun I_1 => ∀ I_2, I_2 = (zu I_1 97 2 ((I_1.1 97 2) + 1)) → K I_2)
theorem dyX5_putOff_0 : decode cX5_putOff 0 = .ok (.aload_n 0, 1) := by decide +kernel
theorem dyX5_putOff_1 : decode cX5_putOff 1 = .ok (.getfield 14, 3) := by decide +kernel
theorem dyX5_putOff_4 : decode cX5_putOff 4 = .ok (.aload_n 0, 1) := by decide +kernel
theorem dyX5_putOff_5 : decode cX5_putOff 5 = .ok (.getfield 28, 3) := by decide +kernel
theorem dyX5_putOff_8 : decode cX5_putOff 8 = .ok (.iload_n 1, 1) := by decide +kernel
theorem dyX5_putOff_9 : decode cX5_putOff 9 = .ok (.invokevirtual 64, 3) := by decide +kernel
theorem dyX5_putOff_12 : decode cX5_putOff 12 = .ok (.aload_n 0, 1) := by decide +kernel
theorem dyX5_putOff_13 : decode cX5_putOff 13 = .ok (.dup, 1) := by decide +kernel
theorem dyX5_putOff_14 : decode cX5_putOff 14 = .ok (.getfield 28, 3) := by decide +kernel
theorem dyX5_putOff_17 : decode cX5_putOff 17 = .ok (.iconst 1, 1) := by decide +kernel
theorem dyX5_putOff_18 : decode cX5_putOff 18 = .ok (.iadd, 1) := by decide +kernel
theorem dyX5_putOff_19 : decode cX5_putOff 19 = .ok (.putfield 28, 3) := by decide +kernel
theorem dyX5_putOff_22 : decode cX5_putOff 22 = .ok (.return_, 1) := by decide +kernel
theorem zsg_yX5_putOff : yX5_putOff.cls = RX5 ∧ yX5_putOff.cls ≠ "java/lang/invoke/MethodHandle" ∧ yX5_putOff.cls ≠ "java/lang/invoke/VarHandle" ∧ (parseMethodDescriptor yX5_putOff.desc).map (fun d => d.parameters.length) = some 1 := by decide +kernel
set_option maxRecDepth 20000 in
theorem c_Printer_putOff {l : Launch} {D : va_G} {B : Nat} {cA : Nat → ClassId} {ad : Nat → Nat} {S : List zC} (hS : zOkX S) {a1 : Int32} {I : zI} {K : zI → Prop}  (h : w_Printer_putOff a1 I K) : Met l yX5_putOff (zws yX5_putOff cX5_putOff 2 none) (zrm 1 22) (zPc D B cA ad [.ref (B + 97), .int a1] S I) (zQc D B cA (zqV S K)) 0 0 (fun q => B ≤ q) := by
  refine zm_of (cc := cX5_putOff) (maxL := 2) (ret := none) (by decide +kernel) rfl (Nat.le_of_ble_eq_true rfl) trivial ?_
  intro p e s m args below meth c C _
  unfold w_Printer_putOff at h
  show zX p l e (zrm 1 22) s m args below meth c (MQ below (zQc D B cA (zqV S K)) args s 0 0 (fun q => B ≤ q)) D B cA 2 0 0 S I [(0, .ref (B + 97)), (1, .int a1)] [] 0
  refine zr_aload_n C dyX5_putOff_0 rfl 0 rfl ?_
  refine zg_5_14 C hS dyX5_putOff_1 ?_
  refine zr_aload_n C dyX5_putOff_4 rfl 0 rfl ?_
  refine zg_5_28 C hS dyX5_putOff_5 ?_
  refine zr_iload_n C dyX5_putOff_8 rfl 1 rfl ?_
  refine zv_5_64 C hS (zIsRow.of hS zir_98) (st := []) h ⟨Nat.le_of_ble_eq_true rfl, Nat.le_of_ble_eq_true rfl⟩ (Nat.le_of_ble_eq_true rfl) dyX5_putOff_9 (fun I_1 h => ?_)
  refine zr_aload_n C dyX5_putOff_12 rfl 0 rfl ?_
  refine zr_dup C dyX5_putOff_13 rfl ?_
  refine zg_5_28 C hS dyX5_putOff_14 ?_
  refine zr_iconst C dyX5_putOff_17 zc_i_1 ?_
  refine zr_iadd C dyX5_putOff_18 ?_
  refine zp_5_28 C hS dyX5_putOff_19 ?_
  refine zn_mem C (fun I_2 eI_2 => ?_)
  replace h := h I_2 eI_2
  exact zr_vret C rfl dyX5_putOff_22 ⟨rfl, rfl, h⟩
theorem zg_5_24 {p : Program} {l : Launch} {e : Env} {R : Room} {s : State} {m : MethodId} {args : Array Value} {below : List Frame} {meth : Method} {c : Code} {Q : State → Prop} {D : va_G} {B : Nat} {cA : Nat → ClassId} {ad : Nat → Nat} {cc : ByteArray} {nL : Nat} {ret : Option FieldType} {S : List zC} {I : zI} {lv : List (Nat × Value)} {st : List Value} {pc : Nat} (C : zCx p s m args meth c cc nL RX5 ret D B cA ad) (hS : zOkX S) (hd : decode cc pc = .ok (.getfield 24, 3)) (kk : zX p l e R s m args below meth c Q D B cA nL 0 0 S I lv (.int (I.1 97 3) :: st) (pc + 3)) : zX p l e R s m args below meth c Q D B cA nL 0 0 S I lv (.ref (B + 97) :: st) pc :=
  zr_geti C (ci := 5) (Cn := RX5) (T := TX5) (N := 4) (k := 97) (j := 3) (fs := [some (some 24), some (some 98), none, none]) rfl zin_5 (Nat.le_of_ble_eq_true rfl) rfl (hS _ _ zs_97) rfl zk_fl_5_24 hd kk
theorem zp_5_24 {p : Program} {l : Launch} {e : Env} {R : Room} {s : State} {m : MethodId} {args : Array Value} {below : List Frame} {meth : Method} {c : Code} {Q : State → Prop} {D : va_G} {B : Nat} {cA : Nat → ClassId} {ad : Nat → Nat} {cc : ByteArray} {nL : Nat} {ret : Option FieldType} {S : List zC} {I : zI} {lv : List (Nat × Value)} {st : List Value} {pc : Nat} (C : zCx p s m args meth c cc nL RX5 ret D B cA ad) (hS : zOkX S) {v : Int32} (hd : decode cc pc = .ok (.putfield 24, 3)) (kk : zX p l e R s m args below meth c Q D B cA nL 0 0 S (zu I 97 3 v) lv st (pc + 3)) : zX p l e R s m args below meth c Q D B cA nL 0 0 S I lv (.int v :: .ref (B + 97) :: st) pc :=
  zr_puti C (ci := 5) (Cn := RX5) (T := TX5) (N := 4) (k := 97) (j := 3) (fs := [some (some 24), some (some 98), none, none]) rfl zin_5 (Nat.le_of_ble_eq_true rfl) rfl (hS _ _ zs_97) rfl tyX5 tyX5_ok nmX5 (ty := .int) zpd_I rfl rfl rfl zk_fl_5_24 hd kk
def w_Printer_writeByte (a1 : Int32) (a2 : Nat) (a2n : Nat) (I : zI) (K : zI → Prop) : Prop :=
  w_Row_set a2 a2n (I.1 97 3) a1 I (fun I_1 => ∀ I_2, I_2 = (zu I_1 97 3 ((I_1.1 97 3) + 1)) → K I_2)
theorem dyX5_writeByte_0 : decode cX5_writeByte 0 = .ok (.aload_n 2, 1) := by decide +kernel
theorem dyX5_writeByte_1 : decode cX5_writeByte 1 = .ok (.aload_n 0, 1) := by decide +kernel
theorem dyX5_writeByte_2 : decode cX5_writeByte 2 = .ok (.getfield 24, 3) := by decide +kernel
theorem dyX5_writeByte_5 : decode cX5_writeByte 5 = .ok (.iload_n 1, 1) := by decide +kernel
theorem dyX5_writeByte_6 : decode cX5_writeByte 6 = .ok (.invokevirtual 64, 3) := by decide +kernel
theorem dyX5_writeByte_9 : decode cX5_writeByte 9 = .ok (.aload_n 0, 1) := by decide +kernel
theorem dyX5_writeByte_10 : decode cX5_writeByte 10 = .ok (.dup, 1) := by decide +kernel
theorem dyX5_writeByte_11 : decode cX5_writeByte 11 = .ok (.getfield 24, 3) := by decide +kernel
theorem dyX5_writeByte_14 : decode cX5_writeByte 14 = .ok (.iconst 1, 1) := by decide +kernel
theorem dyX5_writeByte_15 : decode cX5_writeByte 15 = .ok (.iadd, 1) := by decide +kernel
theorem dyX5_writeByte_16 : decode cX5_writeByte 16 = .ok (.putfield 24, 3) := by decide +kernel
theorem dyX5_writeByte_19 : decode cX5_writeByte 19 = .ok (.return_, 1) := by decide +kernel
theorem zsg_yX5_writeByte : yX5_writeByte.cls = RX5 ∧ yX5_writeByte.cls ≠ "java/lang/invoke/MethodHandle" ∧ yX5_writeByte.cls ≠ "java/lang/invoke/VarHandle" ∧ (parseMethodDescriptor yX5_writeByte.desc).map (fun d => d.parameters.length) = some 2 := by decide +kernel
set_option maxRecDepth 20000 in
theorem c_Printer_writeByte {l : Launch} {D : va_G} {B : Nat} {cA : Nat → ClassId} {ad : Nat → Nat} {S : List zC} (hS : zOkX S) {a1 : Int32} {a2 : Nat} {a2n : Nat} {I : zI} {K : zI → Prop} (ha2 : zIsRow S a2 a2n) (h : w_Printer_writeByte a1 a2 a2n I K) : Met l yX5_writeByte (zws yX5_writeByte cX5_writeByte 3 none) (zrm 1 22) (zPc D B cA ad [.ref (B + 97), .int a1, .ref (B + a2)] S I) (zQc D B cA (zqV S K)) 0 0 (fun q => B ≤ q) := by
  refine zm_of (cc := cX5_writeByte) (maxL := 3) (ret := none) (by decide +kernel) rfl (Nat.le_of_ble_eq_true rfl) trivial ?_
  intro p e s m args below meth c C _
  unfold w_Printer_writeByte at h
  show zX p l e (zrm 1 22) s m args below meth c (MQ below (zQc D B cA (zqV S K)) args s 0 0 (fun q => B ≤ q)) D B cA 3 0 0 S I [(0, .ref (B + 97)), (1, .int a1), (2, .ref (B + a2))] [] 0
  refine zr_aload_n C dyX5_writeByte_0 rfl 2 rfl ?_
  refine zr_aload_n C dyX5_writeByte_1 rfl 0 rfl ?_
  refine zg_5_24 C hS dyX5_writeByte_2 ?_
  refine zr_iload_n C dyX5_writeByte_5 rfl 1 rfl ?_
  refine zv_5_64 C hS ha2 (st := []) h ⟨Nat.le_of_ble_eq_true rfl, Nat.le_of_ble_eq_true rfl⟩ (Nat.le_of_ble_eq_true rfl) dyX5_writeByte_6 (fun I_1 h => ?_)
  refine zr_aload_n C dyX5_writeByte_9 rfl 0 rfl ?_
  refine zr_dup C dyX5_writeByte_10 rfl ?_
  refine zg_5_24 C hS dyX5_writeByte_11 ?_
  refine zr_iconst C dyX5_writeByte_14 zc_i_1 ?_
  refine zr_iadd C dyX5_writeByte_15 ?_
  refine zp_5_24 C hS dyX5_writeByte_16 ?_
  refine zn_mem C (fun I_2 eI_2 => ?_)
  replace h := h I_2 eI_2
  exact zr_vret C rfl dyX5_writeByte_19 ⟨rfl, rfl, h⟩
theorem zg_5_20 {p : Program} {l : Launch} {e : Env} {R : Room} {s : State} {m : MethodId} {args : Array Value} {below : List Frame} {meth : Method} {c : Code} {Q : State → Prop} {D : va_G} {B : Nat} {cA : Nat → ClassId} {ad : Nat → Nat} {cc : ByteArray} {nL : Nat} {ret : Option FieldType} {S : List zC} {I : zI} {lv : List (Nat × Value)} {st : List Value} {pc : Nat} (C : zCx p s m args meth c cc nL RX5 ret D B cA ad) (hS : zOkX S) (hd : decode cc pc = .ok (.getfield 20, 3)) (kk : zX p l e R s m args below meth c Q D B cA nL 0 0 S I lv (.ref (B + 24) :: st) (pc + 3)) : zX p l e R s m args below meth c Q D B cA nL 0 0 S I lv (.ref (B + 97) :: st) pc :=
  zr_getr C (ci := 5) (Cn := RX5) (T := TX5) (N := 4) (k := 97) (j := 0) (fs := [some (some 24), some (some 98), none, none]) rfl zin_5 (Nat.le_of_ble_eq_true rfl) rfl (hS _ _ zs_97) rfl zk_fl_5_20 hd kk
theorem zg_5_68 {p : Program} {l : Launch} {e : Env} {R : Room} {s : State} {m : MethodId} {args : Array Value} {below : List Frame} {meth : Method} {c : Code} {Q : State → Prop} {D : va_G} {B : Nat} {cA : Nat → ClassId} {ad : Nat → Nat} {cc : ByteArray} {nL : Nat} {ret : Option FieldType} {S : List zC} {I : zI} {lv : List (Nat × Value)} {st : List Value} {pc : Nat} (C : zCx p s m args meth c cc nL RX5 ret D B cA ad) (hS : zOkX S) (hd : decode cc pc = .ok (.getfield 68, 3)) (kk : zX p l e R s m args below meth c Q D B cA nL 0 0 S I lv (.ref (B + 35) :: st) (pc + 3)) : zX p l e R s m args below meth c Q D B cA nL 0 0 S I lv (.ref (B + 24) :: st) pc :=
  zr_getr C (ci := 3) (Cn := RX3) (T := TX3) (N := 10) (k := 24) (j := 5) (fs := [some (some 25), some (some 27), some (some 29), some (some 31), some (some 33), some (some 35), some (some 37), some (some 39), some (some 41), none]) rfl zin_3 (Nat.le_of_ble_eq_true rfl) rfl (hS _ _ zs_24) rfl zk_fl_5_68 hd kk
theorem zv_5_34 {p : Program} {l : Launch} {e : Env} {R : Room} {s : State} {m : MethodId} {args : Array Value} {below : List Frame} {meth : Method} {c : Code} {Q : State → Prop} {D : va_G} {B : Nat} {cA : Nat → ClassId} {ad : Nat → Nat} {cc : ByteArray} {nL : Nat} {ret : Option FieldType} {S : List zC} {I : zI} {lv : List (Nat × Value)} {st : List Value} {pc : Nat} (C : zCx p s m args meth c cc nL RX5 ret D B cA ad) {K : Int32 → Prop} {xk : Nat} {xn : Nat} {xa1 : Int32} (hS : zOkX S) (xhk : zIsRow S xk xn) (h : w_Row_get xk xn xa1 I K) (hR : 0 + 1 ≤ R.frames ∧ 8 + (2 + 11) + (0) ≤ R.locals) (hw : (st.map fun v => v.category).sum ≤ 8) (hd : decode cc pc = .ok (.invokevirtual 34, 3)) (kk : ∀ v, K v → zX p l e R s m args below meth c Q D B cA nL 0 0 S I lv (.int v :: st) (pc + 3)) : zX p l e R s m args below meth c Q D B cA nL 0 0 S I lv (.int xa1 :: .ref (B + xk) :: st) pc :=
  have hf : 0 ≤ R.cells ∧ 0 ≤ R.slots := ⟨Nat.zero_le _, Nat.zero_le _⟩
  zc_VpI C (ci := 6) (q := (RX6, TX6, 1)) (k := xk) (fs := [some (some (xk + 1))]) (As := [.int xa1]) (st := st) rfl xhk.1 (c_Row_get hS xhk h) (zgV zk_ml_5_34 zk_im_yX6_get zk_se_yX6_get zk_in_6 zk_cd_yX6_get) zsg_yX6_get hR rfl rfl hw hd hf kk
theorem zv_5_71 {p : Program} {l : Launch} {e : Env} {R : Room} {s : State} {m : MethodId} {args : Array Value} {below : List Frame} {meth : Method} {c : Code} {Q : State → Prop} {D : va_G} {B : Nat} {cA : Nat → ClassId} {ad : Nat → Nat} {cc : ByteArray} {nL : Nat} {ret : Option FieldType} {S : List zC} {I : zI} {lv : List (Nat × Value)} {st : List Value} {pc : Nat} (C : zCx p s m args meth c cc nL RX5 ret D B cA ad) {K : Int32 → Prop} {xa1 : Int32} {xa2 : Int32} (hS : zOkX S)  (h : w_Nodes_byteOf xa1 xa2 I K) (hR : 1 + 1 ≤ R.frames ∧ 8 + (4 + 11) + (21) ≤ R.locals) (hw : (st.map fun v => v.category).sum ≤ 8) (hd : decode cc pc = .ok (.invokevirtual 71, 3)) (kk : ∀ v, K v → zX p l e R s m args below meth c Q D B cA nL 0 0 S I lv (.int v :: st) (pc + 3)) : zX p l e R s m args below meth c Q D B cA nL 0 0 S I lv (.int xa2 :: .int xa1 :: .ref (B + 24) :: st) pc :=
  have hf : 0 ≤ R.cells ∧ 0 ≤ R.slots := ⟨Nat.zero_le _, Nat.zero_le _⟩
  zc_VpI C (ci := 3) (q := (RX3, TX3, 10)) (k := 24) (fs := [some (some 25), some (some 27), some (some 29), some (some 31), some (some 33), some (some 35), some (some 37), some (some 39), some (some 41), none]) (As := [.int xa1, .int xa2]) (st := st) rfl (hS _ _ zs_24) (c_Nodes_byteOf hS h) (zgV zk_ml_5_71 zk_im_yX3_byteOf zk_se_yX3_byteOf zk_in_3 zk_cd_yX3_byteOf) zsg_yX3_byteOf hR rfl rfl hw hd hf kk
theorem zv_5_38 {p : Program} {l : Launch} {e : Env} {R : Room} {s : State} {m : MethodId} {args : Array Value} {below : List Frame} {meth : Method} {c : Code} {Q : State → Prop} {D : va_G} {B : Nat} {cA : Nat → ClassId} {ad : Nat → Nat} {cc : ByteArray} {nL : Nat} {ret : Option FieldType} {S : List zC} {I : zI} {lv : List (Nat × Value)} {st : List Value} {pc : Nat} (C : zCx p s m args meth c cc nL RX5 ret D B cA ad) {K : zI → Prop} {xa1 : Int32} {xa2 : Nat} {xa2n : Nat} (hS : zOkX S) (xha2 : zIsRow S xa2 xa2n) (h : w_Printer_writeByte xa1 xa2 xa2n I K) (hR : 1 + 1 ≤ R.frames ∧ 8 + (3 + 11) + (22) ≤ R.locals) (hw : (st.map fun v => v.category).sum ≤ 8) (hd : decode cc pc = .ok (.invokevirtual 38, 3)) (kk : ∀ I2, K I2 → zX p l e R s m args below meth c Q D B cA nL 0 0 S I2 lv st (pc + 3)) : zX p l e R s m args below meth c Q D B cA nL 0 0 S I lv (.ref (B + xa2) :: .int xa1 :: .ref (B + 97) :: st) pc :=
  have hf : 0 ≤ R.cells ∧ 0 ≤ R.slots := ⟨Nat.zero_le _, Nat.zero_le _⟩
  zc_VqV C (ci := 5) (q := (RX5, TX5, 4)) (k := 97) (fs := [some (some 24), some (some 98), none, none]) (As := [.int xa1, .ref (B + xa2)]) (st := st) rfl (hS _ _ zs_97) (c_Printer_writeByte hS xha2 h) (zgV zk_ml_5_38 zk_im_yX5_writeByte zk_se_yX5_writeByte zk_in_5 zk_cd_yX5_writeByte) zsg_yX5_writeByte hR rfl rfl hw hd hf kk
def w_Printer_writeToken (a1 : Int32) (a2 : Nat) (a2n : Nat) (I : zI) (K : zI → Prop) : Prop :=
  ∀ (P2 : Int32 → zI → Prop), (∀ (v3_1 : Int32) (I_2 : zI), (w_Row_get 35 3400 a1 I_2 (fun r_3 => (if r_3 ≤ v3_1 then K I_2 else (w_Nodes_byteOf a1 v3_1 I_2 (fun r_4 => w_Printer_writeByte r_4 a2 a2n I_2 (fun I_5 => ∀ v3_6, v3_6 = (v3_1 + 1) → P2 v3_6 I_5)))))) → P2 v3_1 I_2) → P2 0 I
theorem dyX5_writeToken_0 : decode cX5_writeToken 0 = .ok (.iconst 0, 1) := by decide +kernel
theorem dyX5_writeToken_1 : decode cX5_writeToken 1 = .ok (.istore_n 3, 1) := by decide +kernel
theorem dyX5_writeToken_2 : decode cX5_writeToken 2 = .ok (.iload_n 3, 1) := by decide +kernel
theorem dyX5_writeToken_3 : decode cX5_writeToken 3 = .ok (.aload_n 0, 1) := by decide +kernel
theorem dyX5_writeToken_4 : decode cX5_writeToken 4 = .ok (.getfield 20, 3) := by decide +kernel
theorem dyX5_writeToken_7 : decode cX5_writeToken 7 = .ok (.getfield 68, 3) := by decide +kernel
theorem dyX5_writeToken_10 : decode cX5_writeToken 10 = .ok (.iload_n 1, 1) := by decide +kernel
theorem dyX5_writeToken_11 : decode cX5_writeToken 11 = .ok (.invokevirtual 34, 3) := by decide +kernel
theorem dyX5_writeToken_14 : decode cX5_writeToken 14 = .ok (.if_icmp .ge 23, 3) := by decide +kernel
theorem dyX5_writeToken_17 : decode cX5_writeToken 17 = .ok (.aload_n 0, 1) := by decide +kernel
theorem dyX5_writeToken_18 : decode cX5_writeToken 18 = .ok (.aload_n 0, 1) := by decide +kernel
theorem dyX5_writeToken_19 : decode cX5_writeToken 19 = .ok (.getfield 20, 3) := by decide +kernel
theorem dyX5_writeToken_22 : decode cX5_writeToken 22 = .ok (.iload_n 1, 1) := by decide +kernel
theorem dyX5_writeToken_23 : decode cX5_writeToken 23 = .ok (.iload_n 3, 1) := by decide +kernel
theorem dyX5_writeToken_24 : decode cX5_writeToken 24 = .ok (.invokevirtual 71, 3) := by decide +kernel
theorem dyX5_writeToken_27 : decode cX5_writeToken 27 = .ok (.aload_n 2, 1) := by decide +kernel
theorem dyX5_writeToken_28 : decode cX5_writeToken 28 = .ok (.invokevirtual 38, 3) := by decide +kernel
theorem dyX5_writeToken_31 : decode cX5_writeToken 31 = .ok (.iinc 3 1, 3) := by decide +kernel
theorem dyX5_writeToken_34 : decode cX5_writeToken 34 = .ok (.goto (-32), 3) := by decide +kernel
theorem dyX5_writeToken_37 : decode cX5_writeToken 37 = .ok (.return_, 1) := by decide +kernel
theorem zsg_yX5_writeToken : yX5_writeToken.cls = RX5 ∧ yX5_writeToken.cls ≠ "java/lang/invoke/MethodHandle" ∧ yX5_writeToken.cls ≠ "java/lang/invoke/VarHandle" ∧ (parseMethodDescriptor yX5_writeToken.desc).map (fun d => d.parameters.length) = some 2 := by decide +kernel
set_option maxRecDepth 20000 in
theorem c_Printer_writeToken {l : Launch} {D : va_G} {B : Nat} {cA : Nat → ClassId} {ad : Nat → Nat} {S : List zC} (hS : zOkX S) {a1 : Int32} {a2 : Nat} {a2n : Nat} {I : zI} {K : zI → Prop} (ha2 : zIsRow S a2 a2n) (h : w_Printer_writeToken a1 a2 a2n I K) : Met l yX5_writeToken (zws yX5_writeToken cX5_writeToken 4 none) (zrm 2 44) (zPc D B cA ad [.ref (B + 97), .int a1, .ref (B + a2)] S I) (zQc D B cA (zqV S K)) 0 0 (fun q => B ≤ q) := by
  refine zm_of (cc := cX5_writeToken) (maxL := 4) (ret := none) (by decide +kernel) rfl (Nat.le_of_ble_eq_true rfl) trivial ?_
  intro p e s m args below meth c C _
  unfold w_Printer_writeToken at h
  show zX p l e (zrm 2 44) s m args below meth c (MQ below (zQc D B cA (zqV S K)) args s 0 0 (fun q => B ≤ q)) D B cA 4 0 0 S I [(0, .ref (B + 97)), (1, .int a1), (2, .ref (B + a2))] [] 0
  refine zr_iconst C dyX5_writeToken_0 zc_i_0 ?_
  refine zr_istore_n C dyX5_writeToken_1 rfl (Nat.le_of_ble_eq_true rfl) (lv2 := [(3, .int 0), (0, .ref (B + 97)), (1, .int a1), (2, .ref (B + a2))]) rfl ?_
  refine zjn (h (fun (v3_1 : Int32) (I_2 : zI) => zX p l e (zrm 2 44) s m args below meth c (MQ below (zQc D B cA (zqV S K)) args s 0 0 (fun q => B ≤ q)) D B cA 4 0 0 S I_2 [(3, .int v3_1), (0, .ref (B + 97)), (1, .int a1), (2, .ref (B + a2))] [] 2) (fun v3_1 I_2 h => ?_)) (fun h => ?_)
  · refine zr_iload_n C dyX5_writeToken_2 rfl 0 rfl ?_
    refine zr_aload_n C dyX5_writeToken_3 rfl 1 rfl ?_
    refine zg_5_20 C hS dyX5_writeToken_4 ?_
    refine zg_5_68 C hS dyX5_writeToken_7 ?_
    refine zr_iload_n C dyX5_writeToken_10 rfl 2 rfl ?_
    refine zv_5_34 C hS (zIsRow.of hS zir_35) (st := [.int v3_1]) h ⟨Nat.le_of_ble_eq_true rfl, Nat.le_of_ble_eq_true rfl⟩ (Nat.le_of_ble_eq_true rfl) dyX5_writeToken_11 (fun r_3 h => ?_)
    refine zr_icmp_ge C dyX5_writeToken_14 (tgt := 37) (by decide) (fun hc_7 => ?_) (fun hc_7 => ?_)
    · replace h := zif_pos hc_7 h
      exact zr_vret C rfl dyX5_writeToken_37 ⟨rfl, rfl, h⟩
    · replace h := zif_neg hc_7 h
      refine zr_aload_n C dyX5_writeToken_17 rfl 1 rfl ?_
      refine zr_aload_n C dyX5_writeToken_18 rfl 1 rfl ?_
      refine zg_5_20 C hS dyX5_writeToken_19 ?_
      refine zr_iload_n C dyX5_writeToken_22 rfl 2 rfl ?_
      refine zr_iload_n C dyX5_writeToken_23 rfl 0 rfl ?_
      refine zv_5_71 C hS (st := [.ref (B + 97)]) h ⟨Nat.le_of_ble_eq_true rfl, Nat.le_of_ble_eq_true rfl⟩ (Nat.le_of_ble_eq_true rfl) dyX5_writeToken_24 (fun r_4 h => ?_)
      refine zr_aload_n C dyX5_writeToken_27 rfl 3 rfl ?_
      refine zv_5_38 C hS ha2 (st := []) h ⟨Nat.le_of_ble_eq_true rfl, Nat.le_of_ble_eq_true rfl⟩ (Nat.le_of_ble_eq_true rfl) dyX5_writeToken_28 (fun I_5 h => ?_)
      refine zn_iinc C (fun v3_6 => [(3, .int v3_6), (0, .ref (B + 97)), (1, .int a1), (2, .ref (B + a2))]) dyX5_writeToken_31 0 rfl zc_i_1 (Nat.le_of_ble_eq_true rfl) (fun _ => rfl) (fun v3_6 ev3_6 => ?_)
      replace h := h v3_6 ev3_6
      refine zr_goto C dyX5_writeToken_34 (tgt := 2) (by decide) ?_
      exact h
  exact h
theorem zg_5_54 {p : Program} {l : Launch} {e : Env} {R : Room} {s : State} {m : MethodId} {args : Array Value} {below : List Frame} {meth : Method} {c : Code} {Q : State → Prop} {D : va_G} {B : Nat} {cA : Nat → ClassId} {ad : Nat → Nat} {cc : ByteArray} {nL : Nat} {ret : Option FieldType} {S : List zC} {I : zI} {lv : List (Nat × Value)} {st : List Value} {pc : Nat} (C : zCx p s m args meth c cc nL RX5 ret D B cA ad) (hS : zOkX S) (hd : decode cc pc = .ok (.getfield 54, 3)) (kk : zX p l e R s m args below meth c Q D B cA nL 0 0 S I lv (.ref (B + 25) :: st) (pc + 3)) : zX p l e R s m args below meth c Q D B cA nL 0 0 S I lv (.ref (B + 24) :: st) pc :=
  zr_getr C (ci := 3) (Cn := RX3) (T := TX3) (N := 10) (k := 24) (j := 0) (fs := [some (some 25), some (some 27), some (some 29), some (some 31), some (some 33), some (some 35), some (some 37), some (some 39), some (some 41), none]) rfl zin_3 (Nat.le_of_ble_eq_true rfl) rfl (hS _ _ zs_24) rfl zk_fl_5_54 hd kk
theorem zv_5_61 {p : Program} {l : Launch} {e : Env} {R : Room} {s : State} {m : MethodId} {args : Array Value} {below : List Frame} {meth : Method} {c : Code} {Q : State → Prop} {D : va_G} {B : Nat} {cA : Nat → ClassId} {ad : Nat → Nat} {cc : ByteArray} {nL : Nat} {ret : Option FieldType} {S : List zC} {I : zI} {lv : List (Nat × Value)} {st : List Value} {pc : Nat} (C : zCx p s m args meth c cc nL RX5 ret D B cA ad) {K : Int32 → Prop} {xa1 : Int32} (hS : zOkX S)  (h : w_Nodes_childrenOf xa1 I K) (hR : 1 + 1 ≤ R.frames ∧ 8 + (2 + 11) + (21) ≤ R.locals) (hw : (st.map fun v => v.category).sum ≤ 8) (hd : decode cc pc = .ok (.invokevirtual 61, 3)) (kk : ∀ v, K v → zX p l e R s m args below meth c Q D B cA nL 0 0 S I lv (.int v :: st) (pc + 3)) : zX p l e R s m args below meth c Q D B cA nL 0 0 S I lv (.int xa1 :: .ref (B + 24) :: st) pc :=
  have hf : 0 ≤ R.cells ∧ 0 ≤ R.slots := ⟨Nat.zero_le _, Nat.zero_le _⟩
  zc_VpI C (ci := 3) (q := (RX3, TX3, 10)) (k := 24) (fs := [some (some 25), some (some 27), some (some 29), some (some 31), some (some 33), some (some 35), some (some 37), some (some 39), some (some 41), none]) (As := [.int xa1]) (st := st) rfl (hS _ _ zs_24) (c_Nodes_childrenOf hS h) (zgV zk_ml_5_61 zk_im_yX3_childrenOf zk_se_yX3_childrenOf zk_in_3 zk_cd_yX3_childrenOf) zsg_yX3_childrenOf hR rfl rfl hw hd hf kk
theorem zv_5_31 {p : Program} {l : Launch} {e : Env} {R : Room} {s : State} {m : MethodId} {args : Array Value} {below : List Frame} {meth : Method} {c : Code} {Q : State → Prop} {D : va_G} {B : Nat} {cA : Nat → ClassId} {ad : Nat → Nat} {cc : ByteArray} {nL : Nat} {ret : Option FieldType} {S : List zC} {I : zI} {lv : List (Nat × Value)} {st : List Value} {pc : Nat} (C : zCx p s m args meth c cc nL RX5 ret D B cA ad) {K : zI → Prop} {xa1 : Int32} (hS : zOkX S)  (h : w_Printer_putOff xa1 I K) (hR : 1 + 1 ≤ R.frames ∧ 8 + (2 + 11) + (22) ≤ R.locals) (hw : (st.map fun v => v.category).sum ≤ 8) (hd : decode cc pc = .ok (.invokevirtual 31, 3)) (kk : ∀ I2, K I2 → zX p l e R s m args below meth c Q D B cA nL 0 0 S I2 lv st (pc + 3)) : zX p l e R s m args below meth c Q D B cA nL 0 0 S I lv (.int xa1 :: .ref (B + 97) :: st) pc :=
  have hf : 0 ≤ R.cells ∧ 0 ≤ R.slots := ⟨Nat.zero_le _, Nat.zero_le _⟩
  zc_VqV C (ci := 5) (q := (RX5, TX5, 4)) (k := 97) (fs := [some (some 24), some (some 98), none, none]) (As := [.int xa1]) (st := st) rfl (hS _ _ zs_97) (c_Printer_putOff hS h) (zgV zk_ml_5_31 zk_im_yX5_putOff zk_se_yX5_putOff zk_in_5 zk_cd_yX5_putOff) zsg_yX5_putOff hR rfl rfl hw hd hf kk
theorem zv_5_57 {p : Program} {l : Launch} {e : Env} {R : Room} {s : State} {m : MethodId} {args : Array Value} {below : List Frame} {meth : Method} {c : Code} {Q : State → Prop} {D : va_G} {B : Nat} {cA : Nat → ClassId} {ad : Nat → Nat} {cc : ByteArray} {nL : Nat} {ret : Option FieldType} {S : List zC} {I : zI} {lv : List (Nat × Value)} {st : List Value} {pc : Nat} (C : zCx p s m args meth c cc nL RX5 ret D B cA ad) {K : Int32 → Prop} {xa1 : Int32} {xa2 : Int32} (hS : zOkX S)  (h : w_Nodes_childOf xa1 xa2 I K) (hR : 1 + 1 ≤ R.frames ∧ 8 + (3 + 11) + (21) ≤ R.locals) (hw : (st.map fun v => v.category).sum ≤ 8) (hd : decode cc pc = .ok (.invokevirtual 57, 3)) (kk : ∀ v, K v → zX p l e R s m args below meth c Q D B cA nL 0 0 S I lv (.int v :: st) (pc + 3)) : zX p l e R s m args below meth c Q D B cA nL 0 0 S I lv (.int xa2 :: .int xa1 :: .ref (B + 24) :: st) pc :=
  have hf : 0 ≤ R.cells ∧ 0 ≤ R.slots := ⟨Nat.zero_le _, Nat.zero_le _⟩
  zc_VpI C (ci := 3) (q := (RX3, TX3, 10)) (k := 24) (fs := [some (some 25), some (some 27), some (some 29), some (some 31), some (some 33), some (some 35), some (some 37), some (some 39), some (some 41), none]) (As := [.int xa1, .int xa2]) (st := st) rfl (hS _ _ zs_24) (c_Nodes_childOf hS h) (zgV zk_ml_5_57 zk_im_yX3_childOf zk_se_yX3_childOf zk_in_3 zk_cd_yX3_childOf) zsg_yX3_childOf hR rfl rfl hw hd hf kk
def w_Printer_openUp (a1 : Int32) (I : zI) (K : zI → Prop) : Prop :=
  w_Row_get 25 3400 a1 I (fun r_1 => ∀ (P28 : Int32 → Prop), (∀ (t_2 : Int32), ((if r_1 = 10 then (w_Nodes_childOf a1 1 I (fun r_16 => w_Printer_putOff r_16 I (fun I_17 => K I_17))) else (∀ (P59 : zI → Prop), (∀ (I_3 : zI), (w_Nodes_childrenOf a1 I_3 (fun r_4 => ∀ v4_5, v4_5 = (r_4 - 1) → ∀ (P71 : Int32 → zI → Prop), (∀ (v4_6 : Int32) (I_7 : zI), ((if v4_6 < 0 then (if t_2 = 0 then K I_7 else (w_Printer_putOff (-41) I_7 (fun I_8 => K I_8))) else (w_Nodes_childOf a1 v4_6 I_7 (fun r_10 => w_Printer_putOff r_10 I_7 (fun I_11 => ∀ v4_12, v4_12 = (v4_6 + (-1)) → P71 v4_12 I_11))))) → P71 v4_6 I_7) → P71 v4_5 I_3)) → P59 I_3) → (if t_2 = 0 then P59 I else (w_Printer_putOff (-42) I (fun I_14 => P59 I_14)))))) → P28 t_2) → ∀ (P23 : Prop), ((P28 1) → P23) → (if r_1 = 4 then P23 else (if r_1 = 6 then P23 else P28 0)))
theorem dyX5_openUp_0 : decode cX5_openUp 0 = .ok (.aload_n 0, 1) := by decide +kernel
theorem dyX5_openUp_1 : decode cX5_openUp 1 = .ok (.getfield 20, 3) := by decide +kernel
theorem dyX5_openUp_4 : decode cX5_openUp 4 = .ok (.getfield 54, 3) := by decide +kernel
theorem dyX5_openUp_7 : decode cX5_openUp 7 = .ok (.iload_n 1, 1) := by decide +kernel
theorem dyX5_openUp_8 : decode cX5_openUp 8 = .ok (.invokevirtual 34, 3) := by decide +kernel
theorem dyX5_openUp_11 : decode cX5_openUp 11 = .ok (.istore_n 2, 1) := by decide +kernel
theorem dyX5_openUp_12 : decode cX5_openUp 12 = .ok (.iload_n 2, 1) := by decide +kernel
theorem dyX5_openUp_13 : decode cX5_openUp 13 = .ok (.iconst 4, 1) := by decide +kernel
theorem dyX5_openUp_14 : decode cX5_openUp 14 = .ok (.if_icmp .eq 9, 3) := by decide +kernel
theorem dyX5_openUp_17 : decode cX5_openUp 17 = .ok (.iload_n 2, 1) := by decide +kernel
theorem dyX5_openUp_18 : decode cX5_openUp 18 = .ok (.bipush 6, 2) := by decide +kernel
theorem dyX5_openUp_20 : decode cX5_openUp 20 = .ok (.if_icmp .ne 7, 3) := by decide +kernel
theorem dyX5_openUp_23 : decode cX5_openUp 23 = .ok (.iconst 1, 1) := by decide +kernel
theorem dyX5_openUp_24 : decode cX5_openUp 24 = .ok (.goto 4, 3) := by decide +kernel
theorem dyX5_openUp_27 : decode cX5_openUp 27 = .ok (.iconst 0, 1) := by decide +kernel
theorem dyX5_openUp_28 : decode cX5_openUp 28 = .ok (.istore_n 3, 1) := by decide +kernel
theorem dyX5_openUp_29 : decode cX5_openUp 29 = .ok (.iload_n 2, 1) := by decide +kernel
theorem dyX5_openUp_30 : decode cX5_openUp 30 = .ok (.bipush 10, 2) := by decide +kernel
theorem dyX5_openUp_32 : decode cX5_openUp 32 = .ok (.if_icmp .ne 17, 3) := by decide +kernel
theorem dyX5_openUp_35 : decode cX5_openUp 35 = .ok (.aload_n 0, 1) := by decide +kernel
theorem dyX5_openUp_36 : decode cX5_openUp 36 = .ok (.aload_n 0, 1) := by decide +kernel
theorem dyX5_openUp_37 : decode cX5_openUp 37 = .ok (.getfield 20, 3) := by decide +kernel
theorem dyX5_openUp_40 : decode cX5_openUp 40 = .ok (.iload_n 1, 1) := by decide +kernel
theorem dyX5_openUp_41 : decode cX5_openUp 41 = .ok (.iconst 1, 1) := by decide +kernel
theorem dyX5_openUp_42 : decode cX5_openUp 42 = .ok (.invokevirtual 57, 3) := by decide +kernel
theorem dyX5_openUp_45 : decode cX5_openUp 45 = .ok (.invokevirtual 31, 3) := by decide +kernel
theorem dyX5_openUp_48 : decode cX5_openUp 48 = .ok (.return_, 1) := by decide +kernel
theorem dyX5_openUp_49 : decode cX5_openUp 49 = .ok (.iload_n 3, 1) := by decide +kernel
theorem dyX5_openUp_50 : decode cX5_openUp 50 = .ok (.ifCond .eq 9, 3) := by decide +kernel
theorem dyX5_openUp_53 : decode cX5_openUp 53 = .ok (.aload_n 0, 1) := by decide +kernel
theorem dyX5_openUp_54 : decode cX5_openUp 54 = .ok (.bipush (-42), 2) := by decide +kernel
theorem dyX5_openUp_56 : decode cX5_openUp 56 = .ok (.invokevirtual 31, 3) := by decide +kernel
theorem dyX5_openUp_59 : decode cX5_openUp 59 = .ok (.aload_n 0, 1) := by decide +kernel
theorem dyX5_openUp_60 : decode cX5_openUp 60 = .ok (.getfield 20, 3) := by decide +kernel
theorem dyX5_openUp_63 : decode cX5_openUp 63 = .ok (.iload_n 1, 1) := by decide +kernel
theorem dyX5_openUp_64 : decode cX5_openUp 64 = .ok (.invokevirtual 61, 3) := by decide +kernel
theorem dyX5_openUp_67 : decode cX5_openUp 67 = .ok (.iconst 1, 1) := by decide +kernel
theorem dyX5_openUp_68 : decode cX5_openUp 68 = .ok (.isub, 1) := by decide +kernel
theorem dyX5_openUp_69 : decode cX5_openUp 69 = .ok (.istore 4, 2) := by decide +kernel
theorem dyX5_openUp_71 : decode cX5_openUp 71 = .ok (.iload 4, 2) := by decide +kernel
theorem dyX5_openUp_73 : decode cX5_openUp 73 = .ok (.ifCond .lt 23, 3) := by decide +kernel
theorem dyX5_openUp_76 : decode cX5_openUp 76 = .ok (.aload_n 0, 1) := by decide +kernel
theorem dyX5_openUp_77 : decode cX5_openUp 77 = .ok (.aload_n 0, 1) := by decide +kernel
theorem dyX5_openUp_78 : decode cX5_openUp 78 = .ok (.getfield 20, 3) := by decide +kernel
theorem dyX5_openUp_81 : decode cX5_openUp 81 = .ok (.iload_n 1, 1) := by decide +kernel
theorem dyX5_openUp_82 : decode cX5_openUp 82 = .ok (.iload 4, 2) := by decide +kernel
theorem dyX5_openUp_84 : decode cX5_openUp 84 = .ok (.invokevirtual 57, 3) := by decide +kernel
theorem dyX5_openUp_87 : decode cX5_openUp 87 = .ok (.invokevirtual 31, 3) := by decide +kernel
theorem dyX5_openUp_90 : decode cX5_openUp 90 = .ok (.iinc 4 (-1), 3) := by decide +kernel
theorem dyX5_openUp_93 : decode cX5_openUp 93 = .ok (.goto (-22), 3) := by decide +kernel
theorem dyX5_openUp_96 : decode cX5_openUp 96 = .ok (.iload_n 3, 1) := by decide +kernel
theorem dyX5_openUp_97 : decode cX5_openUp 97 = .ok (.ifCond .eq 9, 3) := by decide +kernel
theorem dyX5_openUp_100 : decode cX5_openUp 100 = .ok (.aload_n 0, 1) := by decide +kernel
theorem dyX5_openUp_101 : decode cX5_openUp 101 = .ok (.bipush (-41), 2) := by decide +kernel
theorem dyX5_openUp_103 : decode cX5_openUp 103 = .ok (.invokevirtual 31, 3) := by decide +kernel
theorem dyX5_openUp_106 : decode cX5_openUp 106 = .ok (.return_, 1) := by decide +kernel
theorem zsg_yX5_openUp : yX5_openUp.cls = RX5 ∧ yX5_openUp.cls ≠ "java/lang/invoke/MethodHandle" ∧ yX5_openUp.cls ≠ "java/lang/invoke/VarHandle" ∧ (parseMethodDescriptor yX5_openUp.desc).map (fun d => d.parameters.length) = some 1 := by decide +kernel
set_option maxRecDepth 20000 in
theorem c_Printer_openUp {l : Launch} {D : va_G} {B : Nat} {cA : Nat → ClassId} {ad : Nat → Nat} {S : List zC} (hS : zOkX S) {a1 : Int32} {I : zI} {K : zI → Prop}  (h : w_Printer_openUp a1 I K) : Met l yX5_openUp (zws yX5_openUp cX5_openUp 5 none) (zrm 2 43) (zPc D B cA ad [.ref (B + 97), .int a1] S I) (zQc D B cA (zqV S K)) 0 0 (fun q => B ≤ q) := by
  refine zm_of (cc := cX5_openUp) (maxL := 5) (ret := none) (by decide +kernel) rfl (Nat.le_of_ble_eq_true rfl) trivial ?_
  intro p e s m args below meth c C _
  unfold w_Printer_openUp at h
  show zX p l e (zrm 2 43) s m args below meth c (MQ below (zQc D B cA (zqV S K)) args s 0 0 (fun q => B ≤ q)) D B cA 5 0 0 S I [(0, .ref (B + 97)), (1, .int a1)] [] 0
  refine zr_aload_n C dyX5_openUp_0 rfl 0 rfl ?_
  refine zg_5_20 C hS dyX5_openUp_1 ?_
  refine zg_5_54 C hS dyX5_openUp_4 ?_
  refine zr_iload_n C dyX5_openUp_7 rfl 1 rfl ?_
  refine zv_5_34 C hS (zIsRow.of hS zir_25) (st := []) h ⟨Nat.le_of_ble_eq_true rfl, Nat.le_of_ble_eq_true rfl⟩ (Nat.le_of_ble_eq_true rfl) dyX5_openUp_8 (fun r_1 h => ?_)
  refine zr_istore_n C dyX5_openUp_11 rfl (Nat.le_of_ble_eq_true rfl) (lv2 := [(2, .int r_1), (0, .ref (B + 97)), (1, .int a1)]) rfl ?_
  refine zr_iload_n C dyX5_openUp_12 rfl 0 rfl ?_
  refine zr_iconst C dyX5_openUp_13 zc_i_4 ?_
  refine zjn (h (fun (t_2 : Int32) => zX p l e (zrm 2 43) s m args below meth c (MQ below (zQc D B cA (zqV S K)) args s 0 0 (fun q => B ≤ q)) D B cA 5 0 0 S I [(2, .int r_1), (0, .ref (B + 97)), (1, .int a1)] [.int t_2] 28) (fun t_2 h => ?_)) (fun h => ?_)
  · refine zr_istore_n C dyX5_openUp_28 rfl (Nat.le_of_ble_eq_true rfl) (lv2 := [(3, .int t_2), (2, .int r_1), (0, .ref (B + 97)), (1, .int a1)]) rfl ?_
    refine zr_iload_n C dyX5_openUp_29 rfl 1 rfl ?_
    refine zr_bipush C dyX5_openUp_30 zc_b_10 ?_
    refine zr_icmp_ne C dyX5_openUp_32 (tgt := 49) (by decide) (fun hc_18 => ?_) (fun hc_18 => ?_)
    · replace h := zif_neg hc_18 h
      refine zr_iload_n C dyX5_openUp_49 rfl 0 rfl ?_
      refine zjn (h (fun (I_3 : zI) => zX p l e (zrm 2 43) s m args below meth c (MQ below (zQc D B cA (zqV S K)) args s 0 0 (fun q => B ≤ q)) D B cA 5 0 0 S I_3 [(3, .int t_2), (0, .ref (B + 97)), (1, .int a1)] [] 59) (fun I_3 h => ?_)) (fun h => ?_)
      · refine zr_aload_n C dyX5_openUp_59 rfl 1 rfl ?_
        refine zg_5_20 C hS dyX5_openUp_60 ?_
        refine zr_iload_n C dyX5_openUp_63 rfl 2 rfl ?_
        refine zv_5_61 C hS (st := []) h ⟨Nat.le_of_ble_eq_true rfl, Nat.le_of_ble_eq_true rfl⟩ (Nat.le_of_ble_eq_true rfl) dyX5_openUp_64 (fun r_4 h => ?_)
        refine zr_iconst C dyX5_openUp_67 zc_i_1 ?_
        refine zr_isub C dyX5_openUp_68 ?_
        refine zn_istore C (fun v4_5 => [(4, .int v4_5), (3, .int t_2), (0, .ref (B + 97)), (1, .int a1)]) dyX5_openUp_69 (Nat.le_of_ble_eq_true rfl) (fun _ => rfl) (fun v4_5 ev4_5 => ?_)
        replace h := h v4_5 ev4_5
        refine zjn (h (fun (v4_6 : Int32) (I_7 : zI) => zX p l e (zrm 2 43) s m args below meth c (MQ below (zQc D B cA (zqV S K)) args s 0 0 (fun q => B ≤ q)) D B cA 5 0 0 S I_7 [(4, .int v4_6), (3, .int t_2), (0, .ref (B + 97)), (1, .int a1)] [] 71) (fun v4_6 I_7 h => ?_)) (fun h => ?_)
        · refine zr_iload C dyX5_openUp_71 0 rfl ?_
          refine zr_if_lt C dyX5_openUp_73 (tgt := 96) (by decide) (fun hc_13 => ?_) (fun hc_13 => ?_)
          · replace h := zif_pos hc_13 h
            refine zr_iload_n C dyX5_openUp_96 rfl 1 rfl ?_
            refine zr_if_eq C dyX5_openUp_97 (tgt := 106) (by decide) (fun hc_9 => ?_) (fun hc_9 => ?_)
            · replace h := zif_pos hc_9 h
              exact zr_vret C rfl dyX5_openUp_106 ⟨rfl, rfl, h⟩
            · replace h := zif_neg hc_9 h
              refine zr_aload_n C dyX5_openUp_100 rfl 2 rfl ?_
              refine zr_bipush C dyX5_openUp_101 zc_b_m41 ?_
              refine zv_5_31 C hS (st := []) h ⟨Nat.le_of_ble_eq_true rfl, Nat.le_of_ble_eq_true rfl⟩ (Nat.le_of_ble_eq_true rfl) dyX5_openUp_103 (fun I_8 h => ?_)
              exact zr_vret C rfl dyX5_openUp_106 ⟨rfl, rfl, h⟩
          · replace h := zif_neg hc_13 h
            refine zr_aload_n C dyX5_openUp_76 rfl 2 rfl ?_
            refine zr_aload_n C dyX5_openUp_77 rfl 2 rfl ?_
            refine zg_5_20 C hS dyX5_openUp_78 ?_
            refine zr_iload_n C dyX5_openUp_81 rfl 3 rfl ?_
            refine zr_iload C dyX5_openUp_82 0 rfl ?_
            refine zv_5_57 C hS (st := [.ref (B + 97)]) h ⟨Nat.le_of_ble_eq_true rfl, Nat.le_of_ble_eq_true rfl⟩ (Nat.le_of_ble_eq_true rfl) dyX5_openUp_84 (fun r_10 h => ?_)
            refine zv_5_31 C hS (st := []) h ⟨Nat.le_of_ble_eq_true rfl, Nat.le_of_ble_eq_true rfl⟩ (Nat.le_of_ble_eq_true rfl) dyX5_openUp_87 (fun I_11 h => ?_)
            refine zn_iinc C (fun v4_12 => [(4, .int v4_12), (3, .int t_2), (0, .ref (B + 97)), (1, .int a1)]) dyX5_openUp_90 0 rfl zc_i_m1 (Nat.le_of_ble_eq_true rfl) (fun _ => rfl) (fun v4_12 ev4_12 => ?_)
            replace h := h v4_12 ev4_12
            refine zr_goto C dyX5_openUp_93 (tgt := 71) (by decide) ?_
            exact h
        exact h
      refine zr_if_eq C dyX5_openUp_50 (tgt := 59) (by decide) (fun hc_15 => ?_) (fun hc_15 => ?_)
      · replace h := zif_pos hc_15 h
        refine zr_sub (lv2 := [(3, .int t_2), (0, .ref (B + 97)), (1, .int a1)]) [0, 2, 3] rfl ?_
        exact h
      · replace h := zif_neg hc_15 h
        refine zr_aload_n C dyX5_openUp_53 rfl 2 rfl ?_
        refine zr_bipush C dyX5_openUp_54 zc_b_m42 ?_
        refine zv_5_31 C hS (st := []) h ⟨Nat.le_of_ble_eq_true rfl, Nat.le_of_ble_eq_true rfl⟩ (Nat.le_of_ble_eq_true rfl) dyX5_openUp_56 (fun I_14 h => ?_)
        refine zr_sub (lv2 := [(3, .int t_2), (0, .ref (B + 97)), (1, .int a1)]) [0, 2, 3] rfl ?_
        exact h
    · replace h := zif_pos hc_18 h
      refine zr_aload_n C dyX5_openUp_35 rfl 2 rfl ?_
      refine zr_aload_n C dyX5_openUp_36 rfl 2 rfl ?_
      refine zg_5_20 C hS dyX5_openUp_37 ?_
      refine zr_iload_n C dyX5_openUp_40 rfl 3 rfl ?_
      refine zr_iconst C dyX5_openUp_41 zc_i_1 ?_
      refine zv_5_57 C hS (st := [.ref (B + 97)]) h ⟨Nat.le_of_ble_eq_true rfl, Nat.le_of_ble_eq_true rfl⟩ (Nat.le_of_ble_eq_true rfl) dyX5_openUp_42 (fun r_16 h => ?_)
      refine zv_5_31 C hS (st := []) h ⟨Nat.le_of_ble_eq_true rfl, Nat.le_of_ble_eq_true rfl⟩ (Nat.le_of_ble_eq_true rfl) dyX5_openUp_45 (fun I_17 h => ?_)
      exact zr_vret C rfl dyX5_openUp_48 ⟨rfl, rfl, h⟩
  refine zjn (h (zX p l e (zrm 2 43) s m args below meth c (MQ below (zQc D B cA (zqV S K)) args s 0 0 (fun q => B ≤ q)) D B cA 5 0 0 S I [(2, .int r_1), (0, .ref (B + 97)), (1, .int a1)] [] 23) (fun  h => ?_)) (fun h => ?_)
  · refine zr_iconst C dyX5_openUp_23 zc_i_1 ?_
    refine zr_goto C dyX5_openUp_24 (tgt := 28) (by decide) ?_
    exact h
  refine zr_icmp_eq C dyX5_openUp_14 (tgt := 23) (by decide) (fun hc_20 => ?_) (fun hc_20 => ?_)
  · replace h := zif_pos hc_20 h
    exact h
  · replace h := zif_neg hc_20 h
    refine zr_iload_n C dyX5_openUp_17 rfl 0 rfl ?_
    refine zr_bipush C dyX5_openUp_18 zc_b_6 ?_
    refine zr_icmp_ne C dyX5_openUp_20 (tgt := 27) (by decide) (fun hc_19 => ?_) (fun hc_19 => ?_)
    · replace h := zif_neg hc_19 h
      refine zr_iconst C dyX5_openUp_27 zc_i_0 ?_
      exact h
    · replace h := zif_pos hc_19 h
      exact h
theorem zv_5_42 {p : Program} {l : Launch} {e : Env} {R : Room} {s : State} {m : MethodId} {args : Array Value} {below : List Frame} {meth : Method} {c : Code} {Q : State → Prop} {D : va_G} {B : Nat} {cA : Nat → ClassId} {ad : Nat → Nat} {cc : ByteArray} {nL : Nat} {ret : Option FieldType} {S : List zC} {I : zI} {lv : List (Nat × Value)} {st : List Value} {pc : Nat} (C : zCx p s m args meth c cc nL RX5 ret D B cA ad) {K : Int32 → Prop} {xa1 : Int32} (hS : zOkX S)  (h : w_Nodes_isToken xa1 I K) (hR : 1 + 1 ≤ R.frames ∧ 8 + (2 + 11) + (21) ≤ R.locals) (hw : (st.map fun v => v.category).sum ≤ 8) (hd : decode cc pc = .ok (.invokevirtual 42, 3)) (kk : ∀ v, K v → zX p l e R s m args below meth c Q D B cA nL 0 0 S I lv (.int v :: st) (pc + 3)) : zX p l e R s m args below meth c Q D B cA nL 0 0 S I lv (.int xa1 :: .ref (B + 24) :: st) pc :=
  have hf : 0 ≤ R.cells ∧ 0 ≤ R.slots := ⟨Nat.zero_le _, Nat.zero_le _⟩
  zc_VpI C (ci := 3) (q := (RX3, TX3, 10)) (k := 24) (fs := [some (some 25), some (some 27), some (some 29), some (some 31), some (some 33), some (some 35), some (some 37), some (some 39), some (some 41), none]) (As := [.int xa1]) (st := st) rfl (hS _ _ zs_24) (c_Nodes_isToken hS h) (zgV zk_ml_5_42 zk_im_yX3_isToken zk_se_yX3_isToken zk_in_3 zk_cd_yX3_isToken) zsg_yX3_isToken hR rfl rfl hw hd hf kk
theorem zv_5_51 {p : Program} {l : Launch} {e : Env} {R : Room} {s : State} {m : MethodId} {args : Array Value} {below : List Frame} {meth : Method} {c : Code} {Q : State → Prop} {D : va_G} {B : Nat} {cA : Nat → ClassId} {ad : Nat → Nat} {cc : ByteArray} {nL : Nat} {ret : Option FieldType} {S : List zC} {I : zI} {lv : List (Nat × Value)} {st : List Value} {pc : Nat} (C : zCx p s m args meth c cc nL RX5 ret D B cA ad) {K : zI → Prop} {xa1 : Int32} (hS : zOkX S)  (h : w_Printer_openUp xa1 I K) (hR : 2 + 1 ≤ R.frames ∧ 8 + (5 + 11) + (43) ≤ R.locals) (hw : (st.map fun v => v.category).sum ≤ 8) (hd : decode cc pc = .ok (.invokevirtual 51, 3)) (kk : ∀ I2, K I2 → zX p l e R s m args below meth c Q D B cA nL 0 0 S I2 lv st (pc + 3)) : zX p l e R s m args below meth c Q D B cA nL 0 0 S I lv (.int xa1 :: .ref (B + 97) :: st) pc :=
  have hf : 0 ≤ R.cells ∧ 0 ≤ R.slots := ⟨Nat.zero_le _, Nat.zero_le _⟩
  zc_VqV C (ci := 5) (q := (RX5, TX5, 4)) (k := 97) (fs := [some (some 24), some (some 98), none, none]) (As := [.int xa1]) (st := st) rfl (hS _ _ zs_97) (c_Printer_openUp hS h) (zgV zk_ml_5_51 zk_im_yX5_openUp zk_se_yX5_openUp zk_in_5 zk_cd_yX5_openUp) zsg_yX5_openUp hR rfl rfl hw hd hf kk
theorem zv_5_48 {p : Program} {l : Launch} {e : Env} {R : Room} {s : State} {m : MethodId} {args : Array Value} {below : List Frame} {meth : Method} {c : Code} {Q : State → Prop} {D : va_G} {B : Nat} {cA : Nat → ClassId} {ad : Nat → Nat} {cc : ByteArray} {nL : Nat} {ret : Option FieldType} {S : List zC} {I : zI} {lv : List (Nat × Value)} {st : List Value} {pc : Nat} (C : zCx p s m args meth c cc nL RX5 ret D B cA ad) {K : zI → Prop} {xa1 : Int32} {xa2 : Nat} {xa2n : Nat} (hS : zOkX S) (xha2 : zIsRow S xa2 xa2n) (h : w_Printer_writeToken xa1 xa2 xa2n I K) (hR : 2 + 1 ≤ R.frames ∧ 8 + (4 + 11) + (44) ≤ R.locals) (hw : (st.map fun v => v.category).sum ≤ 8) (hd : decode cc pc = .ok (.invokevirtual 48, 3)) (kk : ∀ I2, K I2 → zX p l e R s m args below meth c Q D B cA nL 0 0 S I2 lv st (pc + 3)) : zX p l e R s m args below meth c Q D B cA nL 0 0 S I lv (.ref (B + xa2) :: .int xa1 :: .ref (B + 97) :: st) pc :=
  have hf : 0 ≤ R.cells ∧ 0 ≤ R.slots := ⟨Nat.zero_le _, Nat.zero_le _⟩
  zc_VqV C (ci := 5) (q := (RX5, TX5, 4)) (k := 97) (fs := [some (some 24), some (some 98), none, none]) (As := [.int xa1, .ref (B + xa2)]) (st := st) rfl (hS _ _ zs_97) (c_Printer_writeToken hS xha2 h) (zgV zk_ml_5_48 zk_im_yX5_writeToken zk_se_yX5_writeToken zk_in_5 zk_cd_yX5_writeToken) zsg_yX5_writeToken hR rfl rfl hw hd hf kk
def w_Printer_write (a1 : Int32) (a2 : Nat) (a2n : Nat) (I : zI) (K : Int32 → zI → Prop) : Prop :=
  ∀ I_1, I_1 = (zu I 97 3 0) → ∀ I_2, I_2 = (zu I_1 97 2 0) → w_Printer_putOff a1 I_2 (fun I_3 => ∀ (P17 : Int32 → zI → Prop), (∀ (v3_4 : Int32) (I_5 : zI), (∀ (P105 : Prop), ((K (I_5.1 97 3) I_5) → P105) → (if 10000 ≤ v3_4 then P105 else (if (I_5.1 97 2) ≤ 0 then P105 else (∀ I_6, I_6 = (zu I_5 97 2 ((I_5.1 97 2) - 1)) → w_Row_get 98 1000 (I_6.1 97 2) I_6 (fun r_7 => ∀ (P99 : zI → Prop), (∀ (I_8 : zI), (∀ v3_9, v3_9 = (v3_4 + 1) → P17 v3_9 I_8) → P99 I_8) → (if 0 ≤ r_7 then (w_Nodes_isToken r_7 I_6 (fun r_10 => (if r_10 = 0 then (w_Printer_openUp r_7 I_6 (fun I_11 => P99 I_11)) else (w_Printer_writeToken r_7 a2 a2n I_6 (fun I_12 => P99 I_12))))) else (w_Printer_writeByte ((-1) - r_7) a2 a2n I_6 (fun I_14 => P99 I_14)))))))) → P17 v3_4 I_5) → P17 0 I_3)
theorem dyX5_write_0 : decode cX5_write 0 = .ok (.aload_n 0, 1) := by decide +kernel
theorem dyX5_write_1 : decode cX5_write 1 = .ok (.iconst 0, 1) := by decide +kernel
theorem dyX5_write_2 : decode cX5_write 2 = .ok (.putfield 24, 3) := by decide +kernel
theorem dyX5_write_5 : decode cX5_write 5 = .ok (.aload_n 0, 1) := by decide +kernel
theorem dyX5_write_6 : decode cX5_write 6 = .ok (.iconst 0, 1) := by decide +kernel
theorem dyX5_write_7 : decode cX5_write 7 = .ok (.putfield 28, 3) := by decide +kernel
theorem dyX5_write_10 : decode cX5_write 10 = .ok (.aload_n 0, 1) := by decide +kernel
theorem dyX5_write_11 : decode cX5_write 11 = .ok (.iload_n 1, 1) := by decide +kernel
theorem dyX5_write_12 : decode cX5_write 12 = .ok (.invokevirtual 31, 3) := by decide +kernel
theorem dyX5_write_15 : decode cX5_write 15 = .ok (.iconst 0, 1) := by decide +kernel
theorem dyX5_write_16 : decode cX5_write 16 = .ok (.istore_n 3, 1) := by decide +kernel
theorem dyX5_write_17 : decode cX5_write 17 = .ok (.iload_n 3, 1) := by decide +kernel
theorem dyX5_write_18 : decode cX5_write 18 = .ok (.sipush 10000, 3) := by decide +kernel
theorem dyX5_write_21 : decode cX5_write 21 = .ok (.if_icmp .ge 84, 3) := by decide +kernel
theorem dyX5_write_24 : decode cX5_write 24 = .ok (.aload_n 0, 1) := by decide +kernel
theorem dyX5_write_25 : decode cX5_write 25 = .ok (.getfield 28, 3) := by decide +kernel
theorem dyX5_write_28 : decode cX5_write 28 = .ok (.ifCond .le 77, 3) := by decide +kernel
theorem dyX5_write_31 : decode cX5_write 31 = .ok (.aload_n 0, 1) := by decide +kernel
theorem dyX5_write_32 : decode cX5_write 32 = .ok (.dup, 1) := by decide +kernel
theorem dyX5_write_33 : decode cX5_write 33 = .ok (.getfield 28, 3) := by decide +kernel
theorem dyX5_write_36 : decode cX5_write 36 = .ok (.iconst 1, 1) := by decide +kernel
theorem dyX5_write_37 : decode cX5_write 37 = .ok (.isub, 1) := by decide +kernel
theorem dyX5_write_38 : decode cX5_write 38 = .ok (.putfield 28, 3) := by decide +kernel
theorem dyX5_write_41 : decode cX5_write 41 = .ok (.aload_n 0, 1) := by decide +kernel
theorem dyX5_write_42 : decode cX5_write 42 = .ok (.getfield 14, 3) := by decide +kernel
theorem dyX5_write_45 : decode cX5_write 45 = .ok (.aload_n 0, 1) := by decide +kernel
theorem dyX5_write_46 : decode cX5_write 46 = .ok (.getfield 28, 3) := by decide +kernel
theorem dyX5_write_49 : decode cX5_write 49 = .ok (.invokevirtual 34, 3) := by decide +kernel
theorem dyX5_write_52 : decode cX5_write 52 = .ok (.istore 4, 2) := by decide +kernel
theorem dyX5_write_54 : decode cX5_write 54 = .ok (.iload 4, 2) := by decide +kernel
theorem dyX5_write_56 : decode cX5_write 56 = .ok (.ifCond .ge 15, 3) := by decide +kernel
theorem dyX5_write_59 : decode cX5_write 59 = .ok (.aload_n 0, 1) := by decide +kernel
theorem dyX5_write_60 : decode cX5_write 60 = .ok (.iconst (-1), 1) := by decide +kernel
theorem dyX5_write_61 : decode cX5_write 61 = .ok (.iload 4, 2) := by decide +kernel
theorem dyX5_write_63 : decode cX5_write 63 = .ok (.isub, 1) := by decide +kernel
theorem dyX5_write_64 : decode cX5_write 64 = .ok (.aload_n 2, 1) := by decide +kernel
theorem dyX5_write_65 : decode cX5_write 65 = .ok (.invokevirtual 38, 3) := by decide +kernel
theorem dyX5_write_68 : decode cX5_write 68 = .ok (.goto 31, 3) := by decide +kernel
theorem dyX5_write_71 : decode cX5_write 71 = .ok (.aload_n 0, 1) := by decide +kernel
theorem dyX5_write_72 : decode cX5_write 72 = .ok (.getfield 20, 3) := by decide +kernel
theorem dyX5_write_75 : decode cX5_write 75 = .ok (.iload 4, 2) := by decide +kernel
theorem dyX5_write_77 : decode cX5_write 77 = .ok (.invokevirtual 42, 3) := by decide +kernel
theorem dyX5_write_80 : decode cX5_write 80 = .ok (.ifCond .eq 13, 3) := by decide +kernel
theorem dyX5_write_83 : decode cX5_write 83 = .ok (.aload_n 0, 1) := by decide +kernel
theorem dyX5_write_84 : decode cX5_write 84 = .ok (.iload 4, 2) := by decide +kernel
theorem dyX5_write_86 : decode cX5_write 86 = .ok (.aload_n 2, 1) := by decide +kernel
theorem dyX5_write_87 : decode cX5_write 87 = .ok (.invokevirtual 48, 3) := by decide +kernel
theorem dyX5_write_90 : decode cX5_write 90 = .ok (.goto 9, 3) := by decide +kernel
theorem dyX5_write_93 : decode cX5_write 93 = .ok (.aload_n 0, 1) := by decide +kernel
theorem dyX5_write_94 : decode cX5_write 94 = .ok (.iload 4, 2) := by decide +kernel
theorem dyX5_write_96 : decode cX5_write 96 = .ok (.invokevirtual 51, 3) := by decide +kernel
theorem dyX5_write_99 : decode cX5_write 99 = .ok (.iinc 3 1, 3) := by decide +kernel
theorem dyX5_write_102 : decode cX5_write 102 = .ok (.goto (-85), 3) := by decide +kernel
theorem dyX5_write_105 : decode cX5_write 105 = .ok (.aload_n 0, 1) := by decide +kernel
theorem dyX5_write_106 : decode cX5_write 106 = .ok (.getfield 24, 3) := by decide +kernel
theorem dyX5_write_109 : decode cX5_write 109 = .ok (.ireturn, 1) := by decide +kernel
theorem zsg_yX5_write : yX5_write.cls = RX5 ∧ yX5_write.cls ≠ "java/lang/invoke/MethodHandle" ∧ yX5_write.cls ≠ "java/lang/invoke/VarHandle" ∧ (parseMethodDescriptor yX5_write.desc).map (fun d => d.parameters.length) = some 2 := by decide +kernel
set_option maxRecDepth 20000 in
theorem c_Printer_write {l : Launch} {D : va_G} {B : Nat} {cA : Nat → ClassId} {ad : Nat → Nat} {S : List zC} (hS : zOkX S) {a1 : Int32} {a2 : Nat} {a2n : Nat} {I : zI} {K : Int32 → zI → Prop} (ha2 : zIsRow S a2 a2n) (h : w_Printer_write a1 a2 a2n I K) : Met l yX5_write (zws yX5_write cX5_write 5 (some .int)) (zrm 3 67) (zPc D B cA ad [.ref (B + 97), .int a1, .ref (B + a2)] S I) (zQc D B cA (zqI S K)) 0 0 (fun q => B ≤ q) := by
  refine zm_of (cc := cX5_write) (maxL := 5) (ret := (some .int)) (by decide +kernel) rfl (Nat.le_of_ble_eq_true rfl) trivial ?_
  intro p e s m args below meth c C _
  unfold w_Printer_write at h
  show zX p l e (zrm 3 67) s m args below meth c (MQ below (zQc D B cA (zqI S K)) args s 0 0 (fun q => B ≤ q)) D B cA 5 0 0 S I [(0, .ref (B + 97)), (1, .int a1), (2, .ref (B + a2))] [] 0
  refine zr_aload_n C dyX5_write_0 rfl 0 rfl ?_
  refine zr_iconst C dyX5_write_1 zc_i_0 ?_
  refine zp_5_24 C hS dyX5_write_2 ?_
  refine zn_mem C (fun I_1 eI_1 => ?_)
  replace h := h I_1 eI_1
  refine zr_aload_n C dyX5_write_5 rfl 0 rfl ?_
  refine zr_iconst C dyX5_write_6 zc_i_0 ?_
  refine zp_5_28 C hS dyX5_write_7 ?_
  refine zn_mem C (fun I_2 eI_2 => ?_)
  replace h := h I_2 eI_2
  refine zr_aload_n C dyX5_write_10 rfl 0 rfl ?_
  refine zr_iload_n C dyX5_write_11 rfl 1 rfl ?_
  refine zv_5_31 C hS (st := []) h ⟨Nat.le_of_ble_eq_true rfl, Nat.le_of_ble_eq_true rfl⟩ (Nat.le_of_ble_eq_true rfl) dyX5_write_12 (fun I_3 h => ?_)
  refine zr_iconst C dyX5_write_15 zc_i_0 ?_
  refine zr_istore_n C dyX5_write_16 rfl (Nat.le_of_ble_eq_true rfl) (lv2 := [(3, .int 0), (0, .ref (B + 97)), (1, .int a1), (2, .ref (B + a2))]) rfl ?_
  refine zjn (h (fun (v3_4 : Int32) (I_5 : zI) => zX p l e (zrm 3 67) s m args below meth c (MQ below (zQc D B cA (zqI S K)) args s 0 0 (fun q => B ≤ q)) D B cA 5 0 0 S I_5 [(3, .int v3_4), (0, .ref (B + 97)), (2, .ref (B + a2))] [] 17) (fun v3_4 I_5 h => ?_)) (fun h => ?_)
  · refine zr_iload_n C dyX5_write_17 rfl 0 rfl ?_
    refine zr_sipush C dyX5_write_18 zc_s_10000 ?_
    refine zjn (h (zX p l e (zrm 3 67) s m args below meth c (MQ below (zQc D B cA (zqI S K)) args s 0 0 (fun q => B ≤ q)) D B cA 5 0 0 S I_5 [(0, .ref (B + 97))] [] 105) (fun  h => ?_)) (fun h => ?_)
    · refine zr_aload_n C dyX5_write_105 rfl 0 rfl ?_
      refine zg_5_24 C hS dyX5_write_106 ?_
      exact zr_iret C rfl dyX5_write_109 ⟨rfl, _, rfl, h⟩
    refine zr_icmp_ge C dyX5_write_21 (tgt := 105) (by decide) (fun hc_17 => ?_) (fun hc_17 => ?_)
    · replace h := zif_pos hc_17 h
      refine zr_sub (lv2 := [(0, .ref (B + 97))]) [1] rfl ?_
      exact h
    · replace h := zif_neg hc_17 h
      refine zr_aload_n C dyX5_write_24 rfl 1 rfl ?_
      refine zg_5_28 C hS dyX5_write_25 ?_
      refine zr_if_le C dyX5_write_28 (tgt := 105) (by decide) (fun hc_16 => ?_) (fun hc_16 => ?_)
      · replace h := zif_pos hc_16 h
        refine zr_sub (lv2 := [(0, .ref (B + 97))]) [1] rfl ?_
        exact h
      · replace h := zif_neg hc_16 h
        refine zr_aload_n C dyX5_write_31 rfl 1 rfl ?_
        refine zr_dup C dyX5_write_32 rfl ?_
        refine zg_5_28 C hS dyX5_write_33 ?_
        refine zr_iconst C dyX5_write_36 zc_i_1 ?_
        refine zr_isub C dyX5_write_37 ?_
        refine zp_5_28 C hS dyX5_write_38 ?_
        refine zn_mem C (fun I_6 eI_6 => ?_)
        replace h := h I_6 eI_6
        refine zr_aload_n C dyX5_write_41 rfl 1 rfl ?_
        refine zg_5_14 C hS dyX5_write_42 ?_
        refine zr_aload_n C dyX5_write_45 rfl 1 rfl ?_
        refine zg_5_28 C hS dyX5_write_46 ?_
        refine zv_5_34 C hS (zIsRow.of hS zir_98) (st := []) h ⟨Nat.le_of_ble_eq_true rfl, Nat.le_of_ble_eq_true rfl⟩ (Nat.le_of_ble_eq_true rfl) dyX5_write_49 (fun r_7 h => ?_)
        refine zr_istore C dyX5_write_52 (Nat.le_of_ble_eq_true rfl) (lv2 := [(4, .int r_7), (3, .int v3_4), (0, .ref (B + 97)), (2, .ref (B + a2))]) rfl ?_
        refine zr_iload C dyX5_write_54 0 rfl ?_
        refine zjn (h (fun (I_8 : zI) => zX p l e (zrm 3 67) s m args below meth c (MQ below (zQc D B cA (zqI S K)) args s 0 0 (fun q => B ≤ q)) D B cA 5 0 0 S I_8 [(3, .int v3_4), (0, .ref (B + 97)), (2, .ref (B + a2))] [] 99) (fun I_8 h => ?_)) (fun h => ?_)
        · refine zn_iinc C (fun v3_9 => [(3, .int v3_9), (0, .ref (B + 97)), (2, .ref (B + a2))]) dyX5_write_99 0 rfl zc_i_1 (Nat.le_of_ble_eq_true rfl) (fun _ => rfl) (fun v3_9 ev3_9 => ?_)
          replace h := h v3_9 ev3_9
          refine zr_goto C dyX5_write_102 (tgt := 17) (by decide) ?_
          exact h
        refine zr_if_ge C dyX5_write_56 (tgt := 71) (by decide) (fun hc_15 => ?_) (fun hc_15 => ?_)
        · replace h := zif_pos hc_15 h
          refine zr_aload_n C dyX5_write_71 rfl 2 rfl ?_
          refine zg_5_20 C hS dyX5_write_72 ?_
          refine zr_iload C dyX5_write_75 0 rfl ?_
          refine zv_5_42 C hS (st := []) h ⟨Nat.le_of_ble_eq_true rfl, Nat.le_of_ble_eq_true rfl⟩ (Nat.le_of_ble_eq_true rfl) dyX5_write_77 (fun r_10 h => ?_)
          refine zr_if_eq C dyX5_write_80 (tgt := 93) (by decide) (fun hc_13 => ?_) (fun hc_13 => ?_)
          · replace h := zif_pos hc_13 h
            refine zr_aload_n C dyX5_write_93 rfl 2 rfl ?_
            refine zr_iload C dyX5_write_94 0 rfl ?_
            refine zv_5_51 C hS (st := []) h ⟨Nat.le_of_ble_eq_true rfl, Nat.le_of_ble_eq_true rfl⟩ (Nat.le_of_ble_eq_true rfl) dyX5_write_96 (fun I_11 h => ?_)
            refine zr_sub (lv2 := [(3, .int v3_4), (0, .ref (B + 97)), (2, .ref (B + a2))]) [1, 2, 3] rfl ?_
            exact h
          · replace h := zif_neg hc_13 h
            refine zr_aload_n C dyX5_write_83 rfl 2 rfl ?_
            refine zr_iload C dyX5_write_84 0 rfl ?_
            refine zr_aload_n C dyX5_write_86 rfl 3 rfl ?_
            refine zv_5_48 C hS ha2 (st := []) h ⟨Nat.le_of_ble_eq_true rfl, Nat.le_of_ble_eq_true rfl⟩ (Nat.le_of_ble_eq_true rfl) dyX5_write_87 (fun I_12 h => ?_)
            refine zr_goto C dyX5_write_90 (tgt := 99) (by decide) ?_
            refine zr_sub (lv2 := [(3, .int v3_4), (0, .ref (B + 97)), (2, .ref (B + a2))]) [1, 2, 3] rfl ?_
            exact h
        · replace h := zif_neg hc_15 h
          refine zr_aload_n C dyX5_write_59 rfl 2 rfl ?_
          refine zr_iconst C dyX5_write_60 zc_i_m1 ?_
          refine zr_iload C dyX5_write_61 0 rfl ?_
          refine zr_isub C dyX5_write_63 ?_
          refine zr_aload_n C dyX5_write_64 rfl 3 rfl ?_
          refine zv_5_38 C hS ha2 (st := []) h ⟨Nat.le_of_ble_eq_true rfl, Nat.le_of_ble_eq_true rfl⟩ (Nat.le_of_ble_eq_true rfl) dyX5_write_65 (fun I_14 h => ?_)
          refine zr_goto C dyX5_write_68 (tgt := 99) (by decide) ?_
          refine zr_sub (lv2 := [(3, .int v3_4), (0, .ref (B + 97)), (2, .ref (B + a2))]) [1, 2, 3] rfl ?_
          exact h
  refine zr_sub (lv2 := [(3, .int 0), (0, .ref (B + 97)), (2, .ref (B + a2))]) [0, 1, 3] rfl ?_
  exact h
def w_Row_fill (k : Nat) (n : Nat) (a1 : Int32) (I : zI) (K : zI → Prop) : Prop :=
  ∀ (P2 : Int32 → zI → Prop), (∀ (v2_1 : Int32) (I_2 : zI), ((if (Int32.ofNat n) ≤ v2_1 then K I_2 else (vp_in v2_1 n ∧ (∀ I_3, I_3 = (zu I_2 (k + 1) (Int32.toNatClampNeg v2_1) a1) → ∀ v2_4, v2_4 = (v2_1 + 1) → P2 v2_4 I_3)))) → P2 v2_1 I_2) → P2 0 I
theorem dyX6_fill_0 : decode cX6_fill 0 = .ok (.iconst 0, 1) := by decide +kernel
theorem dyX6_fill_1 : decode cX6_fill 1 = .ok (.istore_n 2, 1) := by decide +kernel
theorem dyX6_fill_2 : decode cX6_fill 2 = .ok (.iload_n 2, 1) := by decide +kernel
theorem dyX6_fill_3 : decode cX6_fill 3 = .ok (.aload_n 0, 1) := by decide +kernel
theorem dyX6_fill_4 : decode cX6_fill 4 = .ok (.getfield 7, 3) := by decide +kernel
theorem dyX6_fill_7 : decode cX6_fill 7 = .ok (.arraylength, 1) := by decide +kernel
theorem dyX6_fill_8 : decode cX6_fill 8 = .ok (.if_icmp .ge 16, 3) := by decide +kernel
theorem dyX6_fill_11 : decode cX6_fill 11 = .ok (.aload_n 0, 1) := by decide +kernel
theorem dyX6_fill_12 : decode cX6_fill 12 = .ok (.getfield 7, 3) := by decide +kernel
theorem dyX6_fill_15 : decode cX6_fill 15 = .ok (.iload_n 2, 1) := by decide +kernel
theorem dyX6_fill_16 : decode cX6_fill 16 = .ok (.iload_n 1, 1) := by decide +kernel
theorem dyX6_fill_17 : decode cX6_fill 17 = .ok (.iastore, 1) := by decide +kernel
theorem dyX6_fill_18 : decode cX6_fill 18 = .ok (.iinc 2 1, 3) := by decide +kernel
theorem dyX6_fill_21 : decode cX6_fill 21 = .ok (.goto (-19), 3) := by decide +kernel
theorem dyX6_fill_24 : decode cX6_fill 24 = .ok (.return_, 1) := by decide +kernel
theorem zsg_yX6_fill : yX6_fill.cls = RX6 ∧ yX6_fill.cls ≠ "java/lang/invoke/MethodHandle" ∧ yX6_fill.cls ≠ "java/lang/invoke/VarHandle" ∧ (parseMethodDescriptor yX6_fill.desc).map (fun d => d.parameters.length) = some 1 := by decide +kernel
set_option maxRecDepth 20000 in
theorem c_Row_fill {l : Launch} {D : va_G} {B : Nat} {cA : Nat → ClassId} {ad : Nat → Nat} {S : List zC} (hS : zOkX S) {k : Nat} {n : Nat} {a1 : Int32} {I : zI} {K : zI → Prop} (hk : zIsRow S k n) (h : w_Row_fill k n a1 I K) : Met l yX6_fill (zws yX6_fill cX6_fill 3 none) (zrm 0 0) (zPc D B cA ad [.ref (B + k), .int a1] S I) (zQc D B cA (zqV S K)) 0 0 (fun q => B ≤ q) := by
  refine zm_of (cc := cX6_fill) (maxL := 3) (ret := none) (by decide +kernel) rfl (Nat.le_of_ble_eq_true rfl) trivial ?_
  intro p e s m args below meth c C _
  unfold w_Row_fill at h
  show zX p l e (zrm 0 0) s m args below meth c (MQ below (zQc D B cA (zqV S K)) args s 0 0 (fun q => B ≤ q)) D B cA 3 0 0 S I [(0, .ref (B + k)), (1, .int a1)] [] 0
  refine zr_iconst C dyX6_fill_0 zc_i_0 ?_
  refine zr_istore_n C dyX6_fill_1 rfl (Nat.le_of_ble_eq_true rfl) (lv2 := [(2, .int 0), (0, .ref (B + k)), (1, .int a1)]) rfl ?_
  refine zjn (h (fun (v2_1 : Int32) (I_2 : zI) => zX p l e (zrm 0 0) s m args below meth c (MQ below (zQc D B cA (zqV S K)) args s 0 0 (fun q => B ≤ q)) D B cA 3 0 0 S I_2 [(2, .int v2_1), (0, .ref (B + k)), (1, .int a1)] [] 2) (fun v2_1 I_2 h => ?_)) (fun h => ?_)
  · refine zr_iload_n C dyX6_fill_2 rfl 0 rfl ?_
    refine zr_aload_n C dyX6_fill_3 rfl 1 rfl ?_
    refine zg_6_7 C hk dyX6_fill_4 ?_
    refine zr_alen C hk.2 dyX6_fill_7 ?_
    refine zr_icmp_ge C dyX6_fill_8 (tgt := 24) (by decide) (fun hc_5 => ?_) (fun hc_5 => ?_)
    · replace h := zif_pos hc_5 h
      exact zr_vret C rfl dyX6_fill_24 ⟨rfl, rfl, h⟩
    · replace h := zif_neg hc_5 h
      refine zr_aload_n C dyX6_fill_11 rfl 1 rfl ?_
      refine zg_6_7 C hk dyX6_fill_12 ?_
      refine zr_iload_n C dyX6_fill_15 rfl 0 rfl ?_
      refine zr_iload_n C dyX6_fill_16 rfl 2 rfl ?_
      refine zr_iast C hk.2 h.1 dyX6_fill_17 ?_
      replace h := h.2
      refine zn_mem C (fun I_3 eI_3 => ?_)
      replace h := h I_3 eI_3
      refine zn_iinc C (fun v2_4 => [(2, .int v2_4), (0, .ref (B + k)), (1, .int a1)]) dyX6_fill_18 0 rfl zc_i_1 (Nat.le_of_ble_eq_true rfl) (fun _ => rfl) (fun v2_4 ev2_4 => ?_)
      replace h := h v2_4 ev2_4
      refine zr_goto C dyX6_fill_21 (tgt := 2) (by decide) ?_
      exact h
  exact h
theorem zg_7_20 {p : Program} {l : Launch} {e : Env} {R : Room} {s : State} {m : MethodId} {args : Array Value} {below : List Frame} {meth : Method} {c : Code} {Q : State → Prop} {D : va_G} {B : Nat} {cA : Nat → ClassId} {ad : Nat → Nat} {cc : ByteArray} {nL : Nat} {ret : Option FieldType} {S : List zC} {I : zI} {lv : List (Nat × Value)} {st : List Value} {pc : Nat} (C : zCx p s m args meth c cc nL RX7 ret D B cA ad) (hS : zOkX S) (hd : decode cc pc = .ok (.getfield 20, 3)) (kk : zX p l e R s m args below meth c Q D B cA nL 0 0 S I lv (.ref (B + 72) :: st) (pc + 3)) : zX p l e R s m args below meth c Q D B cA nL 0 0 S I lv (.ref (B + 69) :: st) pc :=
  zr_getr C (ci := 7) (Cn := RX7) (T := TX7) (N := 17) (k := 69) (j := 3) (fs := [some (some 24), some (some 43), some (some 70), some (some 72), some (some 74), some (some 76), some (some 78), some (some 80), some (some 82), some (some 84), some (some 86), none, none, none, none, none, none]) rfl zin_7 (Nat.le_of_ble_eq_true rfl) rfl (hS _ _ zs_69) rfl zk_fl_7_20 hd kk
theorem zg_7_14 {p : Program} {l : Launch} {e : Env} {R : Room} {s : State} {m : MethodId} {args : Array Value} {below : List Frame} {meth : Method} {c : Code} {Q : State → Prop} {D : va_G} {B : Nat} {cA : Nat → ClassId} {ad : Nat → Nat} {cc : ByteArray} {nL : Nat} {ret : Option FieldType} {S : List zC} {I : zI} {lv : List (Nat × Value)} {st : List Value} {pc : Nat} (C : zCx p s m args meth c cc nL RX7 ret D B cA ad) (hS : zOkX S) (hd : decode cc pc = .ok (.getfield 14, 3)) (kk : zX p l e R s m args below meth c Q D B cA nL 0 0 S I lv (.ref (B + 70) :: st) (pc + 3)) : zX p l e R s m args below meth c Q D B cA nL 0 0 S I lv (.ref (B + 69) :: st) pc :=
  zr_getr C (ci := 7) (Cn := RX7) (T := TX7) (N := 17) (k := 69) (j := 2) (fs := [some (some 24), some (some 43), some (some 70), some (some 72), some (some 74), some (some 76), some (some 78), some (some 80), some (some 82), some (some 84), some (some 86), none, none, none, none, none, none]) rfl zin_7 (Nat.le_of_ble_eq_true rfl) rfl (hS _ _ zs_69) rfl zk_fl_7_14 hd kk
theorem zv_7_52 {p : Program} {l : Launch} {e : Env} {R : Room} {s : State} {m : MethodId} {args : Array Value} {below : List Frame} {meth : Method} {c : Code} {Q : State → Prop} {D : va_G} {B : Nat} {cA : Nat → ClassId} {ad : Nat → Nat} {cc : ByteArray} {nL : Nat} {ret : Option FieldType} {S : List zC} {I : zI} {lv : List (Nat × Value)} {st : List Value} {pc : Nat} (C : zCx p s m args meth c cc nL RX7 ret D B cA ad) {K : Int32 → Prop} {xk : Nat} {xn : Nat} {xa1 : Int32} (hS : zOkX S) (xhk : zIsRow S xk xn) (h : w_Row_get xk xn xa1 I K) (hR : 0 + 1 ≤ R.frames ∧ 8 + (2 + 11) + (0) ≤ R.locals) (hw : (st.map fun v => v.category).sum ≤ 8) (hd : decode cc pc = .ok (.invokevirtual 52, 3)) (kk : ∀ v, K v → zX p l e R s m args below meth c Q D B cA nL 0 0 S I lv (.int v :: st) (pc + 3)) : zX p l e R s m args below meth c Q D B cA nL 0 0 S I lv (.int xa1 :: .ref (B + xk) :: st) pc :=
  have hf : 0 ≤ R.cells ∧ 0 ≤ R.slots := ⟨Nat.zero_le _, Nat.zero_le _⟩
  zc_VpI C (ci := 6) (q := (RX6, TX6, 1)) (k := xk) (fs := [some (some (xk + 1))]) (As := [.int xa1]) (st := st) rfl xhk.1 (c_Row_get hS xhk h) (zgV zk_ml_7_52 zk_im_yX6_get zk_se_yX6_get zk_in_6 zk_cd_yX6_get) zsg_yX6_get hR rfl rfl hw hd hf kk
def w_Runner_valueOf (a1 : Int32) (I : zI) (K : Int32 → Prop) : Prop :=
  w_Row_get 70 100 a1 I (fun r_1 => w_Row_get 72 100 r_1 I (fun r_2 => K r_2))
theorem dyX7_valueOf_0 : decode cX7_valueOf 0 = .ok (.aload_n 0, 1) := by decide +kernel
theorem dyX7_valueOf_1 : decode cX7_valueOf 1 = .ok (.getfield 20, 3) := by decide +kernel
theorem dyX7_valueOf_4 : decode cX7_valueOf 4 = .ok (.aload_n 0, 1) := by decide +kernel
theorem dyX7_valueOf_5 : decode cX7_valueOf 5 = .ok (.getfield 14, 3) := by decide +kernel
theorem dyX7_valueOf_8 : decode cX7_valueOf 8 = .ok (.iload_n 1, 1) := by decide +kernel
theorem dyX7_valueOf_9 : decode cX7_valueOf 9 = .ok (.invokevirtual 52, 3) := by decide +kernel
theorem dyX7_valueOf_12 : decode cX7_valueOf 12 = .ok (.invokevirtual 52, 3) := by decide +kernel
theorem dyX7_valueOf_15 : decode cX7_valueOf 15 = .ok (.ireturn, 1) := by decide +kernel
theorem zsg_yX7_valueOf : yX7_valueOf.cls = RX7 ∧ yX7_valueOf.cls ≠ "java/lang/invoke/MethodHandle" ∧ yX7_valueOf.cls ≠ "java/lang/invoke/VarHandle" ∧ (parseMethodDescriptor yX7_valueOf.desc).map (fun d => d.parameters.length) = some 1 := by decide +kernel
set_option maxRecDepth 20000 in
theorem c_Runner_valueOf {l : Launch} {D : va_G} {B : Nat} {cA : Nat → ClassId} {ad : Nat → Nat} {S : List zC} (hS : zOkX S) {a1 : Int32} {I : zI} {K : Int32 → Prop}  (h : w_Runner_valueOf a1 I K) : Met l yX7_valueOf (zws yX7_valueOf cX7_valueOf 2 (some .int)) (zrm 1 21) (zPc D B cA ad [.ref (B + 69), .int a1] S I) (zQc D B cA (zpI S I K)) 0 0 (fun q => B ≤ q) := by
  refine zm_of (cc := cX7_valueOf) (maxL := 2) (ret := (some .int)) (by decide +kernel) rfl (Nat.le_of_ble_eq_true rfl) trivial ?_
  intro p e s m args below meth c C _
  unfold w_Runner_valueOf at h
  show zX p l e (zrm 1 21) s m args below meth c (MQ below (zQc D B cA (zpI S I K)) args s 0 0 (fun q => B ≤ q)) D B cA 2 0 0 S I [(0, .ref (B + 69)), (1, .int a1)] [] 0
  refine zr_aload_n C dyX7_valueOf_0 rfl 0 rfl ?_
  refine zg_7_20 C hS dyX7_valueOf_1 ?_
  refine zr_aload_n C dyX7_valueOf_4 rfl 0 rfl ?_
  refine zg_7_14 C hS dyX7_valueOf_5 ?_
  refine zr_iload_n C dyX7_valueOf_8 rfl 1 rfl ?_
  refine zv_7_52 C hS (zIsRow.of hS zir_70) (st := [.ref (B + 72)]) h ⟨Nat.le_of_ble_eq_true rfl, Nat.le_of_ble_eq_true rfl⟩ (Nat.le_of_ble_eq_true rfl) dyX7_valueOf_9 (fun r_1 h => ?_)
  refine zv_7_52 C hS (zIsRow.of hS zir_72) (st := []) h ⟨Nat.le_of_ble_eq_true rfl, Nat.le_of_ble_eq_true rfl⟩ (Nat.le_of_ble_eq_true rfl) dyX7_valueOf_12 (fun r_2 h => ?_)
  exact zr_iret C rfl dyX7_valueOf_15 ⟨rfl, rfl, _, rfl, h⟩
theorem zg_7_23 {p : Program} {l : Launch} {e : Env} {R : Room} {s : State} {m : MethodId} {args : Array Value} {below : List Frame} {meth : Method} {c : Code} {Q : State → Prop} {D : va_G} {B : Nat} {cA : Nat → ClassId} {ad : Nat → Nat} {cc : ByteArray} {nL : Nat} {ret : Option FieldType} {S : List zC} {I : zI} {lv : List (Nat × Value)} {st : List Value} {pc : Nat} (C : zCx p s m args meth c cc nL RX7 ret D B cA ad) (hS : zOkX S) (hd : decode cc pc = .ok (.getfield 23, 3)) (kk : zX p l e R s m args below meth c Q D B cA nL 0 0 S I lv (.ref (B + 74) :: st) (pc + 3)) : zX p l e R s m args below meth c Q D B cA nL 0 0 S I lv (.ref (B + 69) :: st) pc :=
  zr_getr C (ci := 7) (Cn := RX7) (T := TX7) (N := 17) (k := 69) (j := 4) (fs := [some (some 24), some (some 43), some (some 70), some (some 72), some (some 74), some (some 76), some (some 78), some (some 80), some (some 82), some (some 84), some (some 86), none, none, none, none, none, none]) rfl zin_7 (Nat.le_of_ble_eq_true rfl) rfl (hS _ _ zs_69) rfl zk_fl_7_23 hd kk
def w_Runner_timesSet (a1 : Int32) (I : zI) (K : Int32 → Prop) : Prop :=
  w_Row_get 70 100 a1 I (fun r_1 => w_Row_get 74 100 r_1 I (fun r_2 => K r_2))
theorem dyX7_timesSet_0 : decode cX7_timesSet 0 = .ok (.aload_n 0, 1) := by decide +kernel
theorem dyX7_timesSet_1 : decode cX7_timesSet 1 = .ok (.getfield 23, 3) := by decide +kernel
theorem dyX7_timesSet_4 : decode cX7_timesSet 4 = .ok (.aload_n 0, 1) := by decide +kernel
theorem dyX7_timesSet_5 : decode cX7_timesSet 5 = .ok (.getfield 14, 3) := by decide +kernel
theorem dyX7_timesSet_8 : decode cX7_timesSet 8 = .ok (.iload_n 1, 1) := by decide +kernel
theorem dyX7_timesSet_9 : decode cX7_timesSet 9 = .ok (.invokevirtual 52, 3) := by decide +kernel
theorem dyX7_timesSet_12 : decode cX7_timesSet 12 = .ok (.invokevirtual 52, 3) := by decide +kernel
theorem dyX7_timesSet_15 : decode cX7_timesSet 15 = .ok (.ireturn, 1) := by decide +kernel
theorem zsg_yX7_timesSet : yX7_timesSet.cls = RX7 ∧ yX7_timesSet.cls ≠ "java/lang/invoke/MethodHandle" ∧ yX7_timesSet.cls ≠ "java/lang/invoke/VarHandle" ∧ (parseMethodDescriptor yX7_timesSet.desc).map (fun d => d.parameters.length) = some 1 := by decide +kernel
set_option maxRecDepth 20000 in
theorem c_Runner_timesSet {l : Launch} {D : va_G} {B : Nat} {cA : Nat → ClassId} {ad : Nat → Nat} {S : List zC} (hS : zOkX S) {a1 : Int32} {I : zI} {K : Int32 → Prop}  (h : w_Runner_timesSet a1 I K) : Met l yX7_timesSet (zws yX7_timesSet cX7_timesSet 2 (some .int)) (zrm 1 21) (zPc D B cA ad [.ref (B + 69), .int a1] S I) (zQc D B cA (zpI S I K)) 0 0 (fun q => B ≤ q) := by
  refine zm_of (cc := cX7_timesSet) (maxL := 2) (ret := (some .int)) (by decide +kernel) rfl (Nat.le_of_ble_eq_true rfl) trivial ?_
  intro p e s m args below meth c C _
  unfold w_Runner_timesSet at h
  show zX p l e (zrm 1 21) s m args below meth c (MQ below (zQc D B cA (zpI S I K)) args s 0 0 (fun q => B ≤ q)) D B cA 2 0 0 S I [(0, .ref (B + 69)), (1, .int a1)] [] 0
  refine zr_aload_n C dyX7_timesSet_0 rfl 0 rfl ?_
  refine zg_7_23 C hS dyX7_timesSet_1 ?_
  refine zr_aload_n C dyX7_timesSet_4 rfl 0 rfl ?_
  refine zg_7_14 C hS dyX7_timesSet_5 ?_
  refine zr_iload_n C dyX7_timesSet_8 rfl 1 rfl ?_
  refine zv_7_52 C hS (zIsRow.of hS zir_70) (st := [.ref (B + 74)]) h ⟨Nat.le_of_ble_eq_true rfl, Nat.le_of_ble_eq_true rfl⟩ (Nat.le_of_ble_eq_true rfl) dyX7_timesSet_9 (fun r_1 h => ?_)
  refine zv_7_52 C hS (zIsRow.of hS zir_74) (st := []) h ⟨Nat.le_of_ble_eq_true rfl, Nat.le_of_ble_eq_true rfl⟩ (Nat.le_of_ble_eq_true rfl) dyX7_timesSet_12 (fun r_2 h => ?_)
  exact zr_iret C rfl dyX7_timesSet_15 ⟨rfl, rfl, _, rfl, h⟩
theorem zv_7_87 {p : Program} {l : Launch} {e : Env} {R : Room} {s : State} {m : MethodId} {args : Array Value} {below : List Frame} {meth : Method} {c : Code} {Q : State → Prop} {D : va_G} {B : Nat} {cA : Nat → ClassId} {ad : Nat → Nat} {cc : ByteArray} {nL : Nat} {ret : Option FieldType} {S : List zC} {I : zI} {lv : List (Nat × Value)} {st : List Value} {pc : Nat} (C : zCx p s m args meth c cc nL RX7 ret D B cA ad) {K : zI → Prop} {xk : Nat} {xn : Nat} {xa1 : Int32} (hS : zOkX S) (xhk : zIsRow S xk xn) (h : w_Row_fill xk xn xa1 I K) (hR : 0 + 1 ≤ R.frames ∧ 8 + (3 + 11) + (0) ≤ R.locals) (hw : (st.map fun v => v.category).sum ≤ 8) (hd : decode cc pc = .ok (.invokevirtual 87, 3)) (kk : ∀ I2, K I2 → zX p l e R s m args below meth c Q D B cA nL 0 0 S I2 lv st (pc + 3)) : zX p l e R s m args below meth c Q D B cA nL 0 0 S I lv (.int xa1 :: .ref (B + xk) :: st) pc :=
  have hf : 0 ≤ R.cells ∧ 0 ≤ R.slots := ⟨Nat.zero_le _, Nat.zero_le _⟩
  zc_VqV C (ci := 6) (q := (RX6, TX6, 1)) (k := xk) (fs := [some (some (xk + 1))]) (As := [.int xa1]) (st := st) rfl xhk.1 (c_Row_fill hS xhk h) (zgV zk_ml_7_87 zk_im_yX6_fill zk_se_yX6_fill zk_in_6 zk_cd_yX6_fill) zsg_yX6_fill hR rfl rfl hw hd hf kk
theorem zg_7_26 {p : Program} {l : Launch} {e : Env} {R : Room} {s : State} {m : MethodId} {args : Array Value} {below : List Frame} {meth : Method} {c : Code} {Q : State → Prop} {D : va_G} {B : Nat} {cA : Nat → ClassId} {ad : Nat → Nat} {cc : ByteArray} {nL : Nat} {ret : Option FieldType} {S : List zC} {I : zI} {lv : List (Nat × Value)} {st : List Value} {pc : Nat} (C : zCx p s m args meth c cc nL RX7 ret D B cA ad) (hS : zOkX S) (hd : decode cc pc = .ok (.getfield 26, 3)) (kk : zX p l e R s m args below meth c Q D B cA nL 0 0 S I lv (.ref (B + 76) :: st) (pc + 3)) : zX p l e R s m args below meth c Q D B cA nL 0 0 S I lv (.ref (B + 69) :: st) pc :=
  zr_getr C (ci := 7) (Cn := RX7) (T := TX7) (N := 17) (k := 69) (j := 5) (fs := [some (some 24), some (some 43), some (some 70), some (some 72), some (some 74), some (some 76), some (some 78), some (some 80), some (some 82), some (some 84), some (some 86), none, none, none, none, none, none]) rfl zin_7 (Nat.le_of_ble_eq_true rfl) rfl (hS _ _ zs_69) rfl zk_fl_7_26 hd kk
theorem zg_7_29 {p : Program} {l : Launch} {e : Env} {R : Room} {s : State} {m : MethodId} {args : Array Value} {below : List Frame} {meth : Method} {c : Code} {Q : State → Prop} {D : va_G} {B : Nat} {cA : Nat → ClassId} {ad : Nat → Nat} {cc : ByteArray} {nL : Nat} {ret : Option FieldType} {S : List zC} {I : zI} {lv : List (Nat × Value)} {st : List Value} {pc : Nat} (C : zCx p s m args meth c cc nL RX7 ret D B cA ad) (hS : zOkX S) (hd : decode cc pc = .ok (.getfield 29, 3)) (kk : zX p l e R s m args below meth c Q D B cA nL 0 0 S I lv (.ref (B + 78) :: st) (pc + 3)) : zX p l e R s m args below meth c Q D B cA nL 0 0 S I lv (.ref (B + 69) :: st) pc :=
  zr_getr C (ci := 7) (Cn := RX7) (T := TX7) (N := 17) (k := 69) (j := 6) (fs := [some (some 24), some (some 43), some (some 70), some (some 72), some (some 74), some (some 76), some (some 78), some (some 80), some (some 82), some (some 84), some (some 86), none, none, none, none, none, none]) rfl zin_7 (Nat.le_of_ble_eq_true rfl) rfl (hS _ _ zs_69) rfl zk_fl_7_29 hd kk
theorem zg_7_32 {p : Program} {l : Launch} {e : Env} {R : Room} {s : State} {m : MethodId} {args : Array Value} {below : List Frame} {meth : Method} {c : Code} {Q : State → Prop} {D : va_G} {B : Nat} {cA : Nat → ClassId} {ad : Nat → Nat} {cc : ByteArray} {nL : Nat} {ret : Option FieldType} {S : List zC} {I : zI} {lv : List (Nat × Value)} {st : List Value} {pc : Nat} (C : zCx p s m args meth c cc nL RX7 ret D B cA ad) (hS : zOkX S) (hd : decode cc pc = .ok (.getfield 32, 3)) (kk : zX p l e R s m args below meth c Q D B cA nL 0 0 S I lv (.ref (B + 80) :: st) (pc + 3)) : zX p l e R s m args below meth c Q D B cA nL 0 0 S I lv (.ref (B + 69) :: st) pc :=
  zr_getr C (ci := 7) (Cn := RX7) (T := TX7) (N := 17) (k := 69) (j := 7) (fs := [some (some 24), some (some 43), some (some 70), some (some 72), some (some 74), some (some 76), some (some 78), some (some 80), some (some 82), some (some 84), some (some 86), none, none, none, none, none, none]) rfl zin_7 (Nat.le_of_ble_eq_true rfl) rfl (hS _ _ zs_69) rfl zk_fl_7_32 hd kk
theorem zp_7_90 {p : Program} {l : Launch} {e : Env} {R : Room} {s : State} {m : MethodId} {args : Array Value} {below : List Frame} {meth : Method} {c : Code} {Q : State → Prop} {D : va_G} {B : Nat} {cA : Nat → ClassId} {ad : Nat → Nat} {cc : ByteArray} {nL : Nat} {ret : Option FieldType} {S : List zC} {I : zI} {lv : List (Nat × Value)} {st : List Value} {pc : Nat} (C : zCx p s m args meth c cc nL RX7 ret D B cA ad) (hS : zOkX S) {v : Int32} (hd : decode cc pc = .ok (.putfield 90, 3)) (kk : zX p l e R s m args below meth c Q D B cA nL 0 0 S (zu I 69 12 v) lv st (pc + 3)) : zX p l e R s m args below meth c Q D B cA nL 0 0 S I lv (.int v :: .ref (B + 69) :: st) pc :=
  zr_puti C (ci := 7) (Cn := RX7) (T := TX7) (N := 17) (k := 69) (j := 12) (fs := [some (some 24), some (some 43), some (some 70), some (some 72), some (some 74), some (some 76), some (some 78), some (some 80), some (some 82), some (some 84), some (some 86), none, none, none, none, none, none]) rfl zin_7 (Nat.le_of_ble_eq_true rfl) rfl (hS _ _ zs_69) rfl tyX7 tyX7_ok nmX7 (ty := .int) zpd_I rfl rfl rfl zk_fl_7_90 hd kk
theorem zp_7_93 {p : Program} {l : Launch} {e : Env} {R : Room} {s : State} {m : MethodId} {args : Array Value} {below : List Frame} {meth : Method} {c : Code} {Q : State → Prop} {D : va_G} {B : Nat} {cA : Nat → ClassId} {ad : Nat → Nat} {cc : ByteArray} {nL : Nat} {ret : Option FieldType} {S : List zC} {I : zI} {lv : List (Nat × Value)} {st : List Value} {pc : Nat} (C : zCx p s m args meth c cc nL RX7 ret D B cA ad) (hS : zOkX S) {v : Int32} (hd : decode cc pc = .ok (.putfield 93, 3)) (kk : zX p l e R s m args below meth c Q D B cA nL 0 0 S (zu I 69 13 v) lv st (pc + 3)) : zX p l e R s m args below meth c Q D B cA nL 0 0 S I lv (.int v :: .ref (B + 69) :: st) pc :=
  zr_puti C (ci := 7) (Cn := RX7) (T := TX7) (N := 17) (k := 69) (j := 13) (fs := [some (some 24), some (some 43), some (some 70), some (some 72), some (some 74), some (some 76), some (some 78), some (some 80), some (some 82), some (some 84), some (some 86), none, none, none, none, none, none]) rfl zin_7 (Nat.le_of_ble_eq_true rfl) rfl (hS _ _ zs_69) rfl tyX7 tyX7_ok nmX7 (ty := .int) zpd_I rfl rfl rfl zk_fl_7_93 hd kk
theorem zp_7_96 {p : Program} {l : Launch} {e : Env} {R : Room} {s : State} {m : MethodId} {args : Array Value} {below : List Frame} {meth : Method} {c : Code} {Q : State → Prop} {D : va_G} {B : Nat} {cA : Nat → ClassId} {ad : Nat → Nat} {cc : ByteArray} {nL : Nat} {ret : Option FieldType} {S : List zC} {I : zI} {lv : List (Nat × Value)} {st : List Value} {pc : Nat} (C : zCx p s m args meth c cc nL RX7 ret D B cA ad) (hS : zOkX S) {v : Int32} (hd : decode cc pc = .ok (.putfield 96, 3)) (kk : zX p l e R s m args below meth c Q D B cA nL 0 0 S (zu I 69 14 v) lv st (pc + 3)) : zX p l e R s m args below meth c Q D B cA nL 0 0 S I lv (.int v :: .ref (B + 69) :: st) pc :=
  zr_puti C (ci := 7) (Cn := RX7) (T := TX7) (N := 17) (k := 69) (j := 14) (fs := [some (some 24), some (some 43), some (some 70), some (some 72), some (some 74), some (some 76), some (some 78), some (some 80), some (some 82), some (some 84), some (some 86), none, none, none, none, none, none]) rfl zin_7 (Nat.le_of_ble_eq_true rfl) rfl (hS _ _ zs_69) rfl tyX7 tyX7_ok nmX7 (ty := .int) zpd_I rfl rfl rfl zk_fl_7_96 hd kk
def w_Runner_clear  (I : zI) (K : zI → Prop) : Prop :=
  w_Row_fill 72 100 0 I (fun I_1 => w_Row_fill 74 100 0 I_1 (fun I_2 => w_Row_fill 76 100 (-2) I_2 (fun I_3 => w_Row_fill 78 100 (-2) I_3 (fun I_4 => w_Row_fill 80 100 (-2) I_4 (fun I_5 => ∀ I_6, I_6 = (zu I_5 69 12 0) → ∀ I_7, I_7 = (zu I_6 69 13 400) → ∀ I_8, I_8 = (zu I_7 69 14 0) → K I_8)))))
theorem dyX7_clear_0 : decode cX7_clear 0 = .ok (.aload_n 0, 1) := by decide +kernel
theorem dyX7_clear_1 : decode cX7_clear 1 = .ok (.getfield 20, 3) := by decide +kernel
theorem dyX7_clear_4 : decode cX7_clear 4 = .ok (.iconst 0, 1) := by decide +kernel
theorem dyX7_clear_5 : decode cX7_clear 5 = .ok (.invokevirtual 87, 3) := by decide +kernel
theorem dyX7_clear_8 : decode cX7_clear 8 = .ok (.aload_n 0, 1) := by decide +kernel
theorem dyX7_clear_9 : decode cX7_clear 9 = .ok (.getfield 23, 3) := by decide +kernel
theorem dyX7_clear_12 : decode cX7_clear 12 = .ok (.iconst 0, 1) := by decide +kernel
theorem dyX7_clear_13 : decode cX7_clear 13 = .ok (.invokevirtual 87, 3) := by decide +kernel
theorem dyX7_clear_16 : decode cX7_clear 16 = .ok (.aload_n 0, 1) := by decide +kernel
theorem dyX7_clear_17 : decode cX7_clear 17 = .ok (.getfield 26, 3) := by decide +kernel
theorem dyX7_clear_20 : decode cX7_clear 20 = .ok (.bipush (-2), 2) := by decide +kernel
theorem dyX7_clear_22 : decode cX7_clear 22 = .ok (.invokevirtual 87, 3) := by decide +kernel
theorem dyX7_clear_25 : decode cX7_clear 25 = .ok (.aload_n 0, 1) := by decide +kernel
theorem dyX7_clear_26 : decode cX7_clear 26 = .ok (.getfield 29, 3) := by decide +kernel
theorem dyX7_clear_29 : decode cX7_clear 29 = .ok (.bipush (-2), 2) := by decide +kernel
theorem dyX7_clear_31 : decode cX7_clear 31 = .ok (.invokevirtual 87, 3) := by decide +kernel
theorem dyX7_clear_34 : decode cX7_clear 34 = .ok (.aload_n 0, 1) := by decide +kernel
theorem dyX7_clear_35 : decode cX7_clear 35 = .ok (.getfield 32, 3) := by decide +kernel
theorem dyX7_clear_38 : decode cX7_clear 38 = .ok (.bipush (-2), 2) := by decide +kernel
theorem dyX7_clear_40 : decode cX7_clear 40 = .ok (.invokevirtual 87, 3) := by decide +kernel
theorem dyX7_clear_43 : decode cX7_clear 43 = .ok (.aload_n 0, 1) := by decide +kernel
theorem dyX7_clear_44 : decode cX7_clear 44 = .ok (.iconst 0, 1) := by decide +kernel
theorem dyX7_clear_45 : decode cX7_clear 45 = .ok (.putfield 90, 3) := by decide +kernel
theorem dyX7_clear_48 : decode cX7_clear 48 = .ok (.aload_n 0, 1) := by decide +kernel
theorem dyX7_clear_49 : decode cX7_clear 49 = .ok (.sipush 400, 3) := by decide +kernel
theorem dyX7_clear_52 : decode cX7_clear 52 = .ok (.putfield 93, 3) := by decide +kernel
theorem dyX7_clear_55 : decode cX7_clear 55 = .ok (.aload_n 0, 1) := by decide +kernel
theorem dyX7_clear_56 : decode cX7_clear 56 = .ok (.iconst 0, 1) := by decide +kernel
theorem dyX7_clear_57 : decode cX7_clear 57 = .ok (.putfield 96, 3) := by decide +kernel
theorem dyX7_clear_60 : decode cX7_clear 60 = .ok (.return_, 1) := by decide +kernel
theorem zsg_yX7_clear : yX7_clear.cls = RX7 ∧ yX7_clear.cls ≠ "java/lang/invoke/MethodHandle" ∧ yX7_clear.cls ≠ "java/lang/invoke/VarHandle" ∧ (parseMethodDescriptor yX7_clear.desc).map (fun d => d.parameters.length) = some 0 := by decide +kernel
set_option maxRecDepth 20000 in
theorem c_Runner_clear {l : Launch} {D : va_G} {B : Nat} {cA : Nat → ClassId} {ad : Nat → Nat} {S : List zC} (hS : zOkX S)  {I : zI} {K : zI → Prop}  (h : w_Runner_clear  I K) : Met l yX7_clear (zws yX7_clear cX7_clear 1 none) (zrm 1 22) (zPc D B cA ad [.ref (B + 69)] S I) (zQc D B cA (zqV S K)) 0 0 (fun q => B ≤ q) := by
  refine zm_of (cc := cX7_clear) (maxL := 1) (ret := none) (by decide +kernel) rfl (Nat.le_of_ble_eq_true rfl) trivial ?_
  intro p e s m args below meth c C _
  unfold w_Runner_clear at h
  show zX p l e (zrm 1 22) s m args below meth c (MQ below (zQc D B cA (zqV S K)) args s 0 0 (fun q => B ≤ q)) D B cA 1 0 0 S I [(0, .ref (B + 69))] [] 0
  refine zr_aload_n C dyX7_clear_0 rfl 0 rfl ?_
  refine zg_7_20 C hS dyX7_clear_1 ?_
  refine zr_iconst C dyX7_clear_4 zc_i_0 ?_
  refine zv_7_87 C hS (zIsRow.of hS zir_72) (st := []) h ⟨Nat.le_of_ble_eq_true rfl, Nat.le_of_ble_eq_true rfl⟩ (Nat.le_of_ble_eq_true rfl) dyX7_clear_5 (fun I_1 h => ?_)
  refine zr_aload_n C dyX7_clear_8 rfl 0 rfl ?_
  refine zg_7_23 C hS dyX7_clear_9 ?_
  refine zr_iconst C dyX7_clear_12 zc_i_0 ?_
  refine zv_7_87 C hS (zIsRow.of hS zir_74) (st := []) h ⟨Nat.le_of_ble_eq_true rfl, Nat.le_of_ble_eq_true rfl⟩ (Nat.le_of_ble_eq_true rfl) dyX7_clear_13 (fun I_2 h => ?_)
  refine zr_aload_n C dyX7_clear_16 rfl 0 rfl ?_
  refine zg_7_26 C hS dyX7_clear_17 ?_
  refine zr_bipush C dyX7_clear_20 zc_b_m2 ?_
  refine zv_7_87 C hS (zIsRow.of hS zir_76) (st := []) h ⟨Nat.le_of_ble_eq_true rfl, Nat.le_of_ble_eq_true rfl⟩ (Nat.le_of_ble_eq_true rfl) dyX7_clear_22 (fun I_3 h => ?_)
  refine zr_aload_n C dyX7_clear_25 rfl 0 rfl ?_
  refine zg_7_29 C hS dyX7_clear_26 ?_
  refine zr_bipush C dyX7_clear_29 zc_b_m2 ?_
  refine zv_7_87 C hS (zIsRow.of hS zir_78) (st := []) h ⟨Nat.le_of_ble_eq_true rfl, Nat.le_of_ble_eq_true rfl⟩ (Nat.le_of_ble_eq_true rfl) dyX7_clear_31 (fun I_4 h => ?_)
  refine zr_aload_n C dyX7_clear_34 rfl 0 rfl ?_
  refine zg_7_32 C hS dyX7_clear_35 ?_
  refine zr_bipush C dyX7_clear_38 zc_b_m2 ?_
  refine zv_7_87 C hS (zIsRow.of hS zir_80) (st := []) h ⟨Nat.le_of_ble_eq_true rfl, Nat.le_of_ble_eq_true rfl⟩ (Nat.le_of_ble_eq_true rfl) dyX7_clear_40 (fun I_5 h => ?_)
  refine zr_aload_n C dyX7_clear_43 rfl 0 rfl ?_
  refine zr_iconst C dyX7_clear_44 zc_i_0 ?_
  refine zp_7_90 C hS dyX7_clear_45 ?_
  refine zn_mem C (fun I_6 eI_6 => ?_)
  replace h := h I_6 eI_6
  refine zr_aload_n C dyX7_clear_48 rfl 0 rfl ?_
  refine zr_sipush C dyX7_clear_49 zc_s_400 ?_
  refine zp_7_93 C hS dyX7_clear_52 ?_
  refine zn_mem C (fun I_7 eI_7 => ?_)
  replace h := h I_7 eI_7
  refine zr_aload_n C dyX7_clear_55 rfl 0 rfl ?_
  refine zr_iconst C dyX7_clear_56 zc_i_0 ?_
  refine zp_7_96 C hS dyX7_clear_57 ?_
  refine zn_mem C (fun I_8 eI_8 => ?_)
  replace h := h I_8 eI_8
  exact zr_vret C rfl dyX7_clear_60 ⟨rfl, rfl, h⟩
theorem zg_7_99 {p : Program} {l : Launch} {e : Env} {R : Room} {s : State} {m : MethodId} {args : Array Value} {below : List Frame} {meth : Method} {c : Code} {Q : State → Prop} {D : va_G} {B : Nat} {cA : Nat → ClassId} {ad : Nat → Nat} {cc : ByteArray} {nL : Nat} {ret : Option FieldType} {S : List zC} {I : zI} {lv : List (Nat × Value)} {st : List Value} {pc : Nat} (C : zCx p s m args meth c cc nL RX7 ret D B cA ad) {k : Nat} (hk : zIsMoment S k) (hd : decode cc pc = .ok (.getfield 99, 3)) (kk : zX p l e R s m args below meth c Q D B cA nL 0 0 S I lv (.int (I.1 k 6) :: st) (pc + 3)) : zX p l e R s m args below meth c Q D B cA nL 0 0 S I lv (.ref (B + k) :: st) pc :=
  zr_geti C (ci := 2) (Cn := RX2) (T := TX2) (N := 9) (k := k) (j := 6) (fs := [some (some (k + 1)), none, some (some (k + 3)), none, some (some (k + 14)), some (some (k + 16)), none, none, none]) rfl zin_2 (Nat.le_of_ble_eq_true rfl) rfl hk.1 rfl zk_fl_7_99 hd kk
theorem zg_7_104 {p : Program} {l : Launch} {e : Env} {R : Room} {s : State} {m : MethodId} {args : Array Value} {below : List Frame} {meth : Method} {c : Code} {Q : State → Prop} {D : va_G} {B : Nat} {cA : Nat → ClassId} {ad : Nat → Nat} {cc : ByteArray} {nL : Nat} {ret : Option FieldType} {S : List zC} {I : zI} {lv : List (Nat × Value)} {st : List Value} {pc : Nat} (C : zCx p s m args meth c cc nL RX7 ret D B cA ad) {k : Nat} (hk : zIsMoment S k) (hd : decode cc pc = .ok (.getfield 104, 3)) (kk : zX p l e R s m args below meth c Q D B cA nL 0 0 S I lv (.ref (B + (k + 14)) :: st) (pc + 3)) : zX p l e R s m args below meth c Q D B cA nL 0 0 S I lv (.ref (B + k) :: st) pc :=
  zr_getr C (ci := 2) (Cn := RX2) (T := TX2) (N := 9) (k := k) (j := 4) (fs := [some (some (k + 1)), none, some (some (k + 3)), none, some (some (k + 14)), some (some (k + 16)), none, none, none]) rfl zin_2 (Nat.le_of_ble_eq_true rfl) rfl hk.1 rfl zk_fl_7_104 hd kk
theorem zv_7_111 {p : Program} {l : Launch} {e : Env} {R : Room} {s : State} {m : MethodId} {args : Array Value} {below : List Frame} {meth : Method} {c : Code} {Q : State → Prop} {D : va_G} {B : Nat} {cA : Nat → ClassId} {ad : Nat → Nat} {cc : ByteArray} {nL : Nat} {ret : Option FieldType} {S : List zC} {I : zI} {lv : List (Nat × Value)} {st : List Value} {pc : Nat} (C : zCx p s m args meth c cc nL RX7 ret D B cA ad) {K : zI → Prop} {xk : Nat} {xn : Nat} {xa1 : Int32} {xa2 : Int32} (hS : zOkX S) (xhk : zIsRow S xk xn) (h : w_Row_set xk xn xa1 xa2 I K) (hR : 0 + 1 ≤ R.frames ∧ 8 + (3 + 11) + (0) ≤ R.locals) (hw : (st.map fun v => v.category).sum ≤ 8) (hd : decode cc pc = .ok (.invokevirtual 111, 3)) (kk : ∀ I2, K I2 → zX p l e R s m args below meth c Q D B cA nL 0 0 S I2 lv st (pc + 3)) : zX p l e R s m args below meth c Q D B cA nL 0 0 S I lv (.int xa2 :: .int xa1 :: .ref (B + xk) :: st) pc :=
  have hf : 0 ≤ R.cells ∧ 0 ≤ R.slots := ⟨Nat.zero_le _, Nat.zero_le _⟩
  zc_VqV C (ci := 6) (q := (RX6, TX6, 1)) (k := xk) (fs := [some (some (xk + 1))]) (As := [.int xa1, .int xa2]) (st := st) rfl xhk.1 (c_Row_set hS xhk h) (zgV zk_ml_7_111 zk_im_yX6_set zk_se_yX6_set zk_in_6 zk_cd_yX6_set) zsg_yX6_set hR rfl rfl hw hd hf kk
theorem zg_7_44 {p : Program} {l : Launch} {e : Env} {R : Room} {s : State} {m : MethodId} {args : Array Value} {below : List Frame} {meth : Method} {c : Code} {Q : State → Prop} {D : va_G} {B : Nat} {cA : Nat → ClassId} {ad : Nat → Nat} {cc : ByteArray} {nL : Nat} {ret : Option FieldType} {S : List zC} {I : zI} {lv : List (Nat × Value)} {st : List Value} {pc : Nat} (C : zCx p s m args meth c cc nL RX7 ret D B cA ad) (hS : zOkX S) (hd : decode cc pc = .ok (.getfield 44, 3)) (kk : zX p l e R s m args below meth c Q D B cA nL 0 0 S I lv (.ref (B + 24) :: st) (pc + 3)) : zX p l e R s m args below meth c Q D B cA nL 0 0 S I lv (.ref (B + 69) :: st) pc :=
  zr_getr C (ci := 7) (Cn := RX7) (T := TX7) (N := 17) (k := 69) (j := 0) (fs := [some (some 24), some (some 43), some (some 70), some (some 72), some (some 74), some (some 76), some (some 78), some (some 80), some (some 82), some (some 84), some (some 86), none, none, none, none, none, none]) rfl zin_7 (Nat.le_of_ble_eq_true rfl) rfl (hS _ _ zs_69) rfl zk_fl_7_44 hd kk
theorem zv_7_107 {p : Program} {l : Launch} {e : Env} {R : Room} {s : State} {m : MethodId} {args : Array Value} {below : List Frame} {meth : Method} {c : Code} {Q : State → Prop} {D : va_G} {B : Nat} {cA : Nat → ClassId} {ad : Nat → Nat} {cc : ByteArray} {nL : Nat} {ret : Option FieldType} {S : List zC} {I : zI} {lv : List (Nat × Value)} {st : List Value} {pc : Nat} (C : zCx p s m args meth c cc nL RX7 ret D B cA ad) {K : Int32 → Prop} {xa1 : Int32} {xa2 : Int32} (hS : zOkX S)  (h : w_Nodes_sameBytes xa1 xa2 I K) (hR : 1 + 1 ≤ R.frames ∧ 8 + (3 + 11) + (21) ≤ R.locals) (hw : (st.map fun v => v.category).sum ≤ 8) (hd : decode cc pc = .ok (.invokevirtual 107, 3)) (kk : ∀ v, K v → zX p l e R s m args below meth c Q D B cA nL 0 0 S I lv (.int v :: st) (pc + 3)) : zX p l e R s m args below meth c Q D B cA nL 0 0 S I lv (.int xa2 :: .int xa1 :: .ref (B + 24) :: st) pc :=
  have hf : 0 ≤ R.cells ∧ 0 ≤ R.slots := ⟨Nat.zero_le _, Nat.zero_le _⟩
  zc_VpI C (ci := 3) (q := (RX3, TX3, 10)) (k := 24) (fs := [some (some 25), some (some 27), some (some 29), some (some 31), some (some 33), some (some 35), some (some 37), some (some 39), some (some 41), none]) (As := [.int xa1, .int xa2]) (st := st) rfl (hS _ _ zs_24) (c_Nodes_sameBytes hS h) (zgV zk_ml_7_107 zk_im_yX3_sameBytes zk_se_yX3_sameBytes zk_in_3 zk_cd_yX3_sameBytes) zsg_yX3_sameBytes hR rfl rfl hw hd hf kk
def w_Runner_findNames (a1 : Nat) (I : zI) (K : zI → Prop) : Prop :=
  ∀ (P2 : Int32 → zI → Prop), (∀ (v2_1 : Int32) (I_2 : zI), ((if (I_2.1 a1 6) ≤ v2_1 then K I_2 else (w_Row_get (a1 + 14) 100 v2_1 I_2 (fun r_3 => ∀ (P22 : Int32 → Prop), (∀ (v3_4 : Int32), (∀ (P53 : Prop), ((w_Row_set 70 100 v2_1 v3_4 I_2 (fun I_5 => ∀ v2_6, v2_6 = (v2_1 + 1) → P2 v2_6 I_5)) → P53) → (if v2_1 ≤ v3_4 then P53 else (w_Row_get (a1 + 14) 100 v3_4 I_2 (fun r_7 => w_Nodes_sameBytes r_3 r_7 I_2 (fun r_8 => (if r_8 = 0 then (∀ v3_9, v3_9 = (v3_4 + 1) → P22 v3_9) else P53)))))) → P22 v3_4) → P22 0)))) → P2 v2_1 I_2) → P2 0 I
theorem dyX7_findNames_0 : decode cX7_findNames 0 = .ok (.iconst 0, 1) := by decide +kernel
theorem dyX7_findNames_1 : decode cX7_findNames 1 = .ok (.istore_n 2, 1) := by decide +kernel
theorem dyX7_findNames_2 : decode cX7_findNames 2 = .ok (.iload_n 2, 1) := by decide +kernel
theorem dyX7_findNames_3 : decode cX7_findNames 3 = .ok (.aload_n 1, 1) := by decide +kernel
theorem dyX7_findNames_4 : decode cX7_findNames 4 = .ok (.getfield 99, 3) := by decide +kernel
theorem dyX7_findNames_7 : decode cX7_findNames 7 = .ok (.if_icmp .ge 61, 3) := by decide +kernel
theorem dyX7_findNames_10 : decode cX7_findNames 10 = .ok (.iconst 0, 1) := by decide +kernel
theorem dyX7_findNames_11 : decode cX7_findNames 11 = .ok (.istore_n 3, 1) := by decide +kernel
theorem dyX7_findNames_12 : decode cX7_findNames 12 = .ok (.aload_n 1, 1) := by decide +kernel
theorem dyX7_findNames_13 : decode cX7_findNames 13 = .ok (.getfield 104, 3) := by decide +kernel
theorem dyX7_findNames_16 : decode cX7_findNames 16 = .ok (.iload_n 2, 1) := by decide +kernel
theorem dyX7_findNames_17 : decode cX7_findNames 17 = .ok (.invokevirtual 52, 3) := by decide +kernel
theorem dyX7_findNames_20 : decode cX7_findNames 20 = .ok (.istore 4, 2) := by decide +kernel
theorem dyX7_findNames_22 : decode cX7_findNames 22 = .ok (.iload_n 3, 1) := by decide +kernel
theorem dyX7_findNames_23 : decode cX7_findNames 23 = .ok (.iload_n 2, 1) := by decide +kernel
theorem dyX7_findNames_24 : decode cX7_findNames 24 = .ok (.if_icmp .ge 29, 3) := by decide +kernel
theorem dyX7_findNames_27 : decode cX7_findNames 27 = .ok (.aload_n 0, 1) := by decide +kernel
theorem dyX7_findNames_28 : decode cX7_findNames 28 = .ok (.getfield 44, 3) := by decide +kernel
theorem dyX7_findNames_31 : decode cX7_findNames 31 = .ok (.iload 4, 2) := by decide +kernel
theorem dyX7_findNames_33 : decode cX7_findNames 33 = .ok (.aload_n 1, 1) := by decide +kernel
theorem dyX7_findNames_34 : decode cX7_findNames 34 = .ok (.getfield 104, 3) := by decide +kernel
theorem dyX7_findNames_37 : decode cX7_findNames 37 = .ok (.iload_n 3, 1) := by decide +kernel
theorem dyX7_findNames_38 : decode cX7_findNames 38 = .ok (.invokevirtual 52, 3) := by decide +kernel
theorem dyX7_findNames_41 : decode cX7_findNames 41 = .ok (.invokevirtual 107, 3) := by decide +kernel
theorem dyX7_findNames_44 : decode cX7_findNames 44 = .ok (.ifCond .ne 9, 3) := by decide +kernel
theorem dyX7_findNames_47 : decode cX7_findNames 47 = .ok (.iinc 3 1, 3) := by decide +kernel
theorem dyX7_findNames_50 : decode cX7_findNames 50 = .ok (.goto (-28), 3) := by decide +kernel
theorem dyX7_findNames_53 : decode cX7_findNames 53 = .ok (.aload_n 0, 1) := by decide +kernel
theorem dyX7_findNames_54 : decode cX7_findNames 54 = .ok (.getfield 14, 3) := by decide +kernel
theorem dyX7_findNames_57 : decode cX7_findNames 57 = .ok (.iload_n 2, 1) := by decide +kernel
theorem dyX7_findNames_58 : decode cX7_findNames 58 = .ok (.iload_n 3, 1) := by decide +kernel
theorem dyX7_findNames_59 : decode cX7_findNames 59 = .ok (.invokevirtual 111, 3) := by decide +kernel
theorem dyX7_findNames_62 : decode cX7_findNames 62 = .ok (.iinc 2 1, 3) := by decide +kernel
theorem dyX7_findNames_65 : decode cX7_findNames 65 = .ok (.goto (-63), 3) := by decide +kernel
theorem dyX7_findNames_68 : decode cX7_findNames 68 = .ok (.return_, 1) := by decide +kernel
theorem zsg_yX7_findNames : yX7_findNames.cls = RX7 ∧ yX7_findNames.cls ≠ "java/lang/invoke/MethodHandle" ∧ yX7_findNames.cls ≠ "java/lang/invoke/VarHandle" ∧ (parseMethodDescriptor yX7_findNames.desc).map (fun d => d.parameters.length) = some 1 := by decide +kernel
set_option maxRecDepth 20000 in
theorem c_Runner_findNames {l : Launch} {D : va_G} {B : Nat} {cA : Nat → ClassId} {ad : Nat → Nat} {S : List zC} (hS : zOkX S) {a1 : Nat} {I : zI} {K : zI → Prop} (ha1 : zIsMoment S a1) (h : w_Runner_findNames a1 I K) : Met l yX7_findNames (zws yX7_findNames cX7_findNames 5 none) (zrm 2 43) (zPc D B cA ad [.ref (B + 69), .ref (B + a1)] S I) (zQc D B cA (zqV S K)) 0 0 (fun q => B ≤ q) := by
  refine zm_of (cc := cX7_findNames) (maxL := 5) (ret := none) (by decide +kernel) rfl (Nat.le_of_ble_eq_true rfl) trivial ?_
  intro p e s m args below meth c C _
  unfold w_Runner_findNames at h
  show zX p l e (zrm 2 43) s m args below meth c (MQ below (zQc D B cA (zqV S K)) args s 0 0 (fun q => B ≤ q)) D B cA 5 0 0 S I [(0, .ref (B + 69)), (1, .ref (B + a1))] [] 0
  refine zr_iconst C dyX7_findNames_0 zc_i_0 ?_
  refine zr_istore_n C dyX7_findNames_1 rfl (Nat.le_of_ble_eq_true rfl) (lv2 := [(2, .int 0), (0, .ref (B + 69)), (1, .ref (B + a1))]) rfl ?_
  refine zjn (h (fun (v2_1 : Int32) (I_2 : zI) => zX p l e (zrm 2 43) s m args below meth c (MQ below (zQc D B cA (zqV S K)) args s 0 0 (fun q => B ≤ q)) D B cA 5 0 0 S I_2 [(2, .int v2_1), (0, .ref (B + 69)), (1, .ref (B + a1))] [] 2) (fun v2_1 I_2 h => ?_)) (fun h => ?_)
  · refine zr_iload_n C dyX7_findNames_2 rfl 0 rfl ?_
    refine zr_aload_n C dyX7_findNames_3 rfl 2 rfl ?_
    refine zg_7_99 C ha1 dyX7_findNames_4 ?_
    refine zr_icmp_ge C dyX7_findNames_7 (tgt := 68) (by decide) (fun hc_12 => ?_) (fun hc_12 => ?_)
    · replace h := zif_pos hc_12 h
      exact zr_vret C rfl dyX7_findNames_68 ⟨rfl, rfl, h⟩
    · replace h := zif_neg hc_12 h
      refine zr_iconst C dyX7_findNames_10 zc_i_0 ?_
      refine zr_istore_n C dyX7_findNames_11 rfl (Nat.le_of_ble_eq_true rfl) (lv2 := [(3, .int 0), (2, .int v2_1), (0, .ref (B + 69)), (1, .ref (B + a1))]) rfl ?_
      refine zr_aload_n C dyX7_findNames_12 rfl 3 rfl ?_
      refine zg_7_104 C ha1 dyX7_findNames_13 ?_
      refine zr_iload_n C dyX7_findNames_16 rfl 1 rfl ?_
      refine zv_7_52 C hS ha1.2.2.2.1 (st := []) h ⟨Nat.le_of_ble_eq_true rfl, Nat.le_of_ble_eq_true rfl⟩ (Nat.le_of_ble_eq_true rfl) dyX7_findNames_17 (fun r_3 h => ?_)
      refine zr_istore C dyX7_findNames_20 (Nat.le_of_ble_eq_true rfl) (lv2 := [(4, .int r_3), (3, .int 0), (2, .int v2_1), (0, .ref (B + 69)), (1, .ref (B + a1))]) rfl ?_
      refine zjn (h (fun (v3_4 : Int32) => zX p l e (zrm 2 43) s m args below meth c (MQ below (zQc D B cA (zqV S K)) args s 0 0 (fun q => B ≤ q)) D B cA 5 0 0 S I_2 [(4, .int r_3), (3, .int v3_4), (2, .int v2_1), (0, .ref (B + 69)), (1, .ref (B + a1))] [] 22) (fun v3_4 h => ?_)) (fun h => ?_)
      · refine zr_iload_n C dyX7_findNames_22 rfl 1 rfl ?_
        refine zr_iload_n C dyX7_findNames_23 rfl 2 rfl ?_
        refine zjn (h (zX p l e (zrm 2 43) s m args below meth c (MQ below (zQc D B cA (zqV S K)) args s 0 0 (fun q => B ≤ q)) D B cA 5 0 0 S I_2 [(3, .int v3_4), (2, .int v2_1), (0, .ref (B + 69)), (1, .ref (B + a1))] [] 53) (fun  h => ?_)) (fun h => ?_)
        · refine zr_aload_n C dyX7_findNames_53 rfl 2 rfl ?_
          refine zg_7_14 C hS dyX7_findNames_54 ?_
          refine zr_iload_n C dyX7_findNames_57 rfl 1 rfl ?_
          refine zr_iload_n C dyX7_findNames_58 rfl 0 rfl ?_
          refine zv_7_111 C hS (zIsRow.of hS zir_70) (st := []) h ⟨Nat.le_of_ble_eq_true rfl, Nat.le_of_ble_eq_true rfl⟩ (Nat.le_of_ble_eq_true rfl) dyX7_findNames_59 (fun I_5 h => ?_)
          refine zn_iinc C (fun v2_6 => [(2, .int v2_6), (3, .int v3_4), (0, .ref (B + 69)), (1, .ref (B + a1))]) dyX7_findNames_62 1 rfl zc_i_1 (Nat.le_of_ble_eq_true rfl) (fun _ => rfl) (fun v2_6 ev2_6 => ?_)
          replace h := h v2_6 ev2_6
          refine zr_goto C dyX7_findNames_65 (tgt := 2) (by decide) ?_
          refine zr_sub (lv2 := [(2, .int v2_6), (0, .ref (B + 69)), (1, .ref (B + a1))]) [0, 2, 3] rfl ?_
          exact h
        refine zr_icmp_ge C dyX7_findNames_24 (tgt := 53) (by decide) (fun hc_11 => ?_) (fun hc_11 => ?_)
        · replace h := zif_pos hc_11 h
          refine zr_sub (lv2 := [(3, .int v3_4), (2, .int v2_1), (0, .ref (B + 69)), (1, .ref (B + a1))]) [1, 2, 3, 4] rfl ?_
          exact h
        · replace h := zif_neg hc_11 h
          refine zr_aload_n C dyX7_findNames_27 rfl 3 rfl ?_
          refine zg_7_44 C hS dyX7_findNames_28 ?_
          refine zr_iload C dyX7_findNames_31 0 rfl ?_
          refine zr_aload_n C dyX7_findNames_33 rfl 4 rfl ?_
          refine zg_7_104 C ha1 dyX7_findNames_34 ?_
          refine zr_iload_n C dyX7_findNames_37 rfl 1 rfl ?_
          refine zv_7_52 C hS ha1.2.2.2.1 (st := [.int r_3, .ref (B + 24)]) h ⟨Nat.le_of_ble_eq_true rfl, Nat.le_of_ble_eq_true rfl⟩ (Nat.le_of_ble_eq_true rfl) dyX7_findNames_38 (fun r_7 h => ?_)
          refine zv_7_107 C hS (st := []) h ⟨Nat.le_of_ble_eq_true rfl, Nat.le_of_ble_eq_true rfl⟩ (Nat.le_of_ble_eq_true rfl) dyX7_findNames_41 (fun r_8 h => ?_)
          refine zr_if_ne C dyX7_findNames_44 (tgt := 53) (by decide) (fun hc_10 => ?_) (fun hc_10 => ?_)
          · replace h := zif_neg hc_10 h
            refine zr_sub (lv2 := [(3, .int v3_4), (2, .int v2_1), (0, .ref (B + 69)), (1, .ref (B + a1))]) [1, 2, 3, 4] rfl ?_
            exact h
          · replace h := zif_pos hc_10 h
            refine zn_iinc C (fun v3_9 => [(3, .int v3_9), (4, .int r_3), (2, .int v2_1), (0, .ref (B + 69)), (1, .ref (B + a1))]) dyX7_findNames_47 1 rfl zc_i_1 (Nat.le_of_ble_eq_true rfl) (fun _ => rfl) (fun v3_9 ev3_9 => ?_)
            replace h := h v3_9 ev3_9
            refine zr_goto C dyX7_findNames_50 (tgt := 22) (by decide) ?_
            refine zr_sub (lv2 := [(4, .int r_3), (3, .int v3_9), (2, .int v2_1), (0, .ref (B + 69)), (1, .ref (B + a1))]) [1, 0, 2, 3, 4] rfl ?_
            exact h
      exact h
  exact h
theorem zg_7_38 {p : Program} {l : Launch} {e : Env} {R : Room} {s : State} {m : MethodId} {args : Array Value} {below : List Frame} {meth : Method} {c : Code} {Q : State → Prop} {D : va_G} {B : Nat} {cA : Nat → ClassId} {ad : Nat → Nat} {cc : ByteArray} {nL : Nat} {ret : Option FieldType} {S : List zC} {I : zI} {lv : List (Nat × Value)} {st : List Value} {pc : Nat} (C : zCx p s m args meth c cc nL RX7 ret D B cA ad) (hS : zOkX S) (hd : decode cc pc = .ok (.getfield 38, 3)) (kk : zX p l e R s m args below meth c Q D B cA nL 0 0 S I lv (.ref (B + 84) :: st) (pc + 3)) : zX p l e R s m args below meth c Q D B cA nL 0 0 S I lv (.ref (B + 69) :: st) pc :=
  zr_getr C (ci := 7) (Cn := RX7) (T := TX7) (N := 17) (k := 69) (j := 9) (fs := [some (some 24), some (some 43), some (some 70), some (some 72), some (some 74), some (some 76), some (some 78), some (some 80), some (some 82), some (some 84), some (some 86), none, none, none, none, none, none]) rfl zin_7 (Nat.le_of_ble_eq_true rfl) rfl (hS _ _ zs_69) rfl zk_fl_7_38 hd kk
theorem zp_7_134 {p : Program} {l : Launch} {e : Env} {R : Room} {s : State} {m : MethodId} {args : Array Value} {below : List Frame} {meth : Method} {c : Code} {Q : State → Prop} {D : va_G} {B : Nat} {cA : Nat → ClassId} {ad : Nat → Nat} {cc : ByteArray} {nL : Nat} {ret : Option FieldType} {S : List zC} {I : zI} {lv : List (Nat × Value)} {st : List Value} {pc : Nat} (C : zCx p s m args meth c cc nL RX7 ret D B cA ad) (hS : zOkX S) {v : Int32} (hd : decode cc pc = .ok (.putfield 134, 3)) (kk : zX p l e R s m args below meth c Q D B cA nL 0 0 S (zu I 69 11 v) lv st (pc + 3)) : zX p l e R s m args below meth c Q D B cA nL 0 0 S I lv (.int v :: .ref (B + 69) :: st) pc :=
  zr_puti C (ci := 7) (Cn := RX7) (T := TX7) (N := 17) (k := 69) (j := 11) (fs := [some (some 24), some (some 43), some (some 70), some (some 72), some (some 74), some (some 76), some (some 78), some (some 80), some (some 82), some (some 84), some (some 86), none, none, none, none, none, none]) rfl zin_7 (Nat.le_of_ble_eq_true rfl) rfl (hS _ _ zs_69) rfl tyX7 tyX7_ok nmX7 (ty := .int) zpd_I rfl rfl rfl zk_fl_7_134 hd kk
theorem zg_7_134 {p : Program} {l : Launch} {e : Env} {R : Room} {s : State} {m : MethodId} {args : Array Value} {below : List Frame} {meth : Method} {c : Code} {Q : State → Prop} {D : va_G} {B : Nat} {cA : Nat → ClassId} {ad : Nat → Nat} {cc : ByteArray} {nL : Nat} {ret : Option FieldType} {S : List zC} {I : zI} {lv : List (Nat × Value)} {st : List Value} {pc : Nat} (C : zCx p s m args meth c cc nL RX7 ret D B cA ad) (hS : zOkX S) (hd : decode cc pc = .ok (.getfield 134, 3)) (kk : zX p l e R s m args below meth c Q D B cA nL 0 0 S I lv (.int (I.1 69 11) :: st) (pc + 3)) : zX p l e R s m args below meth c Q D B cA nL 0 0 S I lv (.ref (B + 69) :: st) pc :=
  zr_geti C (ci := 7) (Cn := RX7) (T := TX7) (N := 17) (k := 69) (j := 11) (fs := [some (some 24), some (some 43), some (some 70), some (some 72), some (some 74), some (some 76), some (some 78), some (some 80), some (some 82), some (some 84), some (some 86), none, none, none, none, none, none]) rfl zin_7 (Nat.le_of_ble_eq_true rfl) rfl (hS _ _ zs_69) rfl zk_fl_7_134 hd kk
theorem zg_7_69 {p : Program} {l : Launch} {e : Env} {R : Room} {s : State} {m : MethodId} {args : Array Value} {below : List Frame} {meth : Method} {c : Code} {Q : State → Prop} {D : va_G} {B : Nat} {cA : Nat → ClassId} {ad : Nat → Nat} {cc : ByteArray} {nL : Nat} {ret : Option FieldType} {S : List zC} {I : zI} {lv : List (Nat × Value)} {st : List Value} {pc : Nat} (C : zCx p s m args meth c cc nL RX7 ret D B cA ad) (hS : zOkX S) (hd : decode cc pc = .ok (.getfield 69, 3)) (kk : zX p l e R s m args below meth c Q D B cA nL 0 0 S I lv (.ref (B + 25) :: st) (pc + 3)) : zX p l e R s m args below meth c Q D B cA nL 0 0 S I lv (.ref (B + 24) :: st) pc :=
  zr_getr C (ci := 3) (Cn := RX3) (T := TX3) (N := 10) (k := 24) (j := 0) (fs := [some (some 25), some (some 27), some (some 29), some (some 31), some (some 33), some (some 35), some (some 37), some (some 39), some (some 41), none]) rfl zin_3 (Nat.le_of_ble_eq_true rfl) rfl (hS _ _ zs_24) rfl zk_fl_7_69 hd kk
theorem zg_7_48 {p : Program} {l : Launch} {e : Env} {R : Room} {s : State} {m : MethodId} {args : Array Value} {below : List Frame} {meth : Method} {c : Code} {Q : State → Prop} {D : va_G} {B : Nat} {cA : Nat → ClassId} {ad : Nat → Nat} {cc : ByteArray} {nL : Nat} {ret : Option FieldType} {S : List zC} {I : zI} {lv : List (Nat × Value)} {st : List Value} {pc : Nat} (C : zCx p s m args meth c cc nL RX7 ret D B cA ad) (hS : zOkX S) (hd : decode cc pc = .ok (.getfield 48, 3)) (kk : zX p l e R s m args below meth c Q D B cA nL 0 0 S I lv (.ref (B + 43) :: st) (pc + 3)) : zX p l e R s m args below meth c Q D B cA nL 0 0 S I lv (.ref (B + 69) :: st) pc :=
  zr_getr C (ci := 7) (Cn := RX7) (T := TX7) (N := 17) (k := 69) (j := 1) (fs := [some (some 24), some (some 43), some (some 70), some (some 72), some (some 74), some (some 76), some (some 78), some (some 80), some (some 82), some (some 84), some (some 86), none, none, none, none, none, none]) rfl zin_7 (Nat.le_of_ble_eq_true rfl) rfl (hS _ _ zs_69) rfl zk_fl_7_48 hd kk
theorem zg_7_74 {p : Program} {l : Launch} {e : Env} {R : Room} {s : State} {m : MethodId} {args : Array Value} {below : List Frame} {meth : Method} {c : Code} {Q : State → Prop} {D : va_G} {B : Nat} {cA : Nat → ClassId} {ad : Nat → Nat} {cc : ByteArray} {nL : Nat} {ret : Option FieldType} {S : List zC} {I : zI} {lv : List (Nat × Value)} {st : List Value} {pc : Nat} (C : zCx p s m args meth c cc nL RX7 ret D B cA ad) (hS : zOkX S) (hd : decode cc pc = .ok (.getfield 74, 3)) (kk : zX p l e R s m args below meth c Q D B cA nL 0 0 S I lv (.ref (B + 44) :: st) (pc + 3)) : zX p l e R s m args below meth c Q D B cA nL 0 0 S I lv (.ref (B + 43) :: st) pc :=
  zr_getr C (ci := 9) (Cn := RX9) (T := TX9) (N := 16) (k := 43) (j := 1) (fs := [some (some 24), some (some 44), some (some 46), some (some 48), some (some 50), some (some 52), some (some 54), some (some 56), some (some 58), some (some 60), some (some 62), none, none, none, none, none]) rfl zin_9 (Nat.le_of_ble_eq_true rfl) rfl (hS _ _ zs_43) rfl zk_fl_7_74 hd kk
theorem zg_7_127 {p : Program} {l : Launch} {e : Env} {R : Room} {s : State} {m : MethodId} {args : Array Value} {below : List Frame} {meth : Method} {c : Code} {Q : State → Prop} {D : va_G} {B : Nat} {cA : Nat → ClassId} {ad : Nat → Nat} {cc : ByteArray} {nL : Nat} {ret : Option FieldType} {S : List zC} {I : zI} {lv : List (Nat × Value)} {st : List Value} {pc : Nat} (C : zCx p s m args meth c cc nL RX7 ret D B cA ad) (hS : zOkX S) (hd : decode cc pc = .ok (.getfield 127, 3)) (kk : zX p l e R s m args below meth c Q D B cA nL 0 0 S I lv (.ref (B + 50) :: st) (pc + 3)) : zX p l e R s m args below meth c Q D B cA nL 0 0 S I lv (.ref (B + 43) :: st) pc :=
  zr_getr C (ci := 9) (Cn := RX9) (T := TX9) (N := 16) (k := 43) (j := 4) (fs := [some (some 24), some (some 44), some (some 46), some (some 48), some (some 50), some (some 52), some (some 54), some (some 56), some (some 58), some (some 60), some (some 62), none, none, none, none, none]) rfl zin_9 (Nat.le_of_ble_eq_true rfl) rfl (hS _ _ zs_43) rfl zk_fl_7_127 hd kk
theorem zv_7_137 {p : Program} {l : Launch} {e : Env} {R : Room} {s : State} {m : MethodId} {args : Array Value} {below : List Frame} {meth : Method} {c : Code} {Q : State → Prop} {D : va_G} {B : Nat} {cA : Nat → ClassId} {ad : Nat → Nat} {cc : ByteArray} {nL : Nat} {ret : Option FieldType} {S : List zC} {I : zI} {lv : List (Nat × Value)} {st : List Value} {pc : Nat} (C : zCx p s m args meth c cc nL RX7 ret D B cA ad) {K : Int32 → Prop} {xa1 : Int32} (hS : zOkX S)  (h : w_Runner_valueOf xa1 I K) (hR : 1 + 1 ≤ R.frames ∧ 8 + (2 + 11) + (21) ≤ R.locals) (hw : (st.map fun v => v.category).sum ≤ 8) (hd : decode cc pc = .ok (.invokevirtual 137, 3)) (kk : ∀ v, K v → zX p l e R s m args below meth c Q D B cA nL 0 0 S I lv (.int v :: st) (pc + 3)) : zX p l e R s m args below meth c Q D B cA nL 0 0 S I lv (.int xa1 :: .ref (B + 69) :: st) pc :=
  have hf : 0 ≤ R.cells ∧ 0 ≤ R.slots := ⟨Nat.zero_le _, Nat.zero_le _⟩
  zc_VpI C (ci := 7) (q := (RX7, TX7, 17)) (k := 69) (fs := [some (some 24), some (some 43), some (some 70), some (some 72), some (some 74), some (some 76), some (some 78), some (some 80), some (some 82), some (some 84), some (some 86), none, none, none, none, none, none]) (As := [.int xa1]) (st := st) rfl (hS _ _ zs_69) (c_Runner_valueOf hS h) (zgV zk_ml_7_137 zk_im_yX7_valueOf zk_se_yX7_valueOf zk_in_7 zk_cd_yX7_valueOf) zsg_yX7_valueOf hR rfl rfl hw hd hf kk
theorem zg_7_41 {p : Program} {l : Launch} {e : Env} {R : Room} {s : State} {m : MethodId} {args : Array Value} {below : List Frame} {meth : Method} {c : Code} {Q : State → Prop} {D : va_G} {B : Nat} {cA : Nat → ClassId} {ad : Nat → Nat} {cc : ByteArray} {nL : Nat} {ret : Option FieldType} {S : List zC} {I : zI} {lv : List (Nat × Value)} {st : List Value} {pc : Nat} (C : zCx p s m args meth c cc nL RX7 ret D B cA ad) (hS : zOkX S) (hd : decode cc pc = .ok (.getfield 41, 3)) (kk : zX p l e R s m args below meth c Q D B cA nL 0 0 S I lv (.ref (B + 86) :: st) (pc + 3)) : zX p l e R s m args below meth c Q D B cA nL 0 0 S I lv (.ref (B + 69) :: st) pc :=
  zr_getr C (ci := 7) (Cn := RX7) (T := TX7) (N := 17) (k := 69) (j := 10) (fs := [some (some 24), some (some 43), some (some 70), some (some 72), some (some 74), some (some 76), some (some 78), some (some 80), some (some 82), some (some 84), some (some 86), none, none, none, none, none, none]) rfl zin_7 (Nat.le_of_ble_eq_true rfl) rfl (hS _ _ zs_69) rfl zk_fl_7_41 hd kk
def w_Runner_recordReads (a1 : Int32) (a2 : Int32) (a3 : Int32) (I : zI) (K : Int32 → zI → Prop) : Prop :=
  w_Row_get 84 3400 a1 I (fun r_1 => ∀ (P16 : Int32 → Prop), (∀ (t_2 : Int32), (∀ (P37 : zI → Prop), (∀ (I_3 : zI), (w_Row_get 84 3400 a1 I_3 (fun r_4 => ∀ v5_5, v5_5 = (r_4 - 1) → ∀ (P55 : Int32 → Int32 → Int32 → zI → Prop), (∀ (v5_6 : Int32) (v6_7 : Int32) (v7_8 : Int32) (I_9 : zI), ((if a3 ≤ v7_8 then (∀ (P170 : Int32 → Prop), (∀ (t_10 : Int32), (∀ I_11, I_11 = (zu I_9 69 11 t_10) → zb v6_7 ∧ K v6_7 I_11) → P170 t_10) → (if t_2 = 0 then (P170 (I_9.1 69 11)) else P170 v5_6)) else (w_Row_get 44 400 v7_8 I_9 (fun r_13 => w_Row_get 25 3400 r_13 I_9 (fun r_14 => ∀ (P149 : Int32 → Int32 → zI → Prop), (∀ (v5_15 : Int32) (v6_16 : Int32) (I_17 : zI), (∀ v7_18, v7_18 = (v7_8 + 1) → P55 v5_15 v6_16 v7_18 I_17) → P149 v5_15 v6_16 I_17) → (if r_14 = 8 then (w_Row_get 50 400 v7_8 I_9 (fun r_19 => w_Runner_valueOf r_19 I_9 (fun r_20 => ∀ (P132 : Int32 → Prop), (∀ (t_21 : Int32), (∀ v6_22, v6_22 = (v6_7 ||| t_21) → w_Row_set 86 25600 v5_6 r_20 I_9 (fun I_23 => ∀ v5_24, v5_24 = (v5_6 + 1) → P149 v5_24 v6_22 I_23)) → P132 t_21) → ∀ (P131 : Prop), ((P132 0) → P131) → (if t_2 = 0 then (w_Row_get 86 25600 v5_6 I_9 (fun r_25 => (if r_25 = r_20 then P131 else P132 1))) else P131)))) else P149 v5_6 v6_7 I_9)))))) → P55 v5_6 v6_7 v7_8 I_9) → P55 v5_5 0 a2 I_3)) → P37 I_3) → (if t_2 = 0 then P37 I else (w_Row_set 84 3400 a1 ((I.1 69 11) + 1) I (fun I_30 => P37 I_30)))) → P16 t_2) → (if r_1 = 0 then P16 1 else P16 0))
theorem dyX7_recordReads_0 : decode cX7_recordReads 0 = .ok (.aload_n 0, 1) := by decide +kernel
theorem dyX7_recordReads_1 : decode cX7_recordReads 1 = .ok (.getfield 38, 3) := by decide +kernel
theorem dyX7_recordReads_4 : decode cX7_recordReads 4 = .ok (.iload_n 1, 1) := by decide +kernel
theorem dyX7_recordReads_5 : decode cX7_recordReads 5 = .ok (.invokevirtual 52, 3) := by decide +kernel
theorem dyX7_recordReads_8 : decode cX7_recordReads 8 = .ok (.ifCond .ne 7, 3) := by decide +kernel
theorem dyX7_recordReads_11 : decode cX7_recordReads 11 = .ok (.iconst 1, 1) := by decide +kernel
theorem dyX7_recordReads_12 : decode cX7_recordReads 12 = .ok (.goto 4, 3) := by decide +kernel
theorem dyX7_recordReads_15 : decode cX7_recordReads 15 = .ok (.iconst 0, 1) := by decide +kernel
theorem dyX7_recordReads_16 : decode cX7_recordReads 16 = .ok (.istore 4, 2) := by decide +kernel
theorem dyX7_recordReads_18 : decode cX7_recordReads 18 = .ok (.iload 4, 2) := by decide +kernel
theorem dyX7_recordReads_20 : decode cX7_recordReads 20 = .ok (.ifCond .eq 17, 3) := by decide +kernel
theorem dyX7_recordReads_23 : decode cX7_recordReads 23 = .ok (.aload_n 0, 1) := by decide +kernel
theorem dyX7_recordReads_24 : decode cX7_recordReads 24 = .ok (.getfield 38, 3) := by decide +kernel
theorem dyX7_recordReads_27 : decode cX7_recordReads 27 = .ok (.iload_n 1, 1) := by decide +kernel
theorem dyX7_recordReads_28 : decode cX7_recordReads 28 = .ok (.aload_n 0, 1) := by decide +kernel
theorem dyX7_recordReads_29 : decode cX7_recordReads 29 = .ok (.getfield 134, 3) := by decide +kernel
theorem dyX7_recordReads_32 : decode cX7_recordReads 32 = .ok (.iconst 1, 1) := by decide +kernel
theorem dyX7_recordReads_33 : decode cX7_recordReads 33 = .ok (.iadd, 1) := by decide +kernel
theorem dyX7_recordReads_34 : decode cX7_recordReads 34 = .ok (.invokevirtual 111, 3) := by decide +kernel
theorem dyX7_recordReads_37 : decode cX7_recordReads 37 = .ok (.aload_n 0, 1) := by decide +kernel
theorem dyX7_recordReads_38 : decode cX7_recordReads 38 = .ok (.getfield 38, 3) := by decide +kernel
theorem dyX7_recordReads_41 : decode cX7_recordReads 41 = .ok (.iload_n 1, 1) := by decide +kernel
theorem dyX7_recordReads_42 : decode cX7_recordReads 42 = .ok (.invokevirtual 52, 3) := by decide +kernel
theorem dyX7_recordReads_45 : decode cX7_recordReads 45 = .ok (.iconst 1, 1) := by decide +kernel
theorem dyX7_recordReads_46 : decode cX7_recordReads 46 = .ok (.isub, 1) := by decide +kernel
theorem dyX7_recordReads_47 : decode cX7_recordReads 47 = .ok (.istore 5, 2) := by decide +kernel
theorem dyX7_recordReads_49 : decode cX7_recordReads 49 = .ok (.iconst 0, 1) := by decide +kernel
theorem dyX7_recordReads_50 : decode cX7_recordReads 50 = .ok (.istore 6, 2) := by decide +kernel
theorem dyX7_recordReads_52 : decode cX7_recordReads 52 = .ok (.iload_n 2, 1) := by decide +kernel
theorem dyX7_recordReads_53 : decode cX7_recordReads 53 = .ok (.istore 7, 2) := by decide +kernel
theorem dyX7_recordReads_55 : decode cX7_recordReads 55 = .ok (.iload 7, 2) := by decide +kernel
theorem dyX7_recordReads_57 : decode cX7_recordReads 57 = .ok (.iload_n 3, 1) := by decide +kernel
theorem dyX7_recordReads_58 : decode cX7_recordReads 58 = .ok (.if_icmp .ge 97, 3) := by decide +kernel
theorem dyX7_recordReads_61 : decode cX7_recordReads 61 = .ok (.aload_n 0, 1) := by decide +kernel
theorem dyX7_recordReads_62 : decode cX7_recordReads 62 = .ok (.getfield 44, 3) := by decide +kernel
theorem dyX7_recordReads_65 : decode cX7_recordReads 65 = .ok (.getfield 69, 3) := by decide +kernel
theorem dyX7_recordReads_68 : decode cX7_recordReads 68 = .ok (.aload_n 0, 1) := by decide +kernel
theorem dyX7_recordReads_69 : decode cX7_recordReads 69 = .ok (.getfield 48, 3) := by decide +kernel
theorem dyX7_recordReads_72 : decode cX7_recordReads 72 = .ok (.getfield 74, 3) := by decide +kernel
theorem dyX7_recordReads_75 : decode cX7_recordReads 75 = .ok (.iload 7, 2) := by decide +kernel
theorem dyX7_recordReads_77 : decode cX7_recordReads 77 = .ok (.invokevirtual 52, 3) := by decide +kernel
theorem dyX7_recordReads_80 : decode cX7_recordReads 80 = .ok (.invokevirtual 52, 3) := by decide +kernel
theorem dyX7_recordReads_83 : decode cX7_recordReads 83 = .ok (.bipush 8, 2) := by decide +kernel
theorem dyX7_recordReads_85 : decode cX7_recordReads 85 = .ok (.if_icmp .ne 64, 3) := by decide +kernel
theorem dyX7_recordReads_88 : decode cX7_recordReads 88 = .ok (.aload_n 0, 1) := by decide +kernel
theorem dyX7_recordReads_89 : decode cX7_recordReads 89 = .ok (.aload_n 0, 1) := by decide +kernel
theorem dyX7_recordReads_90 : decode cX7_recordReads 90 = .ok (.getfield 48, 3) := by decide +kernel
theorem dyX7_recordReads_93 : decode cX7_recordReads 93 = .ok (.getfield 127, 3) := by decide +kernel
theorem dyX7_recordReads_96 : decode cX7_recordReads 96 = .ok (.iload 7, 2) := by decide +kernel
theorem dyX7_recordReads_98 : decode cX7_recordReads 98 = .ok (.invokevirtual 52, 3) := by decide +kernel
theorem dyX7_recordReads_101 : decode cX7_recordReads 101 = .ok (.invokevirtual 137, 3) := by decide +kernel
theorem dyX7_recordReads_104 : decode cX7_recordReads 104 = .ok (.istore 8, 2) := by decide +kernel
theorem dyX7_recordReads_106 : decode cX7_recordReads 106 = .ok (.iload 6, 2) := by decide +kernel
theorem dyX7_recordReads_108 : decode cX7_recordReads 108 = .ok (.iload 4, 2) := by decide +kernel
theorem dyX7_recordReads_110 : decode cX7_recordReads 110 = .ok (.ifCond .ne 21, 3) := by decide +kernel
theorem dyX7_recordReads_113 : decode cX7_recordReads 113 = .ok (.aload_n 0, 1) := by decide +kernel
theorem dyX7_recordReads_114 : decode cX7_recordReads 114 = .ok (.getfield 41, 3) := by decide +kernel
theorem dyX7_recordReads_117 : decode cX7_recordReads 117 = .ok (.iload 5, 2) := by decide +kernel
theorem dyX7_recordReads_119 : decode cX7_recordReads 119 = .ok (.invokevirtual 52, 3) := by decide +kernel
theorem dyX7_recordReads_122 : decode cX7_recordReads 122 = .ok (.iload 8, 2) := by decide +kernel
theorem dyX7_recordReads_124 : decode cX7_recordReads 124 = .ok (.if_icmp .eq 7, 3) := by decide +kernel
theorem dyX7_recordReads_127 : decode cX7_recordReads 127 = .ok (.iconst 1, 1) := by decide +kernel
theorem dyX7_recordReads_128 : decode cX7_recordReads 128 = .ok (.goto 4, 3) := by decide +kernel
theorem dyX7_recordReads_131 : decode cX7_recordReads 131 = .ok (.iconst 0, 1) := by decide +kernel
theorem dyX7_recordReads_132 : decode cX7_recordReads 132 = .ok (.ior, 1) := by decide +kernel
theorem dyX7_recordReads_133 : decode cX7_recordReads 133 = .ok (.istore 6, 2) := by decide +kernel
theorem dyX7_recordReads_135 : decode cX7_recordReads 135 = .ok (.aload_n 0, 1) := by decide +kernel
theorem dyX7_recordReads_136 : decode cX7_recordReads 136 = .ok (.getfield 41, 3) := by decide +kernel
theorem dyX7_recordReads_139 : decode cX7_recordReads 139 = .ok (.iload 5, 2) := by decide +kernel
theorem dyX7_recordReads_141 : decode cX7_recordReads 141 = .ok (.iload 8, 2) := by decide +kernel
theorem dyX7_recordReads_143 : decode cX7_recordReads 143 = .ok (.invokevirtual 111, 3) := by decide +kernel
theorem dyX7_recordReads_146 : decode cX7_recordReads 146 = .ok (.iinc 5 1, 3) := by decide +kernel
theorem dyX7_recordReads_149 : decode cX7_recordReads 149 = .ok (.iinc 7 1, 3) := by decide +kernel
theorem dyX7_recordReads_152 : decode cX7_recordReads 152 = .ok (.goto (-97), 3) := by decide +kernel
theorem dyX7_recordReads_155 : decode cX7_recordReads 155 = .ok (.aload_n 0, 1) := by decide +kernel
theorem dyX7_recordReads_156 : decode cX7_recordReads 156 = .ok (.iload 4, 2) := by decide +kernel
theorem dyX7_recordReads_158 : decode cX7_recordReads 158 = .ok (.ifCond .eq 8, 3) := by decide +kernel
theorem dyX7_recordReads_161 : decode cX7_recordReads 161 = .ok (.iload 5, 2) := by decide +kernel
theorem dyX7_recordReads_163 : decode cX7_recordReads 163 = .ok (.goto 7, 3) := by decide +kernel
theorem dyX7_recordReads_166 : decode cX7_recordReads 166 = .ok (.aload_n 0, 1) := by decide +kernel
theorem dyX7_recordReads_167 : decode cX7_recordReads 167 = .ok (.getfield 134, 3) := by decide +kernel
theorem dyX7_recordReads_170 : decode cX7_recordReads 170 = .ok (.putfield 134, 3) := by decide +kernel
theorem dyX7_recordReads_173 : decode cX7_recordReads 173 = .ok (.iload 6, 2) := by decide +kernel
theorem dyX7_recordReads_175 : decode cX7_recordReads 175 = .ok (.ireturn, 1) := by decide +kernel
theorem zsg_yX7_recordReads : yX7_recordReads.cls = RX7 ∧ yX7_recordReads.cls ≠ "java/lang/invoke/MethodHandle" ∧ yX7_recordReads.cls ≠ "java/lang/invoke/VarHandle" ∧ (parseMethodDescriptor yX7_recordReads.desc).map (fun d => d.parameters.length) = some 3 := by decide +kernel
set_option maxRecDepth 20000 in
theorem c_Runner_recordReads {l : Launch} {D : va_G} {B : Nat} {cA : Nat → ClassId} {ad : Nat → Nat} {S : List zC} (hS : zOkX S) {a1 : Int32} {a2 : Int32} {a3 : Int32} {I : zI} {K : Int32 → zI → Prop}  (h : w_Runner_recordReads a1 a2 a3 I K) : Met l yX7_recordReads (zws yX7_recordReads cX7_recordReads 9 (some .boolean)) (zrm 2 42) (zPc D B cA ad [.ref (B + 69), .int a1, .int a2, .int a3] S I) (zQc D B cA (zqI S K)) 0 0 (fun q => B ≤ q) := by
  refine zm_of (cc := cX7_recordReads) (maxL := 9) (ret := (some .boolean)) (by decide +kernel) rfl (Nat.le_of_ble_eq_true rfl) trivial ?_
  intro p e s m args below meth c C _
  unfold w_Runner_recordReads at h
  show zX p l e (zrm 2 42) s m args below meth c (MQ below (zQc D B cA (zqI S K)) args s 0 0 (fun q => B ≤ q)) D B cA 9 0 0 S I [(0, .ref (B + 69)), (1, .int a1), (2, .int a2), (3, .int a3)] [] 0
  refine zr_aload_n C dyX7_recordReads_0 rfl 0 rfl ?_
  refine zg_7_38 C hS dyX7_recordReads_1 ?_
  refine zr_iload_n C dyX7_recordReads_4 rfl 1 rfl ?_
  refine zv_7_52 C hS (zIsRow.of hS zir_84) (st := []) h ⟨Nat.le_of_ble_eq_true rfl, Nat.le_of_ble_eq_true rfl⟩ (Nat.le_of_ble_eq_true rfl) dyX7_recordReads_5 (fun r_1 h => ?_)
  refine zjn (h (fun (t_2 : Int32) => zX p l e (zrm 2 42) s m args below meth c (MQ below (zQc D B cA (zqI S K)) args s 0 0 (fun q => B ≤ q)) D B cA 9 0 0 S I [(0, .ref (B + 69)), (1, .int a1), (2, .int a2), (3, .int a3)] [.int t_2] 16) (fun t_2 h => ?_)) (fun h => ?_)
  · refine zr_istore C dyX7_recordReads_16 (Nat.le_of_ble_eq_true rfl) (lv2 := [(4, .int t_2), (0, .ref (B + 69)), (1, .int a1), (2, .int a2), (3, .int a3)]) rfl ?_
    refine zr_iload C dyX7_recordReads_18 0 rfl ?_
    refine zjn (h (fun (I_3 : zI) => zX p l e (zrm 2 42) s m args below meth c (MQ below (zQc D B cA (zqI S K)) args s 0 0 (fun q => B ≤ q)) D B cA 9 0 0 S I_3 [(4, .int t_2), (0, .ref (B + 69)), (1, .int a1), (2, .int a2), (3, .int a3)] [] 37) (fun I_3 h => ?_)) (fun h => ?_)
    · refine zr_aload_n C dyX7_recordReads_37 rfl 1 rfl ?_
      refine zg_7_38 C hS dyX7_recordReads_38 ?_
      refine zr_iload_n C dyX7_recordReads_41 rfl 2 rfl ?_
      refine zv_7_52 C hS (zIsRow.of hS zir_84) (st := []) h ⟨Nat.le_of_ble_eq_true rfl, Nat.le_of_ble_eq_true rfl⟩ (Nat.le_of_ble_eq_true rfl) dyX7_recordReads_42 (fun r_4 h => ?_)
      refine zr_iconst C dyX7_recordReads_45 zc_i_1 ?_
      refine zr_isub C dyX7_recordReads_46 ?_
      refine zn_istore C (fun v5_5 => [(5, .int v5_5), (4, .int t_2), (0, .ref (B + 69)), (1, .int a1), (2, .int a2), (3, .int a3)]) dyX7_recordReads_47 (Nat.le_of_ble_eq_true rfl) (fun _ => rfl) (fun v5_5 ev5_5 => ?_)
      replace h := h v5_5 ev5_5
      refine zr_iconst C dyX7_recordReads_49 zc_i_0 ?_
      refine zr_istore C dyX7_recordReads_50 (Nat.le_of_ble_eq_true rfl) (lv2 := [(6, .int 0), (5, .int v5_5), (4, .int t_2), (0, .ref (B + 69)), (1, .int a1), (2, .int a2), (3, .int a3)]) rfl ?_
      refine zr_iload_n C dyX7_recordReads_52 rfl 5 rfl ?_
      refine zr_istore C dyX7_recordReads_53 (Nat.le_of_ble_eq_true rfl) (lv2 := [(7, .int a2), (6, .int 0), (5, .int v5_5), (4, .int t_2), (0, .ref (B + 69)), (1, .int a1), (2, .int a2), (3, .int a3)]) rfl ?_
      refine zjn (h (fun (v5_6 : Int32) (v6_7 : Int32) (v7_8 : Int32) (I_9 : zI) => zX p l e (zrm 2 42) s m args below meth c (MQ below (zQc D B cA (zqI S K)) args s 0 0 (fun q => B ≤ q)) D B cA 9 0 0 S I_9 [(7, .int v7_8), (6, .int v6_7), (5, .int v5_6), (4, .int t_2), (0, .ref (B + 69)), (3, .int a3)] [] 55) (fun v5_6 v6_7 v7_8 I_9 h => ?_)) (fun h => ?_)
      · refine zr_iload C dyX7_recordReads_55 0 rfl ?_
        refine zr_iload_n C dyX7_recordReads_57 rfl 5 rfl ?_
        refine zr_icmp_ge C dyX7_recordReads_58 (tgt := 155) (by decide) (fun hc_29 => ?_) (fun hc_29 => ?_)
        · replace h := zif_pos hc_29 h
          refine zr_aload_n C dyX7_recordReads_155 rfl 4 rfl ?_
          refine zr_iload C dyX7_recordReads_156 3 rfl ?_
          refine zjn (h (fun (t_10 : Int32) => zX p l e (zrm 2 42) s m args below meth c (MQ below (zQc D B cA (zqI S K)) args s 0 0 (fun q => B ≤ q)) D B cA 9 0 0 S I_9 [(6, .int v6_7)] [.int t_10, .ref (B + 69)] 170) (fun t_10 h => ?_)) (fun h => ?_)
          · refine zp_7_134 C hS dyX7_recordReads_170 ?_
            refine zn_mem C (fun I_11 eI_11 => ?_)
            replace h := h I_11 eI_11
            refine zr_iload C dyX7_recordReads_173 0 rfl ?_
            exact zr_zret C rfl (zb.nar h.1) dyX7_recordReads_175 ⟨rfl, _, rfl, h.2⟩
          refine zr_if_eq C dyX7_recordReads_158 (tgt := 166) (by decide) (fun hc_12 => ?_) (fun hc_12 => ?_)
          · replace h := zif_pos hc_12 h
            refine zr_aload_n C dyX7_recordReads_166 rfl 4 rfl ?_
            refine zg_7_134 C hS dyX7_recordReads_167 ?_
            refine zr_sub (lv2 := [(6, .int v6_7)]) [1] rfl ?_
            exact h
          · replace h := zif_neg hc_12 h
            refine zr_iload C dyX7_recordReads_161 2 rfl ?_
            refine zr_goto C dyX7_recordReads_163 (tgt := 170) (by decide) ?_
            refine zr_sub (lv2 := [(6, .int v6_7)]) [1] rfl ?_
            exact h
        · replace h := zif_neg hc_29 h
          refine zr_aload_n C dyX7_recordReads_61 rfl 4 rfl ?_
          refine zg_7_44 C hS dyX7_recordReads_62 ?_
          refine zg_7_69 C hS dyX7_recordReads_65 ?_
          refine zr_aload_n C dyX7_recordReads_68 rfl 4 rfl ?_
          refine zg_7_48 C hS dyX7_recordReads_69 ?_
          refine zg_7_74 C hS dyX7_recordReads_72 ?_
          refine zr_iload C dyX7_recordReads_75 0 rfl ?_
          refine zv_7_52 C hS (zIsRow.of hS zir_44) (st := [.ref (B + 25)]) h ⟨Nat.le_of_ble_eq_true rfl, Nat.le_of_ble_eq_true rfl⟩ (Nat.le_of_ble_eq_true rfl) dyX7_recordReads_77 (fun r_13 h => ?_)
          refine zv_7_52 C hS (zIsRow.of hS zir_25) (st := []) h ⟨Nat.le_of_ble_eq_true rfl, Nat.le_of_ble_eq_true rfl⟩ (Nat.le_of_ble_eq_true rfl) dyX7_recordReads_80 (fun r_14 h => ?_)
          refine zr_bipush C dyX7_recordReads_83 zc_b_8 ?_
          refine zjn (h (fun (v5_15 : Int32) (v6_16 : Int32) (I_17 : zI) => zX p l e (zrm 2 42) s m args below meth c (MQ below (zQc D B cA (zqI S K)) args s 0 0 (fun q => B ≤ q)) D B cA 9 0 0 S I_17 [(7, .int v7_8), (6, .int v6_16), (5, .int v5_15), (4, .int t_2), (0, .ref (B + 69)), (3, .int a3)] [] 149) (fun v5_15 v6_16 I_17 h => ?_)) (fun h => ?_)
          · refine zn_iinc C (fun v7_18 => [(7, .int v7_18), (6, .int v6_16), (5, .int v5_15), (4, .int t_2), (0, .ref (B + 69)), (3, .int a3)]) dyX7_recordReads_149 0 rfl zc_i_1 (Nat.le_of_ble_eq_true rfl) (fun _ => rfl) (fun v7_18 ev7_18 => ?_)
            replace h := h v7_18 ev7_18
            refine zr_goto C dyX7_recordReads_152 (tgt := 55) (by decide) ?_
            exact h
          refine zr_icmp_ne C dyX7_recordReads_85 (tgt := 149) (by decide) (fun hc_28 => ?_) (fun hc_28 => ?_)
          · replace h := zif_neg hc_28 h
            exact h
          · replace h := zif_pos hc_28 h
            refine zr_aload_n C dyX7_recordReads_88 rfl 4 rfl ?_
            refine zr_aload_n C dyX7_recordReads_89 rfl 4 rfl ?_
            refine zg_7_48 C hS dyX7_recordReads_90 ?_
            refine zg_7_127 C hS dyX7_recordReads_93 ?_
            refine zr_iload C dyX7_recordReads_96 0 rfl ?_
            refine zv_7_52 C hS (zIsRow.of hS zir_50) (st := [.ref (B + 69)]) h ⟨Nat.le_of_ble_eq_true rfl, Nat.le_of_ble_eq_true rfl⟩ (Nat.le_of_ble_eq_true rfl) dyX7_recordReads_98 (fun r_19 h => ?_)
            refine zv_7_137 C hS (st := []) h ⟨Nat.le_of_ble_eq_true rfl, Nat.le_of_ble_eq_true rfl⟩ (Nat.le_of_ble_eq_true rfl) dyX7_recordReads_101 (fun r_20 h => ?_)
            refine zr_istore C dyX7_recordReads_104 (Nat.le_of_ble_eq_true rfl) (lv2 := [(8, .int r_20), (7, .int v7_8), (6, .int v6_7), (5, .int v5_6), (4, .int t_2), (0, .ref (B + 69)), (3, .int a3)]) rfl ?_
            refine zr_iload C dyX7_recordReads_106 2 rfl ?_
            refine zr_iload C dyX7_recordReads_108 4 rfl ?_
            refine zjn (h (fun (t_21 : Int32) => zX p l e (zrm 2 42) s m args below meth c (MQ below (zQc D B cA (zqI S K)) args s 0 0 (fun q => B ≤ q)) D B cA 9 0 0 S I_9 [(8, .int r_20), (7, .int v7_8), (5, .int v5_6), (4, .int t_2), (0, .ref (B + 69)), (3, .int a3)] [.int t_21, .int v6_7] 132) (fun t_21 h => ?_)) (fun h => ?_)
            · refine zr_ior C dyX7_recordReads_132 ?_
              refine zn_istore C (fun v6_22 => [(6, .int v6_22), (8, .int r_20), (7, .int v7_8), (5, .int v5_6), (4, .int t_2), (0, .ref (B + 69)), (3, .int a3)]) dyX7_recordReads_133 (Nat.le_of_ble_eq_true rfl) (fun _ => rfl) (fun v6_22 ev6_22 => ?_)
              replace h := h v6_22 ev6_22
              refine zr_aload_n C dyX7_recordReads_135 rfl 5 rfl ?_
              refine zg_7_41 C hS dyX7_recordReads_136 ?_
              refine zr_iload C dyX7_recordReads_139 3 rfl ?_
              refine zr_iload C dyX7_recordReads_141 1 rfl ?_
              refine zv_7_111 C hS (zIsRow.of hS zir_86) (st := []) h ⟨Nat.le_of_ble_eq_true rfl, Nat.le_of_ble_eq_true rfl⟩ (Nat.le_of_ble_eq_true rfl) dyX7_recordReads_143 (fun I_23 h => ?_)
              refine zn_iinc C (fun v5_24 => [(5, .int v5_24), (6, .int v6_22), (8, .int r_20), (7, .int v7_8), (4, .int t_2), (0, .ref (B + 69)), (3, .int a3)]) dyX7_recordReads_146 3 rfl zc_i_1 (Nat.le_of_ble_eq_true rfl) (fun _ => rfl) (fun v5_24 ev5_24 => ?_)
              replace h := h v5_24 ev5_24
              refine zr_sub (lv2 := [(7, .int v7_8), (6, .int v6_22), (5, .int v5_24), (4, .int t_2), (0, .ref (B + 69)), (3, .int a3)]) [3, 1, 0, 4, 5, 6] rfl ?_
              exact h
            refine zjn (h (zX p l e (zrm 2 42) s m args below meth c (MQ below (zQc D B cA (zqI S K)) args s 0 0 (fun q => B ≤ q)) D B cA 9 0 0 S I_9 [(8, .int r_20), (7, .int v7_8), (5, .int v5_6), (4, .int t_2), (0, .ref (B + 69)), (3, .int a3)] [.int v6_7] 131) (fun  h => ?_)) (fun h => ?_)
            · refine zr_iconst C dyX7_recordReads_131 zc_i_0 ?_
              exact h
            refine zr_if_ne C dyX7_recordReads_110 (tgt := 131) (by decide) (fun hc_27 => ?_) (fun hc_27 => ?_)
            · replace h := zif_neg hc_27 h
              refine zr_sub (lv2 := [(8, .int r_20), (7, .int v7_8), (5, .int v5_6), (4, .int t_2), (0, .ref (B + 69)), (3, .int a3)]) [0, 1, 3, 4, 5, 6] rfl ?_
              exact h
            · replace h := zif_pos hc_27 h
              refine zr_aload_n C dyX7_recordReads_113 rfl 5 rfl ?_
              refine zg_7_41 C hS dyX7_recordReads_114 ?_
              refine zr_iload C dyX7_recordReads_117 3 rfl ?_
              refine zv_7_52 C hS (zIsRow.of hS zir_86) (st := [.int v6_7]) h ⟨Nat.le_of_ble_eq_true rfl, Nat.le_of_ble_eq_true rfl⟩ (Nat.le_of_ble_eq_true rfl) dyX7_recordReads_119 (fun r_25 h => ?_)
              refine zr_iload C dyX7_recordReads_122 0 rfl ?_
              refine zr_icmp_eq C dyX7_recordReads_124 (tgt := 131) (by decide) (fun hc_26 => ?_) (fun hc_26 => ?_)
              · replace h := zif_pos hc_26 h
                refine zr_sub (lv2 := [(8, .int r_20), (7, .int v7_8), (5, .int v5_6), (4, .int t_2), (0, .ref (B + 69)), (3, .int a3)]) [0, 1, 3, 4, 5, 6] rfl ?_
                exact h
              · replace h := zif_neg hc_26 h
                refine zr_iconst C dyX7_recordReads_127 zc_i_1 ?_
                refine zr_goto C dyX7_recordReads_128 (tgt := 132) (by decide) ?_
                refine zr_sub (lv2 := [(8, .int r_20), (7, .int v7_8), (5, .int v5_6), (4, .int t_2), (0, .ref (B + 69)), (3, .int a3)]) [0, 1, 3, 4, 5, 6] rfl ?_
                exact h
      refine zr_sub (lv2 := [(7, .int a2), (6, .int 0), (5, .int v5_5), (4, .int t_2), (0, .ref (B + 69)), (3, .int a3)]) [0, 1, 2, 3, 4, 7] rfl ?_
      exact h
    refine zr_if_eq C dyX7_recordReads_20 (tgt := 37) (by decide) (fun hc_31 => ?_) (fun hc_31 => ?_)
    · replace h := zif_pos hc_31 h
      exact h
    · replace h := zif_neg hc_31 h
      refine zr_aload_n C dyX7_recordReads_23 rfl 1 rfl ?_
      refine zg_7_38 C hS dyX7_recordReads_24 ?_
      refine zr_iload_n C dyX7_recordReads_27 rfl 2 rfl ?_
      refine zr_aload_n C dyX7_recordReads_28 rfl 1 rfl ?_
      refine zg_7_134 C hS dyX7_recordReads_29 ?_
      refine zr_iconst C dyX7_recordReads_32 zc_i_1 ?_
      refine zr_iadd C dyX7_recordReads_33 ?_
      refine zv_7_111 C hS (zIsRow.of hS zir_84) (st := []) h ⟨Nat.le_of_ble_eq_true rfl, Nat.le_of_ble_eq_true rfl⟩ (Nat.le_of_ble_eq_true rfl) dyX7_recordReads_34 (fun I_30 h => ?_)
      exact h
  refine zr_if_ne C dyX7_recordReads_8 (tgt := 15) (by decide) (fun hc_32 => ?_) (fun hc_32 => ?_)
  · replace h := zif_neg hc_32 h
    refine zr_iconst C dyX7_recordReads_15 zc_i_0 ?_
    exact h
  · replace h := zif_pos hc_32 h
    refine zr_iconst C dyX7_recordReads_11 zc_i_1 ?_
    refine zr_goto C dyX7_recordReads_12 (tgt := 16) (by decide) ?_
    exact h
