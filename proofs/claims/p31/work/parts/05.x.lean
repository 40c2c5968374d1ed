def w_Grower_oldPlace (a1 : Int32) (I : zI) (K : Int32 → Prop) : Prop :=
  (if (I.1 64 7) ≤ a1 then (if a1 < ((I.1 64 6) - (I.1 64 8)) then (K (-2)) else (K ((a1 - (I.1 64 6)) + (I.1 64 5)))) else K a1)
theorem dyX1_oldPlace_0 : decode cX1_oldPlace 0 = .ok (.iload_n 1, 1) := by decide +kernel
theorem dyX1_oldPlace_1 : decode cX1_oldPlace 1 = .ok (.aload_n 0, 1) := by decide +kernel
theorem dyX1_oldPlace_2 : decode cX1_oldPlace 2 = .ok (.getfield 77, 3) := by decide +kernel
theorem dyX1_oldPlace_5 : decode cX1_oldPlace 5 = .ok (.if_icmp .ge 5, 3) := by decide +kernel
theorem dyX1_oldPlace_8 : decode cX1_oldPlace 8 = .ok (.iload_n 1, 1) := by decide +kernel
theorem dyX1_oldPlace_9 : decode cX1_oldPlace 9 = .ok (.ireturn, 1) := by decide +kernel
theorem dyX1_oldPlace_10 : decode cX1_oldPlace 10 = .ok (.iload_n 1, 1) := by decide +kernel
theorem dyX1_oldPlace_11 : decode cX1_oldPlace 11 = .ok (.aload_n 0, 1) := by decide +kernel
theorem dyX1_oldPlace_12 : decode cX1_oldPlace 12 = .ok (.getfield 56, 3) := by decide +kernel
theorem dyX1_oldPlace_15 : decode cX1_oldPlace 15 = .ok (.aload_n 0, 1) := by decide +kernel
theorem dyX1_oldPlace_16 : decode cX1_oldPlace 16 = .ok (.getfield 89, 3) := by decide +kernel
theorem dyX1_oldPlace_19 : decode cX1_oldPlace 19 = .ok (.isub, 1) := by decide +kernel
theorem dyX1_oldPlace_20 : decode cX1_oldPlace 20 = .ok (.if_icmp .lt 17, 3) := by decide +kernel
theorem dyX1_oldPlace_23 : decode cX1_oldPlace 23 = .ok (.iload_n 1, 1) := by decide +kernel
theorem dyX1_oldPlace_24 : decode cX1_oldPlace 24 = .ok (.aload_n 0, 1) := by decide +kernel
theorem dyX1_oldPlace_25 : decode cX1_oldPlace 25 = .ok (.getfield 56, 3) := by decide +kernel
theorem dyX1_oldPlace_28 : decode cX1_oldPlace 28 = .ok (.isub, 1) := by decide +kernel
theorem dyX1_oldPlace_29 : decode cX1_oldPlace 29 = .ok (.aload_n 0, 1) := by decide +kernel
theorem dyX1_oldPlace_30 : decode cX1_oldPlace 30 = .ok (.getfield 44, 3) := by decide +kernel
theorem dyX1_oldPlace_33 : decode cX1_oldPlace 33 = .ok (.iadd, 1) := by decide +kernel
theorem dyX1_oldPlace_34 : decode cX1_oldPlace 34 = .ok (.goto 5, 3) := by decide +kernel
theorem dyX1_oldPlace_37 : decode cX1_oldPlace 37 = .ok (.bipush (-2), 2) := by decide +kernel
theorem dyX1_oldPlace_39 : decode cX1_oldPlace 39 = .ok (.ireturn, 1) := by decide +kernel
theorem zsg_yX1_oldPlace : yX1_oldPlace.cls = RX1 ∧ yX1_oldPlace.cls ≠ "java/lang/invoke/MethodHandle" ∧ yX1_oldPlace.cls ≠ "java/lang/invoke/VarHandle" ∧ (parseMethodDescriptor yX1_oldPlace.desc).map (fun d => d.parameters.length) = some 1 := by decide +kernel
set_option maxRecDepth 20000 in
theorem c_Grower_oldPlace {l : Launch} {D : va_G} {B : Nat} {cA : Nat → ClassId} {ad : Nat → Nat} {S : List zC} (hS : zOkX S) {a1 : Int32} {I : zI} {K : Int32 → Prop}  (h : w_Grower_oldPlace a1 I K) : Met l yX1_oldPlace (zws yX1_oldPlace cX1_oldPlace 2 (some .int)) (zrm 0 0) (zPc D B cA ad [.ref (B + 64), .int a1] S I) (zQc D B cA (zpI S I K)) 0 0 (fun q => B ≤ q) := by
  refine zm_of (cc := cX1_oldPlace) (maxL := 2) (ret := (some .int)) (by decide +kernel) rfl (Nat.le_of_ble_eq_true rfl) trivial ?_
  intro p e s m args below meth c C _
  unfold w_Grower_oldPlace at h
  show zX p l e (zrm 0 0) s m args below meth c (MQ below (zQc D B cA (zpI S I K)) args s 0 0 (fun q => B ≤ q)) D B cA 2 0 0 S I [(0, .ref (B + 64)), (1, .int a1)] [] 0
  refine zr_iload_n C dyX1_oldPlace_0 rfl 1 rfl ?_
  refine zr_aload_n C dyX1_oldPlace_1 rfl 0 rfl ?_
  refine zg_1_77 C hS dyX1_oldPlace_2 ?_
  refine zr_icmp_ge C dyX1_oldPlace_5 (tgt := 10) (by decide) (fun hc_2 => ?_) (fun hc_2 => ?_)
  · replace h := zif_pos hc_2 h
    refine zr_iload_n C dyX1_oldPlace_10 rfl 1 rfl ?_
    refine zr_aload_n C dyX1_oldPlace_11 rfl 0 rfl ?_
    refine zg_1_56 C hS dyX1_oldPlace_12 ?_
    refine zr_aload_n C dyX1_oldPlace_15 rfl 0 rfl ?_
    refine zg_1_89 C hS dyX1_oldPlace_16 ?_
    refine zr_isub C dyX1_oldPlace_19 ?_
    refine zr_icmp_lt C dyX1_oldPlace_20 (tgt := 37) (by decide) (fun hc_1 => ?_) (fun hc_1 => ?_)
    · replace h := zif_pos hc_1 h
      refine zr_bipush C dyX1_oldPlace_37 zc_b_m2 ?_
      exact zr_iret C rfl dyX1_oldPlace_39 ⟨rfl, rfl, _, rfl, h⟩
    · replace h := zif_neg hc_1 h
      refine zr_iload_n C dyX1_oldPlace_23 rfl 1 rfl ?_
      refine zr_aload_n C dyX1_oldPlace_24 rfl 0 rfl ?_
      refine zg_1_56 C hS dyX1_oldPlace_25 ?_
      refine zr_isub C dyX1_oldPlace_28 ?_
      refine zr_aload_n C dyX1_oldPlace_29 rfl 0 rfl ?_
      refine zg_1_44 C hS dyX1_oldPlace_30 ?_
      refine zr_iadd C dyX1_oldPlace_33 ?_
      refine zr_goto C dyX1_oldPlace_34 (tgt := 39) (by decide) ?_
      exact zr_iret C rfl dyX1_oldPlace_39 ⟨rfl, rfl, _, rfl, h⟩
  · replace h := zif_neg hc_2 h
    refine zr_iload_n C dyX1_oldPlace_8 rfl 1 rfl ?_
    exact zr_iret C rfl dyX1_oldPlace_9 ⟨rfl, rfl, _, rfl, h⟩
theorem zg_3_44 {p : Program} {l : Launch} {e : Env} {R : Room} {s : State} {m : MethodId} {args : Array Value} {below : List Frame} {meth : Method} {c : Code} {Q : State → Prop} {D : va_G} {B : Nat} {cA : Nat → ClassId} {ad : Nat → Nat} {cc : ByteArray} {nL : Nat} {ret : Option FieldType} {S : List zC} {I : zI} {lv : List (Nat × Value)} {st : List Value} {pc : Nat} (C : zCx p s m args meth c cc nL RX3 ret D B cA ad) (hS : zOkX S) (hd : decode cc pc = .ok (.getfield 44, 3)) (kk : zX p l e R s m args below meth c Q D B cA nL 0 0 S I lv (.int (I.1 24 9) :: st) (pc + 3)) : zX p l e R s m args below meth c Q D B cA nL 0 0 S I lv (.ref (B + 24) :: st) pc :=
  zr_geti C (ci := 3) (Cn := RX3) (T := TX3) (N := 10) (k := 24) (j := 9) (fs := [some (some 25), some (some 27), some (some 29), some (some 31), some (some 33), some (some 35), some (some 37), some (some 39), some (some 41), none]) rfl zin_3 (Nat.le_of_ble_eq_true rfl) rfl (hS _ _ zs_24) rfl zk_fl_3_44 hd kk
theorem zg_3_14 {p : Program} {l : Launch} {e : Env} {R : Room} {s : State} {m : MethodId} {args : Array Value} {below : List Frame} {meth : Method} {c : Code} {Q : State → Prop} {D : va_G} {B : Nat} {cA : Nat → ClassId} {ad : Nat → Nat} {cc : ByteArray} {nL : Nat} {ret : Option FieldType} {S : List zC} {I : zI} {lv : List (Nat × Value)} {st : List Value} {pc : Nat} (C : zCx p s m args meth c cc nL RX3 ret D B cA ad) (hS : zOkX S) (hd : decode cc pc = .ok (.getfield 14, 3)) (kk : zX p l e R s m args below meth c Q D B cA nL 0 0 S I lv (.ref (B + 25) :: st) (pc + 3)) : zX p l e R s m args below meth c Q D B cA nL 0 0 S I lv (.ref (B + 24) :: st) pc :=
  zr_getr C (ci := 3) (Cn := RX3) (T := TX3) (N := 10) (k := 24) (j := 0) (fs := [some (some 25), some (some 27), some (some 29), some (some 31), some (some 33), some (some 35), some (some 37), some (some 39), some (some 41), none]) rfl zin_3 (Nat.le_of_ble_eq_true rfl) rfl (hS _ _ zs_24) rfl zk_fl_3_14 hd kk
theorem zv_3_52 {p : Program} {l : Launch} {e : Env} {R : Room} {s : State} {m : MethodId} {args : Array Value} {below : List Frame} {meth : Method} {c : Code} {Q : State → Prop} {D : va_G} {B : Nat} {cA : Nat → ClassId} {ad : Nat → Nat} {cc : ByteArray} {nL : Nat} {ret : Option FieldType} {S : List zC} {I : zI} {lv : List (Nat × Value)} {st : List Value} {pc : Nat} (C : zCx p s m args meth c cc nL RX3 ret D B cA ad) {K : zI → Prop} {xk : Nat} {xn : Nat} {xa1 : Int32} {xa2 : Int32} (hS : zOkX S) (xhk : zIsRow S xk xn) (h : w_Row_set xk xn xa1 xa2 I K) (hR : 0 + 1 ≤ R.frames ∧ 8 + (3 + 11) + (0) ≤ R.locals) (hw : (st.map fun v => v.category).sum ≤ 8) (hd : decode cc pc = .ok (.invokevirtual 52, 3)) (kk : ∀ I2, K I2 → zX p l e R s m args below meth c Q D B cA nL 0 0 S I2 lv st (pc + 3)) : zX p l e R s m args below meth c Q D B cA nL 0 0 S I lv (.int xa2 :: .int xa1 :: .ref (B + xk) :: st) pc :=
  have hf : 0 ≤ R.cells ∧ 0 ≤ R.slots := ⟨Nat.zero_le _, Nat.zero_le _⟩
  zc_VqV C (ci := 6) (q := (RX6, TX6, 1)) (k := xk) (fs := [some (some (xk + 1))]) (As := [.int xa1, .int xa2]) (st := st) rfl xhk.1 (c_Row_set hS xhk h) (zgV zk_ml_3_52 zk_im_yX6_set zk_se_yX6_set zk_in_6 zk_cd_yX6_set) zsg_yX6_set hR rfl rfl hw hd hf kk
theorem zg_3_23 {p : Program} {l : Launch} {e : Env} {R : Room} {s : State} {m : MethodId} {args : Array Value} {below : List Frame} {meth : Method} {c : Code} {Q : State → Prop} {D : va_G} {B : Nat} {cA : Nat → ClassId} {ad : Nat → Nat} {cc : ByteArray} {nL : Nat} {ret : Option FieldType} {S : List zC} {I : zI} {lv : List (Nat × Value)} {st : List Value} {pc : Nat} (C : zCx p s m args meth c cc nL RX3 ret D B cA ad) (hS : zOkX S) (hd : decode cc pc = .ok (.getfield 23, 3)) (kk : zX p l e R s m args below meth c Q D B cA nL 0 0 S I lv (.ref (B + 29) :: st) (pc + 3)) : zX p l e R s m args below meth c Q D B cA nL 0 0 S I lv (.ref (B + 24) :: st) pc :=
  zr_getr C (ci := 3) (Cn := RX3) (T := TX3) (N := 10) (k := 24) (j := 2) (fs := [some (some 25), some (some 27), some (some 29), some (some 31), some (some 33), some (some 35), some (some 37), some (some 39), some (some 41), none]) rfl zin_3 (Nat.le_of_ble_eq_true rfl) rfl (hS _ _ zs_24) rfl zk_fl_3_23 hd kk
theorem zg_3_29 {p : Program} {l : Launch} {e : Env} {R : Room} {s : State} {m : MethodId} {args : Array Value} {below : List Frame} {meth : Method} {c : Code} {Q : State → Prop} {D : va_G} {B : Nat} {cA : Nat → ClassId} {ad : Nat → Nat} {cc : ByteArray} {nL : Nat} {ret : Option FieldType} {S : List zC} {I : zI} {lv : List (Nat × Value)} {st : List Value} {pc : Nat} (C : zCx p s m args meth c cc nL RX3 ret D B cA ad) (hS : zOkX S) (hd : decode cc pc = .ok (.getfield 29, 3)) (kk : zX p l e R s m args below meth c Q D B cA nL 0 0 S I lv (.ref (B + 33) :: st) (pc + 3)) : zX p l e R s m args below meth c Q D B cA nL 0 0 S I lv (.ref (B + 24) :: st) pc :=
  zr_getr C (ci := 3) (Cn := RX3) (T := TX3) (N := 10) (k := 24) (j := 4) (fs := [some (some 25), some (some 27), some (some 29), some (some 31), some (some 33), some (some 35), some (some 37), some (some 39), some (some 41), none]) rfl zin_3 (Nat.le_of_ble_eq_true rfl) rfl (hS _ _ zs_24) rfl zk_fl_3_29 hd kk
theorem zp_3_44 {p : Program} {l : Launch} {e : Env} {R : Room} {s : State} {m : MethodId} {args : Array Value} {below : List Frame} {meth : Method} {c : Code} {Q : State → Prop} {D : va_G} {B : Nat} {cA : Nat → ClassId} {ad : Nat → Nat} {cc : ByteArray} {nL : Nat} {ret : Option FieldType} {S : List zC} {I : zI} {lv : List (Nat × Value)} {st : List Value} {pc : Nat} (C : zCx p s m args meth c cc nL RX3 ret D B cA ad) (hS : zOkX S) {v : Int32} (hd : decode cc pc = .ok (.putfield 44, 3)) (kk : zX p l e R s m args below meth c Q D B cA nL 0 0 S (zu I 24 9 v) lv st (pc + 3)) : zX p l e R s m args below meth c Q D B cA nL 0 0 S I lv (.int v :: .ref (B + 24) :: st) pc :=
  zr_puti C (ci := 3) (Cn := RX3) (T := TX3) (N := 10) (k := 24) (j := 9) (fs := [some (some 25), some (some 27), some (some 29), some (some 31), some (some 33), some (some 35), some (some 37), some (some 39), some (some 41), none]) rfl zin_3 (Nat.le_of_ble_eq_true rfl) rfl (hS _ _ zs_24) rfl tyX3 tyX3_ok nmX3 (ty := .int) zpd_I rfl rfl rfl zk_fl_3_44 hd kk
def w_Nodes_make (a1 : Int32) (a2 : Int32) (a3 : Int32) (a4 : Int32) (I : zI) (K : Int32 → zI → Prop) : Prop :=
  ∀ v5_1, v5_1 = (I.1 24 9) → w_Row_set 25 3400 v5_1 a1 I (fun I_2 => w_Row_set 27 3400 v5_1 a2 I_2 (fun I_3 => w_Row_set 29 3400 v5_1 a3 I_3 (fun I_4 => w_Row_set 33 3400 v5_1 a4 I_4 (fun I_5 => ∀ I_6, I_6 = (zu I_5 24 9 ((I_5.1 24 9) + 1)) → K v5_1 I_6))))
theorem dyX3_make_0 : decode cX3_make 0 = .ok (.aload_n 0, 1) := by decide +kernel
theorem dyX3_make_1 : decode cX3_make 1 = .ok (.getfield 44, 3) := by decide +kernel
theorem dyX3_make_4 : decode cX3_make 4 = .ok (.istore 5, 2) := by decide +kernel
theorem dyX3_make_6 : decode cX3_make 6 = .ok (.aload_n 0, 1) := by decide +kernel
theorem dyX3_make_7 : decode cX3_make 7 = .ok (.getfield 14, 3) := by decide +kernel
theorem dyX3_make_10 : decode cX3_make 10 = .ok (.iload 5, 2) := by decide +kernel
theorem dyX3_make_12 : decode cX3_make 12 = .ok (.iload_n 1, 1) := by decide +kernel
theorem dyX3_make_13 : decode cX3_make 13 = .ok (.invokevirtual 52, 3) := by decide +kernel
theorem dyX3_make_16 : decode cX3_make 16 = .ok (.aload_n 0, 1) := by decide +kernel
theorem dyX3_make_17 : decode cX3_make 17 = .ok (.getfield 20, 3) := by decide +kernel
theorem dyX3_make_20 : decode cX3_make 20 = .ok (.iload 5, 2) := by decide +kernel
theorem dyX3_make_22 : decode cX3_make 22 = .ok (.iload_n 2, 1) := by decide +kernel
theorem dyX3_make_23 : decode cX3_make 23 = .ok (.invokevirtual 52, 3) := by decide +kernel
theorem dyX3_make_26 : decode cX3_make 26 = .ok (.aload_n 0, 1) := by decide +kernel
theorem dyX3_make_27 : decode cX3_make 27 = .ok (.getfield 23, 3) := by decide +kernel
theorem dyX3_make_30 : decode cX3_make 30 = .ok (.iload 5, 2) := by decide +kernel
theorem dyX3_make_32 : decode cX3_make 32 = .ok (.iload_n 3, 1) := by decide +kernel
theorem dyX3_make_33 : decode cX3_make 33 = .ok (.invokevirtual 52, 3) := by decide +kernel
theorem dyX3_make_36 : decode cX3_make 36 = .ok (.aload_n 0, 1) := by decide +kernel
theorem dyX3_make_37 : decode cX3_make 37 = .ok (.getfield 29, 3) := by decide +kernel
theorem dyX3_make_40 : decode cX3_make 40 = .ok (.iload 5, 2) := by decide +kernel
theorem dyX3_make_42 : decode cX3_make 42 = .ok (.iload 4, 2) := by decide +kernel
theorem dyX3_make_44 : decode cX3_make 44 = .ok (.invokevirtual 52, 3) := by decide +kernel
theorem dyX3_make_47 : decode cX3_make 47 = .ok (.aload_n 0, 1) := by decide +kernel
theorem dyX3_make_48 : decode cX3_make 48 = .ok (.dup, 1) := by decide +kernel
theorem dyX3_make_49 : decode cX3_make 49 = .ok (.getfield 44, 3) := by decide +kernel
theorem dyX3_make_52 : decode cX3_make 52 = .ok (.iconst 1, 1) := by decide +kernel
theorem dyX3_make_53 : decode cX3_make 53 = .ok (.iadd, 1) := by decide +kernel
theorem dyX3_make_54 : decode cX3_make 54 = .ok (.putfield 44, 3) := by decide +kernel
theorem dyX3_make_57 : decode cX3_make 57 = .ok (.iload 5, 2) := by decide +kernel
theorem dyX3_make_59 : decode cX3_make 59 = .ok (.ireturn, 1) := by decide +kernel
theorem zsg_yX3_make : yX3_make.cls = RX3 ∧ yX3_make.cls ≠ "java/lang/invoke/MethodHandle" ∧ yX3_make.cls ≠ "java/lang/invoke/VarHandle" ∧ (parseMethodDescriptor yX3_make.desc).map (fun d => d.parameters.length) = some 4 := by decide +kernel
set_option maxRecDepth 20000 in
theorem c_Nodes_make {l : Launch} {D : va_G} {B : Nat} {cA : Nat → ClassId} {ad : Nat → Nat} {S : List zC} (hS : zOkX S) {a1 : Int32} {a2 : Int32} {a3 : Int32} {a4 : Int32} {I : zI} {K : Int32 → zI → Prop}  (h : w_Nodes_make a1 a2 a3 a4 I K) : Met l yX3_make (zws yX3_make cX3_make 6 (some .int)) (zrm 1 22) (zPc D B cA ad [.ref (B + 24), .int a1, .int a2, .int a3, .int a4] S I) (zQc D B cA (zqI S K)) 0 0 (fun q => B ≤ q) := by
  refine zm_of (cc := cX3_make) (maxL := 6) (ret := (some .int)) (by decide +kernel) rfl (Nat.le_of_ble_eq_true rfl) trivial ?_
  intro p e s m args below meth c C _
  unfold w_Nodes_make at h
  show zX p l e (zrm 1 22) s m args below meth c (MQ below (zQc D B cA (zqI S K)) args s 0 0 (fun q => B ≤ q)) D B cA 6 0 0 S I [(0, .ref (B + 24)), (1, .int a1), (2, .int a2), (3, .int a3), (4, .int a4)] [] 0
  refine zr_aload_n C dyX3_make_0 rfl 0 rfl ?_
  refine zg_3_44 C hS dyX3_make_1 ?_
  refine zn_istore C (fun v5_1 => [(5, .int v5_1), (0, .ref (B + 24)), (1, .int a1), (2, .int a2), (3, .int a3), (4, .int a4)]) dyX3_make_4 (Nat.le_of_ble_eq_true rfl) (fun _ => rfl) (fun v5_1 ev5_1 => ?_)
  replace h := h v5_1 ev5_1
  refine zr_aload_n C dyX3_make_6 rfl 1 rfl ?_
  refine zg_3_14 C hS dyX3_make_7 ?_
  refine zr_iload C dyX3_make_10 0 rfl ?_
  refine zr_iload_n C dyX3_make_12 rfl 2 rfl ?_
  refine zv_3_52 C hS (zIsRow.of hS zir_25) (st := []) h ⟨Nat.le_of_ble_eq_true rfl, Nat.le_of_ble_eq_true rfl⟩ (Nat.le_of_ble_eq_true rfl) dyX3_make_13 (fun I_2 h => ?_)
  refine zr_aload_n C dyX3_make_16 rfl 1 rfl ?_
  refine zg_3_20 C hS dyX3_make_17 ?_
  refine zr_iload C dyX3_make_20 0 rfl ?_
  refine zr_iload_n C dyX3_make_22 rfl 3 rfl ?_
  refine zv_3_52 C hS (zIsRow.of hS zir_27) (st := []) h ⟨Nat.le_of_ble_eq_true rfl, Nat.le_of_ble_eq_true rfl⟩ (Nat.le_of_ble_eq_true rfl) dyX3_make_23 (fun I_3 h => ?_)
  refine zr_aload_n C dyX3_make_26 rfl 1 rfl ?_
  refine zg_3_23 C hS dyX3_make_27 ?_
  refine zr_iload C dyX3_make_30 0 rfl ?_
  refine zr_iload_n C dyX3_make_32 rfl 4 rfl ?_
  refine zv_3_52 C hS (zIsRow.of hS zir_29) (st := []) h ⟨Nat.le_of_ble_eq_true rfl, Nat.le_of_ble_eq_true rfl⟩ (Nat.le_of_ble_eq_true rfl) dyX3_make_33 (fun I_4 h => ?_)
  refine zr_aload_n C dyX3_make_36 rfl 1 rfl ?_
  refine zg_3_29 C hS dyX3_make_37 ?_
  refine zr_iload C dyX3_make_40 0 rfl ?_
  refine zr_iload C dyX3_make_42 5 rfl ?_
  refine zv_3_52 C hS (zIsRow.of hS zir_33) (st := []) h ⟨Nat.le_of_ble_eq_true rfl, Nat.le_of_ble_eq_true rfl⟩ (Nat.le_of_ble_eq_true rfl) dyX3_make_44 (fun I_5 h => ?_)
  refine zr_aload_n C dyX3_make_47 rfl 1 rfl ?_
  refine zr_dup C dyX3_make_48 rfl ?_
  refine zg_3_44 C hS dyX3_make_49 ?_
  refine zr_iconst C dyX3_make_52 zc_i_1 ?_
  refine zr_iadd C dyX3_make_53 ?_
  refine zp_3_44 C hS dyX3_make_54 ?_
  refine zn_mem C (fun I_6 eI_6 => ?_)
  replace h := h I_6 eI_6
  refine zr_iload C dyX3_make_57 0 rfl ?_
  exact zr_iret C rfl dyX3_make_59 ⟨rfl, _, rfl, h⟩
theorem zv_3_48 {p : Program} {l : Launch} {e : Env} {R : Room} {s : State} {m : MethodId} {args : Array Value} {below : List Frame} {meth : Method} {c : Code} {Q : State → Prop} {D : va_G} {B : Nat} {cA : Nat → ClassId} {ad : Nat → Nat} {cc : ByteArray} {nL : Nat} {ret : Option FieldType} {S : List zC} {I : zI} {lv : List (Nat × Value)} {st : List Value} {pc : Nat} (C : zCx p s m args meth c cc nL RX3 ret D B cA ad) {K : Int32 → zI → Prop} {xa1 : Int32} {xa2 : Int32} {xa3 : Int32} {xa4 : Int32} (hS : zOkX S)  (h : w_Nodes_make xa1 xa2 xa3 xa4 I K) (hR : 1 + 1 ≤ R.frames ∧ 8 + (6 + 11) + (22) ≤ R.locals) (hw : (st.map fun v => v.category).sum ≤ 8) (hd : decode cc pc = .ok (.invokevirtual 48, 3)) (kk : ∀ v I2, K v I2 → zX p l e R s m args below meth c Q D B cA nL 0 0 S I2 lv (.int v :: st) (pc + 3)) : zX p l e R s m args below meth c Q D B cA nL 0 0 S I lv (.int xa4 :: .int xa3 :: .int xa2 :: .int xa1 :: .ref (B + 24) :: st) pc :=
  have hf : 0 ≤ R.cells ∧ 0 ≤ R.slots := ⟨Nat.zero_le _, Nat.zero_le _⟩
  zc_VqI C (ci := 3) (q := (RX3, TX3, 10)) (k := 24) (fs := [some (some 25), some (some 27), some (some 29), some (some 31), some (some 33), some (some 35), some (some 37), some (some 39), some (some 41), none]) (As := [.int xa1, .int xa2, .int xa3, .int xa4]) (st := st) rfl (hS _ _ zs_24) (c_Nodes_make hS h) (zgV zk_ml_3_48 zk_im_yX3_make zk_se_yX3_make zk_in_3 zk_cd_yX3_make) zsg_yX3_make hR rfl rfl hw hd hf kk
theorem zg_3_26 {p : Program} {l : Launch} {e : Env} {R : Room} {s : State} {m : MethodId} {args : Array Value} {below : List Frame} {meth : Method} {c : Code} {Q : State → Prop} {D : va_G} {B : Nat} {cA : Nat → ClassId} {ad : Nat → Nat} {cc : ByteArray} {nL : Nat} {ret : Option FieldType} {S : List zC} {I : zI} {lv : List (Nat × Value)} {st : List Value} {pc : Nat} (C : zCx p s m args meth c cc nL RX3 ret D B cA ad) (hS : zOkX S) (hd : decode cc pc = .ok (.getfield 26, 3)) (kk : zX p l e R s m args below meth c Q D B cA nL 0 0 S I lv (.ref (B + 31) :: st) (pc + 3)) : zX p l e R s m args below meth c Q D B cA nL 0 0 S I lv (.ref (B + 24) :: st) pc :=
  zr_getr C (ci := 3) (Cn := RX3) (T := TX3) (N := 10) (k := 24) (j := 3) (fs := [some (some 25), some (some 27), some (some 29), some (some 31), some (some 33), some (some 35), some (some 37), some (some 39), some (some 41), none]) rfl zin_3 (Nat.le_of_ble_eq_true rfl) rfl (hS _ _ zs_24) rfl zk_fl_3_26 hd kk
def w_Nodes_makeToken (a1 : Int32) (a2 : Int32) (a3 : Int32) (a4 : Int32) (a5 : Int32) (I : zI) (K : Int32 → zI → Prop) : Prop :=
  w_Nodes_make (-2) (5 + a1) (-2) a5 I (fun r_1 I_2 => w_Row_set 31 3400 r_1 1 I_2 (fun I_3 => w_Row_set 35 3400 r_1 a2 I_3 (fun I_4 => w_Row_set 37 3400 r_1 a3 I_4 (fun I_5 => w_Row_set 39 3400 r_1 a4 I_5 (fun I_6 => K r_1 I_6)))))
theorem dyX3_makeToken_0 : decode cX3_makeToken 0 = .ok (.aload_n 0, 1) := by decide +kernel
theorem dyX3_makeToken_1 : decode cX3_makeToken 1 = .ok (.bipush (-2), 2) := by decide +kernel
theorem dyX3_makeToken_3 : decode cX3_makeToken 3 = .ok (.iconst 5, 1) := by decide +kernel
theorem dyX3_makeToken_4 : decode cX3_makeToken 4 = .ok (.iload_n 1, 1) := by decide +kernel
theorem dyX3_makeToken_5 : decode cX3_makeToken 5 = .ok (.iadd, 1) := by decide +kernel
theorem dyX3_makeToken_6 : decode cX3_makeToken 6 = .ok (.bipush (-2), 2) := by decide +kernel
theorem dyX3_makeToken_8 : decode cX3_makeToken 8 = .ok (.iload 5, 2) := by decide +kernel
theorem dyX3_makeToken_10 : decode cX3_makeToken 10 = .ok (.invokevirtual 48, 3) := by decide +kernel
theorem dyX3_makeToken_13 : decode cX3_makeToken 13 = .ok (.istore 6, 2) := by decide +kernel
theorem dyX3_makeToken_15 : decode cX3_makeToken 15 = .ok (.aload_n 0, 1) := by decide +kernel
theorem dyX3_makeToken_16 : decode cX3_makeToken 16 = .ok (.getfield 26, 3) := by decide +kernel
theorem dyX3_makeToken_19 : decode cX3_makeToken 19 = .ok (.iload 6, 2) := by decide +kernel
theorem dyX3_makeToken_21 : decode cX3_makeToken 21 = .ok (.iconst 1, 1) := by decide +kernel
theorem dyX3_makeToken_22 : decode cX3_makeToken 22 = .ok (.invokevirtual 52, 3) := by decide +kernel
theorem dyX3_makeToken_25 : decode cX3_makeToken 25 = .ok (.aload_n 0, 1) := by decide +kernel
theorem dyX3_makeToken_26 : decode cX3_makeToken 26 = .ok (.getfield 32, 3) := by decide +kernel
theorem dyX3_makeToken_29 : decode cX3_makeToken 29 = .ok (.iload 6, 2) := by decide +kernel
theorem dyX3_makeToken_31 : decode cX3_makeToken 31 = .ok (.iload_n 2, 1) := by decide +kernel
theorem dyX3_makeToken_32 : decode cX3_makeToken 32 = .ok (.invokevirtual 52, 3) := by decide +kernel
theorem dyX3_makeToken_35 : decode cX3_makeToken 35 = .ok (.aload_n 0, 1) := by decide +kernel
theorem dyX3_makeToken_36 : decode cX3_makeToken 36 = .ok (.getfield 35, 3) := by decide +kernel
theorem dyX3_makeToken_39 : decode cX3_makeToken 39 = .ok (.iload 6, 2) := by decide +kernel
theorem dyX3_makeToken_41 : decode cX3_makeToken 41 = .ok (.iload_n 3, 1) := by decide +kernel
theorem dyX3_makeToken_42 : decode cX3_makeToken 42 = .ok (.invokevirtual 52, 3) := by decide +kernel
theorem dyX3_makeToken_45 : decode cX3_makeToken 45 = .ok (.aload_n 0, 1) := by decide +kernel
theorem dyX3_makeToken_46 : decode cX3_makeToken 46 = .ok (.getfield 38, 3) := by decide +kernel
theorem dyX3_makeToken_49 : decode cX3_makeToken 49 = .ok (.iload 6, 2) := by decide +kernel
theorem dyX3_makeToken_51 : decode cX3_makeToken 51 = .ok (.iload 4, 2) := by decide +kernel
theorem dyX3_makeToken_53 : decode cX3_makeToken 53 = .ok (.invokevirtual 52, 3) := by decide +kernel
theorem dyX3_makeToken_56 : decode cX3_makeToken 56 = .ok (.iload 6, 2) := by decide +kernel
theorem dyX3_makeToken_58 : decode cX3_makeToken 58 = .ok (.ireturn, 1) := by decide +kernel
theorem zsg_yX3_makeToken : yX3_makeToken.cls = RX3 ∧ yX3_makeToken.cls ≠ "java/lang/invoke/MethodHandle" ∧ yX3_makeToken.cls ≠ "java/lang/invoke/VarHandle" ∧ (parseMethodDescriptor yX3_makeToken.desc).map (fun d => d.parameters.length) = some 5 := by decide +kernel
set_option maxRecDepth 20000 in
theorem c_Nodes_makeToken {l : Launch} {D : va_G} {B : Nat} {cA : Nat → ClassId} {ad : Nat → Nat} {S : List zC} (hS : zOkX S) {a1 : Int32} {a2 : Int32} {a3 : Int32} {a4 : Int32} {a5 : Int32} {I : zI} {K : Int32 → zI → Prop}  (h : w_Nodes_makeToken a1 a2 a3 a4 a5 I K) : Met l yX3_makeToken (zws yX3_makeToken cX3_makeToken 7 (some .int)) (zrm 2 47) (zPc D B cA ad [.ref (B + 24), .int a1, .int a2, .int a3, .int a4, .int a5] S I) (zQc D B cA (zqI S K)) 0 0 (fun q => B ≤ q) := by
  refine zm_of (cc := cX3_makeToken) (maxL := 7) (ret := (some .int)) (by decide +kernel) rfl (Nat.le_of_ble_eq_true rfl) trivial ?_
  intro p e s m args below meth c C _
  unfold w_Nodes_makeToken at h
  show zX p l e (zrm 2 47) s m args below meth c (MQ below (zQc D B cA (zqI S K)) args s 0 0 (fun q => B ≤ q)) D B cA 7 0 0 S I [(0, .ref (B + 24)), (1, .int a1), (2, .int a2), (3, .int a3), (4, .int a4), (5, .int a5)] [] 0
  refine zr_aload_n C dyX3_makeToken_0 rfl 0 rfl ?_
  refine zr_bipush C dyX3_makeToken_1 zc_b_m2 ?_
  refine zr_iconst C dyX3_makeToken_3 zc_i_5 ?_
  refine zr_iload_n C dyX3_makeToken_4 rfl 1 rfl ?_
  refine zr_iadd C dyX3_makeToken_5 ?_
  refine zr_bipush C dyX3_makeToken_6 zc_b_m2 ?_
  refine zr_iload C dyX3_makeToken_8 5 rfl ?_
  refine zv_3_48 C hS (st := []) h ⟨Nat.le_of_ble_eq_true rfl, Nat.le_of_ble_eq_true rfl⟩ (Nat.le_of_ble_eq_true rfl) dyX3_makeToken_10 (fun r_1 I_2 h => ?_)
  refine zr_istore C dyX3_makeToken_13 (Nat.le_of_ble_eq_true rfl) (lv2 := [(6, .int r_1), (0, .ref (B + 24)), (1, .int a1), (2, .int a2), (3, .int a3), (4, .int a4), (5, .int a5)]) rfl ?_
  refine zr_aload_n C dyX3_makeToken_15 rfl 1 rfl ?_
  refine zg_3_26 C hS dyX3_makeToken_16 ?_
  refine zr_iload C dyX3_makeToken_19 0 rfl ?_
  refine zr_iconst C dyX3_makeToken_21 zc_i_1 ?_
  refine zv_3_52 C hS (zIsRow.of hS zir_31) (st := []) h ⟨Nat.le_of_ble_eq_true rfl, Nat.le_of_ble_eq_true rfl⟩ (Nat.le_of_ble_eq_true rfl) dyX3_makeToken_22 (fun I_3 h => ?_)
  refine zr_aload_n C dyX3_makeToken_25 rfl 1 rfl ?_
  refine zg_3_32 C hS dyX3_makeToken_26 ?_
  refine zr_iload C dyX3_makeToken_29 0 rfl ?_
  refine zr_iload_n C dyX3_makeToken_31 rfl 3 rfl ?_
  refine zv_3_52 C hS (zIsRow.of hS zir_35) (st := []) h ⟨Nat.le_of_ble_eq_true rfl, Nat.le_of_ble_eq_true rfl⟩ (Nat.le_of_ble_eq_true rfl) dyX3_makeToken_32 (fun I_4 h => ?_)
  refine zr_aload_n C dyX3_makeToken_35 rfl 1 rfl ?_
  refine zg_3_35 C hS dyX3_makeToken_36 ?_
  refine zr_iload C dyX3_makeToken_39 0 rfl ?_
  refine zr_iload_n C dyX3_makeToken_41 rfl 4 rfl ?_
  refine zv_3_52 C hS (zIsRow.of hS zir_37) (st := []) h ⟨Nat.le_of_ble_eq_true rfl, Nat.le_of_ble_eq_true rfl⟩ (Nat.le_of_ble_eq_true rfl) dyX3_makeToken_42 (fun I_5 h => ?_)
  refine zr_aload_n C dyX3_makeToken_45 rfl 1 rfl ?_
  refine zg_3_38 C hS dyX3_makeToken_46 ?_
  refine zr_iload C dyX3_makeToken_49 0 rfl ?_
  refine zr_iload C dyX3_makeToken_51 5 rfl ?_
  refine zv_3_52 C hS (zIsRow.of hS zir_39) (st := []) h ⟨Nat.le_of_ble_eq_true rfl, Nat.le_of_ble_eq_true rfl⟩ (Nat.le_of_ble_eq_true rfl) dyX3_makeToken_53 (fun I_6 h => ?_)
  refine zr_iload C dyX3_makeToken_56 0 rfl ?_
  exact zr_iret C rfl dyX3_makeToken_58 ⟨rfl, _, rfl, h⟩
theorem zg_1_47 {p : Program} {l : Launch} {e : Env} {R : Room} {s : State} {m : MethodId} {args : Array Value} {below : List Frame} {meth : Method} {c : Code} {Q : State → Prop} {D : va_G} {B : Nat} {cA : Nat → ClassId} {ad : Nat → Nat} {cc : ByteArray} {nL : Nat} {ret : Option FieldType} {S : List zC} {I : zI} {lv : List (Nat × Value)} {st : List Value} {pc : Nat} (C : zCx p s m args meth c cc nL RX1 ret D B cA ad) {k : Nat} (hk : zIsMoment S k) (hd : decode cc pc = .ok (.getfield 47, 3)) (kk : zX p l e R s m args below meth c Q D B cA nL 0 0 S I lv (.ref (B + (k + 3)) :: st) (pc + 3)) : zX p l e R s m args below meth c Q D B cA nL 0 0 S I lv (.ref (B + k) :: st) pc :=
  zr_getr C (ci := 2) (Cn := RX2) (T := TX2) (N := 9) (k := k) (j := 2) (fs := [some (some (k + 1)), none, some (some (k + 3)), none, some (some (k + 14)), some (some (k + 16)), none, none, none]) rfl zin_2 (Nat.le_of_ble_eq_true rfl) rfl hk.1 rfl zk_fl_1_47 hd kk
theorem zp_1_92 {p : Program} {l : Launch} {e : Env} {R : Room} {s : State} {m : MethodId} {args : Array Value} {below : List Frame} {meth : Method} {c : Code} {Q : State → Prop} {D : va_G} {B : Nat} {cA : Nat → ClassId} {ad : Nat → Nat} {cc : ByteArray} {nL : Nat} {ret : Option FieldType} {S : List zC} {I : zI} {lv : List (Nat × Value)} {st : List Value} {pc : Nat} (C : zCx p s m args meth c cc nL RX1 ret D B cA ad) (hS : zOkX S) {v : Int32} (hd : decode cc pc = .ok (.putfield 92, 3)) (kk : zX p l e R s m args below meth c Q D B cA nL 0 0 S (zu I 64 9 v) lv st (pc + 3)) : zX p l e R s m args below meth c Q D B cA nL 0 0 S I lv (.int v :: .ref (B + 64) :: st) pc :=
  zr_puti C (ci := 1) (Cn := RX1) (T := TX1) (N := 14) (k := 64) (j := 9) (fs := [some (some 24), some (some 43), some (some 65), some (some 67), none, none, none, none, none, none, none, none, none, none]) rfl zin_1 (Nat.le_of_ble_eq_true rfl) rfl (hS _ _ zs_64) rfl tyX1 tyX1_ok nmX1 (ty := .int) zpd_I rfl rfl rfl zk_fl_1_92 hd kk
theorem zv_1_95 {p : Program} {l : Launch} {e : Env} {R : Room} {s : State} {m : MethodId} {args : Array Value} {below : List Frame} {meth : Method} {c : Code} {Q : State → Prop} {D : va_G} {B : Nat} {cA : Nat → ClassId} {ad : Nat → Nat} {cc : ByteArray} {nL : Nat} {ret : Option FieldType} {S : List zC} {I : zI} {lv : List (Nat × Value)} {st : List Value} {pc : Nat} (C : zCx p s m args meth c cc nL RX1 ret D B cA ad) {K : Int32 → Prop} {xa1 : Int32} (hS : zOkX S)  (h : w_Grower_oldPlace xa1 I K) (hR : 0 + 1 ≤ R.frames ∧ 8 + (2 + 11) + (0) ≤ R.locals) (hw : (st.map fun v => v.category).sum ≤ 8) (hd : decode cc pc = .ok (.invokevirtual 95, 3)) (kk : ∀ v, K v → zX p l e R s m args below meth c Q D B cA nL 0 0 S I lv (.int v :: st) (pc + 3)) : zX p l e R s m args below meth c Q D B cA nL 0 0 S I lv (.int xa1 :: .ref (B + 64) :: st) pc :=
  have hf : 0 ≤ R.cells ∧ 0 ≤ R.slots := ⟨Nat.zero_le _, Nat.zero_le _⟩
  zc_VpI C (ci := 1) (q := (RX1, TX1, 14)) (k := 64) (fs := [some (some 24), some (some 43), some (some 65), some (some 67), none, none, none, none, none, none, none, none, none, none]) (As := [.int xa1]) (st := st) rfl (hS _ _ zs_64) (c_Grower_oldPlace hS h) (zgV zk_ml_1_95 zk_im_yX1_oldPlace zk_se_yX1_oldPlace zk_in_1 zk_cd_yX1_oldPlace) zsg_yX1_oldPlace hR rfl rfl hw hd hf kk
theorem zg_1_102 {p : Program} {l : Launch} {e : Env} {R : Room} {s : State} {m : MethodId} {args : Array Value} {below : List Frame} {meth : Method} {c : Code} {Q : State → Prop} {D : va_G} {B : Nat} {cA : Nat → ClassId} {ad : Nat → Nat} {cc : ByteArray} {nL : Nat} {ret : Option FieldType} {S : List zC} {I : zI} {lv : List (Nat × Value)} {st : List Value} {pc : Nat} (C : zCx p s m args meth c cc nL RX1 ret D B cA ad) {k : Nat} (hk : zIsTokens S k) (hd : decode cc pc = .ok (.getfield 102, 3)) (kk : zX p l e R s m args below meth c Q D B cA nL 0 0 S I lv (.ref (B + (k + 1)) :: st) (pc + 3)) : zX p l e R s m args below meth c Q D B cA nL 0 0 S I lv (.ref (B + k) :: st) pc :=
  zr_getr C (ci := 8) (Cn := RX8) (T := TX8) (N := 6) (k := k) (j := 0) (fs := [some (some (k + 1)), some (some (k + 3)), some (some (k + 5)), some (some (k + 7)), some (some (k + 9)), none]) rfl zin_8 (Nat.le_of_ble_eq_true rfl) rfl hk.1 rfl zk_fl_1_102 hd kk
theorem zg_1_105 {p : Program} {l : Launch} {e : Env} {R : Room} {s : State} {m : MethodId} {args : Array Value} {below : List Frame} {meth : Method} {c : Code} {Q : State → Prop} {D : va_G} {B : Nat} {cA : Nat → ClassId} {ad : Nat → Nat} {cc : ByteArray} {nL : Nat} {ret : Option FieldType} {S : List zC} {I : zI} {lv : List (Nat × Value)} {st : List Value} {pc : Nat} (C : zCx p s m args meth c cc nL RX1 ret D B cA ad) {k : Nat} (hk : zIsTokens S k) (hd : decode cc pc = .ok (.getfield 105, 3)) (kk : zX p l e R s m args below meth c Q D B cA nL 0 0 S I lv (.ref (B + (k + 5)) :: st) (pc + 3)) : zX p l e R s m args below meth c Q D B cA nL 0 0 S I lv (.ref (B + k) :: st) pc :=
  zr_getr C (ci := 8) (Cn := RX8) (T := TX8) (N := 6) (k := k) (j := 2) (fs := [some (some (k + 1)), some (some (k + 3)), some (some (k + 5)), some (some (k + 7)), some (some (k + 9)), none]) rfl zin_8 (Nat.le_of_ble_eq_true rfl) rfl hk.1 rfl zk_fl_1_105 hd kk
theorem zg_1_108 {p : Program} {l : Launch} {e : Env} {R : Room} {s : State} {m : MethodId} {args : Array Value} {below : List Frame} {meth : Method} {c : Code} {Q : State → Prop} {D : va_G} {B : Nat} {cA : Nat → ClassId} {ad : Nat → Nat} {cc : ByteArray} {nL : Nat} {ret : Option FieldType} {S : List zC} {I : zI} {lv : List (Nat × Value)} {st : List Value} {pc : Nat} (C : zCx p s m args meth c cc nL RX1 ret D B cA ad) {k : Nat} (hk : zIsTokens S k) (hd : decode cc pc = .ok (.getfield 108, 3)) (kk : zX p l e R s m args below meth c Q D B cA nL 0 0 S I lv (.ref (B + (k + 7)) :: st) (pc + 3)) : zX p l e R s m args below meth c Q D B cA nL 0 0 S I lv (.ref (B + k) :: st) pc :=
  zr_getr C (ci := 8) (Cn := RX8) (T := TX8) (N := 6) (k := k) (j := 3) (fs := [some (some (k + 1)), some (some (k + 3)), some (some (k + 5)), some (some (k + 7)), some (some (k + 9)), none]) rfl zin_8 (Nat.le_of_ble_eq_true rfl) rfl hk.1 rfl zk_fl_1_108 hd kk
theorem zg_1_111 {p : Program} {l : Launch} {e : Env} {R : Room} {s : State} {m : MethodId} {args : Array Value} {below : List Frame} {meth : Method} {c : Code} {Q : State → Prop} {D : va_G} {B : Nat} {cA : Nat → ClassId} {ad : Nat → Nat} {cc : ByteArray} {nL : Nat} {ret : Option FieldType} {S : List zC} {I : zI} {lv : List (Nat × Value)} {st : List Value} {pc : Nat} (C : zCx p s m args meth c cc nL RX1 ret D B cA ad) {k : Nat} (hk : zIsTokens S k) (hd : decode cc pc = .ok (.getfield 111, 3)) (kk : zX p l e R s m args below meth c Q D B cA nL 0 0 S I lv (.ref (B + (k + 9)) :: st) (pc + 3)) : zX p l e R s m args below meth c Q D B cA nL 0 0 S I lv (.ref (B + k) :: st) pc :=
  zr_getr C (ci := 8) (Cn := RX8) (T := TX8) (N := 6) (k := k) (j := 4) (fs := [some (some (k + 1)), some (some (k + 3)), some (some (k + 5)), some (some (k + 7)), some (some (k + 9)), none]) rfl zin_8 (Nat.le_of_ble_eq_true rfl) rfl hk.1 rfl zk_fl_1_111 hd kk
theorem zv_1_114 {p : Program} {l : Launch} {e : Env} {R : Room} {s : State} {m : MethodId} {args : Array Value} {below : List Frame} {meth : Method} {c : Code} {Q : State → Prop} {D : va_G} {B : Nat} {cA : Nat → ClassId} {ad : Nat → Nat} {cc : ByteArray} {nL : Nat} {ret : Option FieldType} {S : List zC} {I : zI} {lv : List (Nat × Value)} {st : List Value} {pc : Nat} (C : zCx p s m args meth c cc nL RX1 ret D B cA ad) {K : Int32 → zI → Prop} {xa1 : Int32} {xa2 : Int32} {xa3 : Int32} {xa4 : Int32} {xa5 : Int32} (hS : zOkX S)  (h : w_Nodes_makeToken xa1 xa2 xa3 xa4 xa5 I K) (hR : 2 + 1 ≤ R.frames ∧ 8 + (7 + 11) + (47) ≤ R.locals) (hw : (st.map fun v => v.category).sum ≤ 8) (hd : decode cc pc = .ok (.invokevirtual 114, 3)) (kk : ∀ v I2, K v I2 → zX p l e R s m args below meth c Q D B cA nL 0 0 S I2 lv (.int v :: st) (pc + 3)) : zX p l e R s m args below meth c Q D B cA nL 0 0 S I lv (.int xa5 :: .int xa4 :: .int xa3 :: .int xa2 :: .int xa1 :: .ref (B + 24) :: st) pc :=
  have hf : 0 ≤ R.cells ∧ 0 ≤ R.slots := ⟨Nat.zero_le _, Nat.zero_le _⟩
  zc_VqI C (ci := 3) (q := (RX3, TX3, 10)) (k := 24) (fs := [some (some 25), some (some 27), some (some 29), some (some 31), some (some 33), some (some 35), some (some 37), some (some 39), some (some 41), none]) (As := [.int xa1, .int xa2, .int xa3, .int xa4, .int xa5]) (st := st) rfl (hS _ _ zs_24) (c_Nodes_makeToken hS h) (zgV zk_ml_1_114 zk_im_yX3_makeToken zk_se_yX3_makeToken zk_in_3 zk_cd_yX3_makeToken) zsg_yX3_makeToken hR rfl rfl hw hd hf kk
theorem zv_1_98 {p : Program} {l : Launch} {e : Env} {R : Room} {s : State} {m : MethodId} {args : Array Value} {below : List Frame} {meth : Method} {c : Code} {Q : State → Prop} {D : va_G} {B : Nat} {cA : Nat → ClassId} {ad : Nat → Nat} {cc : ByteArray} {nL : Nat} {ret : Option FieldType} {S : List zC} {I : zI} {lv : List (Nat × Value)} {st : List Value} {pc : Nat} (C : zCx p s m args meth c cc nL RX1 ret D B cA ad) {K : zI → Prop} {xk : Nat} {xn : Nat} {xa1 : Int32} {xa2 : Int32} (hS : zOkX S) (xhk : zIsRow S xk xn) (h : w_Row_set xk xn xa1 xa2 I K) (hR : 0 + 1 ≤ R.frames ∧ 8 + (3 + 11) + (0) ≤ R.locals) (hw : (st.map fun v => v.category).sum ≤ 8) (hd : decode cc pc = .ok (.invokevirtual 98, 3)) (kk : ∀ I2, K I2 → zX p l e R s m args below meth c Q D B cA nL 0 0 S I2 lv st (pc + 3)) : zX p l e R s m args below meth c Q D B cA nL 0 0 S I lv (.int xa2 :: .int xa1 :: .ref (B + xk) :: st) pc :=
  have hf : 0 ≤ R.cells ∧ 0 ≤ R.slots := ⟨Nat.zero_le _, Nat.zero_le _⟩
  zc_VqV C (ci := 6) (q := (RX6, TX6, 1)) (k := xk) (fs := [some (some (xk + 1))]) (As := [.int xa1, .int xa2]) (st := st) rfl xhk.1 (c_Row_set hS xhk h) (zgV zk_ml_1_98 zk_im_yX6_set zk_se_yX6_set zk_in_6 zk_cd_yX6_set) zsg_yX6_set hR rfl rfl hw hd hf kk
theorem zg_1_92 {p : Program} {l : Launch} {e : Env} {R : Room} {s : State} {m : MethodId} {args : Array Value} {below : List Frame} {meth : Method} {c : Code} {Q : State → Prop} {D : va_G} {B : Nat} {cA : Nat → ClassId} {ad : Nat → Nat} {cc : ByteArray} {nL : Nat} {ret : Option FieldType} {S : List zC} {I : zI} {lv : List (Nat × Value)} {st : List Value} {pc : Nat} (C : zCx p s m args meth c cc nL RX1 ret D B cA ad) (hS : zOkX S) (hd : decode cc pc = .ok (.getfield 92, 3)) (kk : zX p l e R s m args below meth c Q D B cA nL 0 0 S I lv (.int (I.1 64 9) :: st) (pc + 3)) : zX p l e R s m args below meth c Q D B cA nL 0 0 S I lv (.ref (B + 64) :: st) pc :=
  zr_geti C (ci := 1) (Cn := RX1) (T := TX1) (N := 14) (k := 64) (j := 9) (fs := [some (some 24), some (some 43), some (some 65), some (some 67), none, none, none, none, none, none, none, none, none, none]) rfl zin_1 (Nat.le_of_ble_eq_true rfl) rfl (hS _ _ zs_64) rfl zk_fl_1_92 hd kk
def w_Grower_nameTokens (a1 : Nat) (a2 : Nat) (a3 : Int32) (I : zI) (K : zI → Prop) : Prop :=
  ∀ I_1, I_1 = (zu I 64 9 0) → ∀ (P14 : Int32 → zI → Prop), (∀ (v5_2 : Int32) (I_3 : zI), ((if (I_3.1 64 6) ≤ v5_2 then K I_3 else (w_Grower_oldPlace v5_2 I_3 (fun r_4 => ∀ (P124 : zI → Prop), (∀ (I_5 : zI), (∀ v5_6, v5_6 = (v5_2 + 1) → P14 v5_6 I_5) → P124 I_5) → (if r_4 < 0 then (w_Row_get (a2 + 3 + 1) 100 v5_2 I_3 (fun r_7 => w_Row_get (a2 + 3 + 5) 100 v5_2 I_3 (fun r_8 => w_Row_get (a2 + 3 + 7) 100 v5_2 I_3 (fun r_9 => w_Row_get (a2 + 3 + 9) 100 v5_2 I_3 (fun r_10 => w_Nodes_makeToken r_7 r_8 r_9 r_10 a3 I_3 (fun r_11 I_12 => w_Row_set (a2 + 14) 100 v5_2 r_11 I_12 (fun I_13 => ∀ I_14, I_14 = (zu I_13 64 9 ((I_13.1 64 9) + 1)) → P124 I_14))))))) else (w_Row_get (a1 + 14) 100 r_4 I_3 (fun r_15 => w_Row_set (a2 + 14) 100 v5_2 r_15 I_3 (fun I_16 => P124 I_16)))))))) → P14 v5_2 I_3) → P14 0 I_1
theorem dyX1_nameTokens_0 : decode cX1_nameTokens 0 = .ok (.aload_n 2, 1) := by decide +kernel
theorem dyX1_nameTokens_1 : decode cX1_nameTokens 1 = .ok (.getfield 47, 3) := by decide +kernel
theorem dyX1_nameTokens_4 : decode cX1_nameTokens 4 = .ok (.astore 4, 2) := by decide +kernel
theorem dyX1_nameTokens_6 : decode cX1_nameTokens 6 = .ok (.aload_n 0, 1) := by decide +kernel
theorem dyX1_nameTokens_7 : decode cX1_nameTokens 7 = .ok (.iconst 0, 1) := by decide +kernel
theorem dyX1_nameTokens_8 : decode cX1_nameTokens 8 = .ok (.putfield 92, 3) := by decide +kernel
theorem dyX1_nameTokens_11 : decode cX1_nameTokens 11 = .ok (.iconst 0, 1) := by decide +kernel
theorem dyX1_nameTokens_12 : decode cX1_nameTokens 12 = .ok (.istore 5, 2) := by decide +kernel
theorem dyX1_nameTokens_14 : decode cX1_nameTokens 14 = .ok (.iload 5, 2) := by decide +kernel
theorem dyX1_nameTokens_16 : decode cX1_nameTokens 16 = .ok (.aload_n 0, 1) := by decide +kernel
theorem dyX1_nameTokens_17 : decode cX1_nameTokens 17 = .ok (.getfield 56, 3) := by decide +kernel
theorem dyX1_nameTokens_20 : decode cX1_nameTokens 20 = .ok (.if_icmp .ge 110, 3) := by decide +kernel
theorem dyX1_nameTokens_23 : decode cX1_nameTokens 23 = .ok (.aload_n 0, 1) := by decide +kernel
theorem dyX1_nameTokens_24 : decode cX1_nameTokens 24 = .ok (.iload 5, 2) := by decide +kernel
theorem dyX1_nameTokens_26 : decode cX1_nameTokens 26 = .ok (.invokevirtual 95, 3) := by decide +kernel
theorem dyX1_nameTokens_29 : decode cX1_nameTokens 29 = .ok (.istore 6, 2) := by decide +kernel
theorem dyX1_nameTokens_31 : decode cX1_nameTokens 31 = .ok (.iload 6, 2) := by decide +kernel
theorem dyX1_nameTokens_33 : decode cX1_nameTokens 33 = .ok (.ifCond .lt 24, 3) := by decide +kernel
theorem dyX1_nameTokens_36 : decode cX1_nameTokens 36 = .ok (.aload_n 2, 1) := by decide +kernel
theorem dyX1_nameTokens_37 : decode cX1_nameTokens 37 = .ok (.getfield 80, 3) := by decide +kernel
theorem dyX1_nameTokens_40 : decode cX1_nameTokens 40 = .ok (.iload 5, 2) := by decide +kernel
theorem dyX1_nameTokens_42 : decode cX1_nameTokens 42 = .ok (.aload_n 1, 1) := by decide +kernel
theorem dyX1_nameTokens_43 : decode cX1_nameTokens 43 = .ok (.getfield 80, 3) := by decide +kernel
theorem dyX1_nameTokens_46 : decode cX1_nameTokens 46 = .ok (.iload 6, 2) := by decide +kernel
theorem dyX1_nameTokens_48 : decode cX1_nameTokens 48 = .ok (.invokevirtual 35, 3) := by decide +kernel
theorem dyX1_nameTokens_51 : decode cX1_nameTokens 51 = .ok (.invokevirtual 98, 3) := by decide +kernel
theorem dyX1_nameTokens_54 : decode cX1_nameTokens 54 = .ok (.goto 70, 3) := by decide +kernel
theorem dyX1_nameTokens_57 : decode cX1_nameTokens 57 = .ok (.aload_n 2, 1) := by decide +kernel
theorem dyX1_nameTokens_58 : decode cX1_nameTokens 58 = .ok (.getfield 80, 3) := by decide +kernel
theorem dyX1_nameTokens_61 : decode cX1_nameTokens 61 = .ok (.iload 5, 2) := by decide +kernel
theorem dyX1_nameTokens_63 : decode cX1_nameTokens 63 = .ok (.aload_n 0, 1) := by decide +kernel
theorem dyX1_nameTokens_64 : decode cX1_nameTokens 64 = .ok (.getfield 23, 3) := by decide +kernel
theorem dyX1_nameTokens_67 : decode cX1_nameTokens 67 = .ok (.aload 4, 2) := by decide +kernel
theorem dyX1_nameTokens_69 : decode cX1_nameTokens 69 = .ok (.getfield 102, 3) := by decide +kernel
theorem dyX1_nameTokens_72 : decode cX1_nameTokens 72 = .ok (.iload 5, 2) := by decide +kernel
theorem dyX1_nameTokens_74 : decode cX1_nameTokens 74 = .ok (.invokevirtual 35, 3) := by decide +kernel
theorem dyX1_nameTokens_77 : decode cX1_nameTokens 77 = .ok (.aload 4, 2) := by decide +kernel
theorem dyX1_nameTokens_79 : decode cX1_nameTokens 79 = .ok (.getfield 105, 3) := by decide +kernel
theorem dyX1_nameTokens_82 : decode cX1_nameTokens 82 = .ok (.iload 5, 2) := by decide +kernel
theorem dyX1_nameTokens_84 : decode cX1_nameTokens 84 = .ok (.invokevirtual 35, 3) := by decide +kernel
theorem dyX1_nameTokens_87 : decode cX1_nameTokens 87 = .ok (.aload 4, 2) := by decide +kernel
theorem dyX1_nameTokens_89 : decode cX1_nameTokens 89 = .ok (.getfield 108, 3) := by decide +kernel
theorem dyX1_nameTokens_92 : decode cX1_nameTokens 92 = .ok (.iload 5, 2) := by decide +kernel
theorem dyX1_nameTokens_94 : decode cX1_nameTokens 94 = .ok (.invokevirtual 35, 3) := by decide +kernel
theorem dyX1_nameTokens_97 : decode cX1_nameTokens 97 = .ok (.aload 4, 2) := by decide +kernel
theorem dyX1_nameTokens_99 : decode cX1_nameTokens 99 = .ok (.getfield 111, 3) := by decide +kernel
theorem dyX1_nameTokens_102 : decode cX1_nameTokens 102 = .ok (.iload 5, 2) := by decide +kernel
theorem dyX1_nameTokens_104 : decode cX1_nameTokens 104 = .ok (.invokevirtual 35, 3) := by decide +kernel
theorem dyX1_nameTokens_107 : decode cX1_nameTokens 107 = .ok (.iload_n 3, 1) := by decide +kernel
theorem dyX1_nameTokens_108 : decode cX1_nameTokens 108 = .ok (.invokevirtual 114, 3) := by decide +kernel
theorem dyX1_nameTokens_111 : decode cX1_nameTokens 111 = .ok (.invokevirtual 98, 3) := by decide +kernel
theorem dyX1_nameTokens_114 : decode cX1_nameTokens 114 = .ok (.aload_n 0, 1) := by decide +kernel
theorem dyX1_nameTokens_115 : decode cX1_nameTokens 115 = .ok (.dup, 1) := by decide +kernel
theorem dyX1_nameTokens_116 : decode cX1_nameTokens 116 = .ok (.getfield 92, 3) := by decide +kernel
theorem dyX1_nameTokens_119 : decode cX1_nameTokens 119 = .ok (.iconst 1, 1) := by decide +kernel
theorem dyX1_nameTokens_120 : decode cX1_nameTokens 120 = .ok (.iadd, 1) := by decide +kernel
theorem dyX1_nameTokens_121 : decode cX1_nameTokens 121 = .ok (.putfield 92, 3) := by decide +kernel
theorem dyX1_nameTokens_124 : decode cX1_nameTokens 124 = .ok (.iinc 5 1, 3) := by decide +kernel
theorem dyX1_nameTokens_127 : decode cX1_nameTokens 127 = .ok (.goto (-113), 3) := by decide +kernel
theorem dyX1_nameTokens_130 : decode cX1_nameTokens 130 = .ok (.return_, 1) := by decide +kernel
theorem zsg_yX1_nameTokens : yX1_nameTokens.cls = RX1 ∧ yX1_nameTokens.cls ≠ "java/lang/invoke/MethodHandle" ∧ yX1_nameTokens.cls ≠ "java/lang/invoke/VarHandle" ∧ (parseMethodDescriptor yX1_nameTokens.desc).map (fun d => d.parameters.length) = some 3 := by decide +kernel
set_option maxRecDepth 20000 in
theorem c_Grower_nameTokens {l : Launch} {D : va_G} {B : Nat} {cA : Nat → ClassId} {ad : Nat → Nat} {S : List zC} (hS : zOkX S) {a1 : Nat} {a2 : Nat} {a3 : Int32} {I : zI} {K : zI → Prop} (ha1 : zIsMoment S a1) (ha2 : zIsMoment S a2) (h : w_Grower_nameTokens a1 a2 a3 I K) : Met l yX1_nameTokens (zws yX1_nameTokens cX1_nameTokens 7 none) (zrm 3 73) (zPc D B cA ad [.ref (B + 64), .ref (B + a1), .ref (B + a2), .int a3] S I) (zQc D B cA (zqV S K)) 0 0 (fun q => B ≤ q) := by
  refine zm_of (cc := cX1_nameTokens) (maxL := 7) (ret := none) (by decide +kernel) rfl (Nat.le_of_ble_eq_true rfl) trivial ?_
  intro p e s m args below meth c C _
  unfold w_Grower_nameTokens at h
  show zX p l e (zrm 3 73) s m args below meth c (MQ below (zQc D B cA (zqV S K)) args s 0 0 (fun q => B ≤ q)) D B cA 7 0 0 S I [(0, .ref (B + 64)), (1, .ref (B + a1)), (2, .ref (B + a2)), (3, .int a3)] [] 0
  refine zr_aload_n C dyX1_nameTokens_0 rfl 2 rfl ?_
  refine zg_1_47 C ha2 dyX1_nameTokens_1 ?_
  refine zr_astore C dyX1_nameTokens_4 (Nat.le_of_ble_eq_true rfl) (lv2 := [(4, .ref (B + (a2 + 3))), (0, .ref (B + 64)), (1, .ref (B + a1)), (2, .ref (B + a2)), (3, .int a3)]) rfl ?_
  refine zr_aload_n C dyX1_nameTokens_6 rfl 1 rfl ?_
  refine zr_iconst C dyX1_nameTokens_7 zc_i_0 ?_
  refine zp_1_92 C hS dyX1_nameTokens_8 ?_
  refine zn_mem C (fun I_1 eI_1 => ?_)
  replace h := h I_1 eI_1
  refine zr_iconst C dyX1_nameTokens_11 zc_i_0 ?_
  refine zr_istore C dyX1_nameTokens_12 (Nat.le_of_ble_eq_true rfl) (lv2 := [(5, .int 0), (4, .ref (B + (a2 + 3))), (0, .ref (B + 64)), (1, .ref (B + a1)), (2, .ref (B + a2)), (3, .int a3)]) rfl ?_
  refine zjn (h (fun (v5_2 : Int32) (I_3 : zI) => zX p l e (zrm 3 73) s m args below meth c (MQ below (zQc D B cA (zqV S K)) args s 0 0 (fun q => B ≤ q)) D B cA 7 0 0 S I_3 [(5, .int v5_2), (4, .ref (B + (a2 + 3))), (0, .ref (B + 64)), (1, .ref (B + a1)), (2, .ref (B + a2)), (3, .int a3)] [] 14) (fun v5_2 I_3 h => ?_)) (fun h => ?_)
  · refine zr_iload C dyX1_nameTokens_14 0 rfl ?_
    refine zr_aload_n C dyX1_nameTokens_16 rfl 2 rfl ?_
    refine zg_1_56 C hS dyX1_nameTokens_17 ?_
    refine zr_icmp_ge C dyX1_nameTokens_20 (tgt := 130) (by decide) (fun hc_18 => ?_) (fun hc_18 => ?_)
    · replace h := zif_pos hc_18 h
      exact zr_vret C rfl dyX1_nameTokens_130 ⟨rfl, rfl, h⟩
    · replace h := zif_neg hc_18 h
      refine zr_aload_n C dyX1_nameTokens_23 rfl 2 rfl ?_
      refine zr_iload C dyX1_nameTokens_24 0 rfl ?_
      refine zv_1_95 C hS (st := []) h ⟨Nat.le_of_ble_eq_true rfl, Nat.le_of_ble_eq_true rfl⟩ (Nat.le_of_ble_eq_true rfl) dyX1_nameTokens_26 (fun r_4 h => ?_)
      refine zr_istore C dyX1_nameTokens_29 (Nat.le_of_ble_eq_true rfl) (lv2 := [(6, .int r_4), (5, .int v5_2), (4, .ref (B + (a2 + 3))), (0, .ref (B + 64)), (1, .ref (B + a1)), (2, .ref (B + a2)), (3, .int a3)]) rfl ?_
      refine zr_iload C dyX1_nameTokens_31 0 rfl ?_
      refine zjn (h (fun (I_5 : zI) => zX p l e (zrm 3 73) s m args below meth c (MQ below (zQc D B cA (zqV S K)) args s 0 0 (fun q => B ≤ q)) D B cA 7 0 0 S I_5 [(5, .int v5_2), (4, .ref (B + (a2 + 3))), (0, .ref (B + 64)), (1, .ref (B + a1)), (2, .ref (B + a2)), (3, .int a3)] [] 124) (fun I_5 h => ?_)) (fun h => ?_)
      · refine zn_iinc C (fun v5_6 => [(5, .int v5_6), (4, .ref (B + (a2 + 3))), (0, .ref (B + 64)), (1, .ref (B + a1)), (2, .ref (B + a2)), (3, .int a3)]) dyX1_nameTokens_124 0 rfl zc_i_1 (Nat.le_of_ble_eq_true rfl) (fun _ => rfl) (fun v5_6 ev5_6 => ?_)
        replace h := h v5_6 ev5_6
        refine zr_goto C dyX1_nameTokens_127 (tgt := 14) (by decide) ?_
        exact h
      refine zr_if_lt C dyX1_nameTokens_33 (tgt := 57) (by decide) (fun hc_17 => ?_) (fun hc_17 => ?_)
      · replace h := zif_pos hc_17 h
        refine zr_aload_n C dyX1_nameTokens_57 rfl 5 rfl ?_
        refine zg_1_80 C ha2 dyX1_nameTokens_58 ?_
        refine zr_iload C dyX1_nameTokens_61 1 rfl ?_
        refine zr_aload_n C dyX1_nameTokens_63 rfl 3 rfl ?_
        refine zg_1_23 C hS dyX1_nameTokens_64 ?_
        refine zr_aload C dyX1_nameTokens_67 2 rfl ?_
        refine zg_1_102 C ha2.2.2.1 dyX1_nameTokens_69 ?_
        refine zr_iload C dyX1_nameTokens_72 1 rfl ?_
        refine zv_1_35 C hS ha2.2.2.1.2.1 (st := [.ref (B + 24), .int v5_2, .ref (B + (a2 + 14))]) h ⟨Nat.le_of_ble_eq_true rfl, Nat.le_of_ble_eq_true rfl⟩ (Nat.le_of_ble_eq_true rfl) dyX1_nameTokens_74 (fun r_7 h => ?_)
        refine zr_aload C dyX1_nameTokens_77 2 rfl ?_
        refine zg_1_105 C ha2.2.2.1 dyX1_nameTokens_79 ?_
        refine zr_iload C dyX1_nameTokens_82 1 rfl ?_
        refine zv_1_35 C hS ha2.2.2.1.2.2.2.1 (st := [.int r_7, .ref (B + 24), .int v5_2, .ref (B + (a2 + 14))]) h ⟨Nat.le_of_ble_eq_true rfl, Nat.le_of_ble_eq_true rfl⟩ (Nat.le_of_ble_eq_true rfl) dyX1_nameTokens_84 (fun r_8 h => ?_)
        refine zr_aload C dyX1_nameTokens_87 2 rfl ?_
        refine zg_1_108 C ha2.2.2.1 dyX1_nameTokens_89 ?_
        refine zr_iload C dyX1_nameTokens_92 1 rfl ?_
        refine zv_1_35 C hS ha2.2.2.1.2.2.2.2.1 (st := [.int r_8, .int r_7, .ref (B + 24), .int v5_2, .ref (B + (a2 + 14))]) h ⟨Nat.le_of_ble_eq_true rfl, Nat.le_of_ble_eq_true rfl⟩ (Nat.le_of_ble_eq_true rfl) dyX1_nameTokens_94 (fun r_9 h => ?_)
        refine zr_aload C dyX1_nameTokens_97 2 rfl ?_
        refine zg_1_111 C ha2.2.2.1 dyX1_nameTokens_99 ?_
        refine zr_iload C dyX1_nameTokens_102 1 rfl ?_
        refine zv_1_35 C hS ha2.2.2.1.2.2.2.2.2 (st := [.int r_9, .int r_8, .int r_7, .ref (B + 24), .int v5_2, .ref (B + (a2 + 14))]) h ⟨Nat.le_of_ble_eq_true rfl, Nat.le_of_ble_eq_true rfl⟩ (Nat.le_of_ble_eq_true rfl) dyX1_nameTokens_104 (fun r_10 h => ?_)
        refine zr_iload_n C dyX1_nameTokens_107 rfl 6 rfl ?_
        refine zv_1_114 C hS (st := [.int v5_2, .ref (B + (a2 + 14))]) h ⟨Nat.le_of_ble_eq_true rfl, Nat.le_of_ble_eq_true rfl⟩ (Nat.le_of_ble_eq_true rfl) dyX1_nameTokens_108 (fun r_11 I_12 h => ?_)
        refine zv_1_98 C hS ha2.2.2.2.1 (st := []) h ⟨Nat.le_of_ble_eq_true rfl, Nat.le_of_ble_eq_true rfl⟩ (Nat.le_of_ble_eq_true rfl) dyX1_nameTokens_111 (fun I_13 h => ?_)
        refine zr_aload_n C dyX1_nameTokens_114 rfl 3 rfl ?_
        refine zr_dup C dyX1_nameTokens_115 rfl ?_
        refine zg_1_92 C hS dyX1_nameTokens_116 ?_
        refine zr_iconst C dyX1_nameTokens_119 zc_i_1 ?_
        refine zr_iadd C dyX1_nameTokens_120 ?_
        refine zp_1_92 C hS dyX1_nameTokens_121 ?_
        refine zn_mem C (fun I_14 eI_14 => ?_)
        replace h := h I_14 eI_14
        refine zr_sub (lv2 := [(5, .int v5_2), (4, .ref (B + (a2 + 3))), (0, .ref (B + 64)), (1, .ref (B + a1)), (2, .ref (B + a2)), (3, .int a3)]) [1, 2, 3, 4, 5, 6] rfl ?_
        exact h
      · replace h := zif_neg hc_17 h
        refine zr_aload_n C dyX1_nameTokens_36 rfl 5 rfl ?_
        refine zg_1_80 C ha2 dyX1_nameTokens_37 ?_
        refine zr_iload C dyX1_nameTokens_40 1 rfl ?_
        refine zr_aload_n C dyX1_nameTokens_42 rfl 4 rfl ?_
        refine zg_1_80 C ha1 dyX1_nameTokens_43 ?_
        refine zr_iload C dyX1_nameTokens_46 0 rfl ?_
        refine zv_1_35 C hS ha1.2.2.2.1 (st := [.int v5_2, .ref (B + (a2 + 14))]) h ⟨Nat.le_of_ble_eq_true rfl, Nat.le_of_ble_eq_true rfl⟩ (Nat.le_of_ble_eq_true rfl) dyX1_nameTokens_48 (fun r_15 h => ?_)
        refine zv_1_98 C hS ha2.2.2.2.1 (st := []) h ⟨Nat.le_of_ble_eq_true rfl, Nat.le_of_ble_eq_true rfl⟩ (Nat.le_of_ble_eq_true rfl) dyX1_nameTokens_51 (fun I_16 h => ?_)
        refine zr_goto C dyX1_nameTokens_54 (tgt := 124) (by decide) ?_
        refine zr_sub (lv2 := [(5, .int v5_2), (4, .ref (B + (a2 + 3))), (0, .ref (B + 64)), (1, .ref (B + a1)), (2, .ref (B + a2)), (3, .int a3)]) [1, 2, 3, 4, 5, 6] rfl ?_
        exact h
  exact h
def w_Nodes_has (a1 : Int32) (I : zI) (K : Int32 → Prop) : Prop :=
  (if a1 < 0 then K 0 else (if (I.1 24 9) ≤ a1 then K 0 else K 1))
theorem dyX3_has_0 : decode cX3_has 0 = .ok (.iload_n 1, 1) := by decide +kernel
theorem dyX3_has_1 : decode cX3_has 1 = .ok (.ifCond .lt 15, 3) := by decide +kernel
theorem dyX3_has_4 : decode cX3_has 4 = .ok (.iload_n 1, 1) := by decide +kernel
theorem dyX3_has_5 : decode cX3_has 5 = .ok (.aload_n 0, 1) := by decide +kernel
theorem dyX3_has_6 : decode cX3_has 6 = .ok (.getfield 44, 3) := by decide +kernel
theorem dyX3_has_9 : decode cX3_has 9 = .ok (.if_icmp .ge 7, 3) := by decide +kernel
theorem dyX3_has_12 : decode cX3_has 12 = .ok (.iconst 1, 1) := by decide +kernel
theorem dyX3_has_13 : decode cX3_has 13 = .ok (.goto 4, 3) := by decide +kernel
theorem dyX3_has_16 : decode cX3_has 16 = .ok (.iconst 0, 1) := by decide +kernel
theorem dyX3_has_17 : decode cX3_has 17 = .ok (.ireturn, 1) := by decide +kernel
theorem zsg_yX3_has : yX3_has.cls = RX3 ∧ yX3_has.cls ≠ "java/lang/invoke/MethodHandle" ∧ yX3_has.cls ≠ "java/lang/invoke/VarHandle" ∧ (parseMethodDescriptor yX3_has.desc).map (fun d => d.parameters.length) = some 1 := by decide +kernel
set_option maxRecDepth 20000 in
theorem c_Nodes_has {l : Launch} {D : va_G} {B : Nat} {cA : Nat → ClassId} {ad : Nat → Nat} {S : List zC} (hS : zOkX S) {a1 : Int32} {I : zI} {K : Int32 → Prop}  (h : w_Nodes_has a1 I K) : Met l yX3_has (zws yX3_has cX3_has 2 (some .boolean)) (zrm 0 0) (zPc D B cA ad [.ref (B + 24), .int a1] S I) (zQc D B cA (zpI S I K)) 0 0 (fun q => B ≤ q) := by
  refine zm_of (cc := cX3_has) (maxL := 2) (ret := (some .boolean)) (by decide +kernel) rfl (Nat.le_of_ble_eq_true rfl) trivial ?_
  intro p e s m args below meth c C _
  unfold w_Nodes_has at h
  show zX p l e (zrm 0 0) s m args below meth c (MQ below (zQc D B cA (zpI S I K)) args s 0 0 (fun q => B ≤ q)) D B cA 2 0 0 S I [(0, .ref (B + 24)), (1, .int a1)] [] 0
  refine zr_iload_n C dyX3_has_0 rfl 1 rfl ?_
  refine zr_if_lt C dyX3_has_1 (tgt := 16) (by decide) (fun hc_2 => ?_) (fun hc_2 => ?_)
  · replace h := zif_pos hc_2 h
    refine zr_iconst C dyX3_has_16 zc_i_0 ?_
    exact zr_zret C rfl (zb.nar zb_0) dyX3_has_17 ⟨rfl, rfl, _, rfl, h⟩
  · replace h := zif_neg hc_2 h
    refine zr_iload_n C dyX3_has_4 rfl 1 rfl ?_
    refine zr_aload_n C dyX3_has_5 rfl 0 rfl ?_
    refine zg_3_44 C hS dyX3_has_6 ?_
    refine zr_icmp_ge C dyX3_has_9 (tgt := 16) (by decide) (fun hc_1 => ?_) (fun hc_1 => ?_)
    · replace h := zif_pos hc_1 h
      refine zr_iconst C dyX3_has_16 zc_i_0 ?_
      exact zr_zret C rfl (zb.nar zb_0) dyX3_has_17 ⟨rfl, rfl, _, rfl, h⟩
    · replace h := zif_neg hc_1 h
      refine zr_iconst C dyX3_has_12 zc_i_1 ?_
      refine zr_goto C dyX3_has_13 (tgt := 17) (by decide) ?_
      exact zr_zret C rfl (zb.nar zb_1) dyX3_has_17 ⟨rfl, rfl, _, rfl, h⟩
theorem zg_9_47 {p : Program} {l : Launch} {e : Env} {R : Room} {s : State} {m : MethodId} {args : Array Value} {below : List Frame} {meth : Method} {c : Code} {Q : State → Prop} {D : va_G} {B : Nat} {cA : Nat → ClassId} {ad : Nat → Nat} {cc : ByteArray} {nL : Nat} {ret : Option FieldType} {S : List zC} {I : zI} {lv : List (Nat × Value)} {st : List Value} {pc : Nat} (C : zCx p s m args meth c cc nL RX9 ret D B cA ad) (hS : zOkX S) (hd : decode cc pc = .ok (.getfield 47, 3)) (kk : zX p l e R s m args below meth c Q D B cA nL 0 0 S I lv (.ref (B + 24) :: st) (pc + 3)) : zX p l e R s m args below meth c Q D B cA nL 0 0 S I lv (.ref (B + 43) :: st) pc :=
  zr_getr C (ci := 9) (Cn := RX9) (T := TX9) (N := 16) (k := 43) (j := 0) (fs := [some (some 24), some (some 44), some (some 46), some (some 48), some (some 50), some (some 52), some (some 54), some (some 56), some (some 58), some (some 60), some (some 62), none, none, none, none, none]) rfl zin_9 (Nat.le_of_ble_eq_true rfl) rfl (hS _ _ zs_43) rfl zk_fl_9_47 hd kk
theorem zv_9_127 {p : Program} {l : Launch} {e : Env} {R : Room} {s : State} {m : MethodId} {args : Array Value} {below : List Frame} {meth : Method} {c : Code} {Q : State → Prop} {D : va_G} {B : Nat} {cA : Nat → ClassId} {ad : Nat → Nat} {cc : ByteArray} {nL : Nat} {ret : Option FieldType} {S : List zC} {I : zI} {lv : List (Nat × Value)} {st : List Value} {pc : Nat} (C : zCx p s m args meth c cc nL RX9 ret D B cA ad) {K : Int32 → Prop} {xa1 : Int32} (hS : zOkX S)  (h : w_Nodes_has xa1 I K) (hR : 0 + 1 ≤ R.frames ∧ 8 + (2 + 11) + (0) ≤ R.locals) (hw : (st.map fun v => v.category).sum ≤ 8) (hd : decode cc pc = .ok (.invokevirtual 127, 3)) (kk : ∀ v, K v → zX p l e R s m args below meth c Q D B cA nL 0 0 S I lv (.int v :: st) (pc + 3)) : zX p l e R s m args below meth c Q D B cA nL 0 0 S I lv (.int xa1 :: .ref (B + 24) :: st) pc :=
  have hf : 0 ≤ R.cells ∧ 0 ≤ R.slots := ⟨Nat.zero_le _, Nat.zero_le _⟩
  zc_VpI C (ci := 3) (q := (RX3, TX3, 10)) (k := 24) (fs := [some (some 25), some (some 27), some (some 29), some (some 31), some (some 33), some (some 35), some (some 37), some (some 39), some (some 41), none]) (As := [.int xa1]) (st := st) rfl (hS _ _ zs_24) (c_Nodes_has hS h) (zgV zk_ml_9_127 zk_im_yX3_has zk_se_yX3_has zk_in_3 zk_cd_yX3_has) zsg_yX3_has hR rfl rfl hw hd hf kk
theorem zg_9_20 {p : Program} {l : Launch} {e : Env} {R : Room} {s : State} {m : MethodId} {args : Array Value} {below : List Frame} {meth : Method} {c : Code} {Q : State → Prop} {D : va_G} {B : Nat} {cA : Nat → ClassId} {ad : Nat → Nat} {cc : ByteArray} {nL : Nat} {ret : Option FieldType} {S : List zC} {I : zI} {lv : List (Nat × Value)} {st : List Value} {pc : Nat} (C : zCx p s m args meth c cc nL RX9 ret D B cA ad) (hS : zOkX S) (hd : decode cc pc = .ok (.getfield 20, 3)) (kk : zX p l e R s m args below meth c Q D B cA nL 0 0 S I lv (.ref (B + 46) :: st) (pc + 3)) : zX p l e R s m args below meth c Q D B cA nL 0 0 S I lv (.ref (B + 43) :: st) pc :=
  zr_getr C (ci := 9) (Cn := RX9) (T := TX9) (N := 16) (k := 43) (j := 2) (fs := [some (some 24), some (some 44), some (some 46), some (some 48), some (some 50), some (some 52), some (some 54), some (some 56), some (some 58), some (some 60), some (some 62), none, none, none, none, none]) rfl zin_9 (Nat.le_of_ble_eq_true rfl) rfl (hS _ _ zs_43) rfl zk_fl_9_20 hd kk
theorem zv_9_74 {p : Program} {l : Launch} {e : Env} {R : Room} {s : State} {m : MethodId} {args : Array Value} {below : List Frame} {meth : Method} {c : Code} {Q : State → Prop} {D : va_G} {B : Nat} {cA : Nat → ClassId} {ad : Nat → Nat} {cc : ByteArray} {nL : Nat} {ret : Option FieldType} {S : List zC} {I : zI} {lv : List (Nat × Value)} {st : List Value} {pc : Nat} (C : zCx p s m args meth c cc nL RX9 ret D B cA ad) {K : Int32 → Prop} {xk : Nat} {xn : Nat} {xa1 : Int32} (hS : zOkX S) (xhk : zIsRow S xk xn) (h : w_Row_get xk xn xa1 I K) (hR : 0 + 1 ≤ R.frames ∧ 8 + (2 + 11) + (0) ≤ R.locals) (hw : (st.map fun v => v.category).sum ≤ 8) (hd : decode cc pc = .ok (.invokevirtual 74, 3)) (kk : ∀ v, K v → zX p l e R s m args below meth c Q D B cA nL 0 0 S I lv (.int v :: st) (pc + 3)) : zX p l e R s m args below meth c Q D B cA nL 0 0 S I lv (.int xa1 :: .ref (B + xk) :: st) pc :=
  have hf : 0 ≤ R.cells ∧ 0 ≤ R.slots := ⟨Nat.zero_le _, Nat.zero_le _⟩
  zc_VpI C (ci := 6) (q := (RX6, TX6, 1)) (k := xk) (fs := [some (some (xk + 1))]) (As := [.int xa1]) (st := st) rfl xhk.1 (c_Row_get hS xhk h) (zgV zk_ml_9_74 zk_im_yX6_get zk_se_yX6_get zk_in_6 zk_cd_yX6_get) zsg_yX6_get hR rfl rfl hw hd hf kk
theorem zg_9_67 {p : Program} {l : Launch} {e : Env} {R : Room} {s : State} {m : MethodId} {args : Array Value} {below : List Frame} {meth : Method} {c : Code} {Q : State → Prop} {D : va_G} {B : Nat} {cA : Nat → ClassId} {ad : Nat → Nat} {cc : ByteArray} {nL : Nat} {ret : Option FieldType} {S : List zC} {I : zI} {lv : List (Nat × Value)} {st : List Value} {pc : Nat} (C : zCx p s m args meth c cc nL RX9 ret D B cA ad) (hS : zOkX S) (hd : decode cc pc = .ok (.getfield 67, 3)) (kk : zX p l e R s m args below meth c Q D B cA nL 0 0 S I lv (.int (I.1 43 12) :: st) (pc + 3)) : zX p l e R s m args below meth c Q D B cA nL 0 0 S I lv (.ref (B + 43) :: st) pc :=
  zr_geti C (ci := 9) (Cn := RX9) (T := TX9) (N := 16) (k := 43) (j := 12) (fs := [some (some 24), some (some 44), some (some 46), some (some 48), some (some 50), some (some 52), some (some 54), some (some 56), some (some 58), some (some 60), some (some 62), none, none, none, none, none]) rfl zin_9 (Nat.le_of_ble_eq_true rfl) rfl (hS _ _ zs_43) rfl zk_fl_9_67 hd kk
theorem zg_9_14 {p : Program} {l : Launch} {e : Env} {R : Room} {s : State} {m : MethodId} {args : Array Value} {below : List Frame} {meth : Method} {c : Code} {Q : State → Prop} {D : va_G} {B : Nat} {cA : Nat → ClassId} {ad : Nat → Nat} {cc : ByteArray} {nL : Nat} {ret : Option FieldType} {S : List zC} {I : zI} {lv : List (Nat × Value)} {st : List Value} {pc : Nat} (C : zCx p s m args meth c cc nL RX9 ret D B cA ad) (hS : zOkX S) (hd : decode cc pc = .ok (.getfield 14, 3)) (kk : zX p l e R s m args below meth c Q D B cA nL 0 0 S I lv (.ref (B + 44) :: st) (pc + 3)) : zX p l e R s m args below meth c Q D B cA nL 0 0 S I lv (.ref (B + 43) :: st) pc :=
  zr_getr C (ci := 9) (Cn := RX9) (T := TX9) (N := 16) (k := 43) (j := 1) (fs := [some (some 24), some (some 44), some (some 46), some (some 48), some (some 50), some (some 52), some (some 54), some (some 56), some (some 58), some (some 60), some (some 62), none, none, none, none, none]) rfl zin_9 (Nat.le_of_ble_eq_true rfl) rfl (hS _ _ zs_43) rfl zk_fl_9_14 hd kk
def w_TreeView_holds (a1 : Int32) (I : zI) (K : Int32 → Prop) : Prop :=
  w_Nodes_has a1 I (fun r_1 => (if r_1 = 0 then K 0 else (w_Row_get 46 3400 a1 I (fun r_2 => (if (I.1 43 12) ≤ r_2 then K 0 else (w_Row_get 44 400 r_2 I (fun r_3 => (if r_3 = a1 then K 1 else K 0))))))))
theorem dyX9_holds_0 : decode cX9_holds 0 = .ok (.aload_n 0, 1) := by decide +kernel
theorem dyX9_holds_1 : decode cX9_holds 1 = .ok (.getfield 47, 3) := by decide +kernel
theorem dyX9_holds_4 : decode cX9_holds 4 = .ok (.iload_n 1, 1) := by decide +kernel
theorem dyX9_holds_5 : decode cX9_holds 5 = .ok (.invokevirtual 127, 3) := by decide +kernel
theorem dyX9_holds_8 : decode cX9_holds 8 = .ok (.ifCond .ne 5, 3) := by decide +kernel
theorem dyX9_holds_11 : decode cX9_holds 11 = .ok (.iconst 0, 1) := by decide +kernel
theorem dyX9_holds_12 : decode cX9_holds 12 = .ok (.ireturn, 1) := by decide +kernel
theorem dyX9_holds_13 : decode cX9_holds 13 = .ok (.aload_n 0, 1) := by decide +kernel
theorem dyX9_holds_14 : decode cX9_holds 14 = .ok (.getfield 20, 3) := by decide +kernel
theorem dyX9_holds_17 : decode cX9_holds 17 = .ok (.iload_n 1, 1) := by decide +kernel
theorem dyX9_holds_18 : decode cX9_holds 18 = .ok (.invokevirtual 74, 3) := by decide +kernel
theorem dyX9_holds_21 : decode cX9_holds 21 = .ok (.istore_n 2, 1) := by decide +kernel
theorem dyX9_holds_22 : decode cX9_holds 22 = .ok (.iload_n 2, 1) := by decide +kernel
theorem dyX9_holds_23 : decode cX9_holds 23 = .ok (.aload_n 0, 1) := by decide +kernel
theorem dyX9_holds_24 : decode cX9_holds 24 = .ok (.getfield 67, 3) := by decide +kernel
theorem dyX9_holds_27 : decode cX9_holds 27 = .ok (.if_icmp .ge 19, 3) := by decide +kernel
theorem dyX9_holds_30 : decode cX9_holds 30 = .ok (.aload_n 0, 1) := by decide +kernel
theorem dyX9_holds_31 : decode cX9_holds 31 = .ok (.getfield 14, 3) := by decide +kernel
theorem dyX9_holds_34 : decode cX9_holds 34 = .ok (.iload_n 2, 1) := by decide +kernel
theorem dyX9_holds_35 : decode cX9_holds 35 = .ok (.invokevirtual 74, 3) := by decide +kernel
theorem dyX9_holds_38 : decode cX9_holds 38 = .ok (.iload_n 1, 1) := by decide +kernel
theorem dyX9_holds_39 : decode cX9_holds 39 = .ok (.if_icmp .ne 7, 3) := by decide +kernel
theorem dyX9_holds_42 : decode cX9_holds 42 = .ok (.iconst 1, 1) := by decide +kernel
theorem dyX9_holds_43 : decode cX9_holds 43 = .ok (.goto 4, 3) := by decide +kernel
theorem dyX9_holds_46 : decode cX9_holds 46 = .ok (.iconst 0, 1) := by decide +kernel
theorem dyX9_holds_47 : decode cX9_holds 47 = .ok (.ireturn, 1) := by decide +kernel
theorem zsg_yX9_holds : yX9_holds.cls = RX9 ∧ yX9_holds.cls ≠ "java/lang/invoke/MethodHandle" ∧ yX9_holds.cls ≠ "java/lang/invoke/VarHandle" ∧ (parseMethodDescriptor yX9_holds.desc).map (fun d => d.parameters.length) = some 1 := by decide +kernel
set_option maxRecDepth 20000 in
theorem c_TreeView_holds {l : Launch} {D : va_G} {B : Nat} {cA : Nat → ClassId} {ad : Nat → Nat} {S : List zC} (hS : zOkX S) {a1 : Int32} {I : zI} {K : Int32 → Prop}  (h : w_TreeView_holds a1 I K) : Met l yX9_holds (zws yX9_holds cX9_holds 3 (some .boolean)) (zrm 1 21) (zPc D B cA ad [.ref (B + 43), .int a1] S I) (zQc D B cA (zpI S I K)) 0 0 (fun q => B ≤ q) := by
  refine zm_of (cc := cX9_holds) (maxL := 3) (ret := (some .boolean)) (by decide +kernel) rfl (Nat.le_of_ble_eq_true rfl) trivial ?_
  intro p e s m args below meth c C _
  unfold w_TreeView_holds at h
  show zX p l e (zrm 1 21) s m args below meth c (MQ below (zQc D B cA (zpI S I K)) args s 0 0 (fun q => B ≤ q)) D B cA 3 0 0 S I [(0, .ref (B + 43)), (1, .int a1)] [] 0
  refine zr_aload_n C dyX9_holds_0 rfl 0 rfl ?_
  refine zg_9_47 C hS dyX9_holds_1 ?_
  refine zr_iload_n C dyX9_holds_4 rfl 1 rfl ?_
  refine zv_9_127 C hS (st := []) h ⟨Nat.le_of_ble_eq_true rfl, Nat.le_of_ble_eq_true rfl⟩ (Nat.le_of_ble_eq_true rfl) dyX9_holds_5 (fun r_1 h => ?_)
  refine zr_if_ne C dyX9_holds_8 (tgt := 13) (by decide) (fun hc_6 => ?_) (fun hc_6 => ?_)
  · replace h := zif_neg hc_6 h
    refine zr_aload_n C dyX9_holds_13 rfl 0 rfl ?_
    refine zg_9_20 C hS dyX9_holds_14 ?_
    refine zr_iload_n C dyX9_holds_17 rfl 1 rfl ?_
    refine zv_9_74 C hS (zIsRow.of hS zir_46) (st := []) h ⟨Nat.le_of_ble_eq_true rfl, Nat.le_of_ble_eq_true rfl⟩ (Nat.le_of_ble_eq_true rfl) dyX9_holds_18 (fun r_2 h => ?_)
    refine zr_istore_n C dyX9_holds_21 rfl (Nat.le_of_ble_eq_true rfl) (lv2 := [(2, .int r_2), (0, .ref (B + 43)), (1, .int a1)]) rfl ?_
    refine zr_iload_n C dyX9_holds_22 rfl 0 rfl ?_
    refine zr_aload_n C dyX9_holds_23 rfl 1 rfl ?_
    refine zg_9_67 C hS dyX9_holds_24 ?_
    refine zr_icmp_ge C dyX9_holds_27 (tgt := 46) (by decide) (fun hc_5 => ?_) (fun hc_5 => ?_)
    · replace h := zif_pos hc_5 h
      refine zr_iconst C dyX9_holds_46 zc_i_0 ?_
      exact zr_zret C rfl (zb.nar zb_0) dyX9_holds_47 ⟨rfl, rfl, _, rfl, h⟩
    · replace h := zif_neg hc_5 h
      refine zr_aload_n C dyX9_holds_30 rfl 1 rfl ?_
      refine zg_9_14 C hS dyX9_holds_31 ?_
      refine zr_iload_n C dyX9_holds_34 rfl 0 rfl ?_
      refine zv_9_74 C hS (zIsRow.of hS zir_44) (st := []) h ⟨Nat.le_of_ble_eq_true rfl, Nat.le_of_ble_eq_true rfl⟩ (Nat.le_of_ble_eq_true rfl) dyX9_holds_35 (fun r_3 h => ?_)
      refine zr_iload_n C dyX9_holds_38 rfl 2 rfl ?_
      refine zr_icmp_ne C dyX9_holds_39 (tgt := 46) (by decide) (fun hc_4 => ?_) (fun hc_4 => ?_)
      · replace h := zif_neg hc_4 h
        refine zr_iconst C dyX9_holds_46 zc_i_0 ?_
        exact zr_zret C rfl (zb.nar zb_0) dyX9_holds_47 ⟨rfl, rfl, _, rfl, h⟩
      · replace h := zif_pos hc_4 h
        refine zr_iconst C dyX9_holds_42 zc_i_1 ?_
        refine zr_goto C dyX9_holds_43 (tgt := 47) (by decide) ?_
        exact zr_zret C rfl (zb.nar zb_1) dyX9_holds_47 ⟨rfl, rfl, _, rfl, h⟩
  · replace h := zif_pos hc_6 h
    refine zr_iconst C dyX9_holds_11 zc_i_0 ?_
    exact zr_zret C rfl (zb.nar zb_0) dyX9_holds_12 ⟨rfl, rfl, _, rfl, h⟩
theorem zv_9_130 {p : Program} {l : Launch} {e : Env} {R : Room} {s : State} {m : MethodId} {args : Array Value} {below : List Frame} {meth : Method} {c : Code} {Q : State → Prop} {D : va_G} {B : Nat} {cA : Nat → ClassId} {ad : Nat → Nat} {cc : ByteArray} {nL : Nat} {ret : Option FieldType} {S : List zC} {I : zI} {lv : List (Nat × Value)} {st : List Value} {pc : Nat} (C : zCx p s m args meth c cc nL RX9 ret D B cA ad) {K : Int32 → Prop} {xa1 : Int32} (hS : zOkX S)  (h : w_TreeView_holds xa1 I K) (hR : 1 + 1 ≤ R.frames ∧ 8 + (3 + 11) + (21) ≤ R.locals) (hw : (st.map fun v => v.category).sum ≤ 8) (hd : decode cc pc = .ok (.invokevirtual 130, 3)) (kk : ∀ v, K v → zX p l e R s m args below meth c Q D B cA nL 0 0 S I lv (.int v :: st) (pc + 3)) : zX p l e R s m args below meth c Q D B cA nL 0 0 S I lv (.int xa1 :: .ref (B + 43) :: st) pc :=
  have hf : 0 ≤ R.cells ∧ 0 ≤ R.slots := ⟨Nat.zero_le _, Nat.zero_le _⟩
  zc_VpI C (ci := 9) (q := (RX9, TX9, 16)) (k := 43) (fs := [some (some 24), some (some 44), some (some 46), some (some 48), some (some 50), some (some 52), some (some 54), some (some 56), some (some 58), some (some 60), some (some 62), none, none, none, none, none]) (As := [.int xa1]) (st := st) rfl (hS _ _ zs_43) (c_TreeView_holds hS h) (zgV zk_ml_9_130 zk_im_yX9_holds zk_se_yX9_holds zk_in_9 zk_cd_yX9_holds) zsg_yX9_holds hR rfl rfl hw hd hf kk
theorem zg_9_57 {p : Program} {l : Launch} {e : Env} {R : Room} {s : State} {m : MethodId} {args : Array Value} {below : List Frame} {meth : Method} {c : Code} {Q : State → Prop} {D : va_G} {B : Nat} {cA : Nat → ClassId} {ad : Nat → Nat} {cc : ByteArray} {nL : Nat} {ret : Option FieldType} {S : List zC} {I : zI} {lv : List (Nat × Value)} {st : List Value} {pc : Nat} (C : zCx p s m args meth c cc nL RX9 ret D B cA ad) (hS : zOkX S) (hd : decode cc pc = .ok (.getfield 57, 3)) (kk : zX p l e R s m args below meth c Q D B cA nL 0 0 S I lv (.int (I.1 43 13) :: st) (pc + 3)) : zX p l e R s m args below meth c Q D B cA nL 0 0 S I lv (.ref (B + 43) :: st) pc :=
  zr_geti C (ci := 9) (Cn := RX9) (T := TX9) (N := 16) (k := 43) (j := 13) (fs := [some (some 24), some (some 44), some (some 46), some (some 48), some (some 50), some (some 52), some (some 54), some (some 56), some (some 58), some (some 60), some (some 62), none, none, none, none, none]) rfl zin_9 (Nat.le_of_ble_eq_true rfl) rfl (hS _ _ zs_43) rfl zk_fl_9_57 hd kk
theorem zg_9_23 {p : Program} {l : Launch} {e : Env} {R : Room} {s : State} {m : MethodId} {args : Array Value} {below : List Frame} {meth : Method} {c : Code} {Q : State → Prop} {D : va_G} {B : Nat} {cA : Nat → ClassId} {ad : Nat → Nat} {cc : ByteArray} {nL : Nat} {ret : Option FieldType} {S : List zC} {I : zI} {lv : List (Nat × Value)} {st : List Value} {pc : Nat} (C : zCx p s m args meth c cc nL RX9 ret D B cA ad) (hS : zOkX S) (hd : decode cc pc = .ok (.getfield 23, 3)) (kk : zX p l e R s m args below meth c Q D B cA nL 0 0 S I lv (.ref (B + 48) :: st) (pc + 3)) : zX p l e R s m args below meth c Q D B cA nL 0 0 S I lv (.ref (B + 43) :: st) pc :=
  zr_getr C (ci := 9) (Cn := RX9) (T := TX9) (N := 16) (k := 43) (j := 3) (fs := [some (some 24), some (some 44), some (some 46), some (some 48), some (some 50), some (some 52), some (some 54), some (some 56), some (some 58), some (some 60), some (some 62), none, none, none, none, none]) rfl zin_9 (Nat.le_of_ble_eq_true rfl) rfl (hS _ _ zs_43) rfl zk_fl_9_23 hd kk
def w_TreeView_parentOf (a1 : Int32) (I : zI) (K : Int32 → Prop) : Prop :=
  w_TreeView_holds a1 I (fun r_1 => (if r_1 = 0 then (K (-2)) else (if a1 = (I.1 43 13) then (K (-2)) else (w_Row_get 46 3400 a1 I (fun r_2 => w_Row_get 48 400 r_2 I (fun r_3 => w_Row_get 44 400 r_3 I (fun r_4 => K r_4)))))))
theorem dyX9_parentOf_0 : decode cX9_parentOf 0 = .ok (.aload_n 0, 1) := by decide +kernel
theorem dyX9_parentOf_1 : decode cX9_parentOf 1 = .ok (.iload_n 1, 1) := by decide +kernel
theorem dyX9_parentOf_2 : decode cX9_parentOf 2 = .ok (.invokevirtual 130, 3) := by decide +kernel
theorem dyX9_parentOf_5 : decode cX9_parentOf 5 = .ok (.ifCond .eq 11, 3) := by decide +kernel
theorem dyX9_parentOf_8 : decode cX9_parentOf 8 = .ok (.iload_n 1, 1) := by decide +kernel
theorem dyX9_parentOf_9 : decode cX9_parentOf 9 = .ok (.aload_n 0, 1) := by decide +kernel
theorem dyX9_parentOf_10 : decode cX9_parentOf 10 = .ok (.getfield 57, 3) := by decide +kernel
theorem dyX9_parentOf_13 : decode cX9_parentOf 13 = .ok (.if_icmp .ne 6, 3) := by decide +kernel
theorem dyX9_parentOf_16 : decode cX9_parentOf 16 = .ok (.bipush (-2), 2) := by decide +kernel
theorem dyX9_parentOf_18 : decode cX9_parentOf 18 = .ok (.ireturn, 1) := by decide +kernel
theorem dyX9_parentOf_19 : decode cX9_parentOf 19 = .ok (.aload_n 0, 1) := by decide +kernel
theorem dyX9_parentOf_20 : decode cX9_parentOf 20 = .ok (.getfield 14, 3) := by decide +kernel
theorem dyX9_parentOf_23 : decode cX9_parentOf 23 = .ok (.aload_n 0, 1) := by decide +kernel
theorem dyX9_parentOf_24 : decode cX9_parentOf 24 = .ok (.getfield 23, 3) := by decide +kernel
theorem dyX9_parentOf_27 : decode cX9_parentOf 27 = .ok (.aload_n 0, 1) := by decide +kernel
theorem dyX9_parentOf_28 : decode cX9_parentOf 28 = .ok (.getfield 20, 3) := by decide +kernel
theorem dyX9_parentOf_31 : decode cX9_parentOf 31 = .ok (.iload_n 1, 1) := by decide +kernel
theorem dyX9_parentOf_32 : decode cX9_parentOf 32 = .ok (.invokevirtual 74, 3) := by decide +kernel
theorem dyX9_parentOf_35 : decode cX9_parentOf 35 = .ok (.invokevirtual 74, 3) := by decide +kernel
theorem dyX9_parentOf_38 : decode cX9_parentOf 38 = .ok (.invokevirtual 74, 3) := by decide +kernel
theorem dyX9_parentOf_41 : decode cX9_parentOf 41 = .ok (.ireturn, 1) := by decide +kernel
theorem zsg_yX9_parentOf : yX9_parentOf.cls = RX9 ∧ yX9_parentOf.cls ≠ "java/lang/invoke/MethodHandle" ∧ yX9_parentOf.cls ≠ "java/lang/invoke/VarHandle" ∧ (parseMethodDescriptor yX9_parentOf.desc).map (fun d => d.parameters.length) = some 1 := by decide +kernel
set_option maxRecDepth 20000 in
theorem c_TreeView_parentOf {l : Launch} {D : va_G} {B : Nat} {cA : Nat → ClassId} {ad : Nat → Nat} {S : List zC} (hS : zOkX S) {a1 : Int32} {I : zI} {K : Int32 → Prop}  (h : w_TreeView_parentOf a1 I K) : Met l yX9_parentOf (zws yX9_parentOf cX9_parentOf 2 (some .int)) (zrm 2 43) (zPc D B cA ad [.ref (B + 43), .int a1] S I) (zQc D B cA (zpI S I K)) 0 0 (fun q => B ≤ q) := by
  refine zm_of (cc := cX9_parentOf) (maxL := 2) (ret := (some .int)) (by decide +kernel) rfl (Nat.le_of_ble_eq_true rfl) trivial ?_
  intro p e s m args below meth c C _
  unfold w_TreeView_parentOf at h
  show zX p l e (zrm 2 43) s m args below meth c (MQ below (zQc D B cA (zpI S I K)) args s 0 0 (fun q => B ≤ q)) D B cA 2 0 0 S I [(0, .ref (B + 43)), (1, .int a1)] [] 0
  refine zr_aload_n C dyX9_parentOf_0 rfl 0 rfl ?_
  refine zr_iload_n C dyX9_parentOf_1 rfl 1 rfl ?_
  refine zv_9_130 C hS (st := []) h ⟨Nat.le_of_ble_eq_true rfl, Nat.le_of_ble_eq_true rfl⟩ (Nat.le_of_ble_eq_true rfl) dyX9_parentOf_2 (fun r_1 h => ?_)
  refine zr_if_eq C dyX9_parentOf_5 (tgt := 16) (by decide) (fun hc_6 => ?_) (fun hc_6 => ?_)
  · replace h := zif_pos hc_6 h
    refine zr_bipush C dyX9_parentOf_16 zc_b_m2 ?_
    exact zr_iret C rfl dyX9_parentOf_18 ⟨rfl, rfl, _, rfl, h⟩
  · replace h := zif_neg hc_6 h
    refine zr_iload_n C dyX9_parentOf_8 rfl 1 rfl ?_
    refine zr_aload_n C dyX9_parentOf_9 rfl 0 rfl ?_
    refine zg_9_57 C hS dyX9_parentOf_10 ?_
    refine zr_icmp_ne C dyX9_parentOf_13 (tgt := 19) (by decide) (fun hc_5 => ?_) (fun hc_5 => ?_)
    · replace h := zif_neg hc_5 h
      refine zr_aload_n C dyX9_parentOf_19 rfl 0 rfl ?_
      refine zg_9_14 C hS dyX9_parentOf_20 ?_
      refine zr_aload_n C dyX9_parentOf_23 rfl 0 rfl ?_
      refine zg_9_23 C hS dyX9_parentOf_24 ?_
      refine zr_aload_n C dyX9_parentOf_27 rfl 0 rfl ?_
      refine zg_9_20 C hS dyX9_parentOf_28 ?_
      refine zr_iload_n C dyX9_parentOf_31 rfl 1 rfl ?_
      refine zv_9_74 C hS (zIsRow.of hS zir_46) (st := [.ref (B + 48), .ref (B + 44)]) h ⟨Nat.le_of_ble_eq_true rfl, Nat.le_of_ble_eq_true rfl⟩ (Nat.le_of_ble_eq_true rfl) dyX9_parentOf_32 (fun r_2 h => ?_)
      refine zv_9_74 C hS (zIsRow.of hS zir_48) (st := [.ref (B + 44)]) h ⟨Nat.le_of_ble_eq_true rfl, Nat.le_of_ble_eq_true rfl⟩ (Nat.le_of_ble_eq_true rfl) dyX9_parentOf_35 (fun r_3 h => ?_)
      refine zv_9_74 C hS (zIsRow.of hS zir_44) (st := []) h ⟨Nat.le_of_ble_eq_true rfl, Nat.le_of_ble_eq_true rfl⟩ (Nat.le_of_ble_eq_true rfl) dyX9_parentOf_38 (fun r_4 h => ?_)
      exact zr_iret C rfl dyX9_parentOf_41 ⟨rfl, rfl, _, rfl, h⟩
    · replace h := zif_pos hc_5 h
      refine zr_bipush C dyX9_parentOf_16 zc_b_m2 ?_
      exact zr_iret C rfl dyX9_parentOf_18 ⟨rfl, rfl, _, rfl, h⟩
theorem zg_9_26 {p : Program} {l : Launch} {e : Env} {R : Room} {s : State} {m : MethodId} {args : Array Value} {below : List Frame} {meth : Method} {c : Code} {Q : State → Prop} {D : va_G} {B : Nat} {cA : Nat → ClassId} {ad : Nat → Nat} {cc : ByteArray} {nL : Nat} {ret : Option FieldType} {S : List zC} {I : zI} {lv : List (Nat × Value)} {st : List Value} {pc : Nat} (C : zCx p s m args meth c cc nL RX9 ret D B cA ad) (hS : zOkX S) (hd : decode cc pc = .ok (.getfield 26, 3)) (kk : zX p l e R s m args below meth c Q D B cA nL 0 0 S I lv (.ref (B + 50) :: st) (pc + 3)) : zX p l e R s m args below meth c Q D B cA nL 0 0 S I lv (.ref (B + 43) :: st) pc :=
  zr_getr C (ci := 9) (Cn := RX9) (T := TX9) (N := 16) (k := 43) (j := 4) (fs := [some (some 24), some (some 44), some (some 46), some (some 48), some (some 50), some (some 52), some (some 54), some (some 56), some (some 58), some (some 60), some (some 62), none, none, none, none, none]) rfl zin_9 (Nat.le_of_ble_eq_true rfl) rfl (hS _ _ zs_43) rfl zk_fl_9_26 hd kk
def w_TreeView_firstOf (a1 : Int32) (I : zI) (K : Int32 → Prop) : Prop :=
  w_TreeView_holds a1 I (fun r_1 => (if r_1 = 0 then (K (-2)) else (w_Row_get 46 3400 a1 I (fun r_2 => w_Row_get 50 400 r_2 I (fun r_3 => K r_3)))))
theorem dyX9_firstOf_0 : decode cX9_firstOf 0 = .ok (.aload_n 0, 1) := by decide +kernel
theorem dyX9_firstOf_1 : decode cX9_firstOf 1 = .ok (.iload_n 1, 1) := by decide +kernel
theorem dyX9_firstOf_2 : decode cX9_firstOf 2 = .ok (.invokevirtual 130, 3) := by decide +kernel
theorem dyX9_firstOf_5 : decode cX9_firstOf 5 = .ok (.ifCond .eq 21, 3) := by decide +kernel
theorem dyX9_firstOf_8 : decode cX9_firstOf 8 = .ok (.aload_n 0, 1) := by decide +kernel
theorem dyX9_firstOf_9 : decode cX9_firstOf 9 = .ok (.getfield 26, 3) := by decide +kernel
theorem dyX9_firstOf_12 : decode cX9_firstOf 12 = .ok (.aload_n 0, 1) := by decide +kernel
theorem dyX9_firstOf_13 : decode cX9_firstOf 13 = .ok (.getfield 20, 3) := by decide +kernel
theorem dyX9_firstOf_16 : decode cX9_firstOf 16 = .ok (.iload_n 1, 1) := by decide +kernel
theorem dyX9_firstOf_17 : decode cX9_firstOf 17 = .ok (.invokevirtual 74, 3) := by decide +kernel
theorem dyX9_firstOf_20 : decode cX9_firstOf 20 = .ok (.invokevirtual 74, 3) := by decide +kernel
theorem dyX9_firstOf_23 : decode cX9_firstOf 23 = .ok (.goto 5, 3) := by decide +kernel
theorem dyX9_firstOf_26 : decode cX9_firstOf 26 = .ok (.bipush (-2), 2) := by decide +kernel
theorem dyX9_firstOf_28 : decode cX9_firstOf 28 = .ok (.ireturn, 1) := by decide +kernel
theorem zsg_yX9_firstOf : yX9_firstOf.cls = RX9 ∧ yX9_firstOf.cls ≠ "java/lang/invoke/MethodHandle" ∧ yX9_firstOf.cls ≠ "java/lang/invoke/VarHandle" ∧ (parseMethodDescriptor yX9_firstOf.desc).map (fun d => d.parameters.length) = some 1 := by decide +kernel
set_option maxRecDepth 20000 in
theorem c_TreeView_firstOf {l : Launch} {D : va_G} {B : Nat} {cA : Nat → ClassId} {ad : Nat → Nat} {S : List zC} (hS : zOkX S) {a1 : Int32} {I : zI} {K : Int32 → Prop}  (h : w_TreeView_firstOf a1 I K) : Met l yX9_firstOf (zws yX9_firstOf cX9_firstOf 2 (some .int)) (zrm 2 43) (zPc D B cA ad [.ref (B + 43), .int a1] S I) (zQc D B cA (zpI S I K)) 0 0 (fun q => B ≤ q) := by
  refine zm_of (cc := cX9_firstOf) (maxL := 2) (ret := (some .int)) (by decide +kernel) rfl (Nat.le_of_ble_eq_true rfl) trivial ?_
  intro p e s m args below meth c C _
  unfold w_TreeView_firstOf at h
  show zX p l e (zrm 2 43) s m args below meth c (MQ below (zQc D B cA (zpI S I K)) args s 0 0 (fun q => B ≤ q)) D B cA 2 0 0 S I [(0, .ref (B + 43)), (1, .int a1)] [] 0
  refine zr_aload_n C dyX9_firstOf_0 rfl 0 rfl ?_
  refine zr_iload_n C dyX9_firstOf_1 rfl 1 rfl ?_
  refine zv_9_130 C hS (st := []) h ⟨Nat.le_of_ble_eq_true rfl, Nat.le_of_ble_eq_true rfl⟩ (Nat.le_of_ble_eq_true rfl) dyX9_firstOf_2 (fun r_1 h => ?_)
  refine zr_if_eq C dyX9_firstOf_5 (tgt := 26) (by decide) (fun hc_4 => ?_) (fun hc_4 => ?_)
  · replace h := zif_pos hc_4 h
    refine zr_bipush C dyX9_firstOf_26 zc_b_m2 ?_
    exact zr_iret C rfl dyX9_firstOf_28 ⟨rfl, rfl, _, rfl, h⟩
  · replace h := zif_neg hc_4 h
    refine zr_aload_n C dyX9_firstOf_8 rfl 0 rfl ?_
    refine zg_9_26 C hS dyX9_firstOf_9 ?_
    refine zr_aload_n C dyX9_firstOf_12 rfl 0 rfl ?_
    refine zg_9_20 C hS dyX9_firstOf_13 ?_
    refine zr_iload_n C dyX9_firstOf_16 rfl 1 rfl ?_
    refine zv_9_74 C hS (zIsRow.of hS zir_46) (st := [.ref (B + 50)]) h ⟨Nat.le_of_ble_eq_true rfl, Nat.le_of_ble_eq_true rfl⟩ (Nat.le_of_ble_eq_true rfl) dyX9_firstOf_17 (fun r_2 h => ?_)
    refine zv_9_74 C hS (zIsRow.of hS zir_50) (st := []) h ⟨Nat.le_of_ble_eq_true rfl, Nat.le_of_ble_eq_true rfl⟩ (Nat.le_of_ble_eq_true rfl) dyX9_firstOf_20 (fun r_3 h => ?_)
    refine zr_goto C dyX9_firstOf_23 (tgt := 28) (by decide) ?_
    exact zr_iret C rfl dyX9_firstOf_28 ⟨rfl, rfl, _, rfl, h⟩
def w_Grower_isSound (a1 : Int32) (a2 : Int32) (I : zI) (K : Int32 → Prop) : Prop :=
  ∀ (P32 : Int32 → Prop), (∀ (t_1 : Int32), ((if (a1 + a2) < (I.1 64 7) then K 1 else (if ((I.1 64 5) - (I.1 64 8)) ≤ a1 then K 1 else (if t_1 = 0 then K 0 else K 1)))) → P32 t_1) → ∀ (P31 : Prop), ((P32 0) → P31) → (if ((I.1 64 7) + (I.1 64 8)) = (I.1 64 5) then (if (I.1 64 5) = (I.1 64 6) then P32 1 else P31) else P31)
theorem dyX1_isSound_0 : decode cX1_isSound 0 = .ok (.aload_n 0, 1) := by decide +kernel
theorem dyX1_isSound_1 : decode cX1_isSound 1 = .ok (.getfield 77, 3) := by decide +kernel
theorem dyX1_isSound_4 : decode cX1_isSound 4 = .ok (.aload_n 0, 1) := by decide +kernel
theorem dyX1_isSound_5 : decode cX1_isSound 5 = .ok (.getfield 89, 3) := by decide +kernel
theorem dyX1_isSound_8 : decode cX1_isSound 8 = .ok (.iadd, 1) := by decide +kernel
theorem dyX1_isSound_9 : decode cX1_isSound 9 = .ok (.aload_n 0, 1) := by decide +kernel
theorem dyX1_isSound_10 : decode cX1_isSound 10 = .ok (.getfield 44, 3) := by decide +kernel
theorem dyX1_isSound_13 : decode cX1_isSound 13 = .ok (.if_icmp .ne 18, 3) := by decide +kernel
theorem dyX1_isSound_16 : decode cX1_isSound 16 = .ok (.aload_n 0, 1) := by decide +kernel
theorem dyX1_isSound_17 : decode cX1_isSound 17 = .ok (.getfield 44, 3) := by decide +kernel
theorem dyX1_isSound_20 : decode cX1_isSound 20 = .ok (.aload_n 0, 1) := by decide +kernel
theorem dyX1_isSound_21 : decode cX1_isSound 21 = .ok (.getfield 56, 3) := by decide +kernel
theorem dyX1_isSound_24 : decode cX1_isSound 24 = .ok (.if_icmp .ne 7, 3) := by decide +kernel
theorem dyX1_isSound_27 : decode cX1_isSound 27 = .ok (.iconst 1, 1) := by decide +kernel
theorem dyX1_isSound_28 : decode cX1_isSound 28 = .ok (.goto 4, 3) := by decide +kernel
theorem dyX1_isSound_31 : decode cX1_isSound 31 = .ok (.iconst 0, 1) := by decide +kernel
theorem dyX1_isSound_32 : decode cX1_isSound 32 = .ok (.istore_n 3, 1) := by decide +kernel
theorem dyX1_isSound_33 : decode cX1_isSound 33 = .ok (.iload_n 1, 1) := by decide +kernel
theorem dyX1_isSound_34 : decode cX1_isSound 34 = .ok (.iload_n 2, 1) := by decide +kernel
theorem dyX1_isSound_35 : decode cX1_isSound 35 = .ok (.iadd, 1) := by decide +kernel
theorem dyX1_isSound_36 : decode cX1_isSound 36 = .ok (.aload_n 0, 1) := by decide +kernel
theorem dyX1_isSound_37 : decode cX1_isSound 37 = .ok (.getfield 77, 3) := by decide +kernel
theorem dyX1_isSound_40 : decode cX1_isSound 40 = .ok (.if_icmp .lt 20, 3) := by decide +kernel
theorem dyX1_isSound_43 : decode cX1_isSound 43 = .ok (.iload_n 1, 1) := by decide +kernel
theorem dyX1_isSound_44 : decode cX1_isSound 44 = .ok (.aload_n 0, 1) := by decide +kernel
theorem dyX1_isSound_45 : decode cX1_isSound 45 = .ok (.getfield 44, 3) := by decide +kernel
theorem dyX1_isSound_48 : decode cX1_isSound 48 = .ok (.aload_n 0, 1) := by decide +kernel
theorem dyX1_isSound_49 : decode cX1_isSound 49 = .ok (.getfield 89, 3) := by decide +kernel
theorem dyX1_isSound_52 : decode cX1_isSound 52 = .ok (.isub, 1) := by decide +kernel
theorem dyX1_isSound_53 : decode cX1_isSound 53 = .ok (.if_icmp .ge 7, 3) := by decide +kernel
theorem dyX1_isSound_56 : decode cX1_isSound 56 = .ok (.iload_n 3, 1) := by decide +kernel
theorem dyX1_isSound_57 : decode cX1_isSound 57 = .ok (.ifCond .eq 7, 3) := by decide +kernel
theorem dyX1_isSound_60 : decode cX1_isSound 60 = .ok (.iconst 1, 1) := by decide +kernel
theorem dyX1_isSound_61 : decode cX1_isSound 61 = .ok (.goto 4, 3) := by decide +kernel
theorem dyX1_isSound_64 : decode cX1_isSound 64 = .ok (.iconst 0, 1) := by decide +kernel
theorem dyX1_isSound_65 : decode cX1_isSound 65 = .ok (.ireturn, 1) := by decide +kernel
theorem zsg_yX1_isSound : yX1_isSound.cls = RX1 ∧ yX1_isSound.cls ≠ "java/lang/invoke/MethodHandle" ∧ yX1_isSound.cls ≠ "java/lang/invoke/VarHandle" ∧ (parseMethodDescriptor yX1_isSound.desc).map (fun d => d.parameters.length) = some 2 := by decide +kernel
set_option maxRecDepth 20000 in
theorem c_Grower_isSound {l : Launch} {D : va_G} {B : Nat} {cA : Nat → ClassId} {ad : Nat → Nat} {S : List zC} (hS : zOkX S) {a1 : Int32} {a2 : Int32} {I : zI} {K : Int32 → Prop}  (h : w_Grower_isSound a1 a2 I K) : Met l yX1_isSound (zws yX1_isSound cX1_isSound 4 (some .boolean)) (zrm 0 0) (zPc D B cA ad [.ref (B + 64), .int a1, .int a2] S I) (zQc D B cA (zpI S I K)) 0 0 (fun q => B ≤ q) := by
  refine zm_of (cc := cX1_isSound) (maxL := 4) (ret := (some .boolean)) (by decide +kernel) rfl (Nat.le_of_ble_eq_true rfl) trivial ?_
  intro p e s m args below meth c C _
  unfold w_Grower_isSound at h
  show zX p l e (zrm 0 0) s m args below meth c (MQ below (zQc D B cA (zpI S I K)) args s 0 0 (fun q => B ≤ q)) D B cA 4 0 0 S I [(0, .ref (B + 64)), (1, .int a1), (2, .int a2)] [] 0
  refine zr_aload_n C dyX1_isSound_0 rfl 0 rfl ?_
  refine zg_1_77 C hS dyX1_isSound_1 ?_
  refine zr_aload_n C dyX1_isSound_4 rfl 0 rfl ?_
  refine zg_1_89 C hS dyX1_isSound_5 ?_
  refine zr_iadd C dyX1_isSound_8 ?_
  refine zr_aload_n C dyX1_isSound_9 rfl 0 rfl ?_
  refine zg_1_44 C hS dyX1_isSound_10 ?_
  refine zjn (h (fun (t_1 : Int32) => zX p l e (zrm 0 0) s m args below meth c (MQ below (zQc D B cA (zpI S I K)) args s 0 0 (fun q => B ≤ q)) D B cA 4 0 0 S I [(0, .ref (B + 64)), (1, .int a1), (2, .int a2)] [.int t_1] 32) (fun t_1 h => ?_)) (fun h => ?_)
  · refine zr_istore_n C dyX1_isSound_32 rfl (Nat.le_of_ble_eq_true rfl) (lv2 := [(3, .int t_1), (0, .ref (B + 64)), (1, .int a1), (2, .int a2)]) rfl ?_
    refine zr_iload_n C dyX1_isSound_33 rfl 2 rfl ?_
    refine zr_iload_n C dyX1_isSound_34 rfl 3 rfl ?_
    refine zr_iadd C dyX1_isSound_35 ?_
    refine zr_aload_n C dyX1_isSound_36 rfl 1 rfl ?_
    refine zg_1_77 C hS dyX1_isSound_37 ?_
    refine zr_icmp_lt C dyX1_isSound_40 (tgt := 60) (by decide) (fun hc_4 => ?_) (fun hc_4 => ?_)
    · replace h := zif_pos hc_4 h
      refine zr_iconst C dyX1_isSound_60 zc_i_1 ?_
      refine zr_goto C dyX1_isSound_61 (tgt := 65) (by decide) ?_
      exact zr_zret C rfl (zb.nar zb_1) dyX1_isSound_65 ⟨rfl, rfl, _, rfl, h⟩
    · replace h := zif_neg hc_4 h
      refine zr_iload_n C dyX1_isSound_43 rfl 2 rfl ?_
      refine zr_aload_n C dyX1_isSound_44 rfl 1 rfl ?_
      refine zg_1_44 C hS dyX1_isSound_45 ?_
      refine zr_aload_n C dyX1_isSound_48 rfl 1 rfl ?_
      refine zg_1_89 C hS dyX1_isSound_49 ?_
      refine zr_isub C dyX1_isSound_52 ?_
      refine zr_icmp_ge C dyX1_isSound_53 (tgt := 60) (by decide) (fun hc_3 => ?_) (fun hc_3 => ?_)
      · replace h := zif_pos hc_3 h
        refine zr_iconst C dyX1_isSound_60 zc_i_1 ?_
        refine zr_goto C dyX1_isSound_61 (tgt := 65) (by decide) ?_
        exact zr_zret C rfl (zb.nar zb_1) dyX1_isSound_65 ⟨rfl, rfl, _, rfl, h⟩
      · replace h := zif_neg hc_3 h
        refine zr_iload_n C dyX1_isSound_56 rfl 0 rfl ?_
        refine zr_if_eq C dyX1_isSound_57 (tgt := 64) (by decide) (fun hc_2 => ?_) (fun hc_2 => ?_)
        · replace h := zif_pos hc_2 h
          refine zr_iconst C dyX1_isSound_64 zc_i_0 ?_
          exact zr_zret C rfl (zb.nar zb_0) dyX1_isSound_65 ⟨rfl, rfl, _, rfl, h⟩
        · replace h := zif_neg hc_2 h
          refine zr_iconst C dyX1_isSound_60 zc_i_1 ?_
          refine zr_goto C dyX1_isSound_61 (tgt := 65) (by decide) ?_
          exact zr_zret C rfl (zb.nar zb_1) dyX1_isSound_65 ⟨rfl, rfl, _, rfl, h⟩
  refine zjn (h (zX p l e (zrm 0 0) s m args below meth c (MQ below (zQc D B cA (zpI S I K)) args s 0 0 (fun q => B ≤ q)) D B cA 4 0 0 S I [(0, .ref (B + 64)), (1, .int a1), (2, .int a2)] [] 31) (fun  h => ?_)) (fun h => ?_)
  · refine zr_iconst C dyX1_isSound_31 zc_i_0 ?_
    exact h
  refine zr_icmp_ne C dyX1_isSound_13 (tgt := 31) (by decide) (fun hc_6 => ?_) (fun hc_6 => ?_)
  · replace h := zif_neg hc_6 h
    exact h
  · replace h := zif_pos hc_6 h
    refine zr_aload_n C dyX1_isSound_16 rfl 0 rfl ?_
    refine zg_1_44 C hS dyX1_isSound_17 ?_
    refine zr_aload_n C dyX1_isSound_20 rfl 0 rfl ?_
    refine zg_1_56 C hS dyX1_isSound_21 ?_
    refine zr_icmp_ne C dyX1_isSound_24 (tgt := 31) (by decide) (fun hc_5 => ?_) (fun hc_5 => ?_)
    · replace h := zif_neg hc_5 h
      exact h
    · replace h := zif_pos hc_5 h
      refine zr_iconst C dyX1_isSound_27 zc_i_1 ?_
      refine zr_goto C dyX1_isSound_28 (tgt := 32) (by decide) ?_
      exact h
theorem zp_1_31 {p : Program} {l : Launch} {e : Env} {R : Room} {s : State} {m : MethodId} {args : Array Value} {below : List Frame} {meth : Method} {c : Code} {Q : State → Prop} {D : va_G} {B : Nat} {cA : Nat → ClassId} {ad : Nat → Nat} {cc : ByteArray} {nL : Nat} {ret : Option FieldType} {S : List zC} {I : zI} {lv : List (Nat × Value)} {st : List Value} {pc : Nat} (C : zCx p s m args meth c cc nL RX1 ret D B cA ad) (hS : zOkX S) {v : Int32} (hd : decode cc pc = .ok (.putfield 31, 3)) (kk : zX p l e R s m args below meth c Q D B cA nL 0 0 S (zu I 64 4 v) lv st (pc + 3)) : zX p l e R s m args below meth c Q D B cA nL 0 0 S I lv (.int v :: .ref (B + 64) :: st) pc :=
  zr_puti C (ci := 1) (Cn := RX1) (T := TX1) (N := 14) (k := 64) (j := 4) (fs := [some (some 24), some (some 43), some (some 65), some (some 67), none, none, none, none, none, none, none, none, none, none]) rfl zin_1 (Nat.le_of_ble_eq_true rfl) rfl (hS _ _ zs_64) rfl tyX1 tyX1_ok nmX1 (ty := .int) zpd_I rfl rfl rfl zk_fl_1_31 hd kk
theorem zg_1_14 {p : Program} {l : Launch} {e : Env} {R : Room} {s : State} {m : MethodId} {args : Array Value} {below : List Frame} {meth : Method} {c : Code} {Q : State → Prop} {D : va_G} {B : Nat} {cA : Nat → ClassId} {ad : Nat → Nat} {cc : ByteArray} {nL : Nat} {ret : Option FieldType} {S : List zC} {I : zI} {lv : List (Nat × Value)} {st : List Value} {pc : Nat} (C : zCx p s m args meth c cc nL RX1 ret D B cA ad) (hS : zOkX S) (hd : decode cc pc = .ok (.getfield 14, 3)) (kk : zX p l e R s m args below meth c Q D B cA nL 0 0 S I lv (.ref (B + 65) :: st) (pc + 3)) : zX p l e R s m args below meth c Q D B cA nL 0 0 S I lv (.ref (B + 64) :: st) pc :=
  zr_getr C (ci := 1) (Cn := RX1) (T := TX1) (N := 14) (k := 64) (j := 2) (fs := [some (some 24), some (some 43), some (some 65), some (some 67), none, none, none, none, none, none, none, none, none, none]) rfl zin_1 (Nat.le_of_ble_eq_true rfl) rfl (hS _ _ zs_64) rfl zk_fl_1_14 hd kk
def w_Grower_put (a1 : Int32) (a2 : Int32) (I : zI) (K : zI → Prop) : Prop :=
  ∀ I_1, I_1 = (zu I 64 4 ((I.1 64 4) + 1)) → w_Row_set 67 300 (I_1.1 64 4) a1 I_1 (fun I_2 => w_Row_set 65 300 (I_2.1 64 4) a2 I_2 (fun I_3 => K I_3))
theorem dyX1_put_0 : decode cX1_put 0 = .ok (.aload_n 0, 1) := by decide +kernel
theorem dyX1_put_1 : decode cX1_put 1 = .ok (.dup, 1) := by decide +kernel
theorem dyX1_put_2 : decode cX1_put 2 = .ok (.getfield 31, 3) := by decide +kernel
theorem dyX1_put_5 : decode cX1_put 5 = .ok (.iconst 1, 1) := by decide +kernel
theorem dyX1_put_6 : decode cX1_put 6 = .ok (.iadd, 1) := by decide +kernel
theorem dyX1_put_7 : decode cX1_put 7 = .ok (.putfield 31, 3) := by decide +kernel
theorem dyX1_put_10 : decode cX1_put 10 = .ok (.aload_n 0, 1) := by decide +kernel
theorem dyX1_put_11 : decode cX1_put 11 = .ok (.getfield 20, 3) := by decide +kernel
theorem dyX1_put_14 : decode cX1_put 14 = .ok (.aload_n 0, 1) := by decide +kernel
theorem dyX1_put_15 : decode cX1_put 15 = .ok (.getfield 31, 3) := by decide +kernel
theorem dyX1_put_18 : decode cX1_put 18 = .ok (.iload_n 1, 1) := by decide +kernel
theorem dyX1_put_19 : decode cX1_put 19 = .ok (.invokevirtual 98, 3) := by decide +kernel
theorem dyX1_put_22 : decode cX1_put 22 = .ok (.aload_n 0, 1) := by decide +kernel
theorem dyX1_put_23 : decode cX1_put 23 = .ok (.getfield 14, 3) := by decide +kernel
theorem dyX1_put_26 : decode cX1_put 26 = .ok (.aload_n 0, 1) := by decide +kernel
theorem dyX1_put_27 : decode cX1_put 27 = .ok (.getfield 31, 3) := by decide +kernel
theorem dyX1_put_30 : decode cX1_put 30 = .ok (.iload_n 2, 1) := by decide +kernel
theorem dyX1_put_31 : decode cX1_put 31 = .ok (.invokevirtual 98, 3) := by decide +kernel
theorem dyX1_put_34 : decode cX1_put 34 = .ok (.return_, 1) := by decide +kernel
theorem zsg_yX1_put : yX1_put.cls = RX1 ∧ yX1_put.cls ≠ "java/lang/invoke/MethodHandle" ∧ yX1_put.cls ≠ "java/lang/invoke/VarHandle" ∧ (parseMethodDescriptor yX1_put.desc).map (fun d => d.parameters.length) = some 2 := by decide +kernel
set_option maxRecDepth 20000 in
theorem c_Grower_put {l : Launch} {D : va_G} {B : Nat} {cA : Nat → ClassId} {ad : Nat → Nat} {S : List zC} (hS : zOkX S) {a1 : Int32} {a2 : Int32} {I : zI} {K : zI → Prop}  (h : w_Grower_put a1 a2 I K) : Met l yX1_put (zws yX1_put cX1_put 3 none) (zrm 1 22) (zPc D B cA ad [.ref (B + 64), .int a1, .int a2] S I) (zQc D B cA (zqV S K)) 0 0 (fun q => B ≤ q) := by
  refine zm_of (cc := cX1_put) (maxL := 3) (ret := none) (by decide +kernel) rfl (Nat.le_of_ble_eq_true rfl) trivial ?_
  intro p e s m args below meth c C _
  unfold w_Grower_put at h
  show zX p l e (zrm 1 22) s m args below meth c (MQ below (zQc D B cA (zqV S K)) args s 0 0 (fun q => B ≤ q)) D B cA 3 0 0 S I [(0, .ref (B + 64)), (1, .int a1), (2, .int a2)] [] 0
  refine zr_aload_n C dyX1_put_0 rfl 0 rfl ?_
  refine zr_dup C dyX1_put_1 rfl ?_
  refine zg_1_31 C hS dyX1_put_2 ?_
  refine zr_iconst C dyX1_put_5 zc_i_1 ?_
  refine zr_iadd C dyX1_put_6 ?_
  refine zp_1_31 C hS dyX1_put_7 ?_
  refine zn_mem C (fun I_1 eI_1 => ?_)
  replace h := h I_1 eI_1
  refine zr_aload_n C dyX1_put_10 rfl 0 rfl ?_
  refine zg_1_20 C hS dyX1_put_11 ?_
  refine zr_aload_n C dyX1_put_14 rfl 0 rfl ?_
  refine zg_1_31 C hS dyX1_put_15 ?_
  refine zr_iload_n C dyX1_put_18 rfl 1 rfl ?_
  refine zv_1_98 C hS (zIsRow.of hS zir_67) (st := []) h ⟨Nat.le_of_ble_eq_true rfl, Nat.le_of_ble_eq_true rfl⟩ (Nat.le_of_ble_eq_true rfl) dyX1_put_19 (fun I_2 h => ?_)
  refine zr_aload_n C dyX1_put_22 rfl 0 rfl ?_
  refine zg_1_14 C hS dyX1_put_23 ?_
  refine zr_aload_n C dyX1_put_26 rfl 0 rfl ?_
  refine zg_1_31 C hS dyX1_put_27 ?_
  refine zr_iload_n C dyX1_put_30 rfl 2 rfl ?_
  refine zv_1_98 C hS (zIsRow.of hS zir_65) (st := []) h ⟨Nat.le_of_ble_eq_true rfl, Nat.le_of_ble_eq_true rfl⟩ (Nat.le_of_ble_eq_true rfl) dyX1_put_31 (fun I_3 h => ?_)
  exact zr_vret C rfl dyX1_put_34 ⟨rfl, rfl, h⟩
theorem zg_1_157 {p : Program} {l : Launch} {e : Env} {R : Room} {s : State} {m : MethodId} {args : Array Value} {below : List Frame} {meth : Method} {c : Code} {Q : State → Prop} {D : va_G} {B : Nat} {cA : Nat → ClassId} {ad : Nat → Nat} {cc : ByteArray} {nL : Nat} {ret : Option FieldType} {S : List zC} {I : zI} {lv : List (Nat × Value)} {st : List Value} {pc : Nat} (C : zCx p s m args meth c cc nL RX1 ret D B cA ad) (hS : zOkX S) (hd : decode cc pc = .ok (.getfield 157, 3)) (kk : zX p l e R s m args below meth c Q D B cA nL 0 0 S I lv (.ref (B + 27) :: st) (pc + 3)) : zX p l e R s m args below meth c Q D B cA nL 0 0 S I lv (.ref (B + 24) :: st) pc :=
  zr_getr C (ci := 3) (Cn := RX3) (T := TX3) (N := 10) (k := 24) (j := 1) (fs := [some (some 25), some (some 27), some (some 29), some (some 31), some (some 33), some (some 35), some (some 37), some (some 39), some (some 41), none]) rfl zin_3 (Nat.le_of_ble_eq_true rfl) rfl (hS _ _ zs_24) rfl zk_fl_1_157 hd kk
theorem zv_1_160 {p : Program} {l : Launch} {e : Env} {R : Room} {s : State} {m : MethodId} {args : Array Value} {below : List Frame} {meth : Method} {c : Code} {Q : State → Prop} {D : va_G} {B : Nat} {cA : Nat → ClassId} {ad : Nat → Nat} {cc : ByteArray} {nL : Nat} {ret : Option FieldType} {S : List zC} {I : zI} {lv : List (Nat × Value)} {st : List Value} {pc : Nat} (C : zCx p s m args meth c cc nL RX1 ret D B cA ad) {K : Int32 → Prop} {xa0 : Int32} {xa1 : Int32} (hS : zOkX S)  (h : w_Desk_leadsTo xa0 xa1 I K) (hR : 0 + 1 ≤ R.frames ∧ 8 + (3 + 11) + (0) ≤ R.locals) (hw : (st.map fun v => v.category).sum ≤ 8) (hd : decode cc pc = .ok (.invokestatic 160, 3)) (kk : ∀ v, K v → zX p l e R s m args below meth c Q D B cA nL 0 0 S I lv (.int v :: st) (pc + 3)) : zX p l e R s m args below meth c Q D B cA nL 0 0 S I lv (.int xa1 :: .int xa0 :: st) pc :=
  have hf : 0 ≤ R.cells ∧ 0 ≤ R.slots := ⟨Nat.zero_le _, Nat.zero_le _⟩
  zc_NpI C (As := [.int xa0, .int xa1]) (st := st) (c_Desk_leadsTo hS h) (zgM zk_cd_yX11_leadsTo) zk_mn_1_160 zk_st_yX11_leadsTo zk_in_11 zsg_yX11_leadsTo hR rfl rfl hw hd hf kk
theorem zv_1_163 {p : Program} {l : Launch} {e : Env} {R : Room} {s : State} {m : MethodId} {args : Array Value} {below : List Frame} {meth : Method} {c : Code} {Q : State → Prop} {D : va_G} {B : Nat} {cA : Nat → ClassId} {ad : Nat → Nat} {cc : ByteArray} {nL : Nat} {ret : Option FieldType} {S : List zC} {I : zI} {lv : List (Nat × Value)} {st : List Value} {pc : Nat} (C : zCx p s m args meth c cc nL RX1 ret D B cA ad) {K : zI → Prop} {xa1 : Int32} {xa2 : Int32} (hS : zOkX S)  (h : w_Grower_put xa1 xa2 I K) (hR : 1 + 1 ≤ R.frames ∧ 8 + (3 + 11) + (22) ≤ R.locals) (hw : (st.map fun v => v.category).sum ≤ 8) (hd : decode cc pc = .ok (.invokevirtual 163, 3)) (kk : ∀ I2, K I2 → zX p l e R s m args below meth c Q D B cA nL 0 0 S I2 lv st (pc + 3)) : zX p l e R s m args below meth c Q D B cA nL 0 0 S I lv (.int xa2 :: .int xa1 :: .ref (B + 64) :: st) pc :=
  have hf : 0 ≤ R.cells ∧ 0 ≤ R.slots := ⟨Nat.zero_le _, Nat.zero_le _⟩
  zc_VqV C (ci := 1) (q := (RX1, TX1, 14)) (k := 64) (fs := [some (some 24), some (some 43), some (some 65), some (some 67), none, none, none, none, none, none, none, none, none, none]) (As := [.int xa1, .int xa2]) (st := st) rfl (hS _ _ zs_64) (c_Grower_put hS h) (zgV zk_ml_1_163 zk_im_yX1_put zk_se_yX1_put zk_in_1 zk_cd_yX1_put) zsg_yX1_put hR rfl rfl hw hd hf kk
theorem zg_1_121 {p : Program} {l : Launch} {e : Env} {R : Room} {s : State} {m : MethodId} {args : Array Value} {below : List Frame} {meth : Method} {c : Code} {Q : State → Prop} {D : va_G} {B : Nat} {cA : Nat → ClassId} {ad : Nat → Nat} {cc : ByteArray} {nL : Nat} {ret : Option FieldType} {S : List zC} {I : zI} {lv : List (Nat × Value)} {st : List Value} {pc : Nat} (C : zCx p s m args meth c cc nL RX1 ret D B cA ad) (hS : zOkX S) (hd : decode cc pc = .ok (.getfield 121, 3)) (kk : zX p l e R s m args below meth c Q D B cA nL 0 0 S I lv (.int (I.1 64 11) :: st) (pc + 3)) : zX p l e R s m args below meth c Q D B cA nL 0 0 S I lv (.ref (B + 64) :: st) pc :=
  zr_geti C (ci := 1) (Cn := RX1) (T := TX1) (N := 14) (k := 64) (j := 11) (fs := [some (some 24), some (some 43), some (some 65), some (some 67), none, none, none, none, none, none, none, none, none, none]) rfl zin_1 (Nat.le_of_ble_eq_true rfl) rfl (hS _ _ zs_64) rfl zk_fl_1_121 hd kk
theorem zp_1_121 {p : Program} {l : Launch} {e : Env} {R : Room} {s : State} {m : MethodId} {args : Array Value} {below : List Frame} {meth : Method} {c : Code} {Q : State → Prop} {D : va_G} {B : Nat} {cA : Nat → ClassId} {ad : Nat → Nat} {cc : ByteArray} {nL : Nat} {ret : Option FieldType} {S : List zC} {I : zI} {lv : List (Nat × Value)} {st : List Value} {pc : Nat} (C : zCx p s m args meth c cc nL RX1 ret D B cA ad) (hS : zOkX S) {v : Int32} (hd : decode cc pc = .ok (.putfield 121, 3)) (kk : zX p l e R s m args below meth c Q D B cA nL 0 0 S (zu I 64 11 v) lv st (pc + 3)) : zX p l e R s m args below meth c Q D B cA nL 0 0 S I lv (.int v :: .ref (B + 64) :: st) pc :=
  zr_puti C (ci := 1) (Cn := RX1) (T := TX1) (N := 14) (k := 64) (j := 11) (fs := [some (some 24), some (some 43), some (some 65), some (some 67), none, none, none, none, none, none, none, none, none, none]) rfl zin_1 (Nat.le_of_ble_eq_true rfl) rfl (hS _ _ zs_64) rfl tyX1 tyX1_ok nmX1 (ty := .int) zpd_I rfl rfl rfl zk_fl_1_121 hd kk
theorem zg_1_151 {p : Program} {l : Launch} {e : Env} {R : Room} {s : State} {m : MethodId} {args : Array Value} {below : List Frame} {meth : Method} {c : Code} {Q : State → Prop} {D : va_G} {B : Nat} {cA : Nat → ClassId} {ad : Nat → Nat} {cc : ByteArray} {nL : Nat} {ret : Option FieldType} {S : List zC} {I : zI} {lv : List (Nat × Value)} {st : List Value} {pc : Nat} (C : zCx p s m args meth c cc nL RX1 ret D B cA ad) (hS : zOkX S) (hd : decode cc pc = .ok (.getfield 151, 3)) (kk : zX p l e R s m args below meth c Q D B cA nL 0 0 S I lv (.ref (B + 31) :: st) (pc + 3)) : zX p l e R s m args below meth c Q D B cA nL 0 0 S I lv (.ref (B + 24) :: st) pc :=
  zr_getr C (ci := 3) (Cn := RX3) (T := TX3) (N := 10) (k := 24) (j := 3) (fs := [some (some 25), some (some 27), some (some 29), some (some 31), some (some 33), some (some 35), some (some 37), some (some 39), some (some 41), none]) rfl zin_3 (Nat.le_of_ble_eq_true rfl) rfl (hS _ _ zs_24) rfl zk_fl_1_151 hd kk
theorem zg_1_27 {p : Program} {l : Launch} {e : Env} {R : Room} {s : State} {m : MethodId} {args : Array Value} {below : List Frame} {meth : Method} {c : Code} {Q : State → Prop} {D : va_G} {B : Nat} {cA : Nat → ClassId} {ad : Nat → Nat} {cc : ByteArray} {nL : Nat} {ret : Option FieldType} {S : List zC} {I : zI} {lv : List (Nat × Value)} {st : List Value} {pc : Nat} (C : zCx p s m args meth c cc nL RX1 ret D B cA ad) (hS : zOkX S) (hd : decode cc pc = .ok (.getfield 27, 3)) (kk : zX p l e R s m args below meth c Q D B cA nL 0 0 S I lv (.ref (B + 43) :: st) (pc + 3)) : zX p l e R s m args below meth c Q D B cA nL 0 0 S I lv (.ref (B + 64) :: st) pc :=
  zr_getr C (ci := 1) (Cn := RX1) (T := TX1) (N := 14) (k := 64) (j := 1) (fs := [some (some 24), some (some 43), some (some 65), some (some 67), none, none, none, none, none, none, none, none, none, none]) rfl zin_1 (Nat.le_of_ble_eq_true rfl) rfl (hS _ _ zs_64) rfl zk_fl_1_27 hd kk
theorem zv_1_145 {p : Program} {l : Launch} {e : Env} {R : Room} {s : State} {m : MethodId} {args : Array Value} {below : List Frame} {meth : Method} {c : Code} {Q : State → Prop} {D : va_G} {B : Nat} {cA : Nat → ClassId} {ad : Nat → Nat} {cc : ByteArray} {nL : Nat} {ret : Option FieldType} {S : List zC} {I : zI} {lv : List (Nat × Value)} {st : List Value} {pc : Nat} (C : zCx p s m args meth c cc nL RX1 ret D B cA ad) {K : Int32 → Prop} {xa1 : Int32} (hS : zOkX S)  (h : w_TreeView_firstOf xa1 I K) (hR : 2 + 1 ≤ R.frames ∧ 8 + (2 + 11) + (43) ≤ R.locals) (hw : (st.map fun v => v.category).sum ≤ 8) (hd : decode cc pc = .ok (.invokevirtual 145, 3)) (kk : ∀ v, K v → zX p l e R s m args below meth c Q D B cA nL 0 0 S I lv (.int v :: st) (pc + 3)) : zX p l e R s m args below meth c Q D B cA nL 0 0 S I lv (.int xa1 :: .ref (B + 43) :: st) pc :=
  have hf : 0 ≤ R.cells ∧ 0 ≤ R.slots := ⟨Nat.zero_le _, Nat.zero_le _⟩
  zc_VpI C (ci := 9) (q := (RX9, TX9, 16)) (k := 43) (fs := [some (some 24), some (some 44), some (some 46), some (some 48), some (some 50), some (some 52), some (some 54), some (some 56), some (some 58), some (some 60), some (some 62), none, none, none, none, none]) (As := [.int xa1]) (st := st) rfl (hS _ _ zs_43) (c_TreeView_firstOf hS h) (zgV zk_ml_1_145 zk_im_yX9_firstOf zk_se_yX9_firstOf zk_in_9 zk_cd_yX9_firstOf) zsg_yX9_firstOf hR rfl rfl hw hd hf kk
theorem zg_1_148 {p : Program} {l : Launch} {e : Env} {R : Room} {s : State} {m : MethodId} {args : Array Value} {below : List Frame} {meth : Method} {c : Code} {Q : State → Prop} {D : va_G} {B : Nat} {cA : Nat → ClassId} {ad : Nat → Nat} {cc : ByteArray} {nL : Nat} {ret : Option FieldType} {S : List zC} {I : zI} {lv : List (Nat × Value)} {st : List Value} {pc : Nat} (C : zCx p s m args meth c cc nL RX1 ret D B cA ad) (hS : zOkX S) (hd : decode cc pc = .ok (.getfield 148, 3)) (kk : zX p l e R s m args below meth c Q D B cA nL 0 0 S I lv (.ref (B + 29) :: st) (pc + 3)) : zX p l e R s m args below meth c Q D B cA nL 0 0 S I lv (.ref (B + 24) :: st) pc :=
  zr_getr C (ci := 3) (Cn := RX3) (T := TX3) (N := 10) (k := 24) (j := 2) (fs := [some (some 25), some (some 27), some (some 29), some (some 31), some (some 33), some (some 35), some (some 37), some (some 39), some (some 41), none]) rfl zin_3 (Nat.le_of_ble_eq_true rfl) rfl (hS _ _ zs_24) rfl zk_fl_1_148 hd kk
theorem zv_1_140 {p : Program} {l : Launch} {e : Env} {R : Room} {s : State} {m : MethodId} {args : Array Value} {below : List Frame} {meth : Method} {c : Code} {Q : State → Prop} {D : va_G} {B : Nat} {cA : Nat → ClassId} {ad : Nat → Nat} {cc : ByteArray} {nL : Nat} {ret : Option FieldType} {S : List zC} {I : zI} {lv : List (Nat × Value)} {st : List Value} {pc : Nat} (C : zCx p s m args meth c cc nL RX1 ret D B cA ad) {K : Int32 → Prop} {xa1 : Int32} (hS : zOkX S)  (h : w_TreeView_parentOf xa1 I K) (hR : 2 + 1 ≤ R.frames ∧ 8 + (2 + 11) + (43) ≤ R.locals) (hw : (st.map fun v => v.category).sum ≤ 8) (hd : decode cc pc = .ok (.invokevirtual 140, 3)) (kk : ∀ v, K v → zX p l e R s m args below meth c Q D B cA nL 0 0 S I lv (.int v :: st) (pc + 3)) : zX p l e R s m args below meth c Q D B cA nL 0 0 S I lv (.int xa1 :: .ref (B + 43) :: st) pc :=
  have hf : 0 ≤ R.cells ∧ 0 ≤ R.slots := ⟨Nat.zero_le _, Nat.zero_le _⟩
  zc_VpI C (ci := 9) (q := (RX9, TX9, 16)) (k := 43) (fs := [some (some 24), some (some 44), some (some 46), some (some 48), some (some 50), some (some 52), some (some 54), some (some 56), some (some 58), some (some 60), some (some 62), none, none, none, none, none]) (As := [.int xa1]) (st := st) rfl (hS _ _ zs_43) (c_TreeView_parentOf hS h) (zgV zk_ml_1_140 zk_im_yX9_parentOf zk_se_yX9_parentOf zk_in_9 zk_cd_yX9_parentOf) zsg_yX9_parentOf hR rfl rfl hw hd hf kk
theorem zv_1_153 {p : Program} {l : Launch} {e : Env} {R : Room} {s : State} {m : MethodId} {args : Array Value} {below : List Frame} {meth : Method} {c : Code} {Q : State → Prop} {D : va_G} {B : Nat} {cA : Nat → ClassId} {ad : Nat → Nat} {cc : ByteArray} {nL : Nat} {ret : Option FieldType} {S : List zC} {I : zI} {lv : List (Nat × Value)} {st : List Value} {pc : Nat} (C : zCx p s m args meth c cc nL RX1 ret D B cA ad) {K : Int32 → Prop} {xa1 : Int32} {xa2 : Int32} (hS : zOkX S)  (h : w_Grower_isSound xa1 xa2 I K) (hR : 0 + 1 ≤ R.frames ∧ 8 + (4 + 11) + (0) ≤ R.locals) (hw : (st.map fun v => v.category).sum ≤ 8) (hd : decode cc pc = .ok (.invokevirtual 153, 3)) (kk : ∀ v, K v → zX p l e R s m args below meth c Q D B cA nL 0 0 S I lv (.int v :: st) (pc + 3)) : zX p l e R s m args below meth c Q D B cA nL 0 0 S I lv (.int xa2 :: .int xa1 :: .ref (B + 64) :: st) pc :=
  have hf : 0 ≤ R.cells ∧ 0 ≤ R.slots := ⟨Nat.zero_le _, Nat.zero_le _⟩
  zc_VpI C (ci := 1) (q := (RX1, TX1, 14)) (k := 64) (fs := [some (some 24), some (some 43), some (some 65), some (some 67), none, none, none, none, none, none, none, none, none, none]) (As := [.int xa1, .int xa2]) (st := st) rfl (hS _ _ zs_64) (c_Grower_isSound hS h) (zgV zk_ml_1_153 zk_im_yX1_isSound zk_se_yX1_isSound zk_in_1 zk_cd_yX1_isSound) zsg_yX1_isSound hR rfl rfl hw hd hf kk
def w_Grower_putSound (a1 : Int32) (a2 : Int32) (I : zI) (K : Int32 → zI → Prop) : Prop :=
  w_Grower_oldPlace a2 I (fun r_1 => ∀ (P27 : Int32 → Prop), (∀ (t_2 : Int32), (∀ (P32 : Int32 → Int32 → Int32 → Prop), (∀ (v4_3 : Int32) (v5_4 : Int32) (v6_5 : Int32), (∀ (P125 : Prop), (((if 0 ≤ v4_3 then (w_Row_get 65 300 (I.1 64 4) I (fun r_6 => w_Row_get 27 3400 v4_3 I (fun r_7 => w_Desk_leadsTo r_6 r_7 I (fun r_8 => w_Grower_put v4_3 r_8 I (fun I_9 => ∀ I_10, I_10 = (zu I_9 64 11 ((I_9.1 64 11) + 1)) → w_Row_get 31 3400 v4_3 I_10 (fun r_11 => K r_11 I_10)))))) else K 0 I)) → P125) → (if 400 ≤ v6_5 then P125 else (if v5_4 < 0 then P125 else (w_TreeView_firstOf v5_4 I (fun r_13 => (if r_13 = r_1 then (w_Row_get 29 3400 v5_4 I (fun r_14 => w_Row_get 65 300 (I.1 64 4) I (fun r_15 => ∀ (P108 : Int32 → Prop), (∀ (v4_16 : Int32), (w_TreeView_parentOf v5_4 I (fun r_17 => ∀ v6_18, v6_18 = (v6_5 + 1) → P32 v4_16 r_17 v6_18)) → P108 v4_16) → (if r_14 = r_15 then (w_Row_get 31 3400 v5_4 I (fun r_19 => w_Grower_isSound r_1 r_19 I (fun r_20 => (if r_20 = 0 then P108 v4_3 else P108 v5_4)))) else P108 v4_3)))) else P125)))))) → P32 v4_3 v5_4 v6_5) → P32 (-2) t_2 0) → P27 t_2) → (if 0 ≤ r_1 then (w_TreeView_parentOf a1 I (fun r_26 => P27 r_26)) else (P27 (-2))))
theorem dyX1_putSound_0 : decode cX1_putSound 0 = .ok (.aload_n 0, 1) := by decide +kernel
theorem dyX1_putSound_1 : decode cX1_putSound 1 = .ok (.iload_n 2, 1) := by decide +kernel
theorem dyX1_putSound_2 : decode cX1_putSound 2 = .ok (.invokevirtual 95, 3) := by decide +kernel
theorem dyX1_putSound_5 : decode cX1_putSound 5 = .ok (.istore_n 3, 1) := by decide +kernel
theorem dyX1_putSound_6 : decode cX1_putSound 6 = .ok (.bipush (-2), 2) := by decide +kernel
theorem dyX1_putSound_8 : decode cX1_putSound 8 = .ok (.istore 4, 2) := by decide +kernel
theorem dyX1_putSound_10 : decode cX1_putSound 10 = .ok (.iload_n 3, 1) := by decide +kernel
theorem dyX1_putSound_11 : decode cX1_putSound 11 = .ok (.ifCond .ge 8, 3) := by decide +kernel
theorem dyX1_putSound_14 : decode cX1_putSound 14 = .ok (.bipush (-2), 2) := by decide +kernel
theorem dyX1_putSound_16 : decode cX1_putSound 16 = .ok (.goto 11, 3) := by decide +kernel
theorem dyX1_putSound_19 : decode cX1_putSound 19 = .ok (.aload_n 0, 1) := by decide +kernel
theorem dyX1_putSound_20 : decode cX1_putSound 20 = .ok (.getfield 27, 3) := by decide +kernel
theorem dyX1_putSound_23 : decode cX1_putSound 23 = .ok (.iload_n 1, 1) := by decide +kernel
theorem dyX1_putSound_24 : decode cX1_putSound 24 = .ok (.invokevirtual 140, 3) := by decide +kernel
theorem dyX1_putSound_27 : decode cX1_putSound 27 = .ok (.istore 5, 2) := by decide +kernel
theorem dyX1_putSound_29 : decode cX1_putSound 29 = .ok (.iconst 0, 1) := by decide +kernel
theorem dyX1_putSound_30 : decode cX1_putSound 30 = .ok (.istore 6, 2) := by decide +kernel
theorem dyX1_putSound_32 : decode cX1_putSound 32 = .ok (.iload 6, 2) := by decide +kernel
theorem dyX1_putSound_34 : decode cX1_putSound 34 = .ok (.sipush 400, 3) := by decide +kernel
theorem dyX1_putSound_37 : decode cX1_putSound 37 = .ok (.if_icmp .ge 88, 3) := by decide +kernel
theorem dyX1_putSound_40 : decode cX1_putSound 40 = .ok (.iload 5, 2) := by decide +kernel
theorem dyX1_putSound_42 : decode cX1_putSound 42 = .ok (.ifCond .lt 83, 3) := by decide +kernel
theorem dyX1_putSound_45 : decode cX1_putSound 45 = .ok (.aload_n 0, 1) := by decide +kernel
theorem dyX1_putSound_46 : decode cX1_putSound 46 = .ok (.getfield 27, 3) := by decide +kernel
theorem dyX1_putSound_49 : decode cX1_putSound 49 = .ok (.iload 5, 2) := by decide +kernel
theorem dyX1_putSound_51 : decode cX1_putSound 51 = .ok (.invokevirtual 145, 3) := by decide +kernel
theorem dyX1_putSound_54 : decode cX1_putSound 54 = .ok (.iload_n 3, 1) := by decide +kernel
theorem dyX1_putSound_55 : decode cX1_putSound 55 = .ok (.if_icmp .ne 70, 3) := by decide +kernel
theorem dyX1_putSound_58 : decode cX1_putSound 58 = .ok (.aload_n 0, 1) := by decide +kernel
theorem dyX1_putSound_59 : decode cX1_putSound 59 = .ok (.getfield 23, 3) := by decide +kernel
theorem dyX1_putSound_62 : decode cX1_putSound 62 = .ok (.getfield 148, 3) := by decide +kernel
theorem dyX1_putSound_65 : decode cX1_putSound 65 = .ok (.iload 5, 2) := by decide +kernel
theorem dyX1_putSound_67 : decode cX1_putSound 67 = .ok (.invokevirtual 35, 3) := by decide +kernel
theorem dyX1_putSound_70 : decode cX1_putSound 70 = .ok (.aload_n 0, 1) := by decide +kernel
theorem dyX1_putSound_71 : decode cX1_putSound 71 = .ok (.getfield 14, 3) := by decide +kernel
theorem dyX1_putSound_74 : decode cX1_putSound 74 = .ok (.aload_n 0, 1) := by decide +kernel
theorem dyX1_putSound_75 : decode cX1_putSound 75 = .ok (.getfield 31, 3) := by decide +kernel
theorem dyX1_putSound_78 : decode cX1_putSound 78 = .ok (.invokevirtual 35, 3) := by decide +kernel
theorem dyX1_putSound_81 : decode cX1_putSound 81 = .ok (.if_icmp .ne 27, 3) := by decide +kernel
theorem dyX1_putSound_84 : decode cX1_putSound 84 = .ok (.aload_n 0, 1) := by decide +kernel
theorem dyX1_putSound_85 : decode cX1_putSound 85 = .ok (.iload_n 3, 1) := by decide +kernel
theorem dyX1_putSound_86 : decode cX1_putSound 86 = .ok (.aload_n 0, 1) := by decide +kernel
theorem dyX1_putSound_87 : decode cX1_putSound 87 = .ok (.getfield 23, 3) := by decide +kernel
theorem dyX1_putSound_90 : decode cX1_putSound 90 = .ok (.getfield 151, 3) := by decide +kernel
theorem dyX1_putSound_93 : decode cX1_putSound 93 = .ok (.iload 5, 2) := by decide +kernel
theorem dyX1_putSound_95 : decode cX1_putSound 95 = .ok (.invokevirtual 35, 3) := by decide +kernel
theorem dyX1_putSound_98 : decode cX1_putSound 98 = .ok (.invokevirtual 153, 3) := by decide +kernel
theorem dyX1_putSound_101 : decode cX1_putSound 101 = .ok (.ifCond .eq 7, 3) := by decide +kernel
theorem dyX1_putSound_104 : decode cX1_putSound 104 = .ok (.iload 5, 2) := by decide +kernel
theorem dyX1_putSound_106 : decode cX1_putSound 106 = .ok (.istore 4, 2) := by decide +kernel
theorem dyX1_putSound_108 : decode cX1_putSound 108 = .ok (.aload_n 0, 1) := by decide +kernel
theorem dyX1_putSound_109 : decode cX1_putSound 109 = .ok (.getfield 27, 3) := by decide +kernel
theorem dyX1_putSound_112 : decode cX1_putSound 112 = .ok (.iload 5, 2) := by decide +kernel
theorem dyX1_putSound_114 : decode cX1_putSound 114 = .ok (.invokevirtual 140, 3) := by decide +kernel
theorem dyX1_putSound_117 : decode cX1_putSound 117 = .ok (.istore 5, 2) := by decide +kernel
theorem dyX1_putSound_119 : decode cX1_putSound 119 = .ok (.iinc 6 1, 3) := by decide +kernel
theorem dyX1_putSound_122 : decode cX1_putSound 122 = .ok (.goto (-90), 3) := by decide +kernel
theorem dyX1_putSound_125 : decode cX1_putSound 125 = .ok (.iload 4, 2) := by decide +kernel
theorem dyX1_putSound_127 : decode cX1_putSound 127 = .ok (.ifCond .ge 5, 3) := by decide +kernel
theorem dyX1_putSound_130 : decode cX1_putSound 130 = .ok (.iconst 0, 1) := by decide +kernel
theorem dyX1_putSound_131 : decode cX1_putSound 131 = .ok (.ireturn, 1) := by decide +kernel
theorem dyX1_putSound_132 : decode cX1_putSound 132 = .ok (.aload_n 0, 1) := by decide +kernel
theorem dyX1_putSound_133 : decode cX1_putSound 133 = .ok (.iload 4, 2) := by decide +kernel
theorem dyX1_putSound_135 : decode cX1_putSound 135 = .ok (.aload_n 0, 1) := by decide +kernel
theorem dyX1_putSound_136 : decode cX1_putSound 136 = .ok (.getfield 14, 3) := by decide +kernel
theorem dyX1_putSound_139 : decode cX1_putSound 139 = .ok (.aload_n 0, 1) := by decide +kernel
theorem dyX1_putSound_140 : decode cX1_putSound 140 = .ok (.getfield 31, 3) := by decide +kernel
theorem dyX1_putSound_143 : decode cX1_putSound 143 = .ok (.invokevirtual 35, 3) := by decide +kernel
theorem dyX1_putSound_146 : decode cX1_putSound 146 = .ok (.aload_n 0, 1) := by decide +kernel
theorem dyX1_putSound_147 : decode cX1_putSound 147 = .ok (.getfield 23, 3) := by decide +kernel
theorem dyX1_putSound_150 : decode cX1_putSound 150 = .ok (.getfield 157, 3) := by decide +kernel
theorem dyX1_putSound_153 : decode cX1_putSound 153 = .ok (.iload 4, 2) := by decide +kernel
theorem dyX1_putSound_155 : decode cX1_putSound 155 = .ok (.invokevirtual 35, 3) := by decide +kernel
theorem dyX1_putSound_158 : decode cX1_putSound 158 = .ok (.invokestatic 160, 3) := by decide +kernel
theorem dyX1_putSound_161 : decode cX1_putSound 161 = .ok (.invokevirtual 163, 3) := by decide +kernel
theorem dyX1_putSound_164 : decode cX1_putSound 164 = .ok (.aload_n 0, 1) := by decide +kernel
theorem dyX1_putSound_165 : decode cX1_putSound 165 = .ok (.dup, 1) := by decide +kernel
theorem dyX1_putSound_166 : decode cX1_putSound 166 = .ok (.getfield 121, 3) := by decide +kernel
theorem dyX1_putSound_169 : decode cX1_putSound 169 = .ok (.iconst 1, 1) := by decide +kernel
theorem dyX1_putSound_170 : decode cX1_putSound 170 = .ok (.iadd, 1) := by decide +kernel
theorem dyX1_putSound_171 : decode cX1_putSound 171 = .ok (.putfield 121, 3) := by decide +kernel
theorem dyX1_putSound_174 : decode cX1_putSound 174 = .ok (.aload_n 0, 1) := by decide +kernel
theorem dyX1_putSound_175 : decode cX1_putSound 175 = .ok (.getfield 23, 3) := by decide +kernel
theorem dyX1_putSound_178 : decode cX1_putSound 178 = .ok (.getfield 151, 3) := by decide +kernel
theorem dyX1_putSound_181 : decode cX1_putSound 181 = .ok (.iload 4, 2) := by decide +kernel
theorem dyX1_putSound_183 : decode cX1_putSound 183 = .ok (.invokevirtual 35, 3) := by decide +kernel
theorem dyX1_putSound_186 : decode cX1_putSound 186 = .ok (.ireturn, 1) := by decide +kernel
theorem zsg_yX1_putSound : yX1_putSound.cls = RX1 ∧ yX1_putSound.cls ≠ "java/lang/invoke/MethodHandle" ∧ yX1_putSound.cls ≠ "java/lang/invoke/VarHandle" ∧ (parseMethodDescriptor yX1_putSound.desc).map (fun d => d.parameters.length) = some 2 := by decide +kernel
set_option maxRecDepth 20000 in
theorem c_Grower_putSound {l : Launch} {D : va_G} {B : Nat} {cA : Nat → ClassId} {ad : Nat → Nat} {S : List zC} (hS : zOkX S) {a1 : Int32} {a2 : Int32} {I : zI} {K : Int32 → zI → Prop}  (h : w_Grower_putSound a1 a2 I K) : Met l yX1_putSound (zws yX1_putSound cX1_putSound 7 (some .int)) (zrm 3 64) (zPc D B cA ad [.ref (B + 64), .int a1, .int a2] S I) (zQc D B cA (zqI S K)) 0 0 (fun q => B ≤ q) := by
  refine zm_of (cc := cX1_putSound) (maxL := 7) (ret := (some .int)) (by decide +kernel) rfl (Nat.le_of_ble_eq_true rfl) trivial ?_
  intro p e s m args below meth c C _
  unfold w_Grower_putSound at h
  show zX p l e (zrm 3 64) s m args below meth c (MQ below (zQc D B cA (zqI S K)) args s 0 0 (fun q => B ≤ q)) D B cA 7 0 0 S I [(0, .ref (B + 64)), (1, .int a1), (2, .int a2)] [] 0
  refine zr_aload_n C dyX1_putSound_0 rfl 0 rfl ?_
  refine zr_iload_n C dyX1_putSound_1 rfl 2 rfl ?_
  refine zv_1_95 C hS (st := []) h ⟨Nat.le_of_ble_eq_true rfl, Nat.le_of_ble_eq_true rfl⟩ (Nat.le_of_ble_eq_true rfl) dyX1_putSound_2 (fun r_1 h => ?_)
  refine zr_istore_n C dyX1_putSound_5 rfl (Nat.le_of_ble_eq_true rfl) (lv2 := [(3, .int r_1), (0, .ref (B + 64)), (1, .int a1), (2, .int a2)]) rfl ?_
  refine zr_bipush C dyX1_putSound_6 zc_b_m2 ?_
  refine zr_istore C dyX1_putSound_8 (Nat.le_of_ble_eq_true rfl) (lv2 := [(4, .int (-2)), (3, .int r_1), (0, .ref (B + 64)), (1, .int a1), (2, .int a2)]) rfl ?_
  refine zr_iload_n C dyX1_putSound_10 rfl 1 rfl ?_
  refine zjn (h (fun (t_2 : Int32) => zX p l e (zrm 3 64) s m args below meth c (MQ below (zQc D B cA (zqI S K)) args s 0 0 (fun q => B ≤ q)) D B cA 7 0 0 S I [(4, .int (-2)), (3, .int r_1), (0, .ref (B + 64))] [.int t_2] 27) (fun t_2 h => ?_)) (fun h => ?_)
  · refine zr_istore C dyX1_putSound_27 (Nat.le_of_ble_eq_true rfl) (lv2 := [(5, .int t_2), (4, .int (-2)), (3, .int r_1), (0, .ref (B + 64))]) rfl ?_
    refine zr_iconst C dyX1_putSound_29 zc_i_0 ?_
    refine zr_istore C dyX1_putSound_30 (Nat.le_of_ble_eq_true rfl) (lv2 := [(6, .int 0), (5, .int t_2), (4, .int (-2)), (3, .int r_1), (0, .ref (B + 64))]) rfl ?_
    refine zjn (h (fun (v4_3 : Int32) (v5_4 : Int32) (v6_5 : Int32) => zX p l e (zrm 3 64) s m args below meth c (MQ below (zQc D B cA (zqI S K)) args s 0 0 (fun q => B ≤ q)) D B cA 7 0 0 S I [(6, .int v6_5), (5, .int v5_4), (4, .int v4_3), (3, .int r_1), (0, .ref (B + 64))] [] 32) (fun v4_3 v5_4 v6_5 h => ?_)) (fun h => ?_)
    · refine zr_iload C dyX1_putSound_32 0 rfl ?_
      refine zr_sipush C dyX1_putSound_34 zc_s_400 ?_
      refine zjn (h (zX p l e (zrm 3 64) s m args below meth c (MQ below (zQc D B cA (zqI S K)) args s 0 0 (fun q => B ≤ q)) D B cA 7 0 0 S I [(4, .int v4_3), (0, .ref (B + 64))] [] 125) (fun  h => ?_)) (fun h => ?_)
      · refine zr_iload C dyX1_putSound_125 0 rfl ?_
        refine zr_if_ge C dyX1_putSound_127 (tgt := 132) (by decide) (fun hc_12 => ?_) (fun hc_12 => ?_)
        · replace h := zif_pos hc_12 h
          refine zr_aload_n C dyX1_putSound_132 rfl 1 rfl ?_
          refine zr_iload C dyX1_putSound_133 0 rfl ?_
          refine zr_aload_n C dyX1_putSound_135 rfl 1 rfl ?_
          refine zg_1_14 C hS dyX1_putSound_136 ?_
          refine zr_aload_n C dyX1_putSound_139 rfl 1 rfl ?_
          refine zg_1_31 C hS dyX1_putSound_140 ?_
          refine zv_1_35 C hS (zIsRow.of hS zir_65) (st := [.int v4_3, .ref (B + 64)]) h ⟨Nat.le_of_ble_eq_true rfl, Nat.le_of_ble_eq_true rfl⟩ (Nat.le_of_ble_eq_true rfl) dyX1_putSound_143 (fun r_6 h => ?_)
          refine zr_aload_n C dyX1_putSound_146 rfl 1 rfl ?_
          refine zg_1_23 C hS dyX1_putSound_147 ?_
          refine zg_1_157 C hS dyX1_putSound_150 ?_
          refine zr_iload C dyX1_putSound_153 0 rfl ?_
          refine zv_1_35 C hS (zIsRow.of hS zir_27) (st := [.int r_6, .int v4_3, .ref (B + 64)]) h ⟨Nat.le_of_ble_eq_true rfl, Nat.le_of_ble_eq_true rfl⟩ (Nat.le_of_ble_eq_true rfl) dyX1_putSound_155 (fun r_7 h => ?_)
          refine zv_1_160 C hS (st := [.int v4_3, .ref (B + 64)]) h ⟨Nat.le_of_ble_eq_true rfl, Nat.le_of_ble_eq_true rfl⟩ (Nat.le_of_ble_eq_true rfl) dyX1_putSound_158 (fun r_8 h => ?_)
          refine zv_1_163 C hS (st := []) h ⟨Nat.le_of_ble_eq_true rfl, Nat.le_of_ble_eq_true rfl⟩ (Nat.le_of_ble_eq_true rfl) dyX1_putSound_161 (fun I_9 h => ?_)
          refine zr_aload_n C dyX1_putSound_164 rfl 1 rfl ?_
          refine zr_dup C dyX1_putSound_165 rfl ?_
          refine zg_1_121 C hS dyX1_putSound_166 ?_
          refine zr_iconst C dyX1_putSound_169 zc_i_1 ?_
          refine zr_iadd C dyX1_putSound_170 ?_
          refine zp_1_121 C hS dyX1_putSound_171 ?_
          refine zn_mem C (fun I_10 eI_10 => ?_)
          replace h := h I_10 eI_10
          refine zr_aload_n C dyX1_putSound_174 rfl 1 rfl ?_
          refine zg_1_23 C hS dyX1_putSound_175 ?_
          refine zg_1_151 C hS dyX1_putSound_178 ?_
          refine zr_iload C dyX1_putSound_181 0 rfl ?_
          refine zv_1_35 C hS (zIsRow.of hS zir_31) (st := []) h ⟨Nat.le_of_ble_eq_true rfl, Nat.le_of_ble_eq_true rfl⟩ (Nat.le_of_ble_eq_true rfl) dyX1_putSound_183 (fun r_11 h => ?_)
          exact zr_iret C rfl dyX1_putSound_186 ⟨rfl, _, rfl, h⟩
        · replace h := zif_neg hc_12 h
          refine zr_iconst C dyX1_putSound_130 zc_i_0 ?_
          exact zr_iret C rfl dyX1_putSound_131 ⟨rfl, _, rfl, h⟩
      refine zr_icmp_ge C dyX1_putSound_37 (tgt := 125) (by decide) (fun hc_25 => ?_) (fun hc_25 => ?_)
      · replace h := zif_pos hc_25 h
        refine zr_sub (lv2 := [(4, .int v4_3), (0, .ref (B + 64))]) [2, 4] rfl ?_
        exact h
      · replace h := zif_neg hc_25 h
        refine zr_iload C dyX1_putSound_40 1 rfl ?_
        refine zr_if_lt C dyX1_putSound_42 (tgt := 125) (by decide) (fun hc_24 => ?_) (fun hc_24 => ?_)
        · replace h := zif_pos hc_24 h
          refine zr_sub (lv2 := [(4, .int v4_3), (0, .ref (B + 64))]) [2, 4] rfl ?_
          exact h
        · replace h := zif_neg hc_24 h
          refine zr_aload_n C dyX1_putSound_45 rfl 4 rfl ?_
          refine zg_1_27 C hS dyX1_putSound_46 ?_
          refine zr_iload C dyX1_putSound_49 1 rfl ?_
          refine zv_1_145 C hS (st := []) h ⟨Nat.le_of_ble_eq_true rfl, Nat.le_of_ble_eq_true rfl⟩ (Nat.le_of_ble_eq_true rfl) dyX1_putSound_51 (fun r_13 h => ?_)
          refine zr_iload_n C dyX1_putSound_54 rfl 3 rfl ?_
          refine zr_icmp_ne C dyX1_putSound_55 (tgt := 125) (by decide) (fun hc_23 => ?_) (fun hc_23 => ?_)
          · replace h := zif_neg hc_23 h
            refine zr_sub (lv2 := [(4, .int v4_3), (0, .ref (B + 64))]) [2, 4] rfl ?_
            exact h
          · replace h := zif_pos hc_23 h
            refine zr_aload_n C dyX1_putSound_58 rfl 4 rfl ?_
            refine zg_1_23 C hS dyX1_putSound_59 ?_
            refine zg_1_148 C hS dyX1_putSound_62 ?_
            refine zr_iload C dyX1_putSound_65 1 rfl ?_
            refine zv_1_35 C hS (zIsRow.of hS zir_29) (st := []) h ⟨Nat.le_of_ble_eq_true rfl, Nat.le_of_ble_eq_true rfl⟩ (Nat.le_of_ble_eq_true rfl) dyX1_putSound_67 (fun r_14 h => ?_)
            refine zr_aload_n C dyX1_putSound_70 rfl 4 rfl ?_
            refine zg_1_14 C hS dyX1_putSound_71 ?_
            refine zr_aload_n C dyX1_putSound_74 rfl 4 rfl ?_
            refine zg_1_31 C hS dyX1_putSound_75 ?_
            refine zv_1_35 C hS (zIsRow.of hS zir_65) (st := [.int r_14]) h ⟨Nat.le_of_ble_eq_true rfl, Nat.le_of_ble_eq_true rfl⟩ (Nat.le_of_ble_eq_true rfl) dyX1_putSound_78 (fun r_15 h => ?_)
            refine zjn (h (fun (v4_16 : Int32) => zX p l e (zrm 3 64) s m args below meth c (MQ below (zQc D B cA (zqI S K)) args s 0 0 (fun q => B ≤ q)) D B cA 7 0 0 S I [(6, .int v6_5), (5, .int v5_4), (4, .int v4_16), (3, .int r_1), (0, .ref (B + 64))] [] 108) (fun v4_16 h => ?_)) (fun h => ?_)
            · refine zr_aload_n C dyX1_putSound_108 rfl 4 rfl ?_
              refine zg_1_27 C hS dyX1_putSound_109 ?_
              refine zr_iload C dyX1_putSound_112 1 rfl ?_
              refine zv_1_140 C hS (st := []) h ⟨Nat.le_of_ble_eq_true rfl, Nat.le_of_ble_eq_true rfl⟩ (Nat.le_of_ble_eq_true rfl) dyX1_putSound_114 (fun r_17 h => ?_)
              refine zr_istore C dyX1_putSound_117 (Nat.le_of_ble_eq_true rfl) (lv2 := [(5, .int r_17), (6, .int v6_5), (4, .int v4_16), (3, .int r_1), (0, .ref (B + 64))]) rfl ?_
              refine zn_iinc C (fun v6_18 => [(6, .int v6_18), (5, .int r_17), (4, .int v4_16), (3, .int r_1), (0, .ref (B + 64))]) dyX1_putSound_119 1 rfl zc_i_1 (Nat.le_of_ble_eq_true rfl) (fun _ => rfl) (fun v6_18 ev6_18 => ?_)
              replace h := h v6_18 ev6_18
              refine zr_goto C dyX1_putSound_122 (tgt := 32) (by decide) ?_
              exact h
            refine zr_icmp_ne C dyX1_putSound_81 (tgt := 108) (by decide) (fun hc_22 => ?_) (fun hc_22 => ?_)
            · replace h := zif_neg hc_22 h
              exact h
            · replace h := zif_pos hc_22 h
              refine zr_aload_n C dyX1_putSound_84 rfl 4 rfl ?_
              refine zr_iload_n C dyX1_putSound_85 rfl 3 rfl ?_
              refine zr_aload_n C dyX1_putSound_86 rfl 4 rfl ?_
              refine zg_1_23 C hS dyX1_putSound_87 ?_
              refine zg_1_151 C hS dyX1_putSound_90 ?_
              refine zr_iload C dyX1_putSound_93 1 rfl ?_
              refine zv_1_35 C hS (zIsRow.of hS zir_31) (st := [.int r_1, .ref (B + 64)]) h ⟨Nat.le_of_ble_eq_true rfl, Nat.le_of_ble_eq_true rfl⟩ (Nat.le_of_ble_eq_true rfl) dyX1_putSound_95 (fun r_19 h => ?_)
              refine zv_1_153 C hS (st := []) h ⟨Nat.le_of_ble_eq_true rfl, Nat.le_of_ble_eq_true rfl⟩ (Nat.le_of_ble_eq_true rfl) dyX1_putSound_98 (fun r_20 h => ?_)
              refine zr_if_eq C dyX1_putSound_101 (tgt := 108) (by decide) (fun hc_21 => ?_) (fun hc_21 => ?_)
              · replace h := zif_pos hc_21 h
                exact h
              · replace h := zif_neg hc_21 h
                refine zr_iload C dyX1_putSound_104 1 rfl ?_
                refine zr_istore C dyX1_putSound_106 (Nat.le_of_ble_eq_true rfl) (lv2 := [(4, .int v5_4), (6, .int v6_5), (5, .int v5_4), (3, .int r_1), (0, .ref (B + 64))]) rfl ?_
                refine zr_sub (lv2 := [(6, .int v6_5), (5, .int v5_4), (4, .int v5_4), (3, .int r_1), (0, .ref (B + 64))]) [1, 2, 0, 3, 4] rfl ?_
                exact h
    exact h
  refine zr_if_ge C dyX1_putSound_11 (tgt := 19) (by decide) (fun hc_27 => ?_) (fun hc_27 => ?_)
  · replace h := zif_pos hc_27 h
    refine zr_aload_n C dyX1_putSound_19 rfl 2 rfl ?_
    refine zg_1_27 C hS dyX1_putSound_20 ?_
    refine zr_iload_n C dyX1_putSound_23 rfl 3 rfl ?_
    refine zv_1_140 C hS (st := []) h ⟨Nat.le_of_ble_eq_true rfl, Nat.le_of_ble_eq_true rfl⟩ (Nat.le_of_ble_eq_true rfl) dyX1_putSound_24 (fun r_26 h => ?_)
    refine zr_sub (lv2 := [(4, .int (-2)), (3, .int r_1), (0, .ref (B + 64))]) [0, 1, 2] rfl ?_
    exact h
  · replace h := zif_neg hc_27 h
    refine zr_bipush C dyX1_putSound_14 zc_b_m2 ?_
    refine zr_goto C dyX1_putSound_16 (tgt := 27) (by decide) ?_
    refine zr_sub (lv2 := [(4, .int (-2)), (3, .int r_1), (0, .ref (B + 64))]) [0, 1, 2] rfl ?_
    exact h
def w_Grower_putToken (a1 : Int32) (I : zI) (K : Int32 → zI → Prop) : Prop :=
  w_Row_get 65 300 (I.1 64 4) I (fun r_1 => w_Row_get 27 3400 a1 I (fun r_2 => w_Desk_leadsTo r_1 r_2 I (fun r_3 => (if r_3 = 0 then K 0 I else (w_Row_get 29 3400 a1 I (fun r_4 => ∀ (P60 : zI → Prop), (∀ (I_5 : zI), (w_Grower_put a1 r_3 I_5 (fun I_6 => K 1 I_6)) → P60 I_5) → (if 0 ≤ r_4 then P60 I else (w_Row_set 29 3400 a1 r_1 I (fun I_7 => P60 I_7)))))))))
theorem dyX1_putToken_0 : decode cX1_putToken 0 = .ok (.aload_n 0, 1) := by decide +kernel
theorem dyX1_putToken_1 : decode cX1_putToken 1 = .ok (.getfield 14, 3) := by decide +kernel
theorem dyX1_putToken_4 : decode cX1_putToken 4 = .ok (.aload_n 0, 1) := by decide +kernel
theorem dyX1_putToken_5 : decode cX1_putToken 5 = .ok (.getfield 31, 3) := by decide +kernel
theorem dyX1_putToken_8 : decode cX1_putToken 8 = .ok (.invokevirtual 35, 3) := by decide +kernel
theorem dyX1_putToken_11 : decode cX1_putToken 11 = .ok (.istore_n 2, 1) := by decide +kernel
theorem dyX1_putToken_12 : decode cX1_putToken 12 = .ok (.iload_n 2, 1) := by decide +kernel
theorem dyX1_putToken_13 : decode cX1_putToken 13 = .ok (.aload_n 0, 1) := by decide +kernel
theorem dyX1_putToken_14 : decode cX1_putToken 14 = .ok (.getfield 23, 3) := by decide +kernel
theorem dyX1_putToken_17 : decode cX1_putToken 17 = .ok (.getfield 157, 3) := by decide +kernel
theorem dyX1_putToken_20 : decode cX1_putToken 20 = .ok (.iload_n 1, 1) := by decide +kernel
theorem dyX1_putToken_21 : decode cX1_putToken 21 = .ok (.invokevirtual 35, 3) := by decide +kernel
theorem dyX1_putToken_24 : decode cX1_putToken 24 = .ok (.invokestatic 160, 3) := by decide +kernel
theorem dyX1_putToken_27 : decode cX1_putToken 27 = .ok (.istore_n 3, 1) := by decide +kernel
theorem dyX1_putToken_28 : decode cX1_putToken 28 = .ok (.iload_n 3, 1) := by decide +kernel
theorem dyX1_putToken_29 : decode cX1_putToken 29 = .ok (.ifCond .ne 5, 3) := by decide +kernel
theorem dyX1_putToken_32 : decode cX1_putToken 32 = .ok (.iconst 0, 1) := by decide +kernel
theorem dyX1_putToken_33 : decode cX1_putToken 33 = .ok (.ireturn, 1) := by decide +kernel
theorem dyX1_putToken_34 : decode cX1_putToken 34 = .ok (.aload_n 0, 1) := by decide +kernel
theorem dyX1_putToken_35 : decode cX1_putToken 35 = .ok (.getfield 23, 3) := by decide +kernel
theorem dyX1_putToken_38 : decode cX1_putToken 38 = .ok (.getfield 148, 3) := by decide +kernel
theorem dyX1_putToken_41 : decode cX1_putToken 41 = .ok (.iload_n 1, 1) := by decide +kernel
theorem dyX1_putToken_42 : decode cX1_putToken 42 = .ok (.invokevirtual 35, 3) := by decide +kernel
theorem dyX1_putToken_45 : decode cX1_putToken 45 = .ok (.ifCond .ge 15, 3) := by decide +kernel
theorem dyX1_putToken_48 : decode cX1_putToken 48 = .ok (.aload_n 0, 1) := by decide +kernel
theorem dyX1_putToken_49 : decode cX1_putToken 49 = .ok (.getfield 23, 3) := by decide +kernel
theorem dyX1_putToken_52 : decode cX1_putToken 52 = .ok (.getfield 148, 3) := by decide +kernel
theorem dyX1_putToken_55 : decode cX1_putToken 55 = .ok (.iload_n 1, 1) := by decide +kernel
theorem dyX1_putToken_56 : decode cX1_putToken 56 = .ok (.iload_n 2, 1) := by decide +kernel
theorem dyX1_putToken_57 : decode cX1_putToken 57 = .ok (.invokevirtual 98, 3) := by decide +kernel
theorem dyX1_putToken_60 : decode cX1_putToken 60 = .ok (.aload_n 0, 1) := by decide +kernel
theorem dyX1_putToken_61 : decode cX1_putToken 61 = .ok (.iload_n 1, 1) := by decide +kernel
theorem dyX1_putToken_62 : decode cX1_putToken 62 = .ok (.iload_n 3, 1) := by decide +kernel
theorem dyX1_putToken_63 : decode cX1_putToken 63 = .ok (.invokevirtual 163, 3) := by decide +kernel
theorem dyX1_putToken_66 : decode cX1_putToken 66 = .ok (.iconst 1, 1) := by decide +kernel
theorem dyX1_putToken_67 : decode cX1_putToken 67 = .ok (.ireturn, 1) := by decide +kernel
theorem zsg_yX1_putToken : yX1_putToken.cls = RX1 ∧ yX1_putToken.cls ≠ "java/lang/invoke/MethodHandle" ∧ yX1_putToken.cls ≠ "java/lang/invoke/VarHandle" ∧ (parseMethodDescriptor yX1_putToken.desc).map (fun d => d.parameters.length) = some 1 := by decide +kernel
set_option maxRecDepth 20000 in
theorem c_Grower_putToken {l : Launch} {D : va_G} {B : Nat} {cA : Nat → ClassId} {ad : Nat → Nat} {S : List zC} (hS : zOkX S) {a1 : Int32} {I : zI} {K : Int32 → zI → Prop}  (h : w_Grower_putToken a1 I K) : Met l yX1_putToken (zws yX1_putToken cX1_putToken 4 (some .int)) (zrm 2 44) (zPc D B cA ad [.ref (B + 64), .int a1] S I) (zQc D B cA (zqI S K)) 0 0 (fun q => B ≤ q) := by
  refine zm_of (cc := cX1_putToken) (maxL := 4) (ret := (some .int)) (by decide +kernel) rfl (Nat.le_of_ble_eq_true rfl) trivial ?_
  intro p e s m args below meth c C _
  unfold w_Grower_putToken at h
  show zX p l e (zrm 2 44) s m args below meth c (MQ below (zQc D B cA (zqI S K)) args s 0 0 (fun q => B ≤ q)) D B cA 4 0 0 S I [(0, .ref (B + 64)), (1, .int a1)] [] 0
  refine zr_aload_n C dyX1_putToken_0 rfl 0 rfl ?_
  refine zg_1_14 C hS dyX1_putToken_1 ?_
  refine zr_aload_n C dyX1_putToken_4 rfl 0 rfl ?_
  refine zg_1_31 C hS dyX1_putToken_5 ?_
  refine zv_1_35 C hS (zIsRow.of hS zir_65) (st := []) h ⟨Nat.le_of_ble_eq_true rfl, Nat.le_of_ble_eq_true rfl⟩ (Nat.le_of_ble_eq_true rfl) dyX1_putToken_8 (fun r_1 h => ?_)
  refine zr_istore_n C dyX1_putToken_11 rfl (Nat.le_of_ble_eq_true rfl) (lv2 := [(2, .int r_1), (0, .ref (B + 64)), (1, .int a1)]) rfl ?_
  refine zr_iload_n C dyX1_putToken_12 rfl 0 rfl ?_
  refine zr_aload_n C dyX1_putToken_13 rfl 1 rfl ?_
  refine zg_1_23 C hS dyX1_putToken_14 ?_
  refine zg_1_157 C hS dyX1_putToken_17 ?_
  refine zr_iload_n C dyX1_putToken_20 rfl 2 rfl ?_
  refine zv_1_35 C hS (zIsRow.of hS zir_27) (st := [.int r_1]) h ⟨Nat.le_of_ble_eq_true rfl, Nat.le_of_ble_eq_true rfl⟩ (Nat.le_of_ble_eq_true rfl) dyX1_putToken_21 (fun r_2 h => ?_)
  refine zv_1_160 C hS (st := []) h ⟨Nat.le_of_ble_eq_true rfl, Nat.le_of_ble_eq_true rfl⟩ (Nat.le_of_ble_eq_true rfl) dyX1_putToken_24 (fun r_3 h => ?_)
  refine zr_istore_n C dyX1_putToken_27 rfl (Nat.le_of_ble_eq_true rfl) (lv2 := [(3, .int r_3), (2, .int r_1), (0, .ref (B + 64)), (1, .int a1)]) rfl ?_
  refine zr_iload_n C dyX1_putToken_28 rfl 0 rfl ?_
  refine zr_if_ne C dyX1_putToken_29 (tgt := 34) (by decide) (fun hc_9 => ?_) (fun hc_9 => ?_)
  · replace h := zif_neg hc_9 h
    refine zr_aload_n C dyX1_putToken_34 rfl 2 rfl ?_
    refine zg_1_23 C hS dyX1_putToken_35 ?_
    refine zg_1_148 C hS dyX1_putToken_38 ?_
    refine zr_iload_n C dyX1_putToken_41 rfl 3 rfl ?_
    refine zv_1_35 C hS (zIsRow.of hS zir_29) (st := []) h ⟨Nat.le_of_ble_eq_true rfl, Nat.le_of_ble_eq_true rfl⟩ (Nat.le_of_ble_eq_true rfl) dyX1_putToken_42 (fun r_4 h => ?_)
    refine zjn (h (fun (I_5 : zI) => zX p l e (zrm 2 44) s m args below meth c (MQ below (zQc D B cA (zqI S K)) args s 0 0 (fun q => B ≤ q)) D B cA 4 0 0 S I_5 [(3, .int r_3), (0, .ref (B + 64)), (1, .int a1)] [] 60) (fun I_5 h => ?_)) (fun h => ?_)
    · refine zr_aload_n C dyX1_putToken_60 rfl 1 rfl ?_
      refine zr_iload_n C dyX1_putToken_61 rfl 2 rfl ?_
      refine zr_iload_n C dyX1_putToken_62 rfl 0 rfl ?_
      refine zv_1_163 C hS (st := []) h ⟨Nat.le_of_ble_eq_true rfl, Nat.le_of_ble_eq_true rfl⟩ (Nat.le_of_ble_eq_true rfl) dyX1_putToken_63 (fun I_6 h => ?_)
      refine zr_iconst C dyX1_putToken_66 zc_i_1 ?_
      exact zr_iret C rfl dyX1_putToken_67 ⟨rfl, _, rfl, h⟩
    refine zr_if_ge C dyX1_putToken_45 (tgt := 60) (by decide) (fun hc_8 => ?_) (fun hc_8 => ?_)
    · replace h := zif_pos hc_8 h
      refine zr_sub (lv2 := [(3, .int r_3), (0, .ref (B + 64)), (1, .int a1)]) [0, 2, 3] rfl ?_
      exact h
    · replace h := zif_neg hc_8 h
      refine zr_aload_n C dyX1_putToken_48 rfl 2 rfl ?_
      refine zg_1_23 C hS dyX1_putToken_49 ?_
      refine zg_1_148 C hS dyX1_putToken_52 ?_
      refine zr_iload_n C dyX1_putToken_55 rfl 3 rfl ?_
      refine zr_iload_n C dyX1_putToken_56 rfl 1 rfl ?_
      refine zv_1_98 C hS (zIsRow.of hS zir_29) (st := []) h ⟨Nat.le_of_ble_eq_true rfl, Nat.le_of_ble_eq_true rfl⟩ (Nat.le_of_ble_eq_true rfl) dyX1_putToken_57 (fun I_7 h => ?_)
      refine zr_sub (lv2 := [(3, .int r_3), (0, .ref (B + 64)), (1, .int a1)]) [0, 2, 3] rfl ?_
      exact h
  · replace h := zif_pos hc_9 h
    refine zr_iconst C dyX1_putToken_32 zc_i_0 ?_
    exact zr_iret C rfl dyX1_putToken_33 ⟨rfl, _, rfl, h⟩
theorem zv_3_56 {p : Program} {l : Launch} {e : Env} {R : Room} {s : State} {m : MethodId} {args : Array Value} {below : List Frame} {meth : Method} {c : Code} {Q : State → Prop} {D : va_G} {B : Nat} {cA : Nat → ClassId} {ad : Nat → Nat} {cc : ByteArray} {nL : Nat} {ret : Option FieldType} {S : List zC} {I : zI} {lv : List (Nat × Value)} {st : List Value} {pc : Nat} (C : zCx p s m args meth c cc nL RX3 ret D B cA ad) {K : Int32 → Prop} {xa0 : Int32} (hS : zOkX S)  (h : w_Desk_symbolOf xa0 I K) (hR : 0 + 1 ≤ R.frames ∧ 8 + (1 + 11) + (0) ≤ R.locals) (hw : (st.map fun v => v.category).sum ≤ 8) (hd : decode cc pc = .ok (.invokestatic 56, 3)) (kk : ∀ v, K v → zX p l e R s m args below meth c Q D B cA nL 0 0 S I lv (.int v :: st) (pc + 3)) : zX p l e R s m args below meth c Q D B cA nL 0 0 S I lv (.int xa0 :: st) pc :=
  have hf : 0 ≤ R.cells ∧ 0 ≤ R.slots := ⟨Nat.zero_le _, Nat.zero_le _⟩
  zc_NpI C (As := [.int xa0]) (st := st) (c_Desk_symbolOf hS h) (zgM zk_cd_yX11_symbolOf) zk_mn_3_56 zk_st_yX11_symbolOf zk_in_11 zsg_yX11_symbolOf hR rfl rfl hw hd hf kk
def w_Nodes_makeRuled (a1 : Int32) (a2 : Int32) (a3 : Int32) (I : zI) (K : Int32 → zI → Prop) : Prop :=
  w_Desk_symbolOf a1 I (fun r_1 => w_Nodes_make a1 r_1 a2 a3 I (fun r_2 I_3 => w_Row_set 31 3400 r_2 0 I_3 (fun I_4 => K r_2 I_4)))
theorem dyX3_makeRuled_0 : decode cX3_makeRuled 0 = .ok (.aload_n 0, 1) := by decide +kernel
theorem dyX3_makeRuled_1 : decode cX3_makeRuled 1 = .ok (.iload_n 1, 1) := by decide +kernel
theorem dyX3_makeRuled_2 : decode cX3_makeRuled 2 = .ok (.iload_n 1, 1) := by decide +kernel
theorem dyX3_makeRuled_3 : decode cX3_makeRuled 3 = .ok (.invokestatic 56, 3) := by decide +kernel
theorem dyX3_makeRuled_6 : decode cX3_makeRuled 6 = .ok (.iload_n 2, 1) := by decide +kernel
theorem dyX3_makeRuled_7 : decode cX3_makeRuled 7 = .ok (.iload_n 3, 1) := by decide +kernel
theorem dyX3_makeRuled_8 : decode cX3_makeRuled 8 = .ok (.invokevirtual 48, 3) := by decide +kernel
theorem dyX3_makeRuled_11 : decode cX3_makeRuled 11 = .ok (.istore 4, 2) := by decide +kernel
theorem dyX3_makeRuled_13 : decode cX3_makeRuled 13 = .ok (.aload_n 0, 1) := by decide +kernel
theorem dyX3_makeRuled_14 : decode cX3_makeRuled 14 = .ok (.getfield 26, 3) := by decide +kernel
theorem dyX3_makeRuled_17 : decode cX3_makeRuled 17 = .ok (.iload 4, 2) := by decide +kernel
theorem dyX3_makeRuled_19 : decode cX3_makeRuled 19 = .ok (.iconst 0, 1) := by decide +kernel
theorem dyX3_makeRuled_20 : decode cX3_makeRuled 20 = .ok (.invokevirtual 52, 3) := by decide +kernel
theorem dyX3_makeRuled_23 : decode cX3_makeRuled 23 = .ok (.iload 4, 2) := by decide +kernel
theorem dyX3_makeRuled_25 : decode cX3_makeRuled 25 = .ok (.ireturn, 1) := by decide +kernel
theorem zsg_yX3_makeRuled : yX3_makeRuled.cls = RX3 ∧ yX3_makeRuled.cls ≠ "java/lang/invoke/MethodHandle" ∧ yX3_makeRuled.cls ≠ "java/lang/invoke/VarHandle" ∧ (parseMethodDescriptor yX3_makeRuled.desc).map (fun d => d.parameters.length) = some 3 := by decide +kernel
set_option maxRecDepth 20000 in
theorem c_Nodes_makeRuled {l : Launch} {D : va_G} {B : Nat} {cA : Nat → ClassId} {ad : Nat → Nat} {S : List zC} (hS : zOkX S) {a1 : Int32} {a2 : Int32} {a3 : Int32} {I : zI} {K : Int32 → zI → Prop}  (h : w_Nodes_makeRuled a1 a2 a3 I K) : Met l yX3_makeRuled (zws yX3_makeRuled cX3_makeRuled 5 (some .int)) (zrm 2 47) (zPc D B cA ad [.ref (B + 24), .int a1, .int a2, .int a3] S I) (zQc D B cA (zqI S K)) 0 0 (fun q => B ≤ q) := by
  refine zm_of (cc := cX3_makeRuled) (maxL := 5) (ret := (some .int)) (by decide +kernel) rfl (Nat.le_of_ble_eq_true rfl) trivial ?_
  intro p e s m args below meth c C _
  unfold w_Nodes_makeRuled at h
  show zX p l e (zrm 2 47) s m args below meth c (MQ below (zQc D B cA (zqI S K)) args s 0 0 (fun q => B ≤ q)) D B cA 5 0 0 S I [(0, .ref (B + 24)), (1, .int a1), (2, .int a2), (3, .int a3)] [] 0
  refine zr_aload_n C dyX3_makeRuled_0 rfl 0 rfl ?_
  refine zr_iload_n C dyX3_makeRuled_1 rfl 1 rfl ?_
  refine zr_iload_n C dyX3_makeRuled_2 rfl 1 rfl ?_
  refine zv_3_56 C hS (st := [.int a1, .ref (B + 24)]) h ⟨Nat.le_of_ble_eq_true rfl, Nat.le_of_ble_eq_true rfl⟩ (Nat.le_of_ble_eq_true rfl) dyX3_makeRuled_3 (fun r_1 h => ?_)
  refine zr_iload_n C dyX3_makeRuled_6 rfl 2 rfl ?_
  refine zr_iload_n C dyX3_makeRuled_7 rfl 3 rfl ?_
  refine zv_3_48 C hS (st := []) h ⟨Nat.le_of_ble_eq_true rfl, Nat.le_of_ble_eq_true rfl⟩ (Nat.le_of_ble_eq_true rfl) dyX3_makeRuled_8 (fun r_2 I_3 h => ?_)
  refine zr_istore C dyX3_makeRuled_11 (Nat.le_of_ble_eq_true rfl) (lv2 := [(4, .int r_2), (0, .ref (B + 24)), (1, .int a1), (2, .int a2), (3, .int a3)]) rfl ?_
  refine zr_aload_n C dyX3_makeRuled_13 rfl 1 rfl ?_
  refine zg_3_26 C hS dyX3_makeRuled_14 ?_
  refine zr_iload C dyX3_makeRuled_17 0 rfl ?_
  refine zr_iconst C dyX3_makeRuled_19 zc_i_0 ?_
  refine zv_3_52 C hS (zIsRow.of hS zir_31) (st := []) h ⟨Nat.le_of_ble_eq_true rfl, Nat.le_of_ble_eq_true rfl⟩ (Nat.le_of_ble_eq_true rfl) dyX3_makeRuled_20 (fun I_4 h => ?_)
  refine zr_iload C dyX3_makeRuled_23 0 rfl ?_
  exact zr_iret C rfl dyX3_makeRuled_25 ⟨rfl, _, rfl, h⟩
theorem zv_6_13 {p : Program} {l : Launch} {e : Env} {R : Room} {s : State} {m : MethodId} {args : Array Value} {below : List Frame} {meth : Method} {c : Code} {Q : State → Prop} {D : va_G} {B : Nat} {cA : Nat → ClassId} {ad : Nat → Nat} {cc : ByteArray} {nL : Nat} {ret : Option FieldType} {S : List zC} {I : zI} {lv : List (Nat × Value)} {st : List Value} {pc : Nat} (C : zCx p s m args meth c cc nL RX6 ret D B cA ad) {K : Int32 → Prop} {xk : Nat} {xn : Nat} {xa1 : Int32} (hS : zOkX S) (xhk : zIsRow S xk xn) (h : w_Row_get xk xn xa1 I K) (hR : 0 + 1 ≤ R.frames ∧ 8 + (2 + 11) + (0) ≤ R.locals) (hw : (st.map fun v => v.category).sum ≤ 8) (hd : decode cc pc = .ok (.invokevirtual 13, 3)) (kk : ∀ v, K v → zX p l e R s m args below meth c Q D B cA nL 0 0 S I lv (.int v :: st) (pc + 3)) : zX p l e R s m args below meth c Q D B cA nL 0 0 S I lv (.int xa1 :: .ref (B + xk) :: st) pc :=
  have hf : 0 ≤ R.cells ∧ 0 ≤ R.slots := ⟨Nat.zero_le _, Nat.zero_le _⟩
  zc_VpI C (ci := 6) (q := (RX6, TX6, 1)) (k := xk) (fs := [some (some (xk + 1))]) (As := [.int xa1]) (st := st) rfl xhk.1 (c_Row_get hS xhk h) (zgV zk_ml_6_13 zk_im_yX6_get zk_se_yX6_get zk_in_6 zk_cd_yX6_get) zsg_yX6_get hR rfl rfl hw hd hf kk
theorem zv_6_17 {p : Program} {l : Launch} {e : Env} {R : Room} {s : State} {m : MethodId} {args : Array Value} {below : List Frame} {meth : Method} {c : Code} {Q : State → Prop} {D : va_G} {B : Nat} {cA : Nat → ClassId} {ad : Nat → Nat} {cc : ByteArray} {nL : Nat} {ret : Option FieldType} {S : List zC} {I : zI} {lv : List (Nat × Value)} {st : List Value} {pc : Nat} (C : zCx p s m args meth c cc nL RX6 ret D B cA ad) {K : zI → Prop} {xk : Nat} {xn : Nat} {xa1 : Int32} {xa2 : Int32} (hS : zOkX S) (xhk : zIsRow S xk xn) (h : w_Row_set xk xn xa1 xa2 I K) (hR : 0 + 1 ≤ R.frames ∧ 8 + (3 + 11) + (0) ≤ R.locals) (hw : (st.map fun v => v.category).sum ≤ 8) (hd : decode cc pc = .ok (.invokevirtual 17, 3)) (kk : ∀ I2, K I2 → zX p l e R s m args below meth c Q D B cA nL 0 0 S I2 lv st (pc + 3)) : zX p l e R s m args below meth c Q D B cA nL 0 0 S I lv (.int xa2 :: .int xa1 :: .ref (B + xk) :: st) pc :=
  have hf : 0 ≤ R.cells ∧ 0 ≤ R.slots := ⟨Nat.zero_le _, Nat.zero_le _⟩
  zc_VqV C (ci := 6) (q := (RX6, TX6, 1)) (k := xk) (fs := [some (some (xk + 1))]) (As := [.int xa1, .int xa2]) (st := st) rfl xhk.1 (c_Row_set hS xhk h) (zgV zk_ml_6_17 zk_im_yX6_set zk_se_yX6_set zk_in_6 zk_cd_yX6_set) zsg_yX6_set hR rfl rfl hw hd hf kk
def w_Row_add (k : Nat) (n : Nat) (a1 : Int32) (a2 : Int32) (I : zI) (K : zI → Prop) : Prop :=
  w_Row_get k n a1 I (fun r_1 => w_Row_set k n a1 (r_1 + a2) I (fun I_2 => K I_2))
theorem dyX6_add_0 : decode cX6_add 0 = .ok (.aload_n 0, 1) := by decide +kernel
theorem dyX6_add_1 : decode cX6_add 1 = .ok (.iload_n 1, 1) := by decide +kernel
theorem dyX6_add_2 : decode cX6_add 2 = .ok (.aload_n 0, 1) := by decide +kernel
theorem dyX6_add_3 : decode cX6_add 3 = .ok (.iload_n 1, 1) := by decide +kernel
theorem dyX6_add_4 : decode cX6_add 4 = .ok (.invokevirtual 13, 3) := by decide +kernel
theorem dyX6_add_7 : decode cX6_add 7 = .ok (.iload_n 2, 1) := by decide +kernel
theorem dyX6_add_8 : decode cX6_add 8 = .ok (.iadd, 1) := by decide +kernel
theorem dyX6_add_9 : decode cX6_add 9 = .ok (.invokevirtual 17, 3) := by decide +kernel
theorem dyX6_add_12 : decode cX6_add 12 = .ok (.return_, 1) := by decide +kernel
theorem zsg_yX6_add : yX6_add.cls = RX6 ∧ yX6_add.cls ≠ "java/lang/invoke/MethodHandle" ∧ yX6_add.cls ≠ "java/lang/invoke/VarHandle" ∧ (parseMethodDescriptor yX6_add.desc).map (fun d => d.parameters.length) = some 2 := by decide +kernel
set_option maxRecDepth 20000 in
theorem c_Row_add {l : Launch} {D : va_G} {B : Nat} {cA : Nat → ClassId} {ad : Nat → Nat} {S : List zC} (hS : zOkX S) {k : Nat} {n : Nat} {a1 : Int32} {a2 : Int32} {I : zI} {K : zI → Prop} (hk : zIsRow S k n) (h : w_Row_add k n a1 a2 I K) : Met l yX6_add (zws yX6_add cX6_add 3 none) (zrm 1 22) (zPc D B cA ad [.ref (B + k), .int a1, .int a2] S I) (zQc D B cA (zqV S K)) 0 0 (fun q => B ≤ q) := by
  refine zm_of (cc := cX6_add) (maxL := 3) (ret := none) (by decide +kernel) rfl (Nat.le_of_ble_eq_true rfl) trivial ?_
  intro p e s m args below meth c C _
  unfold w_Row_add at h
  show zX p l e (zrm 1 22) s m args below meth c (MQ below (zQc D B cA (zqV S K)) args s 0 0 (fun q => B ≤ q)) D B cA 3 0 0 S I [(0, .ref (B + k)), (1, .int a1), (2, .int a2)] [] 0
  refine zr_aload_n C dyX6_add_0 rfl 0 rfl ?_
  refine zr_iload_n C dyX6_add_1 rfl 1 rfl ?_
  refine zr_aload_n C dyX6_add_2 rfl 0 rfl ?_
  refine zr_iload_n C dyX6_add_3 rfl 1 rfl ?_
  refine zv_6_13 C hS hk (st := [.int a1, .ref (B + k)]) h ⟨Nat.le_of_ble_eq_true rfl, Nat.le_of_ble_eq_true rfl⟩ (Nat.le_of_ble_eq_true rfl) dyX6_add_4 (fun r_1 h => ?_)
  refine zr_iload_n C dyX6_add_7 rfl 2 rfl ?_
  refine zr_iadd C dyX6_add_8 ?_
  refine zv_6_17 C hS hk (st := []) h ⟨Nat.le_of_ble_eq_true rfl, Nat.le_of_ble_eq_true rfl⟩ (Nat.le_of_ble_eq_true rfl) dyX6_add_9 (fun I_2 h => ?_)
  exact zr_vret C rfl dyX6_add_12 ⟨rfl, rfl, h⟩
theorem zg_3_41 {p : Program} {l : Launch} {e : Env} {R : Room} {s : State} {m : MethodId} {args : Array Value} {below : List Frame} {meth : Method} {c : Code} {Q : State → Prop} {D : va_G} {B : Nat} {cA : Nat → ClassId} {ad : Nat → Nat} {cc : ByteArray} {nL : Nat} {ret : Option FieldType} {S : List zC} {I : zI} {lv : List (Nat × Value)} {st : List Value} {pc : Nat} (C : zCx p s m args meth c cc nL RX3 ret D B cA ad) (hS : zOkX S) (hd : decode cc pc = .ok (.getfield 41, 3)) (kk : zX p l e R s m args below meth c Q D B cA nL 0 0 S I lv (.ref (B + 41) :: st) (pc + 3)) : zX p l e R s m args below meth c Q D B cA nL 0 0 S I lv (.ref (B + 24) :: st) pc :=
  zr_getr C (ci := 3) (Cn := RX3) (T := TX3) (N := 10) (k := 24) (j := 8) (fs := [some (some 25), some (some 27), some (some 29), some (some 31), some (some 33), some (some 35), some (some 37), some (some 39), some (some 41), none]) rfl zin_3 (Nat.le_of_ble_eq_true rfl) rfl (hS _ _ zs_24) rfl zk_fl_3_41 hd kk
theorem zv_3_63 {p : Program} {l : Launch} {e : Env} {R : Room} {s : State} {m : MethodId} {args : Array Value} {below : List Frame} {meth : Method} {c : Code} {Q : State → Prop} {D : va_G} {B : Nat} {cA : Nat → ClassId} {ad : Nat → Nat} {cc : ByteArray} {nL : Nat} {ret : Option FieldType} {S : List zC} {I : zI} {lv : List (Nat × Value)} {st : List Value} {pc : Nat} (C : zCx p s m args meth c cc nL RX3 ret D B cA ad) {K : zI → Prop} {xk : Nat} {xn : Nat} {xa1 : Int32} {xa2 : Int32} (hS : zOkX S) (xhk : zIsRow S xk xn) (h : w_Row_add xk xn xa1 xa2 I K) (hR : 1 + 1 ≤ R.frames ∧ 8 + (3 + 11) + (22) ≤ R.locals) (hw : (st.map fun v => v.category).sum ≤ 8) (hd : decode cc pc = .ok (.invokevirtual 63, 3)) (kk : ∀ I2, K I2 → zX p l e R s m args below meth c Q D B cA nL 0 0 S I2 lv st (pc + 3)) : zX p l e R s m args below meth c Q D B cA nL 0 0 S I lv (.int xa2 :: .int xa1 :: .ref (B + xk) :: st) pc :=
  have hf : 0 ≤ R.cells ∧ 0 ≤ R.slots := ⟨Nat.zero_le _, Nat.zero_le _⟩
  zc_VqV C (ci := 6) (q := (RX6, TX6, 1)) (k := xk) (fs := [some (some (xk + 1))]) (As := [.int xa1, .int xa2]) (st := st) rfl xhk.1 (c_Row_add hS xhk h) (zgV zk_ml_3_63 zk_im_yX6_add zk_se_yX6_add zk_in_6 zk_cd_yX6_add) zsg_yX6_add hR rfl rfl hw hd hf kk
def w_Nodes_giveChild (a1 : Int32) (a2 : Int32) (a3 : Int32) (I : zI) (K : zI → Prop) : Prop :=
  w_Row_set 41 13600 ((a1 * 4) + a2) a3 I (fun I_1 => w_Row_get 31 3400 a3 I_1 (fun r_2 => w_Row_add 31 3400 a1 r_2 I_1 (fun I_3 => K I_3)))
theorem dyX3_giveChild_0 : decode cX3_giveChild 0 = .ok (.aload_n 0, 1) := by decide +kernel
theorem dyX3_giveChild_1 : decode cX3_giveChild 1 = .ok (.getfield 41, 3) := by decide +kernel
theorem dyX3_giveChild_4 : decode cX3_giveChild 4 = .ok (.iload_n 1, 1) := by decide +kernel
theorem dyX3_giveChild_5 : decode cX3_giveChild 5 = .ok (.iconst 4, 1) := by decide +kernel
theorem dyX3_giveChild_6 : decode cX3_giveChild 6 = .ok (.imul, 1) := by decide +kernel
theorem dyX3_giveChild_7 : decode cX3_giveChild 7 = .ok (.iload_n 2, 1) := by decide +kernel
theorem dyX3_giveChild_8 : decode cX3_giveChild 8 = .ok (.iadd, 1) := by decide +kernel
theorem dyX3_giveChild_9 : decode cX3_giveChild 9 = .ok (.iload_n 3, 1) := by decide +kernel
theorem dyX3_giveChild_10 : decode cX3_giveChild 10 = .ok (.invokevirtual 52, 3) := by decide +kernel
theorem dyX3_giveChild_13 : decode cX3_giveChild 13 = .ok (.aload_n 0, 1) := by decide +kernel
theorem dyX3_giveChild_14 : decode cX3_giveChild 14 = .ok (.getfield 26, 3) := by decide +kernel
theorem dyX3_giveChild_17 : decode cX3_giveChild 17 = .ok (.iload_n 1, 1) := by decide +kernel
theorem dyX3_giveChild_18 : decode cX3_giveChild 18 = .ok (.aload_n 0, 1) := by decide +kernel
theorem dyX3_giveChild_19 : decode cX3_giveChild 19 = .ok (.getfield 26, 3) := by decide +kernel
theorem dyX3_giveChild_22 : decode cX3_giveChild 22 = .ok (.iload_n 3, 1) := by decide +kernel
theorem dyX3_giveChild_23 : decode cX3_giveChild 23 = .ok (.invokevirtual 60, 3) := by decide +kernel
theorem dyX3_giveChild_26 : decode cX3_giveChild 26 = .ok (.invokevirtual 63, 3) := by decide +kernel
theorem dyX3_giveChild_29 : decode cX3_giveChild 29 = .ok (.return_, 1) := by decide +kernel
theorem zsg_yX3_giveChild : yX3_giveChild.cls = RX3 ∧ yX3_giveChild.cls ≠ "java/lang/invoke/MethodHandle" ∧ yX3_giveChild.cls ≠ "java/lang/invoke/VarHandle" ∧ (parseMethodDescriptor yX3_giveChild.desc).map (fun d => d.parameters.length) = some 3 := by decide +kernel
set_option maxRecDepth 20000 in
theorem c_Nodes_giveChild {l : Launch} {D : va_G} {B : Nat} {cA : Nat → ClassId} {ad : Nat → Nat} {S : List zC} (hS : zOkX S) {a1 : Int32} {a2 : Int32} {a3 : Int32} {I : zI} {K : zI → Prop}  (h : w_Nodes_giveChild a1 a2 a3 I K) : Met l yX3_giveChild (zws yX3_giveChild cX3_giveChild 4 none) (zrm 2 44) (zPc D B cA ad [.ref (B + 24), .int a1, .int a2, .int a3] S I) (zQc D B cA (zqV S K)) 0 0 (fun q => B ≤ q) := by
  refine zm_of (cc := cX3_giveChild) (maxL := 4) (ret := none) (by decide +kernel) rfl (Nat.le_of_ble_eq_true rfl) trivial ?_
  intro p e s m args below meth c C _
  unfold w_Nodes_giveChild at h
  show zX p l e (zrm 2 44) s m args below meth c (MQ below (zQc D B cA (zqV S K)) args s 0 0 (fun q => B ≤ q)) D B cA 4 0 0 S I [(0, .ref (B + 24)), (1, .int a1), (2, .int a2), (3, .int a3)] [] 0
  refine zr_aload_n C dyX3_giveChild_0 rfl 0 rfl ?_
  refine zg_3_41 C hS dyX3_giveChild_1 ?_
  refine zr_iload_n C dyX3_giveChild_4 rfl 1 rfl ?_
  refine zr_iconst C dyX3_giveChild_5 zc_i_4 ?_
  refine zr_imul C dyX3_giveChild_6 ?_
  refine zr_iload_n C dyX3_giveChild_7 rfl 2 rfl ?_
  refine zr_iadd C dyX3_giveChild_8 ?_
  refine zr_iload_n C dyX3_giveChild_9 rfl 3 rfl ?_
  refine zv_3_52 C hS (zIsRow.of hS zir_41) (st := []) h ⟨Nat.le_of_ble_eq_true rfl, Nat.le_of_ble_eq_true rfl⟩ (Nat.le_of_ble_eq_true rfl) dyX3_giveChild_10 (fun I_1 h => ?_)
  refine zr_aload_n C dyX3_giveChild_13 rfl 0 rfl ?_
  refine zg_3_26 C hS dyX3_giveChild_14 ?_
  refine zr_iload_n C dyX3_giveChild_17 rfl 1 rfl ?_
  refine zr_aload_n C dyX3_giveChild_18 rfl 0 rfl ?_
  refine zg_3_26 C hS dyX3_giveChild_19 ?_
  refine zr_iload_n C dyX3_giveChild_22 rfl 3 rfl ?_
  refine zv_3_60 C hS (zIsRow.of hS zir_31) (st := [.int a1, .ref (B + 31)]) h ⟨Nat.le_of_ble_eq_true rfl, Nat.le_of_ble_eq_true rfl⟩ (Nat.le_of_ble_eq_true rfl) dyX3_giveChild_23 (fun r_2 h => ?_)
  refine zv_3_63 C hS (zIsRow.of hS zir_31) (st := []) h ⟨Nat.le_of_ble_eq_true rfl, Nat.le_of_ble_eq_true rfl⟩ (Nat.le_of_ble_eq_true rfl) dyX3_giveChild_26 (fun I_3 h => ?_)
  exact zr_vret C rfl dyX3_giveChild_29 ⟨rfl, rfl, h⟩
theorem zv_1_166 {p : Program} {l : Launch} {e : Env} {R : Room} {s : State} {m : MethodId} {args : Array Value} {below : List Frame} {meth : Method} {c : Code} {Q : State → Prop} {D : va_G} {B : Nat} {cA : Nat → ClassId} {ad : Nat → Nat} {cc : ByteArray} {nL : Nat} {ret : Option FieldType} {S : List zC} {I : zI} {lv : List (Nat × Value)} {st : List Value} {pc : Nat} (C : zCx p s m args meth c cc nL RX1 ret D B cA ad) {K : Int32 → Prop} {xa0 : Int32} (hS : zOkX S)  (h : w_Desk_ruleAt xa0 I K) (hR : 0 + 1 ≤ R.frames ∧ 8 + (1 + 11) + (0) ≤ R.locals) (hw : (st.map fun v => v.category).sum ≤ 8) (hd : decode cc pc = .ok (.invokestatic 166, 3)) (kk : ∀ v, K v → zX p l e R s m args below meth c Q D B cA nL 0 0 S I lv (.int v :: st) (pc + 3)) : zX p l e R s m args below meth c Q D B cA nL 0 0 S I lv (.int xa0 :: st) pc :=
  have hf : 0 ≤ R.cells ∧ 0 ≤ R.slots := ⟨Nat.zero_le _, Nat.zero_le _⟩
  zc_NpI C (As := [.int xa0]) (st := st) (c_Desk_ruleAt hS h) (zgM zk_cd_yX11_ruleAt) zk_mn_1_166 zk_st_yX11_ruleAt zk_in_11 zsg_yX11_ruleAt hR rfl rfl hw hd hf kk
theorem zv_1_169 {p : Program} {l : Launch} {e : Env} {R : Room} {s : State} {m : MethodId} {args : Array Value} {below : List Frame} {meth : Method} {c : Code} {Q : State → Prop} {D : va_G} {B : Nat} {cA : Nat → ClassId} {ad : Nat → Nat} {cc : ByteArray} {nL : Nat} {ret : Option FieldType} {S : List zC} {I : zI} {lv : List (Nat × Value)} {st : List Value} {pc : Nat} (C : zCx p s m args meth c cc nL RX1 ret D B cA ad) {K : Int32 → Prop} {xa0 : Int32} (hS : zOkX S)  (h : w_Desk_lengthOf xa0 I K) (hR : 0 + 1 ≤ R.frames ∧ 8 + (1 + 11) + (0) ≤ R.locals) (hw : (st.map fun v => v.category).sum ≤ 8) (hd : decode cc pc = .ok (.invokestatic 169, 3)) (kk : ∀ v, K v → zX p l e R s m args below meth c Q D B cA nL 0 0 S I lv (.int v :: st) (pc + 3)) : zX p l e R s m args below meth c Q D B cA nL 0 0 S I lv (.int xa0 :: st) pc :=
  have hf : 0 ≤ R.cells ∧ 0 ≤ R.slots := ⟨Nat.zero_le _, Nat.zero_le _⟩
  zc_NpI C (As := [.int xa0]) (st := st) (c_Desk_lengthOf hS h) (zgM zk_cd_yX11_lengthOf) zk_mn_1_169 zk_st_yX11_lengthOf zk_in_11 zsg_yX11_lengthOf hR rfl rfl hw hd hf kk
theorem zv_1_172 {p : Program} {l : Launch} {e : Env} {R : Room} {s : State} {m : MethodId} {args : Array Value} {below : List Frame} {meth : Method} {c : Code} {Q : State → Prop} {D : va_G} {B : Nat} {cA : Nat → ClassId} {ad : Nat → Nat} {cc : ByteArray} {nL : Nat} {ret : Option FieldType} {S : List zC} {I : zI} {lv : List (Nat × Value)} {st : List Value} {pc : Nat} (C : zCx p s m args meth c cc nL RX1 ret D B cA ad) {K : Int32 → zI → Prop} {xa1 : Int32} {xa2 : Int32} {xa3 : Int32} (hS : zOkX S)  (h : w_Nodes_makeRuled xa1 xa2 xa3 I K) (hR : 2 + 1 ≤ R.frames ∧ 8 + (5 + 11) + (47) ≤ R.locals) (hw : (st.map fun v => v.category).sum ≤ 8) (hd : decode cc pc = .ok (.invokevirtual 172, 3)) (kk : ∀ v I2, K v I2 → zX p l e R s m args below meth c Q D B cA nL 0 0 S I2 lv (.int v :: st) (pc + 3)) : zX p l e R s m args below meth c Q D B cA nL 0 0 S I lv (.int xa3 :: .int xa2 :: .int xa1 :: .ref (B + 24) :: st) pc :=
  have hf : 0 ≤ R.cells ∧ 0 ≤ R.slots := ⟨Nat.zero_le _, Nat.zero_le _⟩
  zc_VqI C (ci := 3) (q := (RX3, TX3, 10)) (k := 24) (fs := [some (some 25), some (some 27), some (some 29), some (some 31), some (some 33), some (some 35), some (some 37), some (some 39), some (some 41), none]) (As := [.int xa1, .int xa2, .int xa3]) (st := st) rfl (hS _ _ zs_24) (c_Nodes_makeRuled hS h) (zgV zk_ml_1_172 zk_im_yX3_makeRuled zk_se_yX3_makeRuled zk_in_3 zk_cd_yX3_makeRuled) zsg_yX3_makeRuled hR rfl rfl hw hd hf kk
theorem zv_1_180 {p : Program} {l : Launch} {e : Env} {R : Room} {s : State} {m : MethodId} {args : Array Value} {below : List Frame} {meth : Method} {c : Code} {Q : State → Prop} {D : va_G} {B : Nat} {cA : Nat → ClassId} {ad : Nat → Nat} {cc : ByteArray} {nL : Nat} {ret : Option FieldType} {S : List zC} {I : zI} {lv : List (Nat × Value)} {st : List Value} {pc : Nat} (C : zCx p s m args meth c cc nL RX1 ret D B cA ad) {K : Int32 → Prop} {xa0 : Int32} (hS : zOkX S)  (h : w_Desk_symbolOf xa0 I K) (hR : 0 + 1 ≤ R.frames ∧ 8 + (1 + 11) + (0) ≤ R.locals) (hw : (st.map fun v => v.category).sum ≤ 8) (hd : decode cc pc = .ok (.invokestatic 180, 3)) (kk : ∀ v, K v → zX p l e R s m args below meth c Q D B cA nL 0 0 S I lv (.int v :: st) (pc + 3)) : zX p l e R s m args below meth c Q D B cA nL 0 0 S I lv (.int xa0 :: st) pc :=
  have hf : 0 ≤ R.cells ∧ 0 ≤ R.slots := ⟨Nat.zero_le _, Nat.zero_le _⟩
  zc_NpI C (As := [.int xa0]) (st := st) (c_Desk_symbolOf hS h) (zgM zk_cd_yX11_symbolOf) zk_mn_1_180 zk_st_yX11_symbolOf zk_in_11 zsg_yX11_symbolOf hR rfl rfl hw hd hf kk
theorem zg_1_118 {p : Program} {l : Launch} {e : Env} {R : Room} {s : State} {m : MethodId} {args : Array Value} {below : List Frame} {meth : Method} {c : Code} {Q : State → Prop} {D : va_G} {B : Nat} {cA : Nat → ClassId} {ad : Nat → Nat} {cc : ByteArray} {nL : Nat} {ret : Option FieldType} {S : List zC} {I : zI} {lv : List (Nat × Value)} {st : List Value} {pc : Nat} (C : zCx p s m args meth c cc nL RX1 ret D B cA ad) (hS : zOkX S) (hd : decode cc pc = .ok (.getfield 118, 3)) (kk : zX p l e R s m args below meth c Q D B cA nL 0 0 S I lv (.int (I.1 64 10) :: st) (pc + 3)) : zX p l e R s m args below meth c Q D B cA nL 0 0 S I lv (.ref (B + 64) :: st) pc :=
  zr_geti C (ci := 1) (Cn := RX1) (T := TX1) (N := 14) (k := 64) (j := 10) (fs := [some (some 24), some (some 43), some (some 65), some (some 67), none, none, none, none, none, none, none, none, none, none]) rfl zin_1 (Nat.le_of_ble_eq_true rfl) rfl (hS _ _ zs_64) rfl zk_fl_1_118 hd kk
theorem zp_1_118 {p : Program} {l : Launch} {e : Env} {R : Room} {s : State} {m : MethodId} {args : Array Value} {below : List Frame} {meth : Method} {c : Code} {Q : State → Prop} {D : va_G} {B : Nat} {cA : Nat → ClassId} {ad : Nat → Nat} {cc : ByteArray} {nL : Nat} {ret : Option FieldType} {S : List zC} {I : zI} {lv : List (Nat × Value)} {st : List Value} {pc : Nat} (C : zCx p s m args meth c cc nL RX1 ret D B cA ad) (hS : zOkX S) {v : Int32} (hd : decode cc pc = .ok (.putfield 118, 3)) (kk : zX p l e R s m args below meth c Q D B cA nL 0 0 S (zu I 64 10 v) lv st (pc + 3)) : zX p l e R s m args below meth c Q D B cA nL 0 0 S I lv (.int v :: .ref (B + 64) :: st) pc :=
  zr_puti C (ci := 1) (Cn := RX1) (T := TX1) (N := 14) (k := 64) (j := 10) (fs := [some (some 24), some (some 43), some (some 65), some (some 67), none, none, none, none, none, none, none, none, none, none]) rfl zin_1 (Nat.le_of_ble_eq_true rfl) rfl (hS _ _ zs_64) rfl tyX1 tyX1_ok nmX1 (ty := .int) zpd_I rfl rfl rfl zk_fl_1_118 hd kk
theorem zv_1_176 {p : Program} {l : Launch} {e : Env} {R : Room} {s : State} {m : MethodId} {args : Array Value} {below : List Frame} {meth : Method} {c : Code} {Q : State → Prop} {D : va_G} {B : Nat} {cA : Nat → ClassId} {ad : Nat → Nat} {cc : ByteArray} {nL : Nat} {ret : Option FieldType} {S : List zC} {I : zI} {lv : List (Nat × Value)} {st : List Value} {pc : Nat} (C : zCx p s m args meth c cc nL RX1 ret D B cA ad) {K : zI → Prop} {xa1 : Int32} {xa2 : Int32} {xa3 : Int32} (hS : zOkX S)  (h : w_Nodes_giveChild xa1 xa2 xa3 I K) (hR : 2 + 1 ≤ R.frames ∧ 8 + (4 + 11) + (44) ≤ R.locals) (hw : (st.map fun v => v.category).sum ≤ 8) (hd : decode cc pc = .ok (.invokevirtual 176, 3)) (kk : ∀ I2, K I2 → zX p l e R s m args below meth c Q D B cA nL 0 0 S I2 lv st (pc + 3)) : zX p l e R s m args below meth c Q D B cA nL 0 0 S I lv (.int xa3 :: .int xa2 :: .int xa1 :: .ref (B + 24) :: st) pc :=
  have hf : 0 ≤ R.cells ∧ 0 ≤ R.slots := ⟨Nat.zero_le _, Nat.zero_le _⟩
  zc_VqV C (ci := 3) (q := (RX3, TX3, 10)) (k := 24) (fs := [some (some 25), some (some 27), some (some 29), some (some 31), some (some 33), some (some 35), some (some 37), some (some 39), some (some 41), none]) (As := [.int xa1, .int xa2, .int xa3]) (st := st) rfl (hS _ _ zs_24) (c_Nodes_giveChild hS h) (zgV zk_ml_1_176 zk_im_yX3_giveChild zk_se_yX3_giveChild zk_in_3 zk_cd_yX3_giveChild) zsg_yX3_giveChild hR rfl rfl hw hd hf kk
def w_Grower_makeByRule (a1 : Int32) (I : zI) (K : Int32 → zI → Prop) : Prop :=
  w_Row_get 65 300 (I.1 64 4) I (fun r_1 => w_Desk_ruleAt r_1 I (fun r_2 => w_Desk_lengthOf r_2 I (fun r_3 => (if r_2 < 0 then K 0 I else (if r_3 ≤ (I.1 64 4) then (∀ I_4, I_4 = (zu I 64 4 ((I.1 64 4) - r_3)) → w_Row_get 65 300 (I_4.1 64 4) I_4 (fun r_5 => w_Nodes_makeRuled r_2 r_5 a1 I_4 (fun r_6 I_7 => ∀ (P73 : Int32 → zI → Prop), (∀ (v6_8 : Int32) (I_9 : zI), ((if r_3 ≤ v6_8 then (w_Desk_symbolOf r_2 I_9 (fun r_10 => w_Desk_leadsTo r_5 r_10 I_9 (fun r_11 => w_Grower_put r_6 r_11 I_9 (fun I_12 => ∀ I_13, I_13 = (zu I_12 64 10 ((I_12.1 64 10) + 1)) → K 1 I_13)))) else (w_Row_get 67 300 (((I_9.1 64 4) + 1) + v6_8) I_9 (fun r_14 => w_Nodes_giveChild r_6 v6_8 r_14 I_9 (fun I_15 => ∀ v6_16, v6_16 = (v6_8 + 1) → P73 v6_16 I_15))))) → P73 v6_8 I_9) → P73 0 I_7))) else K 0 I)))))
theorem dyX1_makeByRule_0 : decode cX1_makeByRule 0 = .ok (.aload_n 0, 1) := by decide +kernel
theorem dyX1_makeByRule_1 : decode cX1_makeByRule 1 = .ok (.getfield 14, 3) := by decide +kernel
theorem dyX1_makeByRule_4 : decode cX1_makeByRule 4 = .ok (.aload_n 0, 1) := by decide +kernel
theorem dyX1_makeByRule_5 : decode cX1_makeByRule 5 = .ok (.getfield 31, 3) := by decide +kernel
theorem dyX1_makeByRule_8 : decode cX1_makeByRule 8 = .ok (.invokevirtual 35, 3) := by decide +kernel
theorem dyX1_makeByRule_11 : decode cX1_makeByRule 11 = .ok (.invokestatic 166, 3) := by decide +kernel
theorem dyX1_makeByRule_14 : decode cX1_makeByRule 14 = .ok (.istore_n 2, 1) := by decide +kernel
theorem dyX1_makeByRule_15 : decode cX1_makeByRule 15 = .ok (.iload_n 2, 1) := by decide +kernel
theorem dyX1_makeByRule_16 : decode cX1_makeByRule 16 = .ok (.invokestatic 169, 3) := by decide +kernel
theorem dyX1_makeByRule_19 : decode cX1_makeByRule 19 = .ok (.istore_n 3, 1) := by decide +kernel
theorem dyX1_makeByRule_20 : decode cX1_makeByRule 20 = .ok (.iload_n 2, 1) := by decide +kernel
theorem dyX1_makeByRule_21 : decode cX1_makeByRule 21 = .ok (.ifCond .lt 11, 3) := by decide +kernel
theorem dyX1_makeByRule_24 : decode cX1_makeByRule 24 = .ok (.iload_n 3, 1) := by decide +kernel
theorem dyX1_makeByRule_25 : decode cX1_makeByRule 25 = .ok (.aload_n 0, 1) := by decide +kernel
theorem dyX1_makeByRule_26 : decode cX1_makeByRule 26 = .ok (.getfield 31, 3) := by decide +kernel
theorem dyX1_makeByRule_29 : decode cX1_makeByRule 29 = .ok (.if_icmp .le 5, 3) := by decide +kernel
theorem dyX1_makeByRule_32 : decode cX1_makeByRule 32 = .ok (.iconst 0, 1) := by decide +kernel
theorem dyX1_makeByRule_33 : decode cX1_makeByRule 33 = .ok (.ireturn, 1) := by decide +kernel
theorem dyX1_makeByRule_34 : decode cX1_makeByRule 34 = .ok (.aload_n 0, 1) := by decide +kernel
theorem dyX1_makeByRule_35 : decode cX1_makeByRule 35 = .ok (.dup, 1) := by decide +kernel
theorem dyX1_makeByRule_36 : decode cX1_makeByRule 36 = .ok (.getfield 31, 3) := by decide +kernel
theorem dyX1_makeByRule_39 : decode cX1_makeByRule 39 = .ok (.iload_n 3, 1) := by decide +kernel
theorem dyX1_makeByRule_40 : decode cX1_makeByRule 40 = .ok (.isub, 1) := by decide +kernel
theorem dyX1_makeByRule_41 : decode cX1_makeByRule 41 = .ok (.putfield 31, 3) := by decide +kernel
theorem dyX1_makeByRule_44 : decode cX1_makeByRule 44 = .ok (.aload_n 0, 1) := by decide +kernel
theorem dyX1_makeByRule_45 : decode cX1_makeByRule 45 = .ok (.getfield 14, 3) := by decide +kernel
theorem dyX1_makeByRule_48 : decode cX1_makeByRule 48 = .ok (.aload_n 0, 1) := by decide +kernel
theorem dyX1_makeByRule_49 : decode cX1_makeByRule 49 = .ok (.getfield 31, 3) := by decide +kernel
theorem dyX1_makeByRule_52 : decode cX1_makeByRule 52 = .ok (.invokevirtual 35, 3) := by decide +kernel
theorem dyX1_makeByRule_55 : decode cX1_makeByRule 55 = .ok (.istore 4, 2) := by decide +kernel
theorem dyX1_makeByRule_57 : decode cX1_makeByRule 57 = .ok (.aload_n 0, 1) := by decide +kernel
theorem dyX1_makeByRule_58 : decode cX1_makeByRule 58 = .ok (.getfield 23, 3) := by decide +kernel
theorem dyX1_makeByRule_61 : decode cX1_makeByRule 61 = .ok (.iload_n 2, 1) := by decide +kernel
theorem dyX1_makeByRule_62 : decode cX1_makeByRule 62 = .ok (.iload 4, 2) := by decide +kernel
theorem dyX1_makeByRule_64 : decode cX1_makeByRule 64 = .ok (.iload_n 1, 1) := by decide +kernel
theorem dyX1_makeByRule_65 : decode cX1_makeByRule 65 = .ok (.invokevirtual 172, 3) := by decide +kernel
theorem dyX1_makeByRule_68 : decode cX1_makeByRule 68 = .ok (.istore 5, 2) := by decide +kernel
theorem dyX1_makeByRule_70 : decode cX1_makeByRule 70 = .ok (.iconst 0, 1) := by decide +kernel
theorem dyX1_makeByRule_71 : decode cX1_makeByRule 71 = .ok (.istore 6, 2) := by decide +kernel
theorem dyX1_makeByRule_73 : decode cX1_makeByRule 73 = .ok (.iload 6, 2) := by decide +kernel
theorem dyX1_makeByRule_75 : decode cX1_makeByRule 75 = .ok (.iload_n 3, 1) := by decide +kernel
theorem dyX1_makeByRule_76 : decode cX1_makeByRule 76 = .ok (.if_icmp .ge 36, 3) := by decide +kernel
theorem dyX1_makeByRule_79 : decode cX1_makeByRule 79 = .ok (.aload_n 0, 1) := by decide +kernel
theorem dyX1_makeByRule_80 : decode cX1_makeByRule 80 = .ok (.getfield 23, 3) := by decide +kernel
theorem dyX1_makeByRule_83 : decode cX1_makeByRule 83 = .ok (.iload 5, 2) := by decide +kernel
theorem dyX1_makeByRule_85 : decode cX1_makeByRule 85 = .ok (.iload 6, 2) := by decide +kernel
theorem dyX1_makeByRule_87 : decode cX1_makeByRule 87 = .ok (.aload_n 0, 1) := by decide +kernel
theorem dyX1_makeByRule_88 : decode cX1_makeByRule 88 = .ok (.getfield 20, 3) := by decide +kernel
theorem dyX1_makeByRule_91 : decode cX1_makeByRule 91 = .ok (.aload_n 0, 1) := by decide +kernel
theorem dyX1_makeByRule_92 : decode cX1_makeByRule 92 = .ok (.getfield 31, 3) := by decide +kernel
theorem dyX1_makeByRule_95 : decode cX1_makeByRule 95 = .ok (.iconst 1, 1) := by decide +kernel
theorem dyX1_makeByRule_96 : decode cX1_makeByRule 96 = .ok (.iadd, 1) := by decide +kernel
theorem dyX1_makeByRule_97 : decode cX1_makeByRule 97 = .ok (.iload 6, 2) := by decide +kernel
theorem dyX1_makeByRule_99 : decode cX1_makeByRule 99 = .ok (.iadd, 1) := by decide +kernel
theorem dyX1_makeByRule_100 : decode cX1_makeByRule 100 = .ok (.invokevirtual 35, 3) := by decide +kernel
theorem dyX1_makeByRule_103 : decode cX1_makeByRule 103 = .ok (.invokevirtual 176, 3) := by decide +kernel
theorem dyX1_makeByRule_106 : decode cX1_makeByRule 106 = .ok (.iinc 6 1, 3) := by decide +kernel
theorem dyX1_makeByRule_109 : decode cX1_makeByRule 109 = .ok (.goto (-36), 3) := by decide +kernel
theorem dyX1_makeByRule_112 : decode cX1_makeByRule 112 = .ok (.aload_n 0, 1) := by decide +kernel
theorem dyX1_makeByRule_113 : decode cX1_makeByRule 113 = .ok (.iload 5, 2) := by decide +kernel
theorem dyX1_makeByRule_115 : decode cX1_makeByRule 115 = .ok (.iload 4, 2) := by decide +kernel
theorem dyX1_makeByRule_117 : decode cX1_makeByRule 117 = .ok (.iload_n 2, 1) := by decide +kernel
theorem dyX1_makeByRule_118 : decode cX1_makeByRule 118 = .ok (.invokestatic 180, 3) := by decide +kernel
theorem dyX1_makeByRule_121 : decode cX1_makeByRule 121 = .ok (.invokestatic 160, 3) := by decide +kernel
theorem dyX1_makeByRule_124 : decode cX1_makeByRule 124 = .ok (.invokevirtual 163, 3) := by decide +kernel
theorem dyX1_makeByRule_127 : decode cX1_makeByRule 127 = .ok (.aload_n 0, 1) := by decide +kernel
theorem dyX1_makeByRule_128 : decode cX1_makeByRule 128 = .ok (.dup, 1) := by decide +kernel
theorem dyX1_makeByRule_129 : decode cX1_makeByRule 129 = .ok (.getfield 118, 3) := by decide +kernel
theorem dyX1_makeByRule_132 : decode cX1_makeByRule 132 = .ok (.iconst 1, 1) := by decide +kernel
theorem dyX1_makeByRule_133 : decode cX1_makeByRule 133 = .ok (.iadd, 1) := by decide +kernel
theorem dyX1_makeByRule_134 : decode cX1_makeByRule 134 = .ok (.putfield 118, 3) := by decide +kernel
theorem dyX1_makeByRule_137 : decode cX1_makeByRule 137 = .ok (.iconst 1, 1) := by decide +kernel
theorem dyX1_makeByRule_138 : decode cX1_makeByRule 138 = .ok (.ireturn, 1) := by decide +kernel
theorem zsg_yX1_makeByRule : yX1_makeByRule.cls = RX1 ∧ yX1_makeByRule.cls ≠ "java/lang/invoke/MethodHandle" ∧ yX1_makeByRule.cls ≠ "java/lang/invoke/VarHandle" ∧ (parseMethodDescriptor yX1_makeByRule.desc).map (fun d => d.parameters.length) = some 1 := by decide +kernel
set_option maxRecDepth 20000 in
theorem c_Grower_makeByRule {l : Launch} {D : va_G} {B : Nat} {cA : Nat → ClassId} {ad : Nat → Nat} {S : List zC} (hS : zOkX S) {a1 : Int32} {I : zI} {K : Int32 → zI → Prop}  (h : w_Grower_makeByRule a1 I K) : Met l yX1_makeByRule (zws yX1_makeByRule cX1_makeByRule 7 (some .boolean)) (zrm 3 71) (zPc D B cA ad [.ref (B + 64), .int a1] S I) (zQc D B cA (zqI S K)) 0 0 (fun q => B ≤ q) := by
  refine zm_of (cc := cX1_makeByRule) (maxL := 7) (ret := (some .boolean)) (by decide +kernel) rfl (Nat.le_of_ble_eq_true rfl) trivial ?_
  intro p e s m args below meth c C _
  unfold w_Grower_makeByRule at h
  show zX p l e (zrm 3 71) s m args below meth c (MQ below (zQc D B cA (zqI S K)) args s 0 0 (fun q => B ≤ q)) D B cA 7 0 0 S I [(0, .ref (B + 64)), (1, .int a1)] [] 0
  refine zr_aload_n C dyX1_makeByRule_0 rfl 0 rfl ?_
  refine zg_1_14 C hS dyX1_makeByRule_1 ?_
  refine zr_aload_n C dyX1_makeByRule_4 rfl 0 rfl ?_
  refine zg_1_31 C hS dyX1_makeByRule_5 ?_
  refine zv_1_35 C hS (zIsRow.of hS zir_65) (st := []) h ⟨Nat.le_of_ble_eq_true rfl, Nat.le_of_ble_eq_true rfl⟩ (Nat.le_of_ble_eq_true rfl) dyX1_makeByRule_8 (fun r_1 h => ?_)
  refine zv_1_166 C hS (st := []) h ⟨Nat.le_of_ble_eq_true rfl, Nat.le_of_ble_eq_true rfl⟩ (Nat.le_of_ble_eq_true rfl) dyX1_makeByRule_11 (fun r_2 h => ?_)
  refine zr_istore_n C dyX1_makeByRule_14 rfl (Nat.le_of_ble_eq_true rfl) (lv2 := [(2, .int r_2), (0, .ref (B + 64)), (1, .int a1)]) rfl ?_
  refine zr_iload_n C dyX1_makeByRule_15 rfl 0 rfl ?_
  refine zv_1_169 C hS (st := []) h ⟨Nat.le_of_ble_eq_true rfl, Nat.le_of_ble_eq_true rfl⟩ (Nat.le_of_ble_eq_true rfl) dyX1_makeByRule_16 (fun r_3 h => ?_)
  refine zr_istore_n C dyX1_makeByRule_19 rfl (Nat.le_of_ble_eq_true rfl) (lv2 := [(3, .int r_3), (2, .int r_2), (0, .ref (B + 64)), (1, .int a1)]) rfl ?_
  refine zr_iload_n C dyX1_makeByRule_20 rfl 1 rfl ?_
  refine zr_if_lt C dyX1_makeByRule_21 (tgt := 32) (by decide) (fun hc_19 => ?_) (fun hc_19 => ?_)
  · replace h := zif_pos hc_19 h
    refine zr_iconst C dyX1_makeByRule_32 zc_i_0 ?_
    exact zr_zret C rfl (zb.nar zb_0) dyX1_makeByRule_33 ⟨rfl, _, rfl, h⟩
  · replace h := zif_neg hc_19 h
    refine zr_iload_n C dyX1_makeByRule_24 rfl 0 rfl ?_
    refine zr_aload_n C dyX1_makeByRule_25 rfl 2 rfl ?_
    refine zg_1_31 C hS dyX1_makeByRule_26 ?_
    refine zr_icmp_le C dyX1_makeByRule_29 (tgt := 34) (by decide) (fun hc_18 => ?_) (fun hc_18 => ?_)
    · replace h := zif_pos hc_18 h
      refine zr_aload_n C dyX1_makeByRule_34 rfl 2 rfl ?_
      refine zr_dup C dyX1_makeByRule_35 rfl ?_
      refine zg_1_31 C hS dyX1_makeByRule_36 ?_
      refine zr_iload_n C dyX1_makeByRule_39 rfl 0 rfl ?_
      refine zr_isub C dyX1_makeByRule_40 ?_
      refine zp_1_31 C hS dyX1_makeByRule_41 ?_
      refine zn_mem C (fun I_4 eI_4 => ?_)
      replace h := h I_4 eI_4
      refine zr_aload_n C dyX1_makeByRule_44 rfl 2 rfl ?_
      refine zg_1_14 C hS dyX1_makeByRule_45 ?_
      refine zr_aload_n C dyX1_makeByRule_48 rfl 2 rfl ?_
      refine zg_1_31 C hS dyX1_makeByRule_49 ?_
      refine zv_1_35 C hS (zIsRow.of hS zir_65) (st := []) h ⟨Nat.le_of_ble_eq_true rfl, Nat.le_of_ble_eq_true rfl⟩ (Nat.le_of_ble_eq_true rfl) dyX1_makeByRule_52 (fun r_5 h => ?_)
      refine zr_istore C dyX1_makeByRule_55 (Nat.le_of_ble_eq_true rfl) (lv2 := [(4, .int r_5), (3, .int r_3), (2, .int r_2), (0, .ref (B + 64)), (1, .int a1)]) rfl ?_
      refine zr_aload_n C dyX1_makeByRule_57 rfl 3 rfl ?_
      refine zg_1_23 C hS dyX1_makeByRule_58 ?_
      refine zr_iload_n C dyX1_makeByRule_61 rfl 2 rfl ?_
      refine zr_iload C dyX1_makeByRule_62 0 rfl ?_
      refine zr_iload_n C dyX1_makeByRule_64 rfl 4 rfl ?_
      refine zv_1_172 C hS (st := []) h ⟨Nat.le_of_ble_eq_true rfl, Nat.le_of_ble_eq_true rfl⟩ (Nat.le_of_ble_eq_true rfl) dyX1_makeByRule_65 (fun r_6 I_7 h => ?_)
      refine zr_istore C dyX1_makeByRule_68 (Nat.le_of_ble_eq_true rfl) (lv2 := [(5, .int r_6), (4, .int r_5), (3, .int r_3), (2, .int r_2), (0, .ref (B + 64)), (1, .int a1)]) rfl ?_
      refine zr_iconst C dyX1_makeByRule_70 zc_i_0 ?_
      refine zr_istore C dyX1_makeByRule_71 (Nat.le_of_ble_eq_true rfl) (lv2 := [(6, .int 0), (5, .int r_6), (4, .int r_5), (3, .int r_3), (2, .int r_2), (0, .ref (B + 64)), (1, .int a1)]) rfl ?_
      refine zjn (h (fun (v6_8 : Int32) (I_9 : zI) => zX p l e (zrm 3 71) s m args below meth c (MQ below (zQc D B cA (zqI S K)) args s 0 0 (fun q => B ≤ q)) D B cA 7 0 0 S I_9 [(6, .int v6_8), (5, .int r_6), (4, .int r_5), (3, .int r_3), (2, .int r_2), (0, .ref (B + 64))] [] 73) (fun v6_8 I_9 h => ?_)) (fun h => ?_)
      · refine zr_iload C dyX1_makeByRule_73 0 rfl ?_
        refine zr_iload_n C dyX1_makeByRule_75 rfl 3 rfl ?_
        refine zr_icmp_ge C dyX1_makeByRule_76 (tgt := 112) (by decide) (fun hc_17 => ?_) (fun hc_17 => ?_)
        · replace h := zif_pos hc_17 h
          refine zr_aload_n C dyX1_makeByRule_112 rfl 5 rfl ?_
          refine zr_iload C dyX1_makeByRule_113 1 rfl ?_
          refine zr_iload C dyX1_makeByRule_115 2 rfl ?_
          refine zr_iload_n C dyX1_makeByRule_117 rfl 4 rfl ?_
          refine zv_1_180 C hS (st := [.int r_5, .int r_6, .ref (B + 64)]) h ⟨Nat.le_of_ble_eq_true rfl, Nat.le_of_ble_eq_true rfl⟩ (Nat.le_of_ble_eq_true rfl) dyX1_makeByRule_118 (fun r_10 h => ?_)
          refine zv_1_160 C hS (st := [.int r_6, .ref (B + 64)]) h ⟨Nat.le_of_ble_eq_true rfl, Nat.le_of_ble_eq_true rfl⟩ (Nat.le_of_ble_eq_true rfl) dyX1_makeByRule_121 (fun r_11 h => ?_)
          refine zv_1_163 C hS (st := []) h ⟨Nat.le_of_ble_eq_true rfl, Nat.le_of_ble_eq_true rfl⟩ (Nat.le_of_ble_eq_true rfl) dyX1_makeByRule_124 (fun I_12 h => ?_)
          refine zr_aload_n C dyX1_makeByRule_127 rfl 5 rfl ?_
          refine zr_dup C dyX1_makeByRule_128 rfl ?_
          refine zg_1_118 C hS dyX1_makeByRule_129 ?_
          refine zr_iconst C dyX1_makeByRule_132 zc_i_1 ?_
          refine zr_iadd C dyX1_makeByRule_133 ?_
          refine zp_1_118 C hS dyX1_makeByRule_134 ?_
          refine zn_mem C (fun I_13 eI_13 => ?_)
          replace h := h I_13 eI_13
          refine zr_iconst C dyX1_makeByRule_137 zc_i_1 ?_
          exact zr_zret C rfl (zb.nar zb_1) dyX1_makeByRule_138 ⟨rfl, _, rfl, h⟩
        · replace h := zif_neg hc_17 h
          refine zr_aload_n C dyX1_makeByRule_79 rfl 5 rfl ?_
          refine zg_1_23 C hS dyX1_makeByRule_80 ?_
          refine zr_iload C dyX1_makeByRule_83 1 rfl ?_
          refine zr_iload C dyX1_makeByRule_85 0 rfl ?_
          refine zr_aload_n C dyX1_makeByRule_87 rfl 5 rfl ?_
          refine zg_1_20 C hS dyX1_makeByRule_88 ?_
          refine zr_aload_n C dyX1_makeByRule_91 rfl 5 rfl ?_
          refine zg_1_31 C hS dyX1_makeByRule_92 ?_
          refine zr_iconst C dyX1_makeByRule_95 zc_i_1 ?_
          refine zr_iadd C dyX1_makeByRule_96 ?_
          refine zr_iload C dyX1_makeByRule_97 0 rfl ?_
          refine zr_iadd C dyX1_makeByRule_99 ?_
          refine zv_1_35 C hS (zIsRow.of hS zir_67) (st := [.int v6_8, .int r_6, .ref (B + 24)]) h ⟨Nat.le_of_ble_eq_true rfl, Nat.le_of_ble_eq_true rfl⟩ (Nat.le_of_ble_eq_true rfl) dyX1_makeByRule_100 (fun r_14 h => ?_)
          refine zv_1_176 C hS (st := []) h ⟨Nat.le_of_ble_eq_true rfl, Nat.le_of_ble_eq_true rfl⟩ (Nat.le_of_ble_eq_true rfl) dyX1_makeByRule_103 (fun I_15 h => ?_)
          refine zn_iinc C (fun v6_16 => [(6, .int v6_16), (5, .int r_6), (4, .int r_5), (3, .int r_3), (2, .int r_2), (0, .ref (B + 64))]) dyX1_makeByRule_106 0 rfl zc_i_1 (Nat.le_of_ble_eq_true rfl) (fun _ => rfl) (fun v6_16 ev6_16 => ?_)
          replace h := h v6_16 ev6_16
          refine zr_goto C dyX1_makeByRule_109 (tgt := 73) (by decide) ?_
          exact h
      refine zr_sub (lv2 := [(6, .int 0), (5, .int r_6), (4, .int r_5), (3, .int r_3), (2, .int r_2), (0, .ref (B + 64))]) [0, 1, 2, 3, 4, 5] rfl ?_
      exact h
    · replace h := zif_neg hc_18 h
      refine zr_iconst C dyX1_makeByRule_32 zc_i_0 ?_
      exact zr_zret C rfl (zb.nar zb_0) dyX1_makeByRule_33 ⟨rfl, _, rfl, h⟩
theorem zp_1_124 {p : Program} {l : Launch} {e : Env} {R : Room} {s : State} {m : MethodId} {args : Array Value} {below : List Frame} {meth : Method} {c : Code} {Q : State → Prop} {D : va_G} {B : Nat} {cA : Nat → ClassId} {ad : Nat → Nat} {cc : ByteArray} {nL : Nat} {ret : Option FieldType} {S : List zC} {I : zI} {lv : List (Nat × Value)} {st : List Value} {pc : Nat} (C : zCx p s m args meth c cc nL RX1 ret D B cA ad) (hS : zOkX S) {v : Int32} (hd : decode cc pc = .ok (.putfield 124, 3)) (kk : zX p l e R s m args below meth c Q D B cA nL 0 0 S (zu I 64 12 v) lv st (pc + 3)) : zX p l e R s m args below meth c Q D B cA nL 0 0 S I lv (.int v :: .ref (B + 64) :: st) pc :=
  zr_puti C (ci := 1) (Cn := RX1) (T := TX1) (N := 14) (k := 64) (j := 12) (fs := [some (some 24), some (some 43), some (some 65), some (some 67), none, none, none, none, none, none, none, none, none, none]) rfl zin_1 (Nat.le_of_ble_eq_true rfl) rfl (hS _ _ zs_64) rfl tyX1 tyX1_ok nmX1 (ty := .int) zpd_I rfl rfl rfl zk_fl_1_124 hd kk
theorem zp_1_127 {p : Program} {l : Launch} {e : Env} {R : Room} {s : State} {m : MethodId} {args : Array Value} {below : List Frame} {meth : Method} {c : Code} {Q : State → Prop} {D : va_G} {B : Nat} {cA : Nat → ClassId} {ad : Nat → Nat} {cc : ByteArray} {nL : Nat} {ret : Option FieldType} {S : List zC} {I : zI} {lv : List (Nat × Value)} {st : List Value} {pc : Nat} (C : zCx p s m args meth c cc nL RX1 ret D B cA ad) (hS : zOkX S) {v : Int32} (hd : decode cc pc = .ok (.putfield 127, 3)) (kk : zX p l e R s m args below meth c Q D B cA nL 0 0 S (zu I 64 13 v) lv st (pc + 3)) : zX p l e R s m args below meth c Q D B cA nL 0 0 S I lv (.int v :: .ref (B + 64) :: st) pc :=
  zr_puti C (ci := 1) (Cn := RX1) (T := TX1) (N := 14) (k := 64) (j := 13) (fs := [some (some 24), some (some 43), some (some 65), some (some 67), none, none, none, none, none, none, none, none, none, none]) rfl zin_1 (Nat.le_of_ble_eq_true rfl) rfl (hS _ _ zs_64) rfl tyX1 tyX1_ok nmX1 (ty := .int) zpd_I rfl rfl rfl zk_fl_1_127 hd kk
theorem zv_1_130 {p : Program} {l : Launch} {e : Env} {R : Room} {s : State} {m : MethodId} {args : Array Value} {below : List Frame} {meth : Method} {c : Code} {Q : State → Prop} {D : va_G} {B : Nat} {cA : Nat → ClassId} {ad : Nat → Nat} {cc : ByteArray} {nL : Nat} {ret : Option FieldType} {S : List zC} {I : zI} {lv : List (Nat × Value)} {st : List Value} {pc : Nat} (C : zCx p s m args meth c cc nL RX1 ret D B cA ad) {K : Int32 → zI → Prop} {xa1 : Int32} {xa2 : Int32} (hS : zOkX S)  (h : w_Grower_putSound xa1 xa2 I K) (hR : 3 + 1 ≤ R.frames ∧ 8 + (7 + 11) + (64) ≤ R.locals) (hw : (st.map fun v => v.category).sum ≤ 8) (hd : decode cc pc = .ok (.invokevirtual 130, 3)) (kk : ∀ v I2, K v I2 → zX p l e R s m args below meth c Q D B cA nL 0 0 S I2 lv (.int v :: st) (pc + 3)) : zX p l e R s m args below meth c Q D B cA nL 0 0 S I lv (.int xa2 :: .int xa1 :: .ref (B + 64) :: st) pc :=
  have hf : 0 ≤ R.cells ∧ 0 ≤ R.slots := ⟨Nat.zero_le _, Nat.zero_le _⟩
  zc_VqI C (ci := 1) (q := (RX1, TX1, 14)) (k := 64) (fs := [some (some 24), some (some 43), some (some 65), some (some 67), none, none, none, none, none, none, none, none, none, none]) (As := [.int xa1, .int xa2]) (st := st) rfl (hS _ _ zs_64) (c_Grower_putSound hS h) (zgV zk_ml_1_130 zk_im_yX1_putSound zk_se_yX1_putSound zk_in_1 zk_cd_yX1_putSound) zsg_yX1_putSound hR rfl rfl hw hd hf kk
theorem zg_1_124 {p : Program} {l : Launch} {e : Env} {R : Room} {s : State} {m : MethodId} {args : Array Value} {below : List Frame} {meth : Method} {c : Code} {Q : State → Prop} {D : va_G} {B : Nat} {cA : Nat → ClassId} {ad : Nat → Nat} {cc : ByteArray} {nL : Nat} {ret : Option FieldType} {S : List zC} {I : zI} {lv : List (Nat × Value)} {st : List Value} {pc : Nat} (C : zCx p s m args meth c cc nL RX1 ret D B cA ad) (hS : zOkX S) (hd : decode cc pc = .ok (.getfield 124, 3)) (kk : zX p l e R s m args below meth c Q D B cA nL 0 0 S I lv (.int (I.1 64 12) :: st) (pc + 3)) : zX p l e R s m args below meth c Q D B cA nL 0 0 S I lv (.ref (B + 64) :: st) pc :=
  zr_geti C (ci := 1) (Cn := RX1) (T := TX1) (N := 14) (k := 64) (j := 12) (fs := [some (some 24), some (some 43), some (some 65), some (some 67), none, none, none, none, none, none, none, none, none, none]) rfl zin_1 (Nat.le_of_ble_eq_true rfl) rfl (hS _ _ zs_64) rfl zk_fl_1_124 hd kk
theorem zv_1_136 {p : Program} {l : Launch} {e : Env} {R : Room} {s : State} {m : MethodId} {args : Array Value} {below : List Frame} {meth : Method} {c : Code} {Q : State → Prop} {D : va_G} {B : Nat} {cA : Nat → ClassId} {ad : Nat → Nat} {cc : ByteArray} {nL : Nat} {ret : Option FieldType} {S : List zC} {I : zI} {lv : List (Nat × Value)} {st : List Value} {pc : Nat} (C : zCx p s m args meth c cc nL RX1 ret D B cA ad) {K : Int32 → zI → Prop} {xa1 : Int32} (hS : zOkX S)  (h : w_Grower_makeByRule xa1 I K) (hR : 3 + 1 ≤ R.frames ∧ 8 + (7 + 11) + (71) ≤ R.locals) (hw : (st.map fun v => v.category).sum ≤ 8) (hd : decode cc pc = .ok (.invokevirtual 136, 3)) (kk : ∀ v I2, K v I2 → zX p l e R s m args below meth c Q D B cA nL 0 0 S I2 lv (.int v :: st) (pc + 3)) : zX p l e R s m args below meth c Q D B cA nL 0 0 S I lv (.int xa1 :: .ref (B + 64) :: st) pc :=
  have hf : 0 ≤ R.cells ∧ 0 ≤ R.slots := ⟨Nat.zero_le _, Nat.zero_le _⟩
  zc_VqI C (ci := 1) (q := (RX1, TX1, 14)) (k := 64) (fs := [some (some 24), some (some 43), some (some 65), some (some 67), none, none, none, none, none, none, none, none, none, none]) (As := [.int xa1]) (st := st) rfl (hS _ _ zs_64) (c_Grower_makeByRule hS h) (zgV zk_ml_1_136 zk_im_yX1_makeByRule zk_se_yX1_makeByRule zk_in_1 zk_cd_yX1_makeByRule) zsg_yX1_makeByRule hR rfl rfl hw hd hf kk
theorem zv_1_133 {p : Program} {l : Launch} {e : Env} {R : Room} {s : State} {m : MethodId} {args : Array Value} {below : List Frame} {meth : Method} {c : Code} {Q : State → Prop} {D : va_G} {B : Nat} {cA : Nat → ClassId} {ad : Nat → Nat} {cc : ByteArray} {nL : Nat} {ret : Option FieldType} {S : List zC} {I : zI} {lv : List (Nat × Value)} {st : List Value} {pc : Nat} (C : zCx p s m args meth c cc nL RX1 ret D B cA ad) {K : Int32 → zI → Prop} {xa1 : Int32} (hS : zOkX S)  (h : w_Grower_putToken xa1 I K) (hR : 2 + 1 ≤ R.frames ∧ 8 + (4 + 11) + (44) ≤ R.locals) (hw : (st.map fun v => v.category).sum ≤ 8) (hd : decode cc pc = .ok (.invokevirtual 133, 3)) (kk : ∀ v I2, K v I2 → zX p l e R s m args below meth c Q D B cA nL 0 0 S I2 lv (.int v :: st) (pc + 3)) : zX p l e R s m args below meth c Q D B cA nL 0 0 S I lv (.int xa1 :: .ref (B + 64) :: st) pc :=
  have hf : 0 ≤ R.cells ∧ 0 ≤ R.slots := ⟨Nat.zero_le _, Nat.zero_le _⟩
  zc_VqI C (ci := 1) (q := (RX1, TX1, 14)) (k := 64) (fs := [some (some 24), some (some 43), some (some 65), some (some 67), none, none, none, none, none, none, none, none, none, none]) (As := [.int xa1]) (st := st) rfl (hS _ _ zs_64) (c_Grower_putToken hS h) (zgV zk_ml_1_133 zk_im_yX1_putToken zk_se_yX1_putToken zk_in_1 zk_cd_yX1_putToken) zsg_yX1_putToken hR rfl rfl hw hd hf kk
def w_Grower_growAll (a1 : Nat) (a2 : Int32) (I : zI) (K : Int32 → zI → Prop) : Prop :=
  ∀ I_1, I_1 = (zu I 64 10 0) → ∀ I_2, I_2 = (zu I_1 64 11 0) → ∀ I_3, I_3 = (zu I_2 64 12 0) → ∀ I_4, I_4 = (zu I_3 64 13 (-2)) → ∀ I_5, I_5 = (zu I_4 64 4 0) → w_Row_set 65 300 0 0 I_5 (fun I_6 => ∀ (P40 : Int32 → Int32 → zI → Prop), (∀ (v3_7 : Int32) (v4_8 : Int32) (I_9 : zI), ((if 10000 ≤ v4_8 then (∀ I_10, I_10 = (zu I_9 64 13 v3_7) → K 0 I_10) else (w_Row_get (a1 + 14) 100 v3_7 I_9 (fun r_11 => w_Grower_putSound r_11 v3_7 I_9 (fun r_12 I_13 => ∀ (P80 : Int32 → zI → Prop), (∀ (v6_14 : Int32) (I_15 : zI), (∀ v3_16, v3_16 = (v3_7 + v6_14) → ∀ (P148 : zI → Prop), (∀ (I_17 : zI), (∀ I_18, I_18 = (zu I_17 64 12 ((I_17.1 64 12) + 1)) → ∀ v4_19, v4_19 = (v4_8 + 1) → P40 v3_16 v4_19 I_18) → P148 I_17) → (if v6_14 = 0 then (w_Grower_makeByRule a2 I_15 (fun r_20 I_21 => (if r_20 = 0 then (∀ (P128 : Int32 → Prop), (∀ (t_22 : Int32), (∀ (P142 : Int32 → Prop), (∀ (t_23 : Int32), (∀ I_24, I_24 = (zu I_21 64 13 t_23) → zb t_22 ∧ K t_22 I_24) → P142 t_23) → (if t_22 = 0 then P142 v3_16 else (P142 (-2)))) → P128 t_22) → ∀ (P127 : Prop), ((P128 0) → P127) → (if v3_16 = ((I_21.1 64 6) - 1) then (w_Row_get 65 300 (I_21.1 64 4) I_21 (fun r_26 => (if r_26 = 1 then P128 1 else P127))) else P127)) else P148 I_21))) else P148 I_15)) → P80 v6_14 I_15) → (if r_12 = 0 then (w_Grower_putToken r_11 I_13 (fun r_31 I_32 => P80 r_31 I_32)) else P80 r_12 I_13)))))) → P40 v3_7 v4_8 I_9) → P40 0 0 I_6)
theorem dyX1_growAll_0 : decode cX1_growAll 0 = .ok (.aload_n 0, 1) := by decide +kernel
theorem dyX1_growAll_1 : decode cX1_growAll 1 = .ok (.iconst 0, 1) := by decide +kernel
theorem dyX1_growAll_2 : decode cX1_growAll 2 = .ok (.putfield 118, 3) := by decide +kernel
theorem dyX1_growAll_5 : decode cX1_growAll 5 = .ok (.aload_n 0, 1) := by decide +kernel
theorem dyX1_growAll_6 : decode cX1_growAll 6 = .ok (.iconst 0, 1) := by decide +kernel
theorem dyX1_growAll_7 : decode cX1_growAll 7 = .ok (.putfield 121, 3) := by decide +kernel
theorem dyX1_growAll_10 : decode cX1_growAll 10 = .ok (.aload_n 0, 1) := by decide +kernel
theorem dyX1_growAll_11 : decode cX1_growAll 11 = .ok (.iconst 0, 1) := by decide +kernel
theorem dyX1_growAll_12 : decode cX1_growAll 12 = .ok (.putfield 124, 3) := by decide +kernel
theorem dyX1_growAll_15 : decode cX1_growAll 15 = .ok (.aload_n 0, 1) := by decide +kernel
theorem dyX1_growAll_16 : decode cX1_growAll 16 = .ok (.bipush (-2), 2) := by decide +kernel
theorem dyX1_growAll_18 : decode cX1_growAll 18 = .ok (.putfield 127, 3) := by decide +kernel
theorem dyX1_growAll_21 : decode cX1_growAll 21 = .ok (.aload_n 0, 1) := by decide +kernel
theorem dyX1_growAll_22 : decode cX1_growAll 22 = .ok (.iconst 0, 1) := by decide +kernel
theorem dyX1_growAll_23 : decode cX1_growAll 23 = .ok (.putfield 31, 3) := by decide +kernel
theorem dyX1_growAll_26 : decode cX1_growAll 26 = .ok (.aload_n 0, 1) := by decide +kernel
theorem dyX1_growAll_27 : decode cX1_growAll 27 = .ok (.getfield 14, 3) := by decide +kernel
theorem dyX1_growAll_30 : decode cX1_growAll 30 = .ok (.iconst 0, 1) := by decide +kernel
theorem dyX1_growAll_31 : decode cX1_growAll 31 = .ok (.iconst 0, 1) := by decide +kernel
theorem dyX1_growAll_32 : decode cX1_growAll 32 = .ok (.invokevirtual 98, 3) := by decide +kernel
theorem dyX1_growAll_35 : decode cX1_growAll 35 = .ok (.iconst 0, 1) := by decide +kernel
theorem dyX1_growAll_36 : decode cX1_growAll 36 = .ok (.istore_n 3, 1) := by decide +kernel
theorem dyX1_growAll_37 : decode cX1_growAll 37 = .ok (.iconst 0, 1) := by decide +kernel
theorem dyX1_growAll_38 : decode cX1_growAll 38 = .ok (.istore 4, 2) := by decide +kernel
theorem dyX1_growAll_40 : decode cX1_growAll 40 = .ok (.iload 4, 2) := by decide +kernel
theorem dyX1_growAll_42 : decode cX1_growAll 42 = .ok (.sipush 10000, 3) := by decide +kernel
theorem dyX1_growAll_45 : decode cX1_growAll 45 = .ok (.if_icmp .ge 119, 3) := by decide +kernel
theorem dyX1_growAll_48 : decode cX1_growAll 48 = .ok (.aload_n 1, 1) := by decide +kernel
theorem dyX1_growAll_49 : decode cX1_growAll 49 = .ok (.getfield 80, 3) := by decide +kernel
theorem dyX1_growAll_52 : decode cX1_growAll 52 = .ok (.iload_n 3, 1) := by decide +kernel
theorem dyX1_growAll_53 : decode cX1_growAll 53 = .ok (.invokevirtual 35, 3) := by decide +kernel
theorem dyX1_growAll_56 : decode cX1_growAll 56 = .ok (.istore 5, 2) := by decide +kernel
theorem dyX1_growAll_58 : decode cX1_growAll 58 = .ok (.aload_n 0, 1) := by decide +kernel
theorem dyX1_growAll_59 : decode cX1_growAll 59 = .ok (.iload 5, 2) := by decide +kernel
theorem dyX1_growAll_61 : decode cX1_growAll 61 = .ok (.iload_n 3, 1) := by decide +kernel
theorem dyX1_growAll_62 : decode cX1_growAll 62 = .ok (.invokevirtual 130, 3) := by decide +kernel
theorem dyX1_growAll_65 : decode cX1_growAll 65 = .ok (.istore 6, 2) := by decide +kernel
theorem dyX1_growAll_67 : decode cX1_growAll 67 = .ok (.iload 6, 2) := by decide +kernel
theorem dyX1_growAll_69 : decode cX1_growAll 69 = .ok (.ifCond .ne 11, 3) := by decide +kernel
theorem dyX1_growAll_72 : decode cX1_growAll 72 = .ok (.aload_n 0, 1) := by decide +kernel
theorem dyX1_growAll_73 : decode cX1_growAll 73 = .ok (.iload 5, 2) := by decide +kernel
theorem dyX1_growAll_75 : decode cX1_growAll 75 = .ok (.invokevirtual 133, 3) := by decide +kernel
theorem dyX1_growAll_78 : decode cX1_growAll 78 = .ok (.istore 6, 2) := by decide +kernel
theorem dyX1_growAll_80 : decode cX1_growAll 80 = .ok (.iload_n 3, 1) := by decide +kernel
theorem dyX1_growAll_81 : decode cX1_growAll 81 = .ok (.iload 6, 2) := by decide +kernel
theorem dyX1_growAll_83 : decode cX1_growAll 83 = .ok (.iadd, 1) := by decide +kernel
theorem dyX1_growAll_84 : decode cX1_growAll 84 = .ok (.istore_n 3, 1) := by decide +kernel
theorem dyX1_growAll_85 : decode cX1_growAll 85 = .ok (.iload 6, 2) := by decide +kernel
theorem dyX1_growAll_87 : decode cX1_growAll 87 = .ok (.ifCond .ne 61, 3) := by decide +kernel
theorem dyX1_growAll_90 : decode cX1_growAll 90 = .ok (.aload_n 0, 1) := by decide +kernel
theorem dyX1_growAll_91 : decode cX1_growAll 91 = .ok (.iload_n 2, 1) := by decide +kernel
theorem dyX1_growAll_92 : decode cX1_growAll 92 = .ok (.invokevirtual 136, 3) := by decide +kernel
theorem dyX1_growAll_95 : decode cX1_growAll 95 = .ok (.ifCond .ne 53, 3) := by decide +kernel
theorem dyX1_growAll_98 : decode cX1_growAll 98 = .ok (.iload_n 3, 1) := by decide +kernel
theorem dyX1_growAll_99 : decode cX1_growAll 99 = .ok (.aload_n 0, 1) := by decide +kernel
theorem dyX1_growAll_100 : decode cX1_growAll 100 = .ok (.getfield 56, 3) := by decide +kernel
theorem dyX1_growAll_103 : decode cX1_growAll 103 = .ok (.iconst 1, 1) := by decide +kernel
theorem dyX1_growAll_104 : decode cX1_growAll 104 = .ok (.isub, 1) := by decide +kernel
theorem dyX1_growAll_105 : decode cX1_growAll 105 = .ok (.if_icmp .ne 22, 3) := by decide +kernel
theorem dyX1_growAll_108 : decode cX1_growAll 108 = .ok (.aload_n 0, 1) := by decide +kernel
theorem dyX1_growAll_109 : decode cX1_growAll 109 = .ok (.getfield 14, 3) := by decide +kernel
theorem dyX1_growAll_112 : decode cX1_growAll 112 = .ok (.aload_n 0, 1) := by decide +kernel
theorem dyX1_growAll_113 : decode cX1_growAll 113 = .ok (.getfield 31, 3) := by decide +kernel
theorem dyX1_growAll_116 : decode cX1_growAll 116 = .ok (.invokevirtual 35, 3) := by decide +kernel
theorem dyX1_growAll_119 : decode cX1_growAll 119 = .ok (.iconst 1, 1) := by decide +kernel
theorem dyX1_growAll_120 : decode cX1_growAll 120 = .ok (.if_icmp .ne 7, 3) := by decide +kernel
theorem dyX1_growAll_123 : decode cX1_growAll 123 = .ok (.iconst 1, 1) := by decide +kernel
theorem dyX1_growAll_124 : decode cX1_growAll 124 = .ok (.goto 4, 3) := by decide +kernel
theorem dyX1_growAll_127 : decode cX1_growAll 127 = .ok (.iconst 0, 1) := by decide +kernel
theorem dyX1_growAll_128 : decode cX1_growAll 128 = .ok (.istore 7, 2) := by decide +kernel
theorem dyX1_growAll_130 : decode cX1_growAll 130 = .ok (.aload_n 0, 1) := by decide +kernel
theorem dyX1_growAll_131 : decode cX1_growAll 131 = .ok (.iload 7, 2) := by decide +kernel
theorem dyX1_growAll_133 : decode cX1_growAll 133 = .ok (.ifCond .eq 8, 3) := by decide +kernel
theorem dyX1_growAll_136 : decode cX1_growAll 136 = .ok (.bipush (-2), 2) := by decide +kernel
theorem dyX1_growAll_138 : decode cX1_growAll 138 = .ok (.goto 4, 3) := by decide +kernel
theorem dyX1_growAll_141 : decode cX1_growAll 141 = .ok (.iload_n 3, 1) := by decide +kernel
theorem dyX1_growAll_142 : decode cX1_growAll 142 = .ok (.putfield 127, 3) := by decide +kernel
theorem dyX1_growAll_145 : decode cX1_growAll 145 = .ok (.iload 7, 2) := by decide +kernel
theorem dyX1_growAll_147 : decode cX1_growAll 147 = .ok (.ireturn, 1) := by decide +kernel
theorem dyX1_growAll_148 : decode cX1_growAll 148 = .ok (.aload_n 0, 1) := by decide +kernel
theorem dyX1_growAll_149 : decode cX1_growAll 149 = .ok (.dup, 1) := by decide +kernel
theorem dyX1_growAll_150 : decode cX1_growAll 150 = .ok (.getfield 124, 3) := by decide +kernel
theorem dyX1_growAll_153 : decode cX1_growAll 153 = .ok (.iconst 1, 1) := by decide +kernel
theorem dyX1_growAll_154 : decode cX1_growAll 154 = .ok (.iadd, 1) := by decide +kernel
theorem dyX1_growAll_155 : decode cX1_growAll 155 = .ok (.putfield 124, 3) := by decide +kernel
theorem dyX1_growAll_158 : decode cX1_growAll 158 = .ok (.iinc 4 1, 3) := by decide +kernel
theorem dyX1_growAll_161 : decode cX1_growAll 161 = .ok (.goto (-121), 3) := by decide +kernel
theorem dyX1_growAll_164 : decode cX1_growAll 164 = .ok (.aload_n 0, 1) := by decide +kernel
theorem dyX1_growAll_165 : decode cX1_growAll 165 = .ok (.iload_n 3, 1) := by decide +kernel
theorem dyX1_growAll_166 : decode cX1_growAll 166 = .ok (.putfield 127, 3) := by decide +kernel
theorem dyX1_growAll_169 : decode cX1_growAll 169 = .ok (.iconst 0, 1) := by decide +kernel
theorem dyX1_growAll_170 : decode cX1_growAll 170 = .ok (.ireturn, 1) := by decide +kernel
theorem zsg_yX1_growAll : yX1_growAll.cls = RX1 ∧ yX1_growAll.cls ≠ "java/lang/invoke/MethodHandle" ∧ yX1_growAll.cls ≠ "java/lang/invoke/VarHandle" ∧ (parseMethodDescriptor yX1_growAll.desc).map (fun d => d.parameters.length) = some 2 := by decide +kernel
set_option maxRecDepth 20000 in
theorem c_Grower_growAll {l : Launch} {D : va_G} {B : Nat} {cA : Nat → ClassId} {ad : Nat → Nat} {S : List zC} (hS : zOkX S) {a1 : Nat} {a2 : Int32} {I : zI} {K : Int32 → zI → Prop} (ha1 : zIsMoment S a1) (h : w_Grower_growAll a1 a2 I K) : Met l yX1_growAll (zws yX1_growAll cX1_growAll 8 (some .boolean)) (zrm 4 97) (zPc D B cA ad [.ref (B + 64), .ref (B + a1), .int a2] S I) (zQc D B cA (zqI S K)) 0 0 (fun q => B ≤ q) := by
  refine zm_of (cc := cX1_growAll) (maxL := 8) (ret := (some .boolean)) (by decide +kernel) rfl (Nat.le_of_ble_eq_true rfl) trivial ?_
  intro p e s m args below meth c C _
  unfold w_Grower_growAll at h
  show zX p l e (zrm 4 97) s m args below meth c (MQ below (zQc D B cA (zqI S K)) args s 0 0 (fun q => B ≤ q)) D B cA 8 0 0 S I [(0, .ref (B + 64)), (1, .ref (B + a1)), (2, .int a2)] [] 0
  refine zr_aload_n C dyX1_growAll_0 rfl 0 rfl ?_
  refine zr_iconst C dyX1_growAll_1 zc_i_0 ?_
  refine zp_1_118 C hS dyX1_growAll_2 ?_
  refine zn_mem C (fun I_1 eI_1 => ?_)
  replace h := h I_1 eI_1
  refine zr_aload_n C dyX1_growAll_5 rfl 0 rfl ?_
  refine zr_iconst C dyX1_growAll_6 zc_i_0 ?_
  refine zp_1_121 C hS dyX1_growAll_7 ?_
  refine zn_mem C (fun I_2 eI_2 => ?_)
  replace h := h I_2 eI_2
  refine zr_aload_n C dyX1_growAll_10 rfl 0 rfl ?_
  refine zr_iconst C dyX1_growAll_11 zc_i_0 ?_
  refine zp_1_124 C hS dyX1_growAll_12 ?_
  refine zn_mem C (fun I_3 eI_3 => ?_)
  replace h := h I_3 eI_3
  refine zr_aload_n C dyX1_growAll_15 rfl 0 rfl ?_
  refine zr_bipush C dyX1_growAll_16 zc_b_m2 ?_
  refine zp_1_127 C hS dyX1_growAll_18 ?_
  refine zn_mem C (fun I_4 eI_4 => ?_)
  replace h := h I_4 eI_4
  refine zr_aload_n C dyX1_growAll_21 rfl 0 rfl ?_
  refine zr_iconst C dyX1_growAll_22 zc_i_0 ?_
  refine zp_1_31 C hS dyX1_growAll_23 ?_
  refine zn_mem C (fun I_5 eI_5 => ?_)
  replace h := h I_5 eI_5
  refine zr_aload_n C dyX1_growAll_26 rfl 0 rfl ?_
  refine zg_1_14 C hS dyX1_growAll_27 ?_
  refine zr_iconst C dyX1_growAll_30 zc_i_0 ?_
  refine zr_iconst C dyX1_growAll_31 zc_i_0 ?_
  refine zv_1_98 C hS (zIsRow.of hS zir_65) (st := []) h ⟨Nat.le_of_ble_eq_true rfl, Nat.le_of_ble_eq_true rfl⟩ (Nat.le_of_ble_eq_true rfl) dyX1_growAll_32 (fun I_6 h => ?_)
  refine zr_iconst C dyX1_growAll_35 zc_i_0 ?_
  refine zr_istore_n C dyX1_growAll_36 rfl (Nat.le_of_ble_eq_true rfl) (lv2 := [(3, .int 0), (0, .ref (B + 64)), (1, .ref (B + a1)), (2, .int a2)]) rfl ?_
  refine zr_iconst C dyX1_growAll_37 zc_i_0 ?_
  refine zr_istore C dyX1_growAll_38 (Nat.le_of_ble_eq_true rfl) (lv2 := [(4, .int 0), (3, .int 0), (0, .ref (B + 64)), (1, .ref (B + a1)), (2, .int a2)]) rfl ?_
  refine zjn (h (fun (v3_7 : Int32) (v4_8 : Int32) (I_9 : zI) => zX p l e (zrm 4 97) s m args below meth c (MQ below (zQc D B cA (zqI S K)) args s 0 0 (fun q => B ≤ q)) D B cA 8 0 0 S I_9 [(4, .int v4_8), (3, .int v3_7), (0, .ref (B + 64)), (1, .ref (B + a1)), (2, .int a2)] [] 40) (fun v3_7 v4_8 I_9 h => ?_)) (fun h => ?_)
  · refine zr_iload C dyX1_growAll_40 0 rfl ?_
    refine zr_sipush C dyX1_growAll_42 zc_s_10000 ?_
    refine zr_icmp_ge C dyX1_growAll_45 (tgt := 164) (by decide) (fun hc_34 => ?_) (fun hc_34 => ?_)
    · replace h := zif_pos hc_34 h
      refine zr_aload_n C dyX1_growAll_164 rfl 2 rfl ?_
      refine zr_iload_n C dyX1_growAll_165 rfl 1 rfl ?_
      refine zp_1_127 C hS dyX1_growAll_166 ?_
      refine zn_mem C (fun I_10 eI_10 => ?_)
      replace h := h I_10 eI_10
      refine zr_iconst C dyX1_growAll_169 zc_i_0 ?_
      exact zr_zret C rfl (zb.nar zb_0) dyX1_growAll_170 ⟨rfl, _, rfl, h⟩
    · replace h := zif_neg hc_34 h
      refine zr_aload_n C dyX1_growAll_48 rfl 3 rfl ?_
      refine zg_1_80 C ha1 dyX1_growAll_49 ?_
      refine zr_iload_n C dyX1_growAll_52 rfl 1 rfl ?_
      refine zv_1_35 C hS ha1.2.2.2.1 (st := []) h ⟨Nat.le_of_ble_eq_true rfl, Nat.le_of_ble_eq_true rfl⟩ (Nat.le_of_ble_eq_true rfl) dyX1_growAll_53 (fun r_11 h => ?_)
      refine zr_istore C dyX1_growAll_56 (Nat.le_of_ble_eq_true rfl) (lv2 := [(5, .int r_11), (4, .int v4_8), (3, .int v3_7), (0, .ref (B + 64)), (1, .ref (B + a1)), (2, .int a2)]) rfl ?_
      refine zr_aload_n C dyX1_growAll_58 rfl 3 rfl ?_
      refine zr_iload C dyX1_growAll_59 0 rfl ?_
      refine zr_iload_n C dyX1_growAll_61 rfl 2 rfl ?_
      refine zv_1_130 C hS (st := []) h ⟨Nat.le_of_ble_eq_true rfl, Nat.le_of_ble_eq_true rfl⟩ (Nat.le_of_ble_eq_true rfl) dyX1_growAll_62 (fun r_12 I_13 h => ?_)
      refine zr_istore C dyX1_growAll_65 (Nat.le_of_ble_eq_true rfl) (lv2 := [(6, .int r_12), (5, .int r_11), (4, .int v4_8), (3, .int v3_7), (0, .ref (B + 64)), (1, .ref (B + a1)), (2, .int a2)]) rfl ?_
      refine zr_iload C dyX1_growAll_67 0 rfl ?_
      refine zjn (h (fun (v6_14 : Int32) (I_15 : zI) => zX p l e (zrm 4 97) s m args below meth c (MQ below (zQc D B cA (zqI S K)) args s 0 0 (fun q => B ≤ q)) D B cA 8 0 0 S I_15 [(6, .int v6_14), (4, .int v4_8), (3, .int v3_7), (0, .ref (B + 64)), (1, .ref (B + a1)), (2, .int a2)] [] 80) (fun v6_14 I_15 h => ?_)) (fun h => ?_)
      · refine zr_iload_n C dyX1_growAll_80 rfl 2 rfl ?_
        refine zr_iload C dyX1_growAll_81 0 rfl ?_
        refine zr_iadd C dyX1_growAll_83 ?_
        refine zn_istore_n C (fun v3_16 => [(3, .int v3_16), (6, .int v6_14), (4, .int v4_8), (0, .ref (B + 64)), (1, .ref (B + a1)), (2, .int a2)]) dyX1_growAll_84 rfl (Nat.le_of_ble_eq_true rfl) (fun _ => rfl) (fun v3_16 ev3_16 => ?_)
        replace h := h v3_16 ev3_16
        refine zr_iload C dyX1_growAll_85 1 rfl ?_
        refine zjn (h (fun (I_17 : zI) => zX p l e (zrm 4 97) s m args below meth c (MQ below (zQc D B cA (zqI S K)) args s 0 0 (fun q => B ≤ q)) D B cA 8 0 0 S I_17 [(3, .int v3_16), (4, .int v4_8), (0, .ref (B + 64)), (1, .ref (B + a1)), (2, .int a2)] [] 148) (fun I_17 h => ?_)) (fun h => ?_)
        · refine zr_aload_n C dyX1_growAll_148 rfl 2 rfl ?_
          refine zr_dup C dyX1_growAll_149 rfl ?_
          refine zg_1_124 C hS dyX1_growAll_150 ?_
          refine zr_iconst C dyX1_growAll_153 zc_i_1 ?_
          refine zr_iadd C dyX1_growAll_154 ?_
          refine zp_1_124 C hS dyX1_growAll_155 ?_
          refine zn_mem C (fun I_18 eI_18 => ?_)
          replace h := h I_18 eI_18
          refine zn_iinc C (fun v4_19 => [(4, .int v4_19), (3, .int v3_16), (0, .ref (B + 64)), (1, .ref (B + a1)), (2, .int a2)]) dyX1_growAll_158 1 rfl zc_i_1 (Nat.le_of_ble_eq_true rfl) (fun _ => rfl) (fun v4_19 ev4_19 => ?_)
          replace h := h v4_19 ev4_19
          refine zr_goto C dyX1_growAll_161 (tgt := 40) (by decide) ?_
          exact h
        refine zr_if_ne C dyX1_growAll_87 (tgt := 148) (by decide) (fun hc_30 => ?_) (fun hc_30 => ?_)
        · replace h := zif_neg hc_30 h
          refine zr_sub (lv2 := [(3, .int v3_16), (4, .int v4_8), (0, .ref (B + 64)), (1, .ref (B + a1)), (2, .int a2)]) [0, 2, 3, 4, 5] rfl ?_
          exact h
        · replace h := zif_pos hc_30 h
          refine zr_aload_n C dyX1_growAll_90 rfl 3 rfl ?_
          refine zr_iload_n C dyX1_growAll_91 rfl 5 rfl ?_
          refine zv_1_136 C hS (st := []) h ⟨Nat.le_of_ble_eq_true rfl, Nat.le_of_ble_eq_true rfl⟩ (Nat.le_of_ble_eq_true rfl) dyX1_growAll_92 (fun r_20 I_21 h => ?_)
          refine zr_if_ne C dyX1_growAll_95 (tgt := 148) (by decide) (fun hc_29 => ?_) (fun hc_29 => ?_)
          · replace h := zif_neg hc_29 h
            refine zr_sub (lv2 := [(3, .int v3_16), (4, .int v4_8), (0, .ref (B + 64)), (1, .ref (B + a1)), (2, .int a2)]) [0, 2, 3, 4, 5] rfl ?_
            exact h
          · replace h := zif_pos hc_29 h
            refine zr_iload_n C dyX1_growAll_98 rfl 0 rfl ?_
            refine zr_aload_n C dyX1_growAll_99 rfl 3 rfl ?_
            refine zg_1_56 C hS dyX1_growAll_100 ?_
            refine zr_iconst C dyX1_growAll_103 zc_i_1 ?_
            refine zr_isub C dyX1_growAll_104 ?_
            refine zjn (h (fun (t_22 : Int32) => zX p l e (zrm 4 97) s m args below meth c (MQ below (zQc D B cA (zqI S K)) args s 0 0 (fun q => B ≤ q)) D B cA 8 0 0 S I_21 [(3, .int v3_16), (0, .ref (B + 64))] [.int t_22] 128) (fun t_22 h => ?_)) (fun h => ?_)
            · refine zr_istore C dyX1_growAll_128 (Nat.le_of_ble_eq_true rfl) (lv2 := [(7, .int t_22), (3, .int v3_16), (0, .ref (B + 64))]) rfl ?_
              refine zr_aload_n C dyX1_growAll_130 rfl 2 rfl ?_
              refine zr_iload C dyX1_growAll_131 0 rfl ?_
              refine zjn (h (fun (t_23 : Int32) => zX p l e (zrm 4 97) s m args below meth c (MQ below (zQc D B cA (zqI S K)) args s 0 0 (fun q => B ≤ q)) D B cA 8 0 0 S I_21 [(7, .int t_22)] [.int t_23, .ref (B + 64)] 142) (fun t_23 h => ?_)) (fun h => ?_)
              · refine zp_1_127 C hS dyX1_growAll_142 ?_
                refine zn_mem C (fun I_24 eI_24 => ?_)
                replace h := h I_24 eI_24
                refine zr_iload C dyX1_growAll_145 0 rfl ?_
                exact zr_zret C rfl (zb.nar h.1) dyX1_growAll_147 ⟨rfl, _, rfl, h.2⟩
              refine zr_if_eq C dyX1_growAll_133 (tgt := 141) (by decide) (fun hc_25 => ?_) (fun hc_25 => ?_)
              · replace h := zif_pos hc_25 h
                refine zr_iload_n C dyX1_growAll_141 rfl 1 rfl ?_
                refine zr_sub (lv2 := [(7, .int t_22)]) [0] rfl ?_
                exact h
              · replace h := zif_neg hc_25 h
                refine zr_bipush C dyX1_growAll_136 zc_b_m2 ?_
                refine zr_goto C dyX1_growAll_138 (tgt := 142) (by decide) ?_
                refine zr_sub (lv2 := [(7, .int t_22)]) [0] rfl ?_
                exact h
            refine zjn (h (zX p l e (zrm 4 97) s m args below meth c (MQ below (zQc D B cA (zqI S K)) args s 0 0 (fun q => B ≤ q)) D B cA 8 0 0 S I_21 [(3, .int v3_16), (0, .ref (B + 64))] [] 127) (fun  h => ?_)) (fun h => ?_)
            · refine zr_iconst C dyX1_growAll_127 zc_i_0 ?_
              exact h
            refine zr_icmp_ne C dyX1_growAll_105 (tgt := 127) (by decide) (fun hc_28 => ?_) (fun hc_28 => ?_)
            · replace h := zif_neg hc_28 h
              refine zr_sub (lv2 := [(3, .int v3_16), (0, .ref (B + 64))]) [0, 3] rfl ?_
              exact h
            · replace h := zif_pos hc_28 h
              refine zr_aload_n C dyX1_growAll_108 rfl 3 rfl ?_
              refine zg_1_14 C hS dyX1_growAll_109 ?_
              refine zr_aload_n C dyX1_growAll_112 rfl 3 rfl ?_
              refine zg_1_31 C hS dyX1_growAll_113 ?_
              refine zv_1_35 C hS (zIsRow.of hS zir_65) (st := []) h ⟨Nat.le_of_ble_eq_true rfl, Nat.le_of_ble_eq_true rfl⟩ (Nat.le_of_ble_eq_true rfl) dyX1_growAll_116 (fun r_26 h => ?_)
              refine zr_iconst C dyX1_growAll_119 zc_i_1 ?_
              refine zr_icmp_ne C dyX1_growAll_120 (tgt := 127) (by decide) (fun hc_27 => ?_) (fun hc_27 => ?_)
              · replace h := zif_neg hc_27 h
                refine zr_sub (lv2 := [(3, .int v3_16), (0, .ref (B + 64))]) [0, 3] rfl ?_
                exact h
              · replace h := zif_pos hc_27 h
                refine zr_iconst C dyX1_growAll_123 zc_i_1 ?_
                refine zr_goto C dyX1_growAll_124 (tgt := 128) (by decide) ?_
                refine zr_sub (lv2 := [(3, .int v3_16), (0, .ref (B + 64))]) [0, 3] rfl ?_
                exact h
      refine zr_if_ne C dyX1_growAll_69 (tgt := 80) (by decide) (fun hc_33 => ?_) (fun hc_33 => ?_)
      · replace h := zif_neg hc_33 h
        refine zr_sub (lv2 := [(6, .int r_12), (4, .int v4_8), (3, .int v3_7), (0, .ref (B + 64)), (1, .ref (B + a1)), (2, .int a2)]) [0, 2, 3, 4, 5, 6] rfl ?_
        exact h
      · replace h := zif_pos hc_33 h
        refine zr_aload_n C dyX1_growAll_72 rfl 4 rfl ?_
        refine zr_iload C dyX1_growAll_73 1 rfl ?_
        refine zv_1_133 C hS (st := []) h ⟨Nat.le_of_ble_eq_true rfl, Nat.le_of_ble_eq_true rfl⟩ (Nat.le_of_ble_eq_true rfl) dyX1_growAll_75 (fun r_31 I_32 h => ?_)
        refine zr_istore C dyX1_growAll_78 (Nat.le_of_ble_eq_true rfl) (lv2 := [(6, .int r_31), (5, .int r_11), (4, .int v4_8), (3, .int v3_7), (0, .ref (B + 64)), (1, .ref (B + a1)), (2, .int a2)]) rfl ?_
        refine zr_sub (lv2 := [(6, .int r_31), (4, .int v4_8), (3, .int v3_7), (0, .ref (B + 64)), (1, .ref (B + a1)), (2, .int a2)]) [0, 2, 3, 4, 5, 6] rfl ?_
        exact h
  exact h
theorem zg_1_39 {p : Program} {l : Launch} {e : Env} {R : Room} {s : State} {m : MethodId} {args : Array Value} {below : List Frame} {meth : Method} {c : Code} {Q : State → Prop} {D : va_G} {B : Nat} {cA : Nat → ClassId} {ad : Nat → Nat} {cc : ByteArray} {nL : Nat} {ret : Option FieldType} {S : List zC} {I : zI} {lv : List (Nat × Value)} {st : List Value} {pc : Nat} (C : zCx p s m args meth c cc nL RX1 ret D B cA ad) {k : Nat} (hk : zIsMoment S k) (hd : decode cc pc = .ok (.getfield 39, 3)) (kk : zX p l e R s m args below meth c Q D B cA nL 0 0 S I lv (.int (I.1 k 6) :: st) (pc + 3)) : zX p l e R s m args below meth c Q D B cA nL 0 0 S I lv (.ref (B + k) :: st) pc :=
  zr_geti C (ci := 2) (Cn := RX2) (T := TX2) (N := 9) (k := k) (j := 6) (fs := [some (some (k + 1)), none, some (some (k + 3)), none, some (some (k + 14)), some (some (k + 16)), none, none, none]) rfl zin_2 (Nat.le_of_ble_eq_true rfl) rfl hk.1 rfl zk_fl_1_39 hd kk
theorem zp_1_44 {p : Program} {l : Launch} {e : Env} {R : Room} {s : State} {m : MethodId} {args : Array Value} {below : List Frame} {meth : Method} {c : Code} {Q : State → Prop} {D : va_G} {B : Nat} {cA : Nat → ClassId} {ad : Nat → Nat} {cc : ByteArray} {nL : Nat} {ret : Option FieldType} {S : List zC} {I : zI} {lv : List (Nat × Value)} {st : List Value} {pc : Nat} (C : zCx p s m args meth c cc nL RX1 ret D B cA ad) (hS : zOkX S) {v : Int32} (hd : decode cc pc = .ok (.putfield 44, 3)) (kk : zX p l e R s m args below meth c Q D B cA nL 0 0 S (zu I 64 5 v) lv st (pc + 3)) : zX p l e R s m args below meth c Q D B cA nL 0 0 S I lv (.int v :: .ref (B + 64) :: st) pc :=
  zr_puti C (ci := 1) (Cn := RX1) (T := TX1) (N := 14) (k := 64) (j := 5) (fs := [some (some 24), some (some 43), some (some 65), some (some 67), none, none, none, none, none, none, none, none, none, none]) rfl zin_1 (Nat.le_of_ble_eq_true rfl) rfl (hS _ _ zs_64) rfl tyX1 tyX1_ok nmX1 (ty := .int) zpd_I rfl rfl rfl zk_fl_1_44 hd kk
theorem zg_1_51 {p : Program} {l : Launch} {e : Env} {R : Room} {s : State} {m : MethodId} {args : Array Value} {below : List Frame} {meth : Method} {c : Code} {Q : State → Prop} {D : va_G} {B : Nat} {cA : Nat → ClassId} {ad : Nat → Nat} {cc : ByteArray} {nL : Nat} {ret : Option FieldType} {S : List zC} {I : zI} {lv : List (Nat × Value)} {st : List Value} {pc : Nat} (C : zCx p s m args meth c cc nL RX1 ret D B cA ad) {k : Nat} (hk : zIsTokens S k) (hd : decode cc pc = .ok (.getfield 51, 3)) (kk : zX p l e R s m args below meth c Q D B cA nL 0 0 S I lv (.int (I.1 k 5) :: st) (pc + 3)) : zX p l e R s m args below meth c Q D B cA nL 0 0 S I lv (.ref (B + k) :: st) pc :=
  zr_geti C (ci := 8) (Cn := RX8) (T := TX8) (N := 6) (k := k) (j := 5) (fs := [some (some (k + 1)), some (some (k + 3)), some (some (k + 5)), some (some (k + 7)), some (some (k + 9)), none]) rfl zin_8 (Nat.le_of_ble_eq_true rfl) rfl hk.1 rfl zk_fl_1_51 hd kk
theorem zp_1_56 {p : Program} {l : Launch} {e : Env} {R : Room} {s : State} {m : MethodId} {args : Array Value} {below : List Frame} {meth : Method} {c : Code} {Q : State → Prop} {D : va_G} {B : Nat} {cA : Nat → ClassId} {ad : Nat → Nat} {cc : ByteArray} {nL : Nat} {ret : Option FieldType} {S : List zC} {I : zI} {lv : List (Nat × Value)} {st : List Value} {pc : Nat} (C : zCx p s m args meth c cc nL RX1 ret D B cA ad) (hS : zOkX S) {v : Int32} (hd : decode cc pc = .ok (.putfield 56, 3)) (kk : zX p l e R s m args below meth c Q D B cA nL 0 0 S (zu I 64 6 v) lv st (pc + 3)) : zX p l e R s m args below meth c Q D B cA nL 0 0 S I lv (.int v :: .ref (B + 64) :: st) pc :=
  zr_puti C (ci := 1) (Cn := RX1) (T := TX1) (N := 14) (k := 64) (j := 6) (fs := [some (some 24), some (some 43), some (some 65), some (some 67), none, none, none, none, none, none, none, none, none, none]) rfl zin_1 (Nat.le_of_ble_eq_true rfl) rfl (hS _ _ zs_64) rfl tyX1 tyX1_ok nmX1 (ty := .int) zpd_I rfl rfl rfl zk_fl_1_56 hd kk
theorem zv_1_59 {p : Program} {l : Launch} {e : Env} {R : Room} {s : State} {m : MethodId} {args : Array Value} {below : List Frame} {meth : Method} {c : Code} {Q : State → Prop} {D : va_G} {B : Nat} {cA : Nat → ClassId} {ad : Nat → Nat} {cc : ByteArray} {nL : Nat} {ret : Option FieldType} {S : List zC} {I : zI} {lv : List (Nat × Value)} {st : List Value} {pc : Nat} (C : zCx p s m args meth c cc nL RX1 ret D B cA ad) {K : zI → Prop} {xa1 : Nat} {xa2 : Nat} (hS : zOkX S) (xha1 : zIsMoment S xa1) (xha2 : zIsTokens S xa2) (h : w_Grower_keepAlike xa1 xa2 I K) (hR : 2 + 1 ≤ R.frames ∧ 8 + (4 + 11) + (44) ≤ R.locals) (hw : (st.map fun v => v.category).sum ≤ 8) (hd : decode cc pc = .ok (.invokevirtual 59, 3)) (kk : ∀ I2, K I2 → zX p l e R s m args below meth c Q D B cA nL 0 0 S I2 lv st (pc + 3)) : zX p l e R s m args below meth c Q D B cA nL 0 0 S I lv (.ref (B + xa2) :: .ref (B + xa1) :: .ref (B + 64) :: st) pc :=
  have hf : 0 ≤ R.cells ∧ 0 ≤ R.slots := ⟨Nat.zero_le _, Nat.zero_le _⟩
  zc_VqV C (ci := 1) (q := (RX1, TX1, 14)) (k := 64) (fs := [some (some 24), some (some 43), some (some 65), some (some 67), none, none, none, none, none, none, none, none, none, none]) (As := [.ref (B + xa1), .ref (B + xa2)]) (st := st) rfl (hS _ _ zs_64) (c_Grower_keepAlike hS xha1 xha2 h) (zgV zk_ml_1_59 zk_im_yX1_keepAlike zk_se_yX1_keepAlike zk_in_1 zk_cd_yX1_keepAlike) zsg_yX1_keepAlike hR rfl rfl hw hd hf kk
theorem zv_1_63 {p : Program} {l : Launch} {e : Env} {R : Room} {s : State} {m : MethodId} {args : Array Value} {below : List Frame} {meth : Method} {c : Code} {Q : State → Prop} {D : va_G} {B : Nat} {cA : Nat → ClassId} {ad : Nat → Nat} {cc : ByteArray} {nL : Nat} {ret : Option FieldType} {S : List zC} {I : zI} {lv : List (Nat × Value)} {st : List Value} {pc : Nat} (C : zCx p s m args meth c cc nL RX1 ret D B cA ad) {K : zI → Prop} {xa1 : Nat} {xa2 : Nat} {xa3 : Int32} (hS : zOkX S) (xha1 : zIsMoment S xa1) (xha2 : zIsMoment S xa2) (h : w_Grower_nameTokens xa1 xa2 xa3 I K) (hR : 3 + 1 ≤ R.frames ∧ 8 + (7 + 11) + (73) ≤ R.locals) (hw : (st.map fun v => v.category).sum ≤ 8) (hd : decode cc pc = .ok (.invokevirtual 63, 3)) (kk : ∀ I2, K I2 → zX p l e R s m args below meth c Q D B cA nL 0 0 S I2 lv st (pc + 3)) : zX p l e R s m args below meth c Q D B cA nL 0 0 S I lv (.int xa3 :: .ref (B + xa2) :: .ref (B + xa1) :: .ref (B + 64) :: st) pc :=
  have hf : 0 ≤ R.cells ∧ 0 ≤ R.slots := ⟨Nat.zero_le _, Nat.zero_le _⟩
  zc_VqV C (ci := 1) (q := (RX1, TX1, 14)) (k := 64) (fs := [some (some 24), some (some 43), some (some 65), some (some 67), none, none, none, none, none, none, none, none, none, none]) (As := [.ref (B + xa1), .ref (B + xa2), .int xa3]) (st := st) rfl (hS _ _ zs_64) (c_Grower_nameTokens hS xha1 xha2 h) (zgV zk_ml_1_63 zk_im_yX1_nameTokens zk_se_yX1_nameTokens zk_in_1 zk_cd_yX1_nameTokens) zsg_yX1_nameTokens hR rfl rfl hw hd hf kk
theorem zv_1_67 {p : Program} {l : Launch} {e : Env} {R : Room} {s : State} {m : MethodId} {args : Array Value} {below : List Frame} {meth : Method} {c : Code} {Q : State → Prop} {D : va_G} {B : Nat} {cA : Nat → ClassId} {ad : Nat → Nat} {cc : ByteArray} {nL : Nat} {ret : Option FieldType} {S : List zC} {I : zI} {lv : List (Nat × Value)} {st : List Value} {pc : Nat} (C : zCx p s m args meth c cc nL RX1 ret D B cA ad) {K : Int32 → zI → Prop} {xa1 : Nat} {xa2 : Int32} (hS : zOkX S) (xha1 : zIsMoment S xa1) (h : w_Grower_growAll xa1 xa2 I K) (hR : 4 + 1 ≤ R.frames ∧ 8 + (8 + 11) + (97) ≤ R.locals) (hw : (st.map fun v => v.category).sum ≤ 8) (hd : decode cc pc = .ok (.invokevirtual 67, 3)) (kk : ∀ v I2, K v I2 → zX p l e R s m args below meth c Q D B cA nL 0 0 S I2 lv (.int v :: st) (pc + 3)) : zX p l e R s m args below meth c Q D B cA nL 0 0 S I lv (.int xa2 :: .ref (B + xa1) :: .ref (B + 64) :: st) pc :=
  have hf : 0 ≤ R.cells ∧ 0 ≤ R.slots := ⟨Nat.zero_le _, Nat.zero_le _⟩
  zc_VqI C (ci := 1) (q := (RX1, TX1, 14)) (k := 64) (fs := [some (some 24), some (some 43), some (some 65), some (some 67), none, none, none, none, none, none, none, none, none, none]) (As := [.ref (B + xa1), .int xa2]) (st := st) rfl (hS _ _ zs_64) (c_Grower_growAll hS xha1 h) (zgV zk_ml_1_67 zk_im_yX1_growAll zk_se_yX1_growAll zk_in_1 zk_cd_yX1_growAll) zsg_yX1_growAll hR rfl rfl hw hd hf kk
def w_Grower_regrow (a1 : Nat) (a2 : Nat) (a3 : Int32) (I : zI) (K : Int32 → zI → Prop) : Prop :=
  ∀ I_1, I_1 = (zu I 64 5 (I.1 a1 6)) → ∀ I_2, I_2 = (zu I_1 64 6 (I_1.1 (a2 + 3) 5)) → w_Grower_keepAlike a1 (a2 + 3) I_2 (fun I_3 => w_Grower_nameTokens a1 a2 a3 I_3 (fun I_4 => w_Grower_growAll a2 a3 I_4 (fun r_5 I_6 => zb r_5 ∧ K r_5 I_6)))
theorem dyX1_regrow_0 : decode cX1_regrow 0 = .ok (.aload_n 0, 1) := by decide +kernel
theorem dyX1_regrow_1 : decode cX1_regrow 1 = .ok (.aload_n 1, 1) := by decide +kernel
theorem dyX1_regrow_2 : decode cX1_regrow 2 = .ok (.getfield 39, 3) := by decide +kernel
theorem dyX1_regrow_5 : decode cX1_regrow 5 = .ok (.putfield 44, 3) := by decide +kernel
theorem dyX1_regrow_8 : decode cX1_regrow 8 = .ok (.aload_n 0, 1) := by decide +kernel
theorem dyX1_regrow_9 : decode cX1_regrow 9 = .ok (.aload_n 2, 1) := by decide +kernel
theorem dyX1_regrow_10 : decode cX1_regrow 10 = .ok (.getfield 47, 3) := by decide +kernel
theorem dyX1_regrow_13 : decode cX1_regrow 13 = .ok (.getfield 51, 3) := by decide +kernel
theorem dyX1_regrow_16 : decode cX1_regrow 16 = .ok (.putfield 56, 3) := by decide +kernel
theorem dyX1_regrow_19 : decode cX1_regrow 19 = .ok (.aload_n 0, 1) := by decide +kernel
theorem dyX1_regrow_20 : decode cX1_regrow 20 = .ok (.aload_n 1, 1) := by decide +kernel
theorem dyX1_regrow_21 : decode cX1_regrow 21 = .ok (.aload_n 2, 1) := by decide +kernel
theorem dyX1_regrow_22 : decode cX1_regrow 22 = .ok (.getfield 47, 3) := by decide +kernel
theorem dyX1_regrow_25 : decode cX1_regrow 25 = .ok (.invokevirtual 59, 3) := by decide +kernel
theorem dyX1_regrow_28 : decode cX1_regrow 28 = .ok (.aload_n 0, 1) := by decide +kernel
theorem dyX1_regrow_29 : decode cX1_regrow 29 = .ok (.aload_n 1, 1) := by decide +kernel
theorem dyX1_regrow_30 : decode cX1_regrow 30 = .ok (.aload_n 2, 1) := by decide +kernel
theorem dyX1_regrow_31 : decode cX1_regrow 31 = .ok (.iload_n 3, 1) := by decide +kernel
theorem dyX1_regrow_32 : decode cX1_regrow 32 = .ok (.invokevirtual 63, 3) := by decide +kernel
theorem dyX1_regrow_35 : decode cX1_regrow 35 = .ok (.aload_n 0, 1) := by decide +kernel
theorem dyX1_regrow_36 : decode cX1_regrow 36 = .ok (.aload_n 2, 1) := by decide +kernel
theorem dyX1_regrow_37 : decode cX1_regrow 37 = .ok (.iload_n 3, 1) := by decide +kernel
theorem dyX1_regrow_38 : decode cX1_regrow 38 = .ok (.invokevirtual 67, 3) := by decide +kernel
theorem dyX1_regrow_41 : decode cX1_regrow 41 = .ok (.ireturn, 1) := by decide +kernel
theorem zsg_yX1_regrow : yX1_regrow.cls = RX1 ∧ yX1_regrow.cls ≠ "java/lang/invoke/MethodHandle" ∧ yX1_regrow.cls ≠ "java/lang/invoke/VarHandle" ∧ (parseMethodDescriptor yX1_regrow.desc).map (fun d => d.parameters.length) = some 3 := by decide +kernel
set_option maxRecDepth 20000 in
theorem c_Grower_regrow {l : Launch} {D : va_G} {B : Nat} {cA : Nat → ClassId} {ad : Nat → Nat} {S : List zC} (hS : zOkX S) {a1 : Nat} {a2 : Nat} {a3 : Int32} {I : zI} {K : Int32 → zI → Prop} (ha1 : zIsMoment S a1) (ha2 : zIsMoment S a2) (h : w_Grower_regrow a1 a2 a3 I K) : Met l yX1_regrow (zws yX1_regrow cX1_regrow 4 (some .boolean)) (zrm 5 124) (zPc D B cA ad [.ref (B + 64), .ref (B + a1), .ref (B + a2), .int a3] S I) (zQc D B cA (zqI S K)) 0 0 (fun q => B ≤ q) := by
  refine zm_of (cc := cX1_regrow) (maxL := 4) (ret := (some .boolean)) (by decide +kernel) rfl (Nat.le_of_ble_eq_true rfl) trivial ?_
  intro p e s m args below meth c C _
  unfold w_Grower_regrow at h
  show zX p l e (zrm 5 124) s m args below meth c (MQ below (zQc D B cA (zqI S K)) args s 0 0 (fun q => B ≤ q)) D B cA 4 0 0 S I [(0, .ref (B + 64)), (1, .ref (B + a1)), (2, .ref (B + a2)), (3, .int a3)] [] 0
  refine zr_aload_n C dyX1_regrow_0 rfl 0 rfl ?_
  refine zr_aload_n C dyX1_regrow_1 rfl 1 rfl ?_
  refine zg_1_39 C ha1 dyX1_regrow_2 ?_
  refine zp_1_44 C hS dyX1_regrow_5 ?_
  refine zn_mem C (fun I_1 eI_1 => ?_)
  replace h := h I_1 eI_1
  refine zr_aload_n C dyX1_regrow_8 rfl 0 rfl ?_
  refine zr_aload_n C dyX1_regrow_9 rfl 2 rfl ?_
  refine zg_1_47 C ha2 dyX1_regrow_10 ?_
  refine zg_1_51 C ha2.2.2.1 dyX1_regrow_13 ?_
  refine zp_1_56 C hS dyX1_regrow_16 ?_
  refine zn_mem C (fun I_2 eI_2 => ?_)
  replace h := h I_2 eI_2
  refine zr_aload_n C dyX1_regrow_19 rfl 0 rfl ?_
  refine zr_aload_n C dyX1_regrow_20 rfl 1 rfl ?_
  refine zr_aload_n C dyX1_regrow_21 rfl 2 rfl ?_
  refine zg_1_47 C ha2 dyX1_regrow_22 ?_
  refine zv_1_59 C hS ha1 ha2.2.2.1 (st := []) h ⟨Nat.le_of_ble_eq_true rfl, Nat.le_of_ble_eq_true rfl⟩ (Nat.le_of_ble_eq_true rfl) dyX1_regrow_25 (fun I_3 h => ?_)
  refine zr_aload_n C dyX1_regrow_28 rfl 0 rfl ?_
  refine zr_aload_n C dyX1_regrow_29 rfl 1 rfl ?_
  refine zr_aload_n C dyX1_regrow_30 rfl 2 rfl ?_
  refine zr_iload_n C dyX1_regrow_31 rfl 3 rfl ?_
  refine zv_1_63 C hS ha1 ha2 (st := []) h ⟨Nat.le_of_ble_eq_true rfl, Nat.le_of_ble_eq_true rfl⟩ (Nat.le_of_ble_eq_true rfl) dyX1_regrow_32 (fun I_4 h => ?_)
  refine zr_aload_n C dyX1_regrow_35 rfl 0 rfl ?_
  refine zr_aload_n C dyX1_regrow_36 rfl 2 rfl ?_
  refine zr_iload_n C dyX1_regrow_37 rfl 3 rfl ?_
  refine zv_1_67 C hS ha2 (st := []) h ⟨Nat.le_of_ble_eq_true rfl, Nat.le_of_ble_eq_true rfl⟩ (Nat.le_of_ble_eq_true rfl) dyX1_regrow_38 (fun r_5 I_6 h => ?_)
  exact zr_zret C rfl (zb.nar h.1) dyX1_regrow_41 ⟨rfl, _, rfl, h.2⟩
theorem zg_2_33 {p : Program} {l : Launch} {e : Env} {R : Room} {s : State} {m : MethodId} {args : Array Value} {below : List Frame} {meth : Method} {c : Code} {Q : State → Prop} {D : va_G} {B : Nat} {cA : Nat → ClassId} {ad : Nat → Nat} {cc : ByteArray} {nL : Nat} {ret : Option FieldType} {S : List zC} {I : zI} {lv : List (Nat × Value)} {st : List Value} {pc : Nat} (C : zCx p s m args meth c cc nL RX2 ret D B cA ad) {k : Nat} (hk : zIsMoment S k) (hd : decode cc pc = .ok (.getfield 33, 3)) (kk : zX p l e R s m args below meth c Q D B cA nL 0 0 S I lv (.int (I.1 k 6) :: st) (pc + 3)) : zX p l e R s m args below meth c Q D B cA nL 0 0 S I lv (.ref (B + k) :: st) pc :=
  zr_geti C (ci := 2) (Cn := RX2) (T := TX2) (N := 9) (k := k) (j := 6) (fs := [some (some (k + 1)), none, some (some (k + 3)), none, some (some (k + 14)), some (some (k + 16)), none, none, none]) rfl zin_2 (Nat.le_of_ble_eq_true rfl) rfl hk.1 rfl zk_fl_2_33 hd kk
def w_Moment_hasGood (k : Nat) (a1 : Int32) (I : zI) (K : Int32 → Prop) : Prop :=
  (if a1 < 0 then K 0 else (if (I.1 k 6) ≤ a1 then K 0 else K 1))
theorem dyX2_hasGood_0 : decode cX2_hasGood 0 = .ok (.iload_n 1, 1) := by decide +kernel
theorem dyX2_hasGood_1 : decode cX2_hasGood 1 = .ok (.ifCond .lt 15, 3) := by decide +kernel
theorem dyX2_hasGood_4 : decode cX2_hasGood 4 = .ok (.iload_n 1, 1) := by decide +kernel
theorem dyX2_hasGood_5 : decode cX2_hasGood 5 = .ok (.aload_n 0, 1) := by decide +kernel
theorem dyX2_hasGood_6 : decode cX2_hasGood 6 = .ok (.getfield 33, 3) := by decide +kernel
theorem dyX2_hasGood_9 : decode cX2_hasGood 9 = .ok (.if_icmp .ge 7, 3) := by decide +kernel
theorem dyX2_hasGood_12 : decode cX2_hasGood 12 = .ok (.iconst 1, 1) := by decide +kernel
theorem dyX2_hasGood_13 : decode cX2_hasGood 13 = .ok (.goto 4, 3) := by decide +kernel
theorem dyX2_hasGood_16 : decode cX2_hasGood 16 = .ok (.iconst 0, 1) := by decide +kernel
theorem dyX2_hasGood_17 : decode cX2_hasGood 17 = .ok (.ireturn, 1) := by decide +kernel
theorem zsg_yX2_hasGood : yX2_hasGood.cls = RX2 ∧ yX2_hasGood.cls ≠ "java/lang/invoke/MethodHandle" ∧ yX2_hasGood.cls ≠ "java/lang/invoke/VarHandle" ∧ (parseMethodDescriptor yX2_hasGood.desc).map (fun d => d.parameters.length) = some 1 := by decide +kernel
set_option maxRecDepth 20000 in
theorem c_Moment_hasGood {l : Launch} {D : va_G} {B : Nat} {cA : Nat → ClassId} {ad : Nat → Nat} {S : List zC} (hS : zOkX S) {k : Nat} {a1 : Int32} {I : zI} {K : Int32 → Prop} (hk : zIsMoment S k) (h : w_Moment_hasGood k a1 I K) : Met l yX2_hasGood (zws yX2_hasGood cX2_hasGood 2 (some .boolean)) (zrm 0 0) (zPc D B cA ad [.ref (B + k), .int a1] S I) (zQc D B cA (zpI S I K)) 0 0 (fun q => B ≤ q) := by
  refine zm_of (cc := cX2_hasGood) (maxL := 2) (ret := (some .boolean)) (by decide +kernel) rfl (Nat.le_of_ble_eq_true rfl) trivial ?_
  intro p e s m args below meth c C _
  unfold w_Moment_hasGood at h
  show zX p l e (zrm 0 0) s m args below meth c (MQ below (zQc D B cA (zpI S I K)) args s 0 0 (fun q => B ≤ q)) D B cA 2 0 0 S I [(0, .ref (B + k)), (1, .int a1)] [] 0
  refine zr_iload_n C dyX2_hasGood_0 rfl 1 rfl ?_
  refine zr_if_lt C dyX2_hasGood_1 (tgt := 16) (by decide) (fun hc_2 => ?_) (fun hc_2 => ?_)
  · replace h := zif_pos hc_2 h
    refine zr_iconst C dyX2_hasGood_16 zc_i_0 ?_
    exact zr_zret C rfl (zb.nar zb_0) dyX2_hasGood_17 ⟨rfl, rfl, _, rfl, h⟩
  · replace h := zif_neg hc_2 h
    refine zr_iload_n C dyX2_hasGood_4 rfl 1 rfl ?_
    refine zr_aload_n C dyX2_hasGood_5 rfl 0 rfl ?_
    refine zg_2_33 C hk dyX2_hasGood_6 ?_
    refine zr_icmp_ge C dyX2_hasGood_9 (tgt := 16) (by decide) (fun hc_1 => ?_) (fun hc_1 => ?_)
    · replace h := zif_pos hc_1 h
      refine zr_iconst C dyX2_hasGood_16 zc_i_0 ?_
      exact zr_zret C rfl (zb.nar zb_0) dyX2_hasGood_17 ⟨rfl, rfl, _, rfl, h⟩
    · replace h := zif_neg hc_1 h
      refine zr_iconst C dyX2_hasGood_12 zc_i_1 ?_
      refine zr_goto C dyX2_hasGood_13 (tgt := 17) (by decide) ?_
      exact zr_zret C rfl (zb.nar zb_1) dyX2_hasGood_17 ⟨rfl, rfl, _, rfl, h⟩
theorem zg_2_14 {p : Program} {l : Launch} {e : Env} {R : Room} {s : State} {m : MethodId} {args : Array Value} {below : List Frame} {meth : Method} {c : Code} {Q : State → Prop} {D : va_G} {B : Nat} {cA : Nat → ClassId} {ad : Nat → Nat} {cc : ByteArray} {nL : Nat} {ret : Option FieldType} {S : List zC} {I : zI} {lv : List (Nat × Value)} {st : List Value} {pc : Nat} (C : zCx p s m args meth c cc nL RX2 ret D B cA ad) {k : Nat} (hk : zIsMoment S k) (hd : decode cc pc = .ok (.getfield 14, 3)) (kk : zX p l e R s m args below meth c Q D B cA nL 0 0 S I lv (.ref (B + (k + 1)) :: st) (pc + 3)) : zX p l e R s m args below meth c Q D B cA nL 0 0 S I lv (.ref (B + k) :: st) pc :=
  zr_getr C (ci := 2) (Cn := RX2) (T := TX2) (N := 9) (k := k) (j := 0) (fs := [some (some (k + 1)), none, some (some (k + 3)), none, some (some (k + 14)), some (some (k + 16)), none, none, none]) rfl zin_2 (Nat.le_of_ble_eq_true rfl) rfl hk.1 rfl zk_fl_2_14 hd kk
theorem zg_2_37 {p : Program} {l : Launch} {e : Env} {R : Room} {s : State} {m : MethodId} {args : Array Value} {below : List Frame} {meth : Method} {c : Code} {Q : State → Prop} {D : va_G} {B : Nat} {cA : Nat → ClassId} {ad : Nat → Nat} {cc : ByteArray} {nL : Nat} {ret : Option FieldType} {S : List zC} {I : zI} {lv : List (Nat × Value)} {st : List Value} {pc : Nat} (C : zCx p s m args meth c cc nL RX2 ret D B cA ad) {k : Nat} (hk : zIsMoment S k) (hd : decode cc pc = .ok (.getfield 37, 3)) (kk : zX p l e R s m args below meth c Q D B cA nL 0 0 S I lv (.int (I.1 k 1) :: st) (pc + 3)) : zX p l e R s m args below meth c Q D B cA nL 0 0 S I lv (.ref (B + k) :: st) pc :=
  zr_geti C (ci := 2) (Cn := RX2) (T := TX2) (N := 9) (k := k) (j := 1) (fs := [some (some (k + 1)), none, some (some (k + 3)), none, some (some (k + 14)), some (some (k + 16)), none, none, none]) rfl zin_2 (Nat.le_of_ble_eq_true rfl) rfl hk.1 rfl zk_fl_2_37 hd kk
theorem zv_2_40 {p : Program} {l : Launch} {e : Env} {R : Room} {s : State} {m : MethodId} {args : Array Value} {below : List Frame} {meth : Method} {c : Code} {Q : State → Prop} {D : va_G} {B : Nat} {cA : Nat → ClassId} {ad : Nat → Nat} {cc : ByteArray} {nL : Nat} {ret : Option FieldType} {S : List zC} {I : zI} {lv : List (Nat × Value)} {st : List Value} {pc : Nat} (C : zCx p s m args meth c cc nL RX2 ret D B cA ad) {K : Int32 → Prop} {xk : Nat} {xn : Nat} {xa1 : Int32} (hS : zOkX S) (xhk : zIsRow S xk xn) (h : w_Row_get xk xn xa1 I K) (hR : 0 + 1 ≤ R.frames ∧ 8 + (2 + 11) + (0) ≤ R.locals) (hw : (st.map fun v => v.category).sum ≤ 8) (hd : decode cc pc = .ok (.invokevirtual 40, 3)) (kk : ∀ v, K v → zX p l e R s m args below meth c Q D B cA nL 0 0 S I lv (.int v :: st) (pc + 3)) : zX p l e R s m args below meth c Q D B cA nL 0 0 S I lv (.int xa1 :: .ref (B + xk) :: st) pc :=
  have hf : 0 ≤ R.cells ∧ 0 ≤ R.slots := ⟨Nat.zero_le _, Nat.zero_le _⟩
  zc_VpI C (ci := 6) (q := (RX6, TX6, 1)) (k := xk) (fs := [some (some (xk + 1))]) (As := [.int xa1]) (st := st) rfl xhk.1 (c_Row_get hS xhk h) (zgV zk_ml_2_40 zk_im_yX6_get zk_se_yX6_get zk_in_6 zk_cd_yX6_get) zsg_yX6_get hR rfl rfl hw hd hf kk
theorem zv_2_44 {p : Program} {l : Launch} {e : Env} {R : Room} {s : State} {m : MethodId} {args : Array Value} {below : List Frame} {meth : Method} {c : Code} {Q : State → Prop} {D : va_G} {B : Nat} {cA : Nat → ClassId} {ad : Nat → Nat} {cc : ByteArray} {nL : Nat} {ret : Option FieldType} {S : List zC} {I : zI} {lv : List (Nat × Value)} {st : List Value} {pc : Nat} (C : zCx p s m args meth c cc nL RX2 ret D B cA ad) {K : zI → Prop} {xk : Nat} {xn : Nat} {xa1 : Int32} {xa2 : Int32} (hS : zOkX S) (xhk : zIsRow S xk xn) (h : w_Row_set xk xn xa1 xa2 I K) (hR : 0 + 1 ≤ R.frames ∧ 8 + (3 + 11) + (0) ≤ R.locals) (hw : (st.map fun v => v.category).sum ≤ 8) (hd : decode cc pc = .ok (.invokevirtual 44, 3)) (kk : ∀ I2, K I2 → zX p l e R s m args below meth c Q D B cA nL 0 0 S I2 lv st (pc + 3)) : zX p l e R s m args below meth c Q D B cA nL 0 0 S I lv (.int xa2 :: .int xa1 :: .ref (B + xk) :: st) pc :=
  have hf : 0 ≤ R.cells ∧ 0 ≤ R.slots := ⟨Nat.zero_le _, Nat.zero_le _⟩
  zc_VqV C (ci := 6) (q := (RX6, TX6, 1)) (k := xk) (fs := [some (some (xk + 1))]) (As := [.int xa1, .int xa2]) (st := st) rfl xhk.1 (c_Row_set hS xhk h) (zgV zk_ml_2_44 zk_im_yX6_set zk_se_yX6_set zk_in_6 zk_cd_yX6_set) zsg_yX6_set hR rfl rfl hw hd hf kk
theorem zp_2_37 {p : Program} {l : Launch} {e : Env} {R : Room} {s : State} {m : MethodId} {args : Array Value} {below : List Frame} {meth : Method} {c : Code} {Q : State → Prop} {D : va_G} {B : Nat} {cA : Nat → ClassId} {ad : Nat → Nat} {cc : ByteArray} {nL : Nat} {ret : Option FieldType} {S : List zC} {I : zI} {lv : List (Nat × Value)} {st : List Value} {pc : Nat} (C : zCx p s m args meth c cc nL RX2 ret D B cA ad) {k : Nat} (hk : zIsMoment S k) {v : Int32} (hd : decode cc pc = .ok (.putfield 37, 3)) (kk : zX p l e R s m args below meth c Q D B cA nL 0 0 S (zu I k 1 v) lv st (pc + 3)) : zX p l e R s m args below meth c Q D B cA nL 0 0 S I lv (.int v :: .ref (B + k) :: st) pc :=
  zr_puti C (ci := 2) (Cn := RX2) (T := TX2) (N := 9) (k := k) (j := 1) (fs := [some (some (k + 1)), none, some (some (k + 3)), none, some (some (k + 14)), some (some (k + 16)), none, none, none]) rfl zin_2 (Nat.le_of_ble_eq_true rfl) rfl hk.1 rfl tyX2 tyX2_ok nmX2 (ty := .int) zpd_I rfl rfl rfl zk_fl_2_37 hd kk
def w_Moment_append (k : Nat) (a1 : Nat) (a1n : Nat) (a2 : Int32) (a3 : Int32) (I : zI) (K : zI → Prop) : Prop :=
  ∀ (P3 : Int32 → zI → Prop), (∀ (v4_1 : Int32) (I_2 : zI), ((if a3 ≤ v4_1 then K I_2 else (w_Row_get a1 a1n v4_1 I_2 (fun r_3 => w_Row_set (k + 1) 300 (I_2.1 k 1) r_3 I_2 (fun I_4 => ∀ I_5, I_5 = (zu I_4 k 1 ((I_4.1 k 1) + 1)) → ∀ v4_6, v4_6 = (v4_1 + 1) → P3 v4_6 I_5))))) → P3 v4_1 I_2) → P3 a2 I
theorem dyX2_append_0 : decode cX2_append 0 = .ok (.iload_n 2, 1) := by decide +kernel
theorem dyX2_append_1 : decode cX2_append 1 = .ok (.istore 4, 2) := by decide +kernel
theorem dyX2_append_3 : decode cX2_append 3 = .ok (.iload 4, 2) := by decide +kernel
theorem dyX2_append_5 : decode cX2_append 5 = .ok (.iload_n 3, 1) := by decide +kernel
theorem dyX2_append_6 : decode cX2_append 6 = .ok (.if_icmp .ge 36, 3) := by decide +kernel
theorem dyX2_append_9 : decode cX2_append 9 = .ok (.aload_n 0, 1) := by decide +kernel
theorem dyX2_append_10 : decode cX2_append 10 = .ok (.getfield 14, 3) := by decide +kernel
theorem dyX2_append_13 : decode cX2_append 13 = .ok (.aload_n 0, 1) := by decide +kernel
theorem dyX2_append_14 : decode cX2_append 14 = .ok (.getfield 37, 3) := by decide +kernel
theorem dyX2_append_17 : decode cX2_append 17 = .ok (.aload_n 1, 1) := by decide +kernel
theorem dyX2_append_18 : decode cX2_append 18 = .ok (.iload 4, 2) := by decide +kernel
theorem dyX2_append_20 : decode cX2_append 20 = .ok (.invokevirtual 40, 3) := by decide +kernel
theorem dyX2_append_23 : decode cX2_append 23 = .ok (.invokevirtual 44, 3) := by decide +kernel
theorem dyX2_append_26 : decode cX2_append 26 = .ok (.aload_n 0, 1) := by decide +kernel
theorem dyX2_append_27 : decode cX2_append 27 = .ok (.dup, 1) := by decide +kernel
theorem dyX2_append_28 : decode cX2_append 28 = .ok (.getfield 37, 3) := by decide +kernel
theorem dyX2_append_31 : decode cX2_append 31 = .ok (.iconst 1, 1) := by decide +kernel
theorem dyX2_append_32 : decode cX2_append 32 = .ok (.iadd, 1) := by decide +kernel
theorem dyX2_append_33 : decode cX2_append 33 = .ok (.putfield 37, 3) := by decide +kernel
theorem dyX2_append_36 : decode cX2_append 36 = .ok (.iinc 4 1, 3) := by decide +kernel
theorem dyX2_append_39 : decode cX2_append 39 = .ok (.goto (-36), 3) := by decide +kernel
theorem dyX2_append_42 : decode cX2_append 42 = .ok (.return_, 1) := by decide +kernel
theorem zsg_yX2_append : yX2_append.cls = RX2 ∧ yX2_append.cls ≠ "java/lang/invoke/MethodHandle" ∧ yX2_append.cls ≠ "java/lang/invoke/VarHandle" ∧ (parseMethodDescriptor yX2_append.desc).map (fun d => d.parameters.length) = some 3 := by decide +kernel
set_option maxRecDepth 20000 in
theorem c_Moment_append {l : Launch} {D : va_G} {B : Nat} {cA : Nat → ClassId} {ad : Nat → Nat} {S : List zC} (hS : zOkX S) {k : Nat} {a1 : Nat} {a1n : Nat} {a2 : Int32} {a3 : Int32} {I : zI} {K : zI → Prop} (hk : zIsMoment S k) (ha1 : zIsRow S a1 a1n) (h : w_Moment_append k a1 a1n a2 a3 I K) : Met l yX2_append (zws yX2_append cX2_append 5 none) (zrm 1 22) (zPc D B cA ad [.ref (B + k), .ref (B + a1), .int a2, .int a3] S I) (zQc D B cA (zqV S K)) 0 0 (fun q => B ≤ q) := by
  refine zm_of (cc := cX2_append) (maxL := 5) (ret := none) (by decide +kernel) rfl (Nat.le_of_ble_eq_true rfl) trivial ?_
  intro p e s m args below meth c C _
  unfold w_Moment_append at h
  show zX p l e (zrm 1 22) s m args below meth c (MQ below (zQc D B cA (zqV S K)) args s 0 0 (fun q => B ≤ q)) D B cA 5 0 0 S I [(0, .ref (B + k)), (1, .ref (B + a1)), (2, .int a2), (3, .int a3)] [] 0
  refine zr_iload_n C dyX2_append_0 rfl 2 rfl ?_
  refine zr_istore C dyX2_append_1 (Nat.le_of_ble_eq_true rfl) (lv2 := [(4, .int a2), (0, .ref (B + k)), (1, .ref (B + a1)), (2, .int a2), (3, .int a3)]) rfl ?_
  refine zjn (h (fun (v4_1 : Int32) (I_2 : zI) => zX p l e (zrm 1 22) s m args below meth c (MQ below (zQc D B cA (zqV S K)) args s 0 0 (fun q => B ≤ q)) D B cA 5 0 0 S I_2 [(4, .int v4_1), (0, .ref (B + k)), (1, .ref (B + a1)), (3, .int a3)] [] 3) (fun v4_1 I_2 h => ?_)) (fun h => ?_)
  · refine zr_iload C dyX2_append_3 0 rfl ?_
    refine zr_iload_n C dyX2_append_5 rfl 3 rfl ?_
    refine zr_icmp_ge C dyX2_append_6 (tgt := 42) (by decide) (fun hc_7 => ?_) (fun hc_7 => ?_)
    · replace h := zif_pos hc_7 h
      exact zr_vret C rfl dyX2_append_42 ⟨rfl, rfl, h⟩
    · replace h := zif_neg hc_7 h
      refine zr_aload_n C dyX2_append_9 rfl 1 rfl ?_
      refine zg_2_14 C hk dyX2_append_10 ?_
      refine zr_aload_n C dyX2_append_13 rfl 1 rfl ?_
      refine zg_2_37 C hk dyX2_append_14 ?_
      refine zr_aload_n C dyX2_append_17 rfl 2 rfl ?_
      refine zr_iload C dyX2_append_18 0 rfl ?_
      refine zv_2_40 C hS ha1 (st := [.int (I_2.1 k 1), .ref (B + (k + 1))]) h ⟨Nat.le_of_ble_eq_true rfl, Nat.le_of_ble_eq_true rfl⟩ (Nat.le_of_ble_eq_true rfl) dyX2_append_20 (fun r_3 h => ?_)
      refine zv_2_44 C hS hk.2.1 (st := []) h ⟨Nat.le_of_ble_eq_true rfl, Nat.le_of_ble_eq_true rfl⟩ (Nat.le_of_ble_eq_true rfl) dyX2_append_23 (fun I_4 h => ?_)
      refine zr_aload_n C dyX2_append_26 rfl 1 rfl ?_
      refine zr_dup C dyX2_append_27 rfl ?_
      refine zg_2_37 C hk dyX2_append_28 ?_
      refine zr_iconst C dyX2_append_31 zc_i_1 ?_
      refine zr_iadd C dyX2_append_32 ?_
      refine zp_2_37 C hk dyX2_append_33 ?_
      refine zn_mem C (fun I_5 eI_5 => ?_)
      replace h := h I_5 eI_5
      refine zn_iinc C (fun v4_6 => [(4, .int v4_6), (0, .ref (B + k)), (1, .ref (B + a1)), (3, .int a3)]) dyX2_append_36 0 rfl zc_i_1 (Nat.le_of_ble_eq_true rfl) (fun _ => rfl) (fun v4_6 ev4_6 => ?_)
      replace h := h v4_6 ev4_6
      refine zr_goto C dyX2_append_39 (tgt := 3) (by decide) ?_
      exact h
  refine zr_sub (lv2 := [(4, .int a2), (0, .ref (B + k)), (1, .ref (B + a1)), (3, .int a3)]) [0, 1, 2, 4] rfl ?_
  exact h
theorem zp_2_48 {p : Program} {l : Launch} {e : Env} {R : Room} {s : State} {m : MethodId} {args : Array Value} {below : List Frame} {meth : Method} {c : Code} {Q : State → Prop} {D : va_G} {B : Nat} {cA : Nat → ClassId} {ad : Nat → Nat} {cc : ByteArray} {nL : Nat} {ret : Option FieldType} {S : List zC} {I : zI} {lv : List (Nat × Value)} {st : List Value} {pc : Nat} (C : zCx p s m args meth c cc nL RX2 ret D B cA ad) {k : Nat} (hk : zIsMoment S k) {v : Int32} (hz : zb v) (hd : decode cc pc = .ok (.putfield 48, 3)) (kk : zX p l e R s m args below meth c Q D B cA nL 0 0 S (zu I k 3 v) lv st (pc + 3)) : zX p l e R s m args below meth c Q D B cA nL 0 0 S I lv (.int v :: .ref (B + k) :: st) pc :=
  zr_puti C (ci := 2) (Cn := RX2) (T := TX2) (N := 9) (k := k) (j := 3) (fs := [some (some (k + 1)), none, some (some (k + 3)), none, some (some (k + 14)), some (some (k + 16)), none, none, none]) rfl zin_2 (Nat.le_of_ble_eq_true rfl) rfl hk.1 rfl tyX2 tyX2_ok nmX2 (ty := .boolean) zpd_Z (zb.nar hz) (zb.fit hz) rfl zk_fl_2_48 hd kk
theorem zp_2_52 {p : Program} {l : Launch} {e : Env} {R : Room} {s : State} {m : MethodId} {args : Array Value} {below : List Frame} {meth : Method} {c : Code} {Q : State → Prop} {D : va_G} {B : Nat} {cA : Nat → ClassId} {ad : Nat → Nat} {cc : ByteArray} {nL : Nat} {ret : Option FieldType} {S : List zC} {I : zI} {lv : List (Nat × Value)} {st : List Value} {pc : Nat} (C : zCx p s m args meth c cc nL RX2 ret D B cA ad) {k : Nat} (hk : zIsMoment S k) {v : Int32} (hd : decode cc pc = .ok (.putfield 52, 3)) (kk : zX p l e R s m args below meth c Q D B cA nL 0 0 S (zu I k 7 v) lv st (pc + 3)) : zX p l e R s m args below meth c Q D B cA nL 0 0 S I lv (.int v :: .ref (B + k) :: st) pc :=
  zr_puti C (ci := 2) (Cn := RX2) (T := TX2) (N := 9) (k := k) (j := 7) (fs := [some (some (k + 1)), none, some (some (k + 3)), none, some (some (k + 14)), some (some (k + 16)), none, none, none]) rfl zin_2 (Nat.le_of_ble_eq_true rfl) rfl hk.1 rfl tyX2 tyX2_ok nmX2 (ty := .int) zpd_I rfl rfl rfl zk_fl_2_52 hd kk
theorem zg_2_23 {p : Program} {l : Launch} {e : Env} {R : Room} {s : State} {m : MethodId} {args : Array Value} {below : List Frame} {meth : Method} {c : Code} {Q : State → Prop} {D : va_G} {B : Nat} {cA : Nat → ClassId} {ad : Nat → Nat} {cc : ByteArray} {nL : Nat} {ret : Option FieldType} {S : List zC} {I : zI} {lv : List (Nat × Value)} {st : List Value} {pc : Nat} (C : zCx p s m args meth c cc nL RX2 ret D B cA ad) {k : Nat} (hk : zIsMoment S k) (hd : decode cc pc = .ok (.getfield 23, 3)) (kk : zX p l e R s m args below meth c Q D B cA nL 0 0 S I lv (.ref (B + (k + 3)) :: st) (pc + 3)) : zX p l e R s m args below meth c Q D B cA nL 0 0 S I lv (.ref (B + k) :: st) pc :=
  zr_getr C (ci := 2) (Cn := RX2) (T := TX2) (N := 9) (k := k) (j := 2) (fs := [some (some (k + 1)), none, some (some (k + 3)), none, some (some (k + 14)), some (some (k + 16)), none, none, none]) rfl zin_2 (Nat.le_of_ble_eq_true rfl) rfl hk.1 rfl zk_fl_2_23 hd kk
theorem zg_2_55 {p : Program} {l : Launch} {e : Env} {R : Room} {s : State} {m : MethodId} {args : Array Value} {below : List Frame} {meth : Method} {c : Code} {Q : State → Prop} {D : va_G} {B : Nat} {cA : Nat → ClassId} {ad : Nat → Nat} {cc : ByteArray} {nL : Nat} {ret : Option FieldType} {S : List zC} {I : zI} {lv : List (Nat × Value)} {st : List Value} {pc : Nat} (C : zCx p s m args meth c cc nL RX2 ret D B cA ad) {k : Nat} (hk : zIsTokens S k) (hd : decode cc pc = .ok (.getfield 55, 3)) (kk : zX p l e R s m args below meth c Q D B cA nL 0 0 S I lv (.int (I.1 k 5) :: st) (pc + 3)) : zX p l e R s m args below meth c Q D B cA nL 0 0 S I lv (.ref (B + k) :: st) pc :=
  zr_geti C (ci := 8) (Cn := RX8) (T := TX8) (N := 6) (k := k) (j := 5) (fs := [some (some (k + 1)), some (some (k + 3)), some (some (k + 5)), some (some (k + 7)), some (some (k + 9)), none]) rfl zin_8 (Nat.le_of_ble_eq_true rfl) rfl hk.1 rfl zk_fl_2_55 hd kk
theorem zp_2_33 {p : Program} {l : Launch} {e : Env} {R : Room} {s : State} {m : MethodId} {args : Array Value} {below : List Frame} {meth : Method} {c : Code} {Q : State → Prop} {D : va_G} {B : Nat} {cA : Nat → ClassId} {ad : Nat → Nat} {cc : ByteArray} {nL : Nat} {ret : Option FieldType} {S : List zC} {I : zI} {lv : List (Nat × Value)} {st : List Value} {pc : Nat} (C : zCx p s m args meth c cc nL RX2 ret D B cA ad) {k : Nat} (hk : zIsMoment S k) {v : Int32} (hd : decode cc pc = .ok (.putfield 33, 3)) (kk : zX p l e R s m args below meth c Q D B cA nL 0 0 S (zu I k 6 v) lv st (pc + 3)) : zX p l e R s m args below meth c Q D B cA nL 0 0 S I lv (.int v :: .ref (B + k) :: st) pc :=
  zr_puti C (ci := 2) (Cn := RX2) (T := TX2) (N := 9) (k := k) (j := 6) (fs := [some (some (k + 1)), none, some (some (k + 3)), none, some (some (k + 14)), some (some (k + 16)), none, none, none]) rfl zin_2 (Nat.le_of_ble_eq_true rfl) rfl hk.1 rfl tyX2 tyX2_ok nmX2 (ty := .int) zpd_I rfl rfl rfl zk_fl_2_33 hd kk
theorem zg_2_30 {p : Program} {l : Launch} {e : Env} {R : Room} {s : State} {m : MethodId} {args : Array Value} {below : List Frame} {meth : Method} {c : Code} {Q : State → Prop} {D : va_G} {B : Nat} {cA : Nat → ClassId} {ad : Nat → Nat} {cc : ByteArray} {nL : Nat} {ret : Option FieldType} {S : List zC} {I : zI} {lv : List (Nat × Value)} {st : List Value} {pc : Nat} (C : zCx p s m args meth c cc nL RX2 ret D B cA ad) {k : Nat} (hk : zIsMoment S k) (hd : decode cc pc = .ok (.getfield 30, 3)) (kk : zX p l e R s m args below meth c Q D B cA nL 0 0 S I lv (.ref (B + (k + 16)) :: st) (pc + 3)) : zX p l e R s m args below meth c Q D B cA nL 0 0 S I lv (.ref (B + k) :: st) pc :=
  zr_getr C (ci := 2) (Cn := RX2) (T := TX2) (N := 9) (k := k) (j := 5) (fs := [some (some (k + 1)), none, some (some (k + 3)), none, some (some (k + 14)), some (some (k + 16)), none, none, none]) rfl zin_2 (Nat.le_of_ble_eq_true rfl) rfl hk.1 rfl zk_fl_2_30 hd kk
theorem zg_2_58 {p : Program} {l : Launch} {e : Env} {R : Room} {s : State} {m : MethodId} {args : Array Value} {below : List Frame} {meth : Method} {c : Code} {Q : State → Prop} {D : va_G} {B : Nat} {cA : Nat → ClassId} {ad : Nat → Nat} {cc : ByteArray} {nL : Nat} {ret : Option FieldType} {S : List zC} {I : zI} {lv : List (Nat × Value)} {st : List Value} {pc : Nat} (C : zCx p s m args meth c cc nL RX2 ret D B cA ad) {k : Nat} (hk : zIsTokens S k) (hd : decode cc pc = .ok (.getfield 58, 3)) (kk : zX p l e R s m args below meth c Q D B cA nL 0 0 S I lv (.ref (B + (k + 3)) :: st) (pc + 3)) : zX p l e R s m args below meth c Q D B cA nL 0 0 S I lv (.ref (B + k) :: st) pc :=
  zr_getr C (ci := 8) (Cn := RX8) (T := TX8) (N := 6) (k := k) (j := 1) (fs := [some (some (k + 1)), some (some (k + 3)), some (some (k + 5)), some (some (k + 7)), some (some (k + 9)), none]) rfl zin_8 (Nat.le_of_ble_eq_true rfl) rfl hk.1 rfl zk_fl_2_58 hd kk
theorem zv_2_61 {p : Program} {l : Launch} {e : Env} {R : Room} {s : State} {m : MethodId} {args : Array Value} {below : List Frame} {meth : Method} {c : Code} {Q : State → Prop} {D : va_G} {B : Nat} {cA : Nat → ClassId} {ad : Nat → Nat} {cc : ByteArray} {nL : Nat} {ret : Option FieldType} {S : List zC} {I : zI} {lv : List (Nat × Value)} {st : List Value} {pc : Nat} (C : zCx p s m args meth c cc nL RX2 ret D B cA ad) {K : zI → Prop} {xk : Nat} {xn : Nat} {xa1 : Nat} {xa1n : Nat} {xa2 : Int32} (hS : zOkX S) (xhk : zIsRow S xk xn) (xha1 : zIsRow S xa1 xa1n) (h : w_Row_copyFrom xk xn xa1 xa1n xa2 I K) (hR : 2 + 1 ≤ R.frames ∧ 8 + (4 + 11) + (60) ≤ R.locals) (hw : (st.map fun v => v.category).sum ≤ 8) (hd : decode cc pc = .ok (.invokevirtual 61, 3)) (kk : ∀ I2, K I2 → zX p l e R s m args below meth c Q D B cA nL 0 0 S I2 lv st (pc + 3)) : zX p l e R s m args below meth c Q D B cA nL 0 0 S I lv (.int xa2 :: .ref (B + xa1) :: .ref (B + xk) :: st) pc :=
  have hf : 0 ≤ R.cells ∧ 0 ≤ R.slots := ⟨Nat.zero_le _, Nat.zero_le _⟩
  zc_VqV C (ci := 6) (q := (RX6, TX6, 1)) (k := xk) (fs := [some (some (xk + 1))]) (As := [.ref (B + xa1), .int xa2]) (st := st) rfl xhk.1 (c_Row_copyFrom hS xhk xha1 h) (zgV zk_ml_2_61 zk_im_yX6_copyFrom zk_se_yX6_copyFrom zk_in_6 zk_cd_yX6_copyFrom) zsg_yX6_copyFrom hR rfl rfl hw hd hf kk
def w_Moment_beGood (k : Nat) (a1 : Int32) (I : zI) (K : zI → Prop) : Prop :=
  ∀ I_1, I_1 = (zu I k 3 1) → ∀ I_2, I_2 = (zu I_1 k 7 a1) → ∀ I_3, I_3 = (zu I_2 k 6 (I_2.1 (k + 3) 5)) → w_Row_copyFrom (k + 16) 100 (k + 3 + 3) 100 (I_3.1 k 6) I_3 (fun I_4 => K I_4)
theorem dyX2_beGood_0 : decode cX2_beGood 0 = .ok (.aload_n 0, 1) := by decide +kernel
theorem dyX2_beGood_1 : decode cX2_beGood 1 = .ok (.iconst 1, 1) := by decide +kernel
theorem dyX2_beGood_2 : decode cX2_beGood 2 = .ok (.putfield 48, 3) := by decide +kernel
theorem dyX2_beGood_5 : decode cX2_beGood 5 = .ok (.aload_n 0, 1) := by decide +kernel
theorem dyX2_beGood_6 : decode cX2_beGood 6 = .ok (.iload_n 1, 1) := by decide +kernel
theorem dyX2_beGood_7 : decode cX2_beGood 7 = .ok (.putfield 52, 3) := by decide +kernel
theorem dyX2_beGood_10 : decode cX2_beGood 10 = .ok (.aload_n 0, 1) := by decide +kernel
theorem dyX2_beGood_11 : decode cX2_beGood 11 = .ok (.aload_n 0, 1) := by decide +kernel
theorem dyX2_beGood_12 : decode cX2_beGood 12 = .ok (.getfield 23, 3) := by decide +kernel
theorem dyX2_beGood_15 : decode cX2_beGood 15 = .ok (.getfield 55, 3) := by decide +kernel
theorem dyX2_beGood_18 : decode cX2_beGood 18 = .ok (.putfield 33, 3) := by decide +kernel
theorem dyX2_beGood_21 : decode cX2_beGood 21 = .ok (.aload_n 0, 1) := by decide +kernel
theorem dyX2_beGood_22 : decode cX2_beGood 22 = .ok (.getfield 30, 3) := by decide +kernel
theorem dyX2_beGood_25 : decode cX2_beGood 25 = .ok (.aload_n 0, 1) := by decide +kernel
theorem dyX2_beGood_26 : decode cX2_beGood 26 = .ok (.getfield 23, 3) := by decide +kernel
theorem dyX2_beGood_29 : decode cX2_beGood 29 = .ok (.getfield 58, 3) := by decide +kernel
theorem dyX2_beGood_32 : decode cX2_beGood 32 = .ok (.aload_n 0, 1) := by decide +kernel
theorem dyX2_beGood_33 : decode cX2_beGood 33 = .ok (.getfield 33, 3) := by decide +kernel
theorem dyX2_beGood_36 : decode cX2_beGood 36 = .ok (.invokevirtual 61, 3) := by decide +kernel
theorem dyX2_beGood_39 : decode cX2_beGood 39 = .ok (.return_, 1) := by decide +kernel
theorem zsg_yX2_beGood : yX2_beGood.cls = RX2 ∧ yX2_beGood.cls ≠ "java/lang/invoke/MethodHandle" ∧ yX2_beGood.cls ≠ "java/lang/invoke/VarHandle" ∧ (parseMethodDescriptor yX2_beGood.desc).map (fun d => d.parameters.length) = some 1 := by decide +kernel
set_option maxRecDepth 20000 in
theorem c_Moment_beGood {l : Launch} {D : va_G} {B : Nat} {cA : Nat → ClassId} {ad : Nat → Nat} {S : List zC} (hS : zOkX S) {k : Nat} {a1 : Int32} {I : zI} {K : zI → Prop} (hk : zIsMoment S k) (h : w_Moment_beGood k a1 I K) : Met l yX2_beGood (zws yX2_beGood cX2_beGood 2 none) (zrm 3 83) (zPc D B cA ad [.ref (B + k), .int a1] S I) (zQc D B cA (zqV S K)) 0 0 (fun q => B ≤ q) := by
  refine zm_of (cc := cX2_beGood) (maxL := 2) (ret := none) (by decide +kernel) rfl (Nat.le_of_ble_eq_true rfl) trivial ?_
  intro p e s m args below meth c C _
  unfold w_Moment_beGood at h
  show zX p l e (zrm 3 83) s m args below meth c (MQ below (zQc D B cA (zqV S K)) args s 0 0 (fun q => B ≤ q)) D B cA 2 0 0 S I [(0, .ref (B + k)), (1, .int a1)] [] 0
  refine zr_aload_n C dyX2_beGood_0 rfl 0 rfl ?_
  refine zr_iconst C dyX2_beGood_1 zc_i_1 ?_
  refine zp_2_48 C hk zb_1 dyX2_beGood_2 ?_
  refine zn_mem C (fun I_1 eI_1 => ?_)
  replace h := h I_1 eI_1
  refine zr_aload_n C dyX2_beGood_5 rfl 0 rfl ?_
  refine zr_iload_n C dyX2_beGood_6 rfl 1 rfl ?_
  refine zp_2_52 C hk dyX2_beGood_7 ?_
  refine zn_mem C (fun I_2 eI_2 => ?_)
  replace h := h I_2 eI_2
  refine zr_aload_n C dyX2_beGood_10 rfl 0 rfl ?_
  refine zr_aload_n C dyX2_beGood_11 rfl 0 rfl ?_
  refine zg_2_23 C hk dyX2_beGood_12 ?_
  refine zg_2_55 C hk.2.2.1 dyX2_beGood_15 ?_
  refine zp_2_33 C hk dyX2_beGood_18 ?_
  refine zn_mem C (fun I_3 eI_3 => ?_)
  replace h := h I_3 eI_3
  refine zr_aload_n C dyX2_beGood_21 rfl 0 rfl ?_
  refine zg_2_30 C hk dyX2_beGood_22 ?_
  refine zr_aload_n C dyX2_beGood_25 rfl 0 rfl ?_
  refine zg_2_23 C hk dyX2_beGood_26 ?_
  refine zg_2_58 C hk.2.2.1 dyX2_beGood_29 ?_
  refine zr_aload_n C dyX2_beGood_32 rfl 0 rfl ?_
  refine zg_2_33 C hk dyX2_beGood_33 ?_
  refine zv_2_61 C hS hk.2.2.2.2 hk.2.2.1.2.2.1 (st := []) h ⟨Nat.le_of_ble_eq_true rfl, Nat.le_of_ble_eq_true rfl⟩ (Nat.le_of_ble_eq_true rfl) dyX2_beGood_36 (fun I_4 h => ?_)
  exact zr_vret C rfl dyX2_beGood_39 ⟨rfl, rfl, h⟩
