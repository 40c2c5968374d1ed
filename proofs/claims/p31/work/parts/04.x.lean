theorem zc_b_m42 : (Int8.ofInt (-42)).toInt32 = (-42) := by decide
theorem zc_b_m41 : (Int8.ofInt (-41)).toInt32 = (-41) := by decide
theorem zc_b_m2 : (Int8.ofInt (-2)).toInt32 = (-2) := by decide
theorem zc_b_6 : (Int8.ofInt 6).toInt32 = 6 := by decide
theorem zc_b_7 : (Int8.ofInt 7).toInt32 = 7 := by decide
theorem zc_b_8 : (Int8.ofInt 8).toInt32 = 8 := by decide
theorem zc_b_9 : (Int8.ofInt 9).toInt32 = 9 := by decide
theorem zc_b_10 : (Int8.ofInt 10).toInt32 = 10 := by decide
theorem zc_b_11 : (Int8.ofInt 11).toInt32 = 11 := by decide
theorem zc_b_12 : (Int8.ofInt 12).toInt32 = 12 := by decide
theorem zc_b_13 : (Int8.ofInt 13).toInt32 = 13 := by decide
theorem zc_b_14 : (Int8.ofInt 14).toInt32 = 14 := by decide
theorem zc_b_15 : (Int8.ofInt 15).toInt32 = 15 := by decide
theorem zc_b_16 : (Int8.ofInt 16).toInt32 = 16 := by decide
theorem zc_b_17 : (Int8.ofInt 17).toInt32 = 17 := by decide
theorem zc_b_18 : (Int8.ofInt 18).toInt32 = 18 := by decide
theorem zc_b_19 : (Int8.ofInt 19).toInt32 = 19 := by decide
theorem zc_b_20 : (Int8.ofInt 20).toInt32 = 20 := by decide
theorem zc_b_21 : (Int8.ofInt 21).toInt32 = 21 := by decide
theorem zc_b_24 : (Int8.ofInt 24).toInt32 = 24 := by decide
theorem zc_b_30 : (Int8.ofInt 30).toInt32 = 30 := by decide
theorem zc_b_32 : (Int8.ofInt 32).toInt32 = 32 := by decide
theorem zc_b_40 : (Int8.ofInt 40).toInt32 = 40 := by decide
theorem zc_b_41 : (Int8.ofInt 41).toInt32 = 41 := by decide
theorem zc_b_42 : (Int8.ofInt 42).toInt32 = 42 := by decide
theorem zc_b_43 : (Int8.ofInt 43).toInt32 = 43 := by decide
theorem zc_b_48 : (Int8.ofInt 48).toInt32 = 48 := by decide
theorem zc_b_50 : (Int8.ofInt 50).toInt32 = 50 := by decide
theorem zc_b_57 : (Int8.ofInt 57).toInt32 = 57 := by decide
theorem zc_b_97 : (Int8.ofInt 97).toInt32 = 97 := by decide
theorem zc_b_100 : (Int8.ofInt 100).toInt32 = 100 := by decide
theorem zc_b_110 : (Int8.ofInt 110).toInt32 = 110 := by decide
theorem zc_b_122 : (Int8.ofInt 122).toInt32 = 122 := by decide
theorem zc_i_m1000 : Int32.ofInt (-1000) = (-1000) := by decide
theorem zc_i_m8 : Int32.ofInt (-8) = (-8) := by decide
theorem zc_i_m1 : Int32.ofInt (-1) = (-1) := by decide
theorem zc_i_0 : Int32.ofInt 0 = 0 := by decide
theorem zc_i_1 : Int32.ofInt 1 = 1 := by decide
theorem zc_i_2 : Int32.ofInt 2 = 2 := by decide
theorem zc_i_3 : Int32.ofInt 3 = 3 := by decide
theorem zc_i_4 : Int32.ofInt 4 = 4 := by decide
theorem zc_i_5 : Int32.ofInt 5 = 5 := by decide
theorem zc_i_1000 : Int32.ofInt 1000 = 1000 := by decide
theorem zc_s_m1000 : (Int16.ofInt (-1000)).toInt32 = (-1000) := by decide
theorem zc_s_200 : (Int16.ofInt 200).toInt32 = 200 := by decide
theorem zc_s_255 : (Int16.ofInt 255).toInt32 = 255 := by decide
theorem zc_s_300 : (Int16.ofInt 300).toInt32 = 300 := by decide
theorem zc_s_400 : (Int16.ofInt 400).toInt32 = 400 := by decide
theorem zc_s_600 : (Int16.ofInt 600).toInt32 = 600 := by decide
theorem zc_s_710 : (Int16.ofInt 710).toInt32 = 710 := by decide
theorem zc_s_711 : (Int16.ofInt 711).toInt32 = 711 := by decide
theorem zc_s_712 : (Int16.ofInt 712).toInt32 = 712 := by decide
theorem zc_s_713 : (Int16.ofInt 713).toInt32 = 713 := by decide
theorem zc_s_720 : (Int16.ofInt 720).toInt32 = 720 := by decide
theorem zc_s_1000 : (Int16.ofInt 1000).toInt32 = 1000 := by decide
theorem zc_s_3000 : (Int16.ofInt 3000).toInt32 = 3000 := by decide
theorem zc_s_3400 : (Int16.ofInt 3400).toInt32 = 3400 := by decide
theorem zc_s_3700 : (Int16.ofInt 3700).toInt32 = 3700 := by decide
theorem zc_s_3900 : (Int16.ofInt 3900).toInt32 = 3900 := by decide
theorem zc_s_4000 : (Int16.ofInt 4000).toInt32 = 4000 := by decide
theorem zc_s_10000 : (Int16.ofInt 10000).toInt32 = 10000 := by decide
theorem zc_s_14400 : (Int16.ofInt 14400).toInt32 = 14400 := by decide
theorem zg_6_7 {p : Program} {l : Launch} {e : Env} {R : Room} {s : State} {m : MethodId} {args : Array Value} {below : List Frame} {meth : Method} {c : Code} {Q : State → Prop} {D : va_G} {B : Nat} {cA : Nat → ClassId} {ad : Nat → Nat} {cc : ByteArray} {nL : Nat} {ret : Option FieldType} {S : List zC} {I : zI} {lv : List (Nat × Value)} {st : List Value} {pc : Nat} (C : zCx p s m args meth c cc nL RX6 ret D B cA ad) {k n : Nat} (hk : zIsRow S k n) (hd : decode cc pc = .ok (.getfield 7, 3)) (kk : zX p l e R s m args below meth c Q D B cA nL 0 0 S I lv (.ref (B + (k + 1)) :: st) (pc + 3)) : zX p l e R s m args below meth c Q D B cA nL 0 0 S I lv (.ref (B + k) :: st) pc :=
  zr_getr C (ci := 6) (Cn := RX6) (T := TX6) (N := 1) (k := k) (j := 0) (fs := [some (some (k + 1))]) rfl zin_6 (Nat.le_of_ble_eq_true rfl) rfl hk.1 rfl zk_fl_6_7 hd kk
def w_Row_set (k : Nat) (n : Nat) (a1 : Int32) (a2 : Int32) (I : zI) (K : zI → Prop) : Prop :=
  (if a1 < 0 then K I else (if (Int32.ofNat n) ≤ a1 then K I else (vp_in a1 n ∧ (∀ I_1, I_1 = (zu I (k + 1) (Int32.toNatClampNeg a1) a2) → K I_1))))
theorem dyX6_set_0 : decode cX6_set 0 = .ok (.iload_n 1, 1) := by decide +kernel
theorem dyX6_set_1 : decode cX6_set 1 = .ok (.ifCond .lt 19, 3) := by decide +kernel
theorem dyX6_set_4 : decode cX6_set 4 = .ok (.iload_n 1, 1) := by decide +kernel
theorem dyX6_set_5 : decode cX6_set 5 = .ok (.aload_n 0, 1) := by decide +kernel
theorem dyX6_set_6 : decode cX6_set 6 = .ok (.getfield 7, 3) := by decide +kernel
theorem dyX6_set_9 : decode cX6_set 9 = .ok (.arraylength, 1) := by decide +kernel
theorem dyX6_set_10 : decode cX6_set 10 = .ok (.if_icmp .ge 10, 3) := by decide +kernel
theorem dyX6_set_13 : decode cX6_set 13 = .ok (.aload_n 0, 1) := by decide +kernel
theorem dyX6_set_14 : decode cX6_set 14 = .ok (.getfield 7, 3) := by decide +kernel
theorem dyX6_set_17 : decode cX6_set 17 = .ok (.iload_n 1, 1) := by decide +kernel
theorem dyX6_set_18 : decode cX6_set 18 = .ok (.iload_n 2, 1) := by decide +kernel
theorem dyX6_set_19 : decode cX6_set 19 = .ok (.iastore, 1) := by decide +kernel
theorem dyX6_set_20 : decode cX6_set 20 = .ok (.return_, 1) := by decide +kernel
theorem zsg_yX6_set : yX6_set.cls = RX6 ∧ yX6_set.cls ≠ "java/lang/invoke/MethodHandle" ∧ yX6_set.cls ≠ "java/lang/invoke/VarHandle" ∧ (parseMethodDescriptor yX6_set.desc).map (fun d => d.parameters.length) = some 2 := by decide +kernel
set_option maxRecDepth 20000 in
theorem c_Row_set {l : Launch} {D : va_G} {B : Nat} {cA : Nat → ClassId} {ad : Nat → Nat} {S : List zC} (hS : zOkX S) {k : Nat} {n : Nat} {a1 : Int32} {a2 : Int32} {I : zI} {K : zI → Prop} (hk : zIsRow S k n) (h : w_Row_set k n a1 a2 I K) : Met l yX6_set (zws yX6_set cX6_set 3 none) (zrm 0 0) (zPc D B cA ad [.ref (B + k), .int a1, .int a2] S I) (zQc D B cA (zqV S K)) 0 0 (fun q => B ≤ q) := by
  refine zm_of (cc := cX6_set) (maxL := 3) (ret := none) (by decide +kernel) rfl (Nat.le_of_ble_eq_true rfl) trivial ?_
  intro p e s m args below meth c C _
  unfold w_Row_set at h
  show zX p l e (zrm 0 0) s m args below meth c (MQ below (zQc D B cA (zqV S K)) args s 0 0 (fun q => B ≤ q)) D B cA 3 0 0 S I [(0, .ref (B + k)), (1, .int a1), (2, .int a2)] [] 0
  refine zr_iload_n C dyX6_set_0 rfl 1 rfl ?_
  refine zr_if_lt C dyX6_set_1 (tgt := 20) (by decide) (fun hc_3 => ?_) (fun hc_3 => ?_)
  · replace h := zif_pos hc_3 h
    exact zr_vret C rfl dyX6_set_20 ⟨rfl, rfl, h⟩
  · replace h := zif_neg hc_3 h
    refine zr_iload_n C dyX6_set_4 rfl 1 rfl ?_
    refine zr_aload_n C dyX6_set_5 rfl 0 rfl ?_
    refine zg_6_7 C hk dyX6_set_6 ?_
    refine zr_alen C hk.2 dyX6_set_9 ?_
    refine zr_icmp_ge C dyX6_set_10 (tgt := 20) (by decide) (fun hc_2 => ?_) (fun hc_2 => ?_)
    · replace h := zif_pos hc_2 h
      exact zr_vret C rfl dyX6_set_20 ⟨rfl, rfl, h⟩
    · replace h := zif_neg hc_2 h
      refine zr_aload_n C dyX6_set_13 rfl 0 rfl ?_
      refine zg_6_7 C hk dyX6_set_14 ?_
      refine zr_iload_n C dyX6_set_17 rfl 1 rfl ?_
      refine zr_iload_n C dyX6_set_18 rfl 2 rfl ?_
      refine zr_iast C hk.2 h.1 dyX6_set_19 ?_
      replace h := h.2
      refine zn_mem C (fun I_1 eI_1 => ?_)
      replace h := h I_1 eI_1
      exact zr_vret C rfl dyX6_set_20 ⟨rfl, rfl, h⟩
def w_Row_get (k : Nat) (n : Nat) (a1 : Int32) (I : zI) (K : Int32 → Prop) : Prop :=
  (if a1 < 0 then K 0 else (if (Int32.ofNat n) ≤ a1 then K 0 else (vp_in a1 n ∧ (K (I.1 (k + 1) (Int32.toNatClampNeg a1))))))
theorem dyX6_get_0 : decode cX6_get 0 = .ok (.iload_n 1, 1) := by decide +kernel
theorem dyX6_get_1 : decode cX6_get 1 = .ok (.ifCond .lt 21, 3) := by decide +kernel
theorem dyX6_get_4 : decode cX6_get 4 = .ok (.iload_n 1, 1) := by decide +kernel
theorem dyX6_get_5 : decode cX6_get 5 = .ok (.aload_n 0, 1) := by decide +kernel
theorem dyX6_get_6 : decode cX6_get 6 = .ok (.getfield 7, 3) := by decide +kernel
theorem dyX6_get_9 : decode cX6_get 9 = .ok (.arraylength, 1) := by decide +kernel
theorem dyX6_get_10 : decode cX6_get 10 = .ok (.if_icmp .ge 12, 3) := by decide +kernel
theorem dyX6_get_13 : decode cX6_get 13 = .ok (.aload_n 0, 1) := by decide +kernel
theorem dyX6_get_14 : decode cX6_get 14 = .ok (.getfield 7, 3) := by decide +kernel
theorem dyX6_get_17 : decode cX6_get 17 = .ok (.iload_n 1, 1) := by decide +kernel
theorem dyX6_get_18 : decode cX6_get 18 = .ok (.iaload, 1) := by decide +kernel
theorem dyX6_get_19 : decode cX6_get 19 = .ok (.goto 4, 3) := by decide +kernel
theorem dyX6_get_22 : decode cX6_get 22 = .ok (.iconst 0, 1) := by decide +kernel
theorem dyX6_get_23 : decode cX6_get 23 = .ok (.ireturn, 1) := by decide +kernel
theorem zsg_yX6_get : yX6_get.cls = RX6 ∧ yX6_get.cls ≠ "java/lang/invoke/MethodHandle" ∧ yX6_get.cls ≠ "java/lang/invoke/VarHandle" ∧ (parseMethodDescriptor yX6_get.desc).map (fun d => d.parameters.length) = some 1 := by decide +kernel
set_option maxRecDepth 20000 in
theorem c_Row_get {l : Launch} {D : va_G} {B : Nat} {cA : Nat → ClassId} {ad : Nat → Nat} {S : List zC} (hS : zOkX S) {k : Nat} {n : Nat} {a1 : Int32} {I : zI} {K : Int32 → Prop} (hk : zIsRow S k n) (h : w_Row_get k n a1 I K) : Met l yX6_get (zws yX6_get cX6_get 2 (some .int)) (zrm 0 0) (zPc D B cA ad [.ref (B + k), .int a1] S I) (zQc D B cA (zpI S I K)) 0 0 (fun q => B ≤ q) := by
  refine zm_of (cc := cX6_get) (maxL := 2) (ret := (some .int)) (by decide +kernel) rfl (Nat.le_of_ble_eq_true rfl) trivial ?_
  intro p e s m args below meth c C _
  unfold w_Row_get at h
  show zX p l e (zrm 0 0) s m args below meth c (MQ below (zQc D B cA (zpI S I K)) args s 0 0 (fun q => B ≤ q)) D B cA 2 0 0 S I [(0, .ref (B + k)), (1, .int a1)] [] 0
  refine zr_iload_n C dyX6_get_0 rfl 1 rfl ?_
  refine zr_if_lt C dyX6_get_1 (tgt := 22) (by decide) (fun hc_2 => ?_) (fun hc_2 => ?_)
  · replace h := zif_pos hc_2 h
    refine zr_iconst C dyX6_get_22 zc_i_0 ?_
    exact zr_iret C rfl dyX6_get_23 ⟨rfl, rfl, _, rfl, h⟩
  · replace h := zif_neg hc_2 h
    refine zr_iload_n C dyX6_get_4 rfl 1 rfl ?_
    refine zr_aload_n C dyX6_get_5 rfl 0 rfl ?_
    refine zg_6_7 C hk dyX6_get_6 ?_
    refine zr_alen C hk.2 dyX6_get_9 ?_
    refine zr_icmp_ge C dyX6_get_10 (tgt := 22) (by decide) (fun hc_1 => ?_) (fun hc_1 => ?_)
    · replace h := zif_pos hc_1 h
      refine zr_iconst C dyX6_get_22 zc_i_0 ?_
      exact zr_iret C rfl dyX6_get_23 ⟨rfl, rfl, _, rfl, h⟩
    · replace h := zif_neg hc_1 h
      refine zr_aload_n C dyX6_get_13 rfl 0 rfl ?_
      refine zg_6_7 C hk dyX6_get_14 ?_
      refine zr_iload_n C dyX6_get_17 rfl 1 rfl ?_
      refine zr_iald C hk.2 h.1 dyX6_get_18 ?_
      replace h := h.2
      refine zr_goto C dyX6_get_19 (tgt := 23) (by decide) ?_
      exact zr_iret C rfl dyX6_get_23 ⟨rfl, rfl, _, rfl, h⟩
theorem zg_0_38 {p : Program} {l : Launch} {e : Env} {R : Room} {s : State} {m : MethodId} {args : Array Value} {below : List Frame} {meth : Method} {c : Code} {Q : State → Prop} {D : va_G} {B : Nat} {cA : Nat → ClassId} {ad : Nat → Nat} {cc : ByteArray} {nL : Nat} {ret : Option FieldType} {S : List zC} {I : zI} {lv : List (Nat × Value)} {st : List Value} {pc : Nat} (C : zCx p s m args meth c cc nL RX0 ret D B cA ad) {k : Nat} (hk : zIsTokens S k) (hd : decode cc pc = .ok (.getfield 38, 3)) (kk : zX p l e R s m args below meth c Q D B cA nL 0 0 S I lv (.int (I.1 k 5) :: st) (pc + 3)) : zX p l e R s m args below meth c Q D B cA nL 0 0 S I lv (.ref (B + k) :: st) pc :=
  zr_geti C (ci := 8) (Cn := RX8) (T := TX8) (N := 6) (k := k) (j := 5) (fs := [some (some (k + 1)), some (some (k + 3)), some (some (k + 5)), some (some (k + 7)), some (some (k + 9)), none]) rfl zin_8 (Nat.le_of_ble_eq_true rfl) rfl hk.1 rfl zk_fl_0_38 hd kk
theorem zg_0_26 {p : Program} {l : Launch} {e : Env} {R : Room} {s : State} {m : MethodId} {args : Array Value} {below : List Frame} {meth : Method} {c : Code} {Q : State → Prop} {D : va_G} {B : Nat} {cA : Nat → ClassId} {ad : Nat → Nat} {cc : ByteArray} {nL : Nat} {ret : Option FieldType} {S : List zC} {I : zI} {lv : List (Nat × Value)} {st : List Value} {pc : Nat} (C : zCx p s m args meth c cc nL RX0 ret D B cA ad) (hS : zOkX S) (hd : decode cc pc = .ok (.getfield 26, 3)) (kk : zX p l e R s m args below meth c Q D B cA nL 0 0 S I lv (.ref (B + 107) :: st) (pc + 3)) : zX p l e R s m args below meth c Q D B cA nL 0 0 S I lv (.ref (B + 100) :: st) pc :=
  zr_getr C (ci := 0) (Cn := RX0) (T := TX0) (N := 5) (k := 100) (j := 2) (fs := [some (some 101), some (some 104), some (some 107), none, none]) rfl zin_0 (Nat.le_of_ble_eq_true rfl) rfl (hS _ _ zs_100) rfl zk_fl_0_26 hd kk
theorem zv_0_78 {p : Program} {l : Launch} {e : Env} {R : Room} {s : State} {m : MethodId} {args : Array Value} {below : List Frame} {meth : Method} {c : Code} {Q : State → Prop} {D : va_G} {B : Nat} {cA : Nat → ClassId} {ad : Nat → Nat} {cc : ByteArray} {nL : Nat} {ret : Option FieldType} {S : List zC} {I : zI} {lv : List (Nat × Value)} {st : List Value} {pc : Nat} (C : zCx p s m args meth c cc nL RX0 ret D B cA ad) {K : zI → Prop} {xk : Nat} {xn : Nat} {xa1 : Int32} {xa2 : Int32} (hS : zOkX S) (xhk : zIsRow S xk xn) (h : w_Row_set xk xn xa1 xa2 I K) (hR : 0 + 1 ≤ R.frames ∧ 8 + (3 + 11) + (0) ≤ R.locals) (hw : (st.map fun v => v.category).sum ≤ 8) (hd : decode cc pc = .ok (.invokevirtual 78, 3)) (kk : ∀ I2, K I2 → zX p l e R s m args below meth c Q D B cA nL 0 0 S I2 lv st (pc + 3)) : zX p l e R s m args below meth c Q D B cA nL 0 0 S I lv (.int xa2 :: .int xa1 :: .ref (B + xk) :: st) pc :=
  have hf : 0 ≤ R.cells ∧ 0 ≤ R.slots := ⟨Nat.zero_le _, Nat.zero_le _⟩
  zc_VqV C (ci := 6) (q := (RX6, TX6, 1)) (k := xk) (fs := [some (some (xk + 1))]) (As := [.int xa1, .int xa2]) (st := st) rfl xhk.1 (c_Row_set hS xhk h) (zgV zk_ml_0_78 zk_im_yX6_set zk_se_yX6_set zk_in_6 zk_cd_yX6_set) zsg_yX6_set hR rfl rfl hw hd hf kk
theorem zg_0_63 {p : Program} {l : Launch} {e : Env} {R : Room} {s : State} {m : MethodId} {args : Array Value} {below : List Frame} {meth : Method} {c : Code} {Q : State → Prop} {D : va_G} {B : Nat} {cA : Nat → ClassId} {ad : Nat → Nat} {cc : ByteArray} {nL : Nat} {ret : Option FieldType} {S : List zC} {I : zI} {lv : List (Nat × Value)} {st : List Value} {pc : Nat} (C : zCx p s m args meth c cc nL RX0 ret D B cA ad) {k : Nat} (hk : zIsTokens S k) (hd : decode cc pc = .ok (.getfield 63, 3)) (kk : zX p l e R s m args below meth c Q D B cA nL 0 0 S I lv (.ref (B + (k + 1)) :: st) (pc + 3)) : zX p l e R s m args below meth c Q D B cA nL 0 0 S I lv (.ref (B + k) :: st) pc :=
  zr_getr C (ci := 8) (Cn := RX8) (T := TX8) (N := 6) (k := k) (j := 0) (fs := [some (some (k + 1)), some (some (k + 3)), some (some (k + 5)), some (some (k + 7)), some (some (k + 9)), none]) rfl zin_8 (Nat.le_of_ble_eq_true rfl) rfl hk.1 rfl zk_fl_0_63 hd kk
theorem zv_0_66 {p : Program} {l : Launch} {e : Env} {R : Room} {s : State} {m : MethodId} {args : Array Value} {below : List Frame} {meth : Method} {c : Code} {Q : State → Prop} {D : va_G} {B : Nat} {cA : Nat → ClassId} {ad : Nat → Nat} {cc : ByteArray} {nL : Nat} {ret : Option FieldType} {S : List zC} {I : zI} {lv : List (Nat × Value)} {st : List Value} {pc : Nat} (C : zCx p s m args meth c cc nL RX0 ret D B cA ad) {K : Int32 → Prop} {xk : Nat} {xn : Nat} {xa1 : Int32} (hS : zOkX S) (xhk : zIsRow S xk xn) (h : w_Row_get xk xn xa1 I K) (hR : 0 + 1 ≤ R.frames ∧ 8 + (2 + 11) + (0) ≤ R.locals) (hw : (st.map fun v => v.category).sum ≤ 8) (hd : decode cc pc = .ok (.invokevirtual 66, 3)) (kk : ∀ v, K v → zX p l e R s m args below meth c Q D B cA nL 0 0 S I lv (.int v :: st) (pc + 3)) : zX p l e R s m args below meth c Q D B cA nL 0 0 S I lv (.int xa1 :: .ref (B + xk) :: st) pc :=
  have hf : 0 ≤ R.cells ∧ 0 ≤ R.slots := ⟨Nat.zero_le _, Nat.zero_le _⟩
  zc_VpI C (ci := 6) (q := (RX6, TX6, 1)) (k := xk) (fs := [some (some (xk + 1))]) (As := [.int xa1]) (st := st) rfl xhk.1 (c_Row_get hS xhk h) (zgV zk_ml_0_66 zk_im_yX6_get zk_se_yX6_get zk_in_6 zk_cd_yX6_get) zsg_yX6_get hR rfl rfl hw hd hf kk
def w_Adviser_weigh (a1 : Nat) (I : zI) (K : zI → Prop) : Prop :=
  ∀ (P4 : Int32 → Int32 → zI → Prop), (∀ (v2_1 : Int32) (v3_2 : Int32) (I_3 : zI), ((if (I_3.1 a1 5) ≤ v3_2 then (w_Row_set 107 101 (I_3.1 a1 5) v2_1 I_3 (fun I_4 => K I_4)) else (w_Row_set 107 101 v3_2 v2_1 I_3 (fun I_5 => w_Row_get (a1 + 1) 100 v3_2 I_5 (fun r_6 => ∀ (P90 : Int32 → Prop), (∀ (v2_7 : Int32), (∀ v3_8, v3_8 = (v3_2 + 1) → P4 v2_7 v3_8 I_5) → P90 v2_7) → (if r_6 = 6 then (∀ v2_10, v2_10 = (v2_1 + 1) → P90 v2_10) else (if r_6 = 7 then (∀ v2_12, v2_12 = (v2_1 + (-1)) → P90 v2_12) else (if r_6 = 8 then (∀ v2_14, v2_14 = (v2_1 + 1000) → P90 v2_14) else (if r_6 = 9 then (∀ v2_16, v2_16 = (v2_1 + (-1000)) → P90 v2_16) else P90 v2_1))))))))) → P4 v2_1 v3_2 I_3) → P4 0 0 I
theorem dyX0_weigh_0 : decode cX0_weigh 0 = .ok (.iconst 0, 1) := by decide +kernel
theorem dyX0_weigh_1 : decode cX0_weigh 1 = .ok (.istore_n 2, 1) := by decide +kernel
theorem dyX0_weigh_2 : decode cX0_weigh 2 = .ok (.iconst 0, 1) := by decide +kernel
theorem dyX0_weigh_3 : decode cX0_weigh 3 = .ok (.istore_n 3, 1) := by decide +kernel
theorem dyX0_weigh_4 : decode cX0_weigh 4 = .ok (.iload_n 3, 1) := by decide +kernel
theorem dyX0_weigh_5 : decode cX0_weigh 5 = .ok (.aload_n 1, 1) := by decide +kernel
theorem dyX0_weigh_6 : decode cX0_weigh 6 = .ok (.getfield 38, 3) := by decide +kernel
theorem dyX0_weigh_9 : decode cX0_weigh 9 = .ok (.if_icmp .ge 87, 3) := by decide +kernel
theorem dyX0_weigh_12 : decode cX0_weigh 12 = .ok (.aload_n 0, 1) := by decide +kernel
theorem dyX0_weigh_13 : decode cX0_weigh 13 = .ok (.getfield 26, 3) := by decide +kernel
theorem dyX0_weigh_16 : decode cX0_weigh 16 = .ok (.iload_n 3, 1) := by decide +kernel
theorem dyX0_weigh_17 : decode cX0_weigh 17 = .ok (.iload_n 2, 1) := by decide +kernel
theorem dyX0_weigh_18 : decode cX0_weigh 18 = .ok (.invokevirtual 78, 3) := by decide +kernel
theorem dyX0_weigh_21 : decode cX0_weigh 21 = .ok (.aload_n 1, 1) := by decide +kernel
theorem dyX0_weigh_22 : decode cX0_weigh 22 = .ok (.getfield 63, 3) := by decide +kernel
theorem dyX0_weigh_25 : decode cX0_weigh 25 = .ok (.iload_n 3, 1) := by decide +kernel
theorem dyX0_weigh_26 : decode cX0_weigh 26 = .ok (.invokevirtual 66, 3) := by decide +kernel
theorem dyX0_weigh_29 : decode cX0_weigh 29 = .ok (.tableswitch 61 6 9 #[31, 37, 43, 52], 31) := by decide +kernel
theorem dyX0_weigh_60 : decode cX0_weigh 60 = .ok (.iinc 2 1, 3) := by decide +kernel
theorem dyX0_weigh_63 : decode cX0_weigh 63 = .ok (.goto 27, 3) := by decide +kernel
theorem dyX0_weigh_66 : decode cX0_weigh 66 = .ok (.iinc 2 (-1), 3) := by decide +kernel
theorem dyX0_weigh_69 : decode cX0_weigh 69 = .ok (.goto 21, 3) := by decide +kernel
theorem dyX0_weigh_72 : decode cX0_weigh 72 = .ok (.iinc 2 1000, 6) := by decide +kernel
theorem dyX0_weigh_78 : decode cX0_weigh 78 = .ok (.goto 12, 3) := by decide +kernel
theorem dyX0_weigh_81 : decode cX0_weigh 81 = .ok (.iinc 2 (-1000), 6) := by decide +kernel
theorem dyX0_weigh_87 : decode cX0_weigh 87 = .ok (.goto 3, 3) := by decide +kernel
theorem dyX0_weigh_90 : decode cX0_weigh 90 = .ok (.iinc 3 1, 3) := by decide +kernel
theorem dyX0_weigh_93 : decode cX0_weigh 93 = .ok (.goto (-89), 3) := by decide +kernel
theorem dyX0_weigh_96 : decode cX0_weigh 96 = .ok (.aload_n 0, 1) := by decide +kernel
theorem dyX0_weigh_97 : decode cX0_weigh 97 = .ok (.getfield 26, 3) := by decide +kernel
theorem dyX0_weigh_100 : decode cX0_weigh 100 = .ok (.aload_n 1, 1) := by decide +kernel
theorem dyX0_weigh_101 : decode cX0_weigh 101 = .ok (.getfield 38, 3) := by decide +kernel
theorem dyX0_weigh_104 : decode cX0_weigh 104 = .ok (.iload_n 2, 1) := by decide +kernel
theorem dyX0_weigh_105 : decode cX0_weigh 105 = .ok (.invokevirtual 78, 3) := by decide +kernel
theorem dyX0_weigh_108 : decode cX0_weigh 108 = .ok (.return_, 1) := by decide +kernel
theorem zsg_yX0_weigh : yX0_weigh.cls = RX0 ∧ yX0_weigh.cls ≠ "java/lang/invoke/MethodHandle" ∧ yX0_weigh.cls ≠ "java/lang/invoke/VarHandle" ∧ (parseMethodDescriptor yX0_weigh.desc).map (fun d => d.parameters.length) = some 1 := by decide +kernel
set_option maxRecDepth 20000 in
theorem c_Adviser_weigh {l : Launch} {D : va_G} {B : Nat} {cA : Nat → ClassId} {ad : Nat → Nat} {S : List zC} (hS : zOkX S) {a1 : Nat} {I : zI} {K : zI → Prop} (ha1 : zIsTokens S a1) (h : w_Adviser_weigh a1 I K) : Met l yX0_weigh (zws yX0_weigh cX0_weigh 4 none) (zrm 1 22) (zPc D B cA ad [.ref (B + 100), .ref (B + a1)] S I) (zQc D B cA (zqV S K)) 0 0 (fun q => B ≤ q) := by
  refine zm_of (cc := cX0_weigh) (maxL := 4) (ret := none) (by decide +kernel) rfl (Nat.le_of_ble_eq_true rfl) trivial ?_
  intro p e s m args below meth c C _
  unfold w_Adviser_weigh at h
  show zX p l e (zrm 1 22) s m args below meth c (MQ below (zQc D B cA (zqV S K)) args s 0 0 (fun q => B ≤ q)) D B cA 4 0 0 S I [(0, .ref (B + 100)), (1, .ref (B + a1))] [] 0
  refine zr_iconst C dyX0_weigh_0 zc_i_0 ?_
  refine zr_istore_n C dyX0_weigh_1 rfl (Nat.le_of_ble_eq_true rfl) (lv2 := [(2, .int 0), (0, .ref (B + 100)), (1, .ref (B + a1))]) rfl ?_
  refine zr_iconst C dyX0_weigh_2 zc_i_0 ?_
  refine zr_istore_n C dyX0_weigh_3 rfl (Nat.le_of_ble_eq_true rfl) (lv2 := [(3, .int 0), (2, .int 0), (0, .ref (B + 100)), (1, .ref (B + a1))]) rfl ?_
  refine zjn (h (fun (v2_1 : Int32) (v3_2 : Int32) (I_3 : zI) => zX p l e (zrm 1 22) s m args below meth c (MQ below (zQc D B cA (zqV S K)) args s 0 0 (fun q => B ≤ q)) D B cA 4 0 0 S I_3 [(3, .int v3_2), (2, .int v2_1), (0, .ref (B + 100)), (1, .ref (B + a1))] [] 4) (fun v2_1 v3_2 I_3 h => ?_)) (fun h => ?_)
  · refine zr_iload_n C dyX0_weigh_4 rfl 0 rfl ?_
    refine zr_aload_n C dyX0_weigh_5 rfl 3 rfl ?_
    refine zg_0_38 C ha1 dyX0_weigh_6 ?_
    refine zr_icmp_ge C dyX0_weigh_9 (tgt := 96) (by decide) (fun hc_17 => ?_) (fun hc_17 => ?_)
    · replace h := zif_pos hc_17 h
      refine zr_aload_n C dyX0_weigh_96 rfl 2 rfl ?_
      refine zg_0_26 C hS dyX0_weigh_97 ?_
      refine zr_aload_n C dyX0_weigh_100 rfl 3 rfl ?_
      refine zg_0_38 C ha1 dyX0_weigh_101 ?_
      refine zr_iload_n C dyX0_weigh_104 rfl 1 rfl ?_
      refine zv_0_78 C hS (zIsRow.of hS zir_107) (st := []) h ⟨Nat.le_of_ble_eq_true rfl, Nat.le_of_ble_eq_true rfl⟩ (Nat.le_of_ble_eq_true rfl) dyX0_weigh_105 (fun I_4 h => ?_)
      exact zr_vret C rfl dyX0_weigh_108 ⟨rfl, rfl, h⟩
    · replace h := zif_neg hc_17 h
      refine zr_aload_n C dyX0_weigh_12 rfl 2 rfl ?_
      refine zg_0_26 C hS dyX0_weigh_13 ?_
      refine zr_iload_n C dyX0_weigh_16 rfl 0 rfl ?_
      refine zr_iload_n C dyX0_weigh_17 rfl 1 rfl ?_
      refine zv_0_78 C hS (zIsRow.of hS zir_107) (st := []) h ⟨Nat.le_of_ble_eq_true rfl, Nat.le_of_ble_eq_true rfl⟩ (Nat.le_of_ble_eq_true rfl) dyX0_weigh_18 (fun I_5 h => ?_)
      refine zr_aload_n C dyX0_weigh_21 rfl 3 rfl ?_
      refine zg_0_63 C ha1 dyX0_weigh_22 ?_
      refine zr_iload_n C dyX0_weigh_25 rfl 0 rfl ?_
      refine zv_0_66 C hS ha1.2.1 (st := []) h ⟨Nat.le_of_ble_eq_true rfl, Nat.le_of_ble_eq_true rfl⟩ (Nat.le_of_ble_eq_true rfl) dyX0_weigh_26 (fun r_6 h => ?_)
      refine zjn (h (fun (v2_7 : Int32) => zX p l e (zrm 1 22) s m args below meth c (MQ below (zQc D B cA (zqV S K)) args s 0 0 (fun q => B ≤ q)) D B cA 4 0 0 S I_5 [(3, .int v3_2), (2, .int v2_7), (0, .ref (B + 100)), (1, .ref (B + a1))] [] 90) (fun v2_7 h => ?_)) (fun h => ?_)
      · refine zn_iinc C (fun v3_8 => [(3, .int v3_8), (2, .int v2_7), (0, .ref (B + 100)), (1, .ref (B + a1))]) dyX0_weigh_90 0 rfl zc_i_1 (Nat.le_of_ble_eq_true rfl) (fun _ => rfl) (fun v3_8 ev3_8 => ?_)
        replace h := h v3_8 ev3_8
        refine zr_goto C dyX0_weigh_93 (tgt := 4) (by decide) ?_
        exact h
      by_cases hc_9 : r_6 = 6
      · replace h := zif_pos hc_9 h
        refine zr_tableIn C dyX0_weigh_29 (by rw [hc_9]; decide) (by rw [hc_9]; decide) (off := 31) (by rw [hc_9]; decide) (tgt := 60) (by decide) ?_
        refine zn_iinc C (fun v2_10 => [(2, .int v2_10), (3, .int v3_2), (0, .ref (B + 100)), (1, .ref (B + a1))]) dyX0_weigh_60 1 rfl zc_i_1 (Nat.le_of_ble_eq_true rfl) (fun _ => rfl) (fun v2_10 ev2_10 => ?_)
        replace h := h v2_10 ev2_10
        refine zr_goto C dyX0_weigh_63 (tgt := 90) (by decide) ?_
        refine zr_sub (lv2 := [(3, .int v3_2), (2, .int v2_10), (0, .ref (B + 100)), (1, .ref (B + a1))]) [1, 0, 2, 3] rfl ?_
        exact h
      replace h := zif_neg hc_9 h
      by_cases hc_11 : r_6 = 7
      · replace h := zif_pos hc_11 h
        refine zr_tableIn C dyX0_weigh_29 (by rw [hc_11]; decide) (by rw [hc_11]; decide) (off := 37) (by rw [hc_11]; decide) (tgt := 66) (by decide) ?_
        refine zn_iinc C (fun v2_12 => [(2, .int v2_12), (3, .int v3_2), (0, .ref (B + 100)), (1, .ref (B + a1))]) dyX0_weigh_66 1 rfl zc_i_m1 (Nat.le_of_ble_eq_true rfl) (fun _ => rfl) (fun v2_12 ev2_12 => ?_)
        replace h := h v2_12 ev2_12
        refine zr_goto C dyX0_weigh_69 (tgt := 90) (by decide) ?_
        refine zr_sub (lv2 := [(3, .int v3_2), (2, .int v2_12), (0, .ref (B + 100)), (1, .ref (B + a1))]) [1, 0, 2, 3] rfl ?_
        exact h
      replace h := zif_neg hc_11 h
      by_cases hc_13 : r_6 = 8
      · replace h := zif_pos hc_13 h
        refine zr_tableIn C dyX0_weigh_29 (by rw [hc_13]; decide) (by rw [hc_13]; decide) (off := 43) (by rw [hc_13]; decide) (tgt := 72) (by decide) ?_
        refine zn_iincW C (fun v2_14 => [(2, .int v2_14), (3, .int v3_2), (0, .ref (B + 100)), (1, .ref (B + a1))]) dyX0_weigh_72 1 rfl zc_i_1000 (Nat.le_of_ble_eq_true rfl) (fun _ => rfl) (fun v2_14 ev2_14 => ?_)
        replace h := h v2_14 ev2_14
        refine zr_goto C dyX0_weigh_78 (tgt := 90) (by decide) ?_
        refine zr_sub (lv2 := [(3, .int v3_2), (2, .int v2_14), (0, .ref (B + 100)), (1, .ref (B + a1))]) [1, 0, 2, 3] rfl ?_
        exact h
      replace h := zif_neg hc_13 h
      by_cases hc_15 : r_6 = 9
      · replace h := zif_pos hc_15 h
        refine zr_tableIn C dyX0_weigh_29 (by rw [hc_15]; decide) (by rw [hc_15]; decide) (off := 52) (by rw [hc_15]; decide) (tgt := 81) (by decide) ?_
        refine zn_iincW C (fun v2_16 => [(2, .int v2_16), (3, .int v3_2), (0, .ref (B + 100)), (1, .ref (B + a1))]) dyX0_weigh_81 1 rfl zc_i_m1000 (Nat.le_of_ble_eq_true rfl) (fun _ => rfl) (fun v2_16 ev2_16 => ?_)
        replace h := h v2_16 ev2_16
        refine zr_goto C dyX0_weigh_87 (tgt := 90) (by decide) ?_
        refine zr_sub (lv2 := [(3, .int v3_2), (2, .int v2_16), (0, .ref (B + 100)), (1, .ref (B + a1))]) [1, 0, 2, 3] rfl ?_
        exact h
      replace h := zif_neg hc_15 h
      refine zr_tableOut C dyX0_weigh_29 (ztab_out (fun i h1 h2 => ?_)) (tgt := 90) (by decide) ?_
      · rcases (by omega : i = 6 ∨ i = 7 ∨ i = 8 ∨ i = 9) with rfl | rfl | rfl | rfl
        · exact hc_9
        · exact hc_11
        · exact hc_13
        · exact hc_15
      exact h
  exact h
def w_Desk_fits (a0 : Int32) (a1 : Int32) (I : zI) (K : Int32 → Prop) : Prop :=
  (if a0 < 0 then K 0 else (if 13 ≤ a0 then K 0 else (vp_in a0 zst_FOLLOWERS.length ∧ (if (((zst_FOLLOWERS.getD (Int32.toNatClampNeg a0) 0) >>> (a1 &&& 31)) &&& 1) = 1 then K 1 else K 0))))
theorem dyX11_fits_0 : decode cX11_fits 0 = .ok (.iload_n 0, 1) := by decide +kernel
theorem dyX11_fits_1 : decode cX11_fits 1 = .ok (.ifCond .lt 28, 3) := by decide +kernel
theorem dyX11_fits_4 : decode cX11_fits 4 = .ok (.iload_n 0, 1) := by decide +kernel
theorem dyX11_fits_5 : decode cX11_fits 5 = .ok (.getstatic 459, 3) := by decide +kernel
theorem dyX11_fits_8 : decode cX11_fits 8 = .ok (.arraylength, 1) := by decide +kernel
theorem dyX11_fits_9 : decode cX11_fits 9 = .ok (.if_icmp .ge 20, 3) := by decide +kernel
theorem dyX11_fits_12 : decode cX11_fits 12 = .ok (.getstatic 459, 3) := by decide +kernel
theorem dyX11_fits_15 : decode cX11_fits 15 = .ok (.iload_n 0, 1) := by decide +kernel
theorem dyX11_fits_16 : decode cX11_fits 16 = .ok (.iaload, 1) := by decide +kernel
theorem dyX11_fits_17 : decode cX11_fits 17 = .ok (.iload_n 1, 1) := by decide +kernel
theorem dyX11_fits_18 : decode cX11_fits 18 = .ok (.ishr, 1) := by decide +kernel
theorem dyX11_fits_19 : decode cX11_fits 19 = .ok (.iconst 1, 1) := by decide +kernel
theorem dyX11_fits_20 : decode cX11_fits 20 = .ok (.iand, 1) := by decide +kernel
theorem dyX11_fits_21 : decode cX11_fits 21 = .ok (.iconst 1, 1) := by decide +kernel
theorem dyX11_fits_22 : decode cX11_fits 22 = .ok (.if_icmp .ne 7, 3) := by decide +kernel
theorem dyX11_fits_25 : decode cX11_fits 25 = .ok (.iconst 1, 1) := by decide +kernel
theorem dyX11_fits_26 : decode cX11_fits 26 = .ok (.goto 4, 3) := by decide +kernel
theorem dyX11_fits_29 : decode cX11_fits 29 = .ok (.iconst 0, 1) := by decide +kernel
theorem dyX11_fits_30 : decode cX11_fits 30 = .ok (.ireturn, 1) := by decide +kernel
theorem zsg_yX11_fits : yX11_fits.cls ≠ "java/lang/invoke/MethodHandle" ∧ yX11_fits.cls ≠ "java/lang/invoke/VarHandle" ∧ (parseMethodDescriptor yX11_fits.desc).map (fun d => d.parameters.length) = some 2 := by decide +kernel
set_option maxRecDepth 20000 in
theorem c_Desk_fits {l : Launch} {D : va_G} {B : Nat} {cA : Nat → ClassId} {ad : Nat → Nat} {S : List zC} (hS : zOkX S) {a0 : Int32} {a1 : Int32} {I : zI} {K : Int32 → Prop}  (h : w_Desk_fits a0 a1 I K) : Met l yX11_fits (zws yX11_fits cX11_fits 2 (some .boolean)) (zrm 0 0) (zPc D B cA ad [.int a0, .int a1] S I) (zQc D B cA (zpI S I K)) 0 0 (fun q => B ≤ q) := by
  refine zm_of (cc := cX11_fits) (maxL := 2) (ret := (some .boolean)) (by decide +kernel) rfl (Nat.le_of_ble_eq_true rfl) trivial ?_
  intro p e s m args below meth c C _
  unfold w_Desk_fits at h
  show zX p l e (zrm 0 0) s m args below meth c (MQ below (zQc D B cA (zpI S I K)) args s 0 0 (fun q => B ≤ q)) D B cA 2 0 0 S I [(0, .int a0), (1, .int a1)] [] 0
  refine zr_iload_n C dyX11_fits_0 rfl 0 rfl ?_
  refine zr_if_lt C dyX11_fits_1 (tgt := 29) (by decide) (fun hc_3 => ?_) (fun hc_3 => ?_)
  · replace h := zif_pos hc_3 h
    refine zr_iconst C dyX11_fits_29 zc_i_0 ?_
    exact zr_zret C rfl (zb.nar zb_0) dyX11_fits_30 ⟨rfl, rfl, _, rfl, h⟩
  · replace h := zif_neg hc_3 h
    refine zr_iload_n C dyX11_fits_4 rfl 0 rfl ?_
    refine zr_stat C (i := 3) (q := ("RegrowDesk", "FOLLOWERS", zst_FOLLOWERS)) rfl rfl zk_fl_11_459 dyX11_fits_5 ?_
    refine zr_stlen C (i := 3) rfl (v := 13) rfl dyX11_fits_8 ?_
    refine zr_icmp_ge C dyX11_fits_9 (tgt := 29) (by decide) (fun hc_2 => ?_) (fun hc_2 => ?_)
    · replace h := zif_pos hc_2 h
      refine zr_iconst C dyX11_fits_29 zc_i_0 ?_
      exact zr_zret C rfl (zb.nar zb_0) dyX11_fits_30 ⟨rfl, rfl, _, rfl, h⟩
    · replace h := zif_neg hc_2 h
      refine zr_stat C (i := 3) (q := ("RegrowDesk", "FOLLOWERS", zst_FOLLOWERS)) rfl rfl zk_fl_11_459 dyX11_fits_12 ?_
      refine zr_iload_n C dyX11_fits_15 rfl 0 rfl ?_
      refine zr_stld C (i := 3) (q := ("RegrowDesk", "FOLLOWERS", zst_FOLLOWERS)) rfl h.1 dyX11_fits_16 ?_
      replace h := h.2
      refine zr_iload_n C dyX11_fits_17 rfl 1 rfl ?_
      refine zr_ishr C dyX11_fits_18 ?_
      refine zr_iconst C dyX11_fits_19 zc_i_1 ?_
      refine zr_iand C dyX11_fits_20 ?_
      refine zr_iconst C dyX11_fits_21 zc_i_1 ?_
      refine zr_icmp_ne C dyX11_fits_22 (tgt := 29) (by decide) (fun hc_1 => ?_) (fun hc_1 => ?_)
      · replace h := zif_neg hc_1 h
        refine zr_iconst C dyX11_fits_29 zc_i_0 ?_
        exact zr_zret C rfl (zb.nar zb_0) dyX11_fits_30 ⟨rfl, rfl, _, rfl, h⟩
      · replace h := zif_pos hc_1 h
        refine zr_iconst C dyX11_fits_25 zc_i_1 ?_
        refine zr_goto C dyX11_fits_26 (tgt := 30) (by decide) ?_
        exact zr_zret C rfl (zb.nar zb_1) dyX11_fits_30 ⟨rfl, rfl, _, rfl, h⟩
theorem zv_0_74 {p : Program} {l : Launch} {e : Env} {R : Room} {s : State} {m : MethodId} {args : Array Value} {below : List Frame} {meth : Method} {c : Code} {Q : State → Prop} {D : va_G} {B : Nat} {cA : Nat → ClassId} {ad : Nat → Nat} {cc : ByteArray} {nL : Nat} {ret : Option FieldType} {S : List zC} {I : zI} {lv : List (Nat × Value)} {st : List Value} {pc : Nat} (C : zCx p s m args meth c cc nL RX0 ret D B cA ad) {K : Int32 → Prop} {xa0 : Int32} {xa1 : Int32} (hS : zOkX S)  (h : w_Desk_fits xa0 xa1 I K) (hR : 0 + 1 ≤ R.frames ∧ 8 + (2 + 11) + (0) ≤ R.locals) (hw : (st.map fun v => v.category).sum ≤ 8) (hd : decode cc pc = .ok (.invokestatic 74, 3)) (kk : ∀ v, K v → zX p l e R s m args below meth c Q D B cA nL 0 0 S I lv (.int v :: st) (pc + 3)) : zX p l e R s m args below meth c Q D B cA nL 0 0 S I lv (.int xa1 :: .int xa0 :: st) pc :=
  have hf : 0 ≤ R.cells ∧ 0 ≤ R.slots := ⟨Nat.zero_le _, Nat.zero_le _⟩
  zc_NpI C (As := [.int xa0, .int xa1]) (st := st) (c_Desk_fits hS h) (zgM zk_cd_yX11_fits) zk_mn_0_74 zk_st_yX11_fits zk_in_11 zsg_yX11_fits hR rfl rfl hw hd hf kk
def w_Adviser_lastMisfit (a0 : Nat) (I : zI) (K : Int32 → Prop) : Prop :=
  ∀ v1_1, v1_1 = ((I.1 a0 5) - 2) → ∀ (P7 : Int32 → Prop), (∀ (v1_2 : Int32), ((if v1_2 < 0 then (K (-1)) else (w_Row_get (a0 + 1) 100 v1_2 I (fun r_3 => w_Row_get (a0 + 1) 100 (v1_2 + 1) I (fun r_4 => w_Desk_fits r_3 r_4 I (fun r_5 => (if r_5 = 0 then K v1_2 else (∀ v1_6, v1_6 = (v1_2 + (-1)) → P7 v1_6)))))))) → P7 v1_2) → P7 v1_1
theorem dyX0_lastMisfit_0 : decode cX0_lastMisfit 0 = .ok (.aload_n 0, 1) := by decide +kernel
theorem dyX0_lastMisfit_1 : decode cX0_lastMisfit 1 = .ok (.getfield 38, 3) := by decide +kernel
theorem dyX0_lastMisfit_4 : decode cX0_lastMisfit 4 = .ok (.iconst 2, 1) := by decide +kernel
theorem dyX0_lastMisfit_5 : decode cX0_lastMisfit 5 = .ok (.isub, 1) := by decide +kernel
theorem dyX0_lastMisfit_6 : decode cX0_lastMisfit 6 = .ok (.istore_n 1, 1) := by decide +kernel
theorem dyX0_lastMisfit_7 : decode cX0_lastMisfit 7 = .ok (.iload_n 1, 1) := by decide +kernel
theorem dyX0_lastMisfit_8 : decode cX0_lastMisfit 8 = .ok (.ifCond .lt 35, 3) := by decide +kernel
theorem dyX0_lastMisfit_11 : decode cX0_lastMisfit 11 = .ok (.aload_n 0, 1) := by decide +kernel
theorem dyX0_lastMisfit_12 : decode cX0_lastMisfit 12 = .ok (.getfield 63, 3) := by decide +kernel
theorem dyX0_lastMisfit_15 : decode cX0_lastMisfit 15 = .ok (.iload_n 1, 1) := by decide +kernel
theorem dyX0_lastMisfit_16 : decode cX0_lastMisfit 16 = .ok (.invokevirtual 66, 3) := by decide +kernel
theorem dyX0_lastMisfit_19 : decode cX0_lastMisfit 19 = .ok (.aload_n 0, 1) := by decide +kernel
theorem dyX0_lastMisfit_20 : decode cX0_lastMisfit 20 = .ok (.getfield 63, 3) := by decide +kernel
theorem dyX0_lastMisfit_23 : decode cX0_lastMisfit 23 = .ok (.iload_n 1, 1) := by decide +kernel
theorem dyX0_lastMisfit_24 : decode cX0_lastMisfit 24 = .ok (.iconst 1, 1) := by decide +kernel
theorem dyX0_lastMisfit_25 : decode cX0_lastMisfit 25 = .ok (.iadd, 1) := by decide +kernel
theorem dyX0_lastMisfit_26 : decode cX0_lastMisfit 26 = .ok (.invokevirtual 66, 3) := by decide +kernel
theorem dyX0_lastMisfit_29 : decode cX0_lastMisfit 29 = .ok (.invokestatic 74, 3) := by decide +kernel
theorem dyX0_lastMisfit_32 : decode cX0_lastMisfit 32 = .ok (.ifCond .ne 5, 3) := by decide +kernel
theorem dyX0_lastMisfit_35 : decode cX0_lastMisfit 35 = .ok (.iload_n 1, 1) := by decide +kernel
theorem dyX0_lastMisfit_36 : decode cX0_lastMisfit 36 = .ok (.ireturn, 1) := by decide +kernel
theorem dyX0_lastMisfit_37 : decode cX0_lastMisfit 37 = .ok (.iinc 1 (-1), 3) := by decide +kernel
theorem dyX0_lastMisfit_40 : decode cX0_lastMisfit 40 = .ok (.goto (-33), 3) := by decide +kernel
theorem dyX0_lastMisfit_43 : decode cX0_lastMisfit 43 = .ok (.iconst (-1), 1) := by decide +kernel
theorem dyX0_lastMisfit_44 : decode cX0_lastMisfit 44 = .ok (.ireturn, 1) := by decide +kernel
theorem zsg_yX0_lastMisfit : yX0_lastMisfit.cls ≠ "java/lang/invoke/MethodHandle" ∧ yX0_lastMisfit.cls ≠ "java/lang/invoke/VarHandle" ∧ (parseMethodDescriptor yX0_lastMisfit.desc).map (fun d => d.parameters.length) = some 1 := by decide +kernel
set_option maxRecDepth 20000 in
theorem c_Adviser_lastMisfit {l : Launch} {D : va_G} {B : Nat} {cA : Nat → ClassId} {ad : Nat → Nat} {S : List zC} (hS : zOkX S) {a0 : Nat} {I : zI} {K : Int32 → Prop} (ha0 : zIsTokens S a0) (h : w_Adviser_lastMisfit a0 I K) : Met l yX0_lastMisfit (zws yX0_lastMisfit cX0_lastMisfit 2 (some .int)) (zrm 1 21) (zPc D B cA ad [.ref (B + a0)] S I) (zQc D B cA (zpI S I K)) 0 0 (fun q => B ≤ q) := by
  refine zm_of (cc := cX0_lastMisfit) (maxL := 2) (ret := (some .int)) (by decide +kernel) rfl (Nat.le_of_ble_eq_true rfl) trivial ?_
  intro p e s m args below meth c C _
  unfold w_Adviser_lastMisfit at h
  show zX p l e (zrm 1 21) s m args below meth c (MQ below (zQc D B cA (zpI S I K)) args s 0 0 (fun q => B ≤ q)) D B cA 2 0 0 S I [(0, .ref (B + a0))] [] 0
  refine zr_aload_n C dyX0_lastMisfit_0 rfl 0 rfl ?_
  refine zg_0_38 C ha0 dyX0_lastMisfit_1 ?_
  refine zr_iconst C dyX0_lastMisfit_4 zc_i_2 ?_
  refine zr_isub C dyX0_lastMisfit_5 ?_
  refine zn_istore_n C (fun v1_1 => [(1, .int v1_1), (0, .ref (B + a0))]) dyX0_lastMisfit_6 rfl (Nat.le_of_ble_eq_true rfl) (fun _ => rfl) (fun v1_1 ev1_1 => ?_)
  replace h := h v1_1 ev1_1
  refine zjn (h (fun (v1_2 : Int32) => zX p l e (zrm 1 21) s m args below meth c (MQ below (zQc D B cA (zpI S I K)) args s 0 0 (fun q => B ≤ q)) D B cA 2 0 0 S I [(1, .int v1_2), (0, .ref (B + a0))] [] 7) (fun v1_2 h => ?_)) (fun h => ?_)
  · refine zr_iload_n C dyX0_lastMisfit_7 rfl 0 rfl ?_
    refine zr_if_lt C dyX0_lastMisfit_8 (tgt := 43) (by decide) (fun hc_8 => ?_) (fun hc_8 => ?_)
    · replace h := zif_pos hc_8 h
      refine zr_iconst C dyX0_lastMisfit_43 zc_i_m1 ?_
      exact zr_iret C rfl dyX0_lastMisfit_44 ⟨rfl, rfl, _, rfl, h⟩
    · replace h := zif_neg hc_8 h
      refine zr_aload_n C dyX0_lastMisfit_11 rfl 1 rfl ?_
      refine zg_0_63 C ha0 dyX0_lastMisfit_12 ?_
      refine zr_iload_n C dyX0_lastMisfit_15 rfl 0 rfl ?_
      refine zv_0_66 C hS ha0.2.1 (st := []) h ⟨Nat.le_of_ble_eq_true rfl, Nat.le_of_ble_eq_true rfl⟩ (Nat.le_of_ble_eq_true rfl) dyX0_lastMisfit_16 (fun r_3 h => ?_)
      refine zr_aload_n C dyX0_lastMisfit_19 rfl 1 rfl ?_
      refine zg_0_63 C ha0 dyX0_lastMisfit_20 ?_
      refine zr_iload_n C dyX0_lastMisfit_23 rfl 0 rfl ?_
      refine zr_iconst C dyX0_lastMisfit_24 zc_i_1 ?_
      refine zr_iadd C dyX0_lastMisfit_25 ?_
      refine zv_0_66 C hS ha0.2.1 (st := [.int r_3]) h ⟨Nat.le_of_ble_eq_true rfl, Nat.le_of_ble_eq_true rfl⟩ (Nat.le_of_ble_eq_true rfl) dyX0_lastMisfit_26 (fun r_4 h => ?_)
      refine zv_0_74 C hS (st := []) h ⟨Nat.le_of_ble_eq_true rfl, Nat.le_of_ble_eq_true rfl⟩ (Nat.le_of_ble_eq_true rfl) dyX0_lastMisfit_29 (fun r_5 h => ?_)
      refine zr_if_ne C dyX0_lastMisfit_32 (tgt := 37) (by decide) (fun hc_7 => ?_) (fun hc_7 => ?_)
      · replace h := zif_neg hc_7 h
        refine zn_iinc C (fun v1_6 => [(1, .int v1_6), (0, .ref (B + a0))]) dyX0_lastMisfit_37 0 rfl zc_i_m1 (Nat.le_of_ble_eq_true rfl) (fun _ => rfl) (fun v1_6 ev1_6 => ?_)
        replace h := h v1_6 ev1_6
        refine zr_goto C dyX0_lastMisfit_40 (tgt := 7) (by decide) ?_
        exact h
      · replace h := zif_pos hc_7 h
        refine zr_iload_n C dyX0_lastMisfit_35 rfl 0 rfl ?_
        exact zr_iret C rfl dyX0_lastMisfit_36 ⟨rfl, rfl, _, rfl, h⟩
  exact h
theorem zp_10_20 {p : Program} {l : Launch} {e : Env} {R : Room} {s : State} {m : MethodId} {args : Array Value} {below : List Frame} {meth : Method} {c : Code} {Q : State → Prop} {D : va_G} {B : Nat} {cA : Nat → ClassId} {ad : Nat → Nat} {cc : ByteArray} {nL : Nat} {ret : Option FieldType} {S : List zC} {I : zI} {lv : List (Nat × Value)} {st : List Value} {pc : Nat} (C : zCx p s m args meth c cc nL RX10 ret D B cA ad) {k : Nat} (hk : zIsTrial S k) {v : Int32} (hd : decode cc pc = .ok (.putfield 20, 3)) (kk : zX p l e R s m args below meth c Q D B cA nL 0 0 S (zu I k 1 v) lv st (pc + 3)) : zX p l e R s m args below meth c Q D B cA nL 0 0 S I lv (.int v :: .ref (B + k) :: st) pc :=
  zr_puti C (ci := 10) (Cn := RX10) (T := TX10) (N := 2) (k := k) (j := 1) (fs := [some (some (k + 1)), none]) rfl zin_10 (Nat.le_of_ble_eq_true rfl) rfl hk.1 rfl tyX10 tyX10_ok nmX10 (ty := .int) zpd_I rfl rfl rfl zk_fl_10_20 hd kk
theorem zg_10_14 {p : Program} {l : Launch} {e : Env} {R : Room} {s : State} {m : MethodId} {args : Array Value} {below : List Frame} {meth : Method} {c : Code} {Q : State → Prop} {D : va_G} {B : Nat} {cA : Nat → ClassId} {ad : Nat → Nat} {cc : ByteArray} {nL : Nat} {ret : Option FieldType} {S : List zC} {I : zI} {lv : List (Nat × Value)} {st : List Value} {pc : Nat} (C : zCx p s m args meth c cc nL RX10 ret D B cA ad) {k : Nat} (hk : zIsTrial S k) (hd : decode cc pc = .ok (.getfield 14, 3)) (kk : zX p l e R s m args below meth c Q D B cA nL 0 0 S I lv (.ref (B + (k + 1)) :: st) (pc + 3)) : zX p l e R s m args below meth c Q D B cA nL 0 0 S I lv (.ref (B + k) :: st) pc :=
  zr_getr C (ci := 10) (Cn := RX10) (T := TX10) (N := 2) (k := k) (j := 0) (fs := [some (some (k + 1)), none]) rfl zin_10 (Nat.le_of_ble_eq_true rfl) rfl hk.1 rfl zk_fl_10_14 hd kk
theorem zv_10_24 {p : Program} {l : Launch} {e : Env} {R : Room} {s : State} {m : MethodId} {args : Array Value} {below : List Frame} {meth : Method} {c : Code} {Q : State → Prop} {D : va_G} {B : Nat} {cA : Nat → ClassId} {ad : Nat → Nat} {cc : ByteArray} {nL : Nat} {ret : Option FieldType} {S : List zC} {I : zI} {lv : List (Nat × Value)} {st : List Value} {pc : Nat} (C : zCx p s m args meth c cc nL RX10 ret D B cA ad) {K : zI → Prop} {xk : Nat} {xn : Nat} {xa1 : Int32} {xa2 : Int32} (hS : zOkX S) (xhk : zIsRow S xk xn) (h : w_Row_set xk xn xa1 xa2 I K) (hR : 0 + 1 ≤ R.frames ∧ 8 + (3 + 11) + (0) ≤ R.locals) (hw : (st.map fun v => v.category).sum ≤ 8) (hd : decode cc pc = .ok (.invokevirtual 24, 3)) (kk : ∀ I2, K I2 → zX p l e R s m args below meth c Q D B cA nL 0 0 S I2 lv st (pc + 3)) : zX p l e R s m args below meth c Q D B cA nL 0 0 S I lv (.int xa2 :: .int xa1 :: .ref (B + xk) :: st) pc :=
  have hf : 0 ≤ R.cells ∧ 0 ≤ R.slots := ⟨Nat.zero_le _, Nat.zero_le _⟩
  zc_VqV C (ci := 6) (q := (RX6, TX6, 1)) (k := xk) (fs := [some (some (xk + 1))]) (As := [.int xa1, .int xa2]) (st := st) rfl xhk.1 (c_Row_set hS xhk h) (zgV zk_ml_10_24 zk_im_yX6_set zk_se_yX6_set zk_in_6 zk_cd_yX6_set) zsg_yX6_set hR rfl rfl hw hd hf kk
def w_Trial_begin (k : Nat) (I : zI) (K : zI → Prop) : Prop :=
  ∀ I_1, I_1 = (zu I k 1 0) → w_Row_set (k + 1) 300 0 0 I_1 (fun I_2 => K I_2)
theorem dyX10_begin_0 : decode cX10_begin 0 = .ok (.aload_n 0, 1) := by decide +kernel
theorem dyX10_begin_1 : decode cX10_begin 1 = .ok (.iconst 0, 1) := by decide +kernel
theorem dyX10_begin_2 : decode cX10_begin 2 = .ok (.putfield 20, 3) := by decide +kernel
theorem dyX10_begin_5 : decode cX10_begin 5 = .ok (.aload_n 0, 1) := by decide +kernel
theorem dyX10_begin_6 : decode cX10_begin 6 = .ok (.getfield 14, 3) := by decide +kernel
theorem dyX10_begin_9 : decode cX10_begin 9 = .ok (.iconst 0, 1) := by decide +kernel
theorem dyX10_begin_10 : decode cX10_begin 10 = .ok (.iconst 0, 1) := by decide +kernel
theorem dyX10_begin_11 : decode cX10_begin 11 = .ok (.invokevirtual 24, 3) := by decide +kernel
theorem dyX10_begin_14 : decode cX10_begin 14 = .ok (.return_, 1) := by decide +kernel
theorem zsg_yX10_begin : yX10_begin.cls = RX10 ∧ yX10_begin.cls ≠ "java/lang/invoke/MethodHandle" ∧ yX10_begin.cls ≠ "java/lang/invoke/VarHandle" ∧ (parseMethodDescriptor yX10_begin.desc).map (fun d => d.parameters.length) = some 0 := by decide +kernel
set_option maxRecDepth 20000 in
theorem c_Trial_begin {l : Launch} {D : va_G} {B : Nat} {cA : Nat → ClassId} {ad : Nat → Nat} {S : List zC} (hS : zOkX S) {k : Nat} {I : zI} {K : zI → Prop} (hk : zIsTrial S k) (h : w_Trial_begin k I K) : Met l yX10_begin (zws yX10_begin cX10_begin 1 none) (zrm 1 22) (zPc D B cA ad [.ref (B + k)] S I) (zQc D B cA (zqV S K)) 0 0 (fun q => B ≤ q) := by
  refine zm_of (cc := cX10_begin) (maxL := 1) (ret := none) (by decide +kernel) rfl (Nat.le_of_ble_eq_true rfl) trivial ?_
  intro p e s m args below meth c C _
  unfold w_Trial_begin at h
  show zX p l e (zrm 1 22) s m args below meth c (MQ below (zQc D B cA (zqV S K)) args s 0 0 (fun q => B ≤ q)) D B cA 1 0 0 S I [(0, .ref (B + k))] [] 0
  refine zr_aload_n C dyX10_begin_0 rfl 0 rfl ?_
  refine zr_iconst C dyX10_begin_1 zc_i_0 ?_
  refine zp_10_20 C hk dyX10_begin_2 ?_
  refine zn_mem C (fun I_1 eI_1 => ?_)
  replace h := h I_1 eI_1
  refine zr_aload_n C dyX10_begin_5 rfl 0 rfl ?_
  refine zg_10_14 C hk dyX10_begin_6 ?_
  refine zr_iconst C dyX10_begin_9 zc_i_0 ?_
  refine zr_iconst C dyX10_begin_10 zc_i_0 ?_
  refine zv_10_24 C hS hk.2 (st := []) h ⟨Nat.le_of_ble_eq_true rfl, Nat.le_of_ble_eq_true rfl⟩ (Nat.le_of_ble_eq_true rfl) dyX10_begin_11 (fun I_2 h => ?_)
  exact zr_vret C rfl dyX10_begin_14 ⟨rfl, rfl, h⟩
def w_Adviser_couldGo (a1 : Nat) (a2 : Int32) (a3 : Int32) (I : zI) (K : Int32 → Prop) : Prop :=
  w_Row_get 107 101 (a2 + a3) I (fun r_1 => w_Row_get 107 101 a2 I (fun r_2 => w_Row_get 107 101 (I.1 a1 5) I (fun r_3 => ∀ (P38 : Int32 → Prop), (∀ (t_4 : Int32), (∀ (P59 : Int32 → Prop), (∀ (t_5 : Int32), ((if t_4 = 0 then K 0 else (w_Row_get (a1 + 1) 100 (a2 + a3) I (fun r_6 => w_Desk_fits t_5 r_6 I (fun r_7 => (if r_7 = 0 then K 0 else K 1)))))) → P59 t_5) → (if a2 = 0 then P59 12 else (w_Row_get (a1 + 1) 100 (a2 - 1) I (fun r_10 => P59 r_10)))) → P38 t_4) → (if (r_1 - r_2) = r_3 then P38 1 else P38 0))))
theorem dyX0_couldGo_0 : decode cX0_couldGo 0 = .ok (.aload_n 0, 1) := by decide +kernel
theorem dyX0_couldGo_1 : decode cX0_couldGo 1 = .ok (.getfield 26, 3) := by decide +kernel
theorem dyX0_couldGo_4 : decode cX0_couldGo 4 = .ok (.iload_n 2, 1) := by decide +kernel
theorem dyX0_couldGo_5 : decode cX0_couldGo 5 = .ok (.iload_n 3, 1) := by decide +kernel
theorem dyX0_couldGo_6 : decode cX0_couldGo 6 = .ok (.iadd, 1) := by decide +kernel
theorem dyX0_couldGo_7 : decode cX0_couldGo 7 = .ok (.invokevirtual 66, 3) := by decide +kernel
theorem dyX0_couldGo_10 : decode cX0_couldGo 10 = .ok (.aload_n 0, 1) := by decide +kernel
theorem dyX0_couldGo_11 : decode cX0_couldGo 11 = .ok (.getfield 26, 3) := by decide +kernel
theorem dyX0_couldGo_14 : decode cX0_couldGo 14 = .ok (.iload_n 2, 1) := by decide +kernel
theorem dyX0_couldGo_15 : decode cX0_couldGo 15 = .ok (.invokevirtual 66, 3) := by decide +kernel
theorem dyX0_couldGo_18 : decode cX0_couldGo 18 = .ok (.isub, 1) := by decide +kernel
theorem dyX0_couldGo_19 : decode cX0_couldGo 19 = .ok (.aload_n 0, 1) := by decide +kernel
theorem dyX0_couldGo_20 : decode cX0_couldGo 20 = .ok (.getfield 26, 3) := by decide +kernel
theorem dyX0_couldGo_23 : decode cX0_couldGo 23 = .ok (.aload_n 1, 1) := by decide +kernel
theorem dyX0_couldGo_24 : decode cX0_couldGo 24 = .ok (.getfield 38, 3) := by decide +kernel
theorem dyX0_couldGo_27 : decode cX0_couldGo 27 = .ok (.invokevirtual 66, 3) := by decide +kernel
theorem dyX0_couldGo_30 : decode cX0_couldGo 30 = .ok (.if_icmp .ne 7, 3) := by decide +kernel
theorem dyX0_couldGo_33 : decode cX0_couldGo 33 = .ok (.iconst 1, 1) := by decide +kernel
theorem dyX0_couldGo_34 : decode cX0_couldGo 34 = .ok (.goto 4, 3) := by decide +kernel
theorem dyX0_couldGo_37 : decode cX0_couldGo 37 = .ok (.iconst 0, 1) := by decide +kernel
theorem dyX0_couldGo_38 : decode cX0_couldGo 38 = .ok (.istore 4, 2) := by decide +kernel
theorem dyX0_couldGo_40 : decode cX0_couldGo 40 = .ok (.iload_n 2, 1) := by decide +kernel
theorem dyX0_couldGo_41 : decode cX0_couldGo 41 = .ok (.ifCond .ne 8, 3) := by decide +kernel
theorem dyX0_couldGo_44 : decode cX0_couldGo 44 = .ok (.bipush 12, 2) := by decide +kernel
theorem dyX0_couldGo_46 : decode cX0_couldGo 46 = .ok (.goto 13, 3) := by decide +kernel
theorem dyX0_couldGo_49 : decode cX0_couldGo 49 = .ok (.aload_n 1, 1) := by decide +kernel
theorem dyX0_couldGo_50 : decode cX0_couldGo 50 = .ok (.getfield 63, 3) := by decide +kernel
theorem dyX0_couldGo_53 : decode cX0_couldGo 53 = .ok (.iload_n 2, 1) := by decide +kernel
theorem dyX0_couldGo_54 : decode cX0_couldGo 54 = .ok (.iconst 1, 1) := by decide +kernel
theorem dyX0_couldGo_55 : decode cX0_couldGo 55 = .ok (.isub, 1) := by decide +kernel
theorem dyX0_couldGo_56 : decode cX0_couldGo 56 = .ok (.invokevirtual 66, 3) := by decide +kernel
theorem dyX0_couldGo_59 : decode cX0_couldGo 59 = .ok (.istore 5, 2) := by decide +kernel
theorem dyX0_couldGo_61 : decode cX0_couldGo 61 = .ok (.iload 4, 2) := by decide +kernel
theorem dyX0_couldGo_63 : decode cX0_couldGo 63 = .ok (.ifCond .eq 25, 3) := by decide +kernel
theorem dyX0_couldGo_66 : decode cX0_couldGo 66 = .ok (.iload 5, 2) := by decide +kernel
theorem dyX0_couldGo_68 : decode cX0_couldGo 68 = .ok (.aload_n 1, 1) := by decide +kernel
theorem dyX0_couldGo_69 : decode cX0_couldGo 69 = .ok (.getfield 63, 3) := by decide +kernel
theorem dyX0_couldGo_72 : decode cX0_couldGo 72 = .ok (.iload_n 2, 1) := by decide +kernel
theorem dyX0_couldGo_73 : decode cX0_couldGo 73 = .ok (.iload_n 3, 1) := by decide +kernel
theorem dyX0_couldGo_74 : decode cX0_couldGo 74 = .ok (.iadd, 1) := by decide +kernel
theorem dyX0_couldGo_75 : decode cX0_couldGo 75 = .ok (.invokevirtual 66, 3) := by decide +kernel
theorem dyX0_couldGo_78 : decode cX0_couldGo 78 = .ok (.invokestatic 74, 3) := by decide +kernel
theorem dyX0_couldGo_81 : decode cX0_couldGo 81 = .ok (.ifCond .eq 7, 3) := by decide +kernel
theorem dyX0_couldGo_84 : decode cX0_couldGo 84 = .ok (.iconst 1, 1) := by decide +kernel
theorem dyX0_couldGo_85 : decode cX0_couldGo 85 = .ok (.goto 4, 3) := by decide +kernel
theorem dyX0_couldGo_88 : decode cX0_couldGo 88 = .ok (.iconst 0, 1) := by decide +kernel
theorem dyX0_couldGo_89 : decode cX0_couldGo 89 = .ok (.ireturn, 1) := by decide +kernel
theorem zsg_yX0_couldGo : yX0_couldGo.cls = RX0 ∧ yX0_couldGo.cls ≠ "java/lang/invoke/MethodHandle" ∧ yX0_couldGo.cls ≠ "java/lang/invoke/VarHandle" ∧ (parseMethodDescriptor yX0_couldGo.desc).map (fun d => d.parameters.length) = some 3 := by decide +kernel
set_option maxRecDepth 20000 in
theorem c_Adviser_couldGo {l : Launch} {D : va_G} {B : Nat} {cA : Nat → ClassId} {ad : Nat → Nat} {S : List zC} (hS : zOkX S) {a1 : Nat} {a2 : Int32} {a3 : Int32} {I : zI} {K : Int32 → Prop} (ha1 : zIsTokens S a1) (h : w_Adviser_couldGo a1 a2 a3 I K) : Met l yX0_couldGo (zws yX0_couldGo cX0_couldGo 6 (some .boolean)) (zrm 1 21) (zPc D B cA ad [.ref (B + 100), .ref (B + a1), .int a2, .int a3] S I) (zQc D B cA (zpI S I K)) 0 0 (fun q => B ≤ q) := by
  refine zm_of (cc := cX0_couldGo) (maxL := 6) (ret := (some .boolean)) (by decide +kernel) rfl (Nat.le_of_ble_eq_true rfl) trivial ?_
  intro p e s m args below meth c C _
  unfold w_Adviser_couldGo at h
  show zX p l e (zrm 1 21) s m args below meth c (MQ below (zQc D B cA (zpI S I K)) args s 0 0 (fun q => B ≤ q)) D B cA 6 0 0 S I [(0, .ref (B + 100)), (1, .ref (B + a1)), (2, .int a2), (3, .int a3)] [] 0
  refine zr_aload_n C dyX0_couldGo_0 rfl 0 rfl ?_
  refine zg_0_26 C hS dyX0_couldGo_1 ?_
  refine zr_iload_n C dyX0_couldGo_4 rfl 2 rfl ?_
  refine zr_iload_n C dyX0_couldGo_5 rfl 3 rfl ?_
  refine zr_iadd C dyX0_couldGo_6 ?_
  refine zv_0_66 C hS (zIsRow.of hS zir_107) (st := []) h ⟨Nat.le_of_ble_eq_true rfl, Nat.le_of_ble_eq_true rfl⟩ (Nat.le_of_ble_eq_true rfl) dyX0_couldGo_7 (fun r_1 h => ?_)
  refine zr_aload_n C dyX0_couldGo_10 rfl 0 rfl ?_
  refine zg_0_26 C hS dyX0_couldGo_11 ?_
  refine zr_iload_n C dyX0_couldGo_14 rfl 2 rfl ?_
  refine zv_0_66 C hS (zIsRow.of hS zir_107) (st := [.int r_1]) h ⟨Nat.le_of_ble_eq_true rfl, Nat.le_of_ble_eq_true rfl⟩ (Nat.le_of_ble_eq_true rfl) dyX0_couldGo_15 (fun r_2 h => ?_)
  refine zr_isub C dyX0_couldGo_18 ?_
  refine zr_aload_n C dyX0_couldGo_19 rfl 0 rfl ?_
  refine zg_0_26 C hS dyX0_couldGo_20 ?_
  refine zr_aload_n C dyX0_couldGo_23 rfl 1 rfl ?_
  refine zg_0_38 C ha1 dyX0_couldGo_24 ?_
  refine zv_0_66 C hS (zIsRow.of hS zir_107) (st := [.int (r_1 - r_2)]) h ⟨Nat.le_of_ble_eq_true rfl, Nat.le_of_ble_eq_true rfl⟩ (Nat.le_of_ble_eq_true rfl) dyX0_couldGo_27 (fun r_3 h => ?_)
  refine zjn (h (fun (t_4 : Int32) => zX p l e (zrm 1 21) s m args below meth c (MQ below (zQc D B cA (zpI S I K)) args s 0 0 (fun q => B ≤ q)) D B cA 6 0 0 S I [(1, .ref (B + a1)), (2, .int a2), (3, .int a3)] [.int t_4] 38) (fun t_4 h => ?_)) (fun h => ?_)
  · refine zr_istore C dyX0_couldGo_38 (Nat.le_of_ble_eq_true rfl) (lv2 := [(4, .int t_4), (1, .ref (B + a1)), (2, .int a2), (3, .int a3)]) rfl ?_
    refine zr_iload_n C dyX0_couldGo_40 rfl 2 rfl ?_
    refine zjn (h (fun (t_5 : Int32) => zX p l e (zrm 1 21) s m args below meth c (MQ below (zQc D B cA (zpI S I K)) args s 0 0 (fun q => B ≤ q)) D B cA 6 0 0 S I [(4, .int t_4), (1, .ref (B + a1)), (2, .int a2), (3, .int a3)] [.int t_5] 59) (fun t_5 h => ?_)) (fun h => ?_)
    · refine zr_istore C dyX0_couldGo_59 (Nat.le_of_ble_eq_true rfl) (lv2 := [(5, .int t_5), (4, .int t_4), (1, .ref (B + a1)), (2, .int a2), (3, .int a3)]) rfl ?_
      refine zr_iload C dyX0_couldGo_61 1 rfl ?_
      refine zr_if_eq C dyX0_couldGo_63 (tgt := 88) (by decide) (fun hc_9 => ?_) (fun hc_9 => ?_)
      · replace h := zif_pos hc_9 h
        refine zr_iconst C dyX0_couldGo_88 zc_i_0 ?_
        exact zr_zret C rfl (zb.nar zb_0) dyX0_couldGo_89 ⟨rfl, rfl, _, rfl, h⟩
      · replace h := zif_neg hc_9 h
        refine zr_iload C dyX0_couldGo_66 0 rfl ?_
        refine zr_aload_n C dyX0_couldGo_68 rfl 2 rfl ?_
        refine zg_0_63 C ha1 dyX0_couldGo_69 ?_
        refine zr_iload_n C dyX0_couldGo_72 rfl 3 rfl ?_
        refine zr_iload_n C dyX0_couldGo_73 rfl 4 rfl ?_
        refine zr_iadd C dyX0_couldGo_74 ?_
        refine zv_0_66 C hS ha1.2.1 (st := [.int t_5]) h ⟨Nat.le_of_ble_eq_true rfl, Nat.le_of_ble_eq_true rfl⟩ (Nat.le_of_ble_eq_true rfl) dyX0_couldGo_75 (fun r_6 h => ?_)
        refine zv_0_74 C hS (st := []) h ⟨Nat.le_of_ble_eq_true rfl, Nat.le_of_ble_eq_true rfl⟩ (Nat.le_of_ble_eq_true rfl) dyX0_couldGo_78 (fun r_7 h => ?_)
        refine zr_if_eq C dyX0_couldGo_81 (tgt := 88) (by decide) (fun hc_8 => ?_) (fun hc_8 => ?_)
        · replace h := zif_pos hc_8 h
          refine zr_iconst C dyX0_couldGo_88 zc_i_0 ?_
          exact zr_zret C rfl (zb.nar zb_0) dyX0_couldGo_89 ⟨rfl, rfl, _, rfl, h⟩
        · replace h := zif_neg hc_8 h
          refine zr_iconst C dyX0_couldGo_84 zc_i_1 ?_
          refine zr_goto C dyX0_couldGo_85 (tgt := 89) (by decide) ?_
          exact zr_zret C rfl (zb.nar zb_1) dyX0_couldGo_89 ⟨rfl, rfl, _, rfl, h⟩
    refine zr_if_ne C dyX0_couldGo_41 (tgt := 49) (by decide) (fun hc_11 => ?_) (fun hc_11 => ?_)
    · replace h := zif_neg hc_11 h
      refine zr_aload_n C dyX0_couldGo_49 rfl 1 rfl ?_
      refine zg_0_63 C ha1 dyX0_couldGo_50 ?_
      refine zr_iload_n C dyX0_couldGo_53 rfl 2 rfl ?_
      refine zr_iconst C dyX0_couldGo_54 zc_i_1 ?_
      refine zr_isub C dyX0_couldGo_55 ?_
      refine zv_0_66 C hS ha1.2.1 (st := []) h ⟨Nat.le_of_ble_eq_true rfl, Nat.le_of_ble_eq_true rfl⟩ (Nat.le_of_ble_eq_true rfl) dyX0_couldGo_56 (fun r_10 h => ?_)
      exact h
    · replace h := zif_pos hc_11 h
      refine zr_bipush C dyX0_couldGo_44 zc_b_12 ?_
      refine zr_goto C dyX0_couldGo_46 (tgt := 59) (by decide) ?_
      exact h
  refine zr_icmp_ne C dyX0_couldGo_30 (tgt := 37) (by decide) (fun hc_12 => ?_) (fun hc_12 => ?_)
  · replace h := zif_neg hc_12 h
    refine zr_iconst C dyX0_couldGo_37 zc_i_0 ?_
    refine zr_sub (lv2 := [(1, .ref (B + a1)), (2, .int a2), (3, .int a3)]) [1, 2, 3] rfl ?_
    exact h
  · replace h := zif_pos hc_12 h
    refine zr_iconst C dyX0_couldGo_33 zc_i_1 ?_
    refine zr_goto C dyX0_couldGo_34 (tgt := 38) (by decide) ?_
    refine zr_sub (lv2 := [(1, .ref (B + a1)), (2, .int a2), (3, .int a3)]) [1, 2, 3] rfl ?_
    exact h
def w_Row_copyFrom (k : Nat) (n : Nat) (a1 : Nat) (a1n : Nat) (a2 : Int32) (I : zI) (K : zI → Prop) : Prop :=
  ∀ v3_1, v3_1 = (if (if (Int32.ofNat a1n) < (Int32.ofNat n) then (Int32.ofNat a1n) else (Int32.ofNat n)) < a2 then (if (Int32.ofNat a1n) < (Int32.ofNat n) then (Int32.ofNat a1n) else (Int32.ofNat n)) else a2) → (if v3_1 ≤ 0 then K I else ((0 ≤ v3_1 ∧ v3_1.toNatClampNeg ≤ a1n ∧ v3_1.toNatClampNeg ≤ n) ∧ (∀ I_2, I_2 = (zcp I (k + 1) (a1 + 1) 0 0 v3_1.toNatClampNeg) → K I_2)))
theorem dyX6_copyFrom_0 : decode cX6_copyFrom 0 = .ok (.iload_n 2, 1) := by decide +kernel
theorem dyX6_copyFrom_1 : decode cX6_copyFrom 1 = .ok (.aload_n 0, 1) := by decide +kernel
theorem dyX6_copyFrom_2 : decode cX6_copyFrom 2 = .ok (.getfield 7, 3) := by decide +kernel
theorem dyX6_copyFrom_5 : decode cX6_copyFrom 5 = .ok (.arraylength, 1) := by decide +kernel
theorem dyX6_copyFrom_6 : decode cX6_copyFrom 6 = .ok (.aload_n 1, 1) := by decide +kernel
theorem dyX6_copyFrom_7 : decode cX6_copyFrom 7 = .ok (.getfield 7, 3) := by decide +kernel
theorem dyX6_copyFrom_10 : decode cX6_copyFrom 10 = .ok (.arraylength, 1) := by decide +kernel
theorem dyX6_copyFrom_11 : decode cX6_copyFrom 11 = .ok (.invokestatic 21, 3) := by decide +kernel
theorem dyX6_copyFrom_14 : decode cX6_copyFrom 14 = .ok (.invokestatic 21, 3) := by decide +kernel
theorem dyX6_copyFrom_17 : decode cX6_copyFrom 17 = .ok (.istore_n 3, 1) := by decide +kernel
theorem dyX6_copyFrom_18 : decode cX6_copyFrom 18 = .ok (.iload_n 3, 1) := by decide +kernel
theorem dyX6_copyFrom_19 : decode cX6_copyFrom 19 = .ok (.ifCond .le 17, 3) := by decide +kernel
theorem dyX6_copyFrom_22 : decode cX6_copyFrom 22 = .ok (.aload_n 1, 1) := by decide +kernel
theorem dyX6_copyFrom_23 : decode cX6_copyFrom 23 = .ok (.getfield 7, 3) := by decide +kernel
theorem dyX6_copyFrom_26 : decode cX6_copyFrom 26 = .ok (.iconst 0, 1) := by decide +kernel
theorem dyX6_copyFrom_27 : decode cX6_copyFrom 27 = .ok (.aload_n 0, 1) := by decide +kernel
theorem dyX6_copyFrom_28 : decode cX6_copyFrom 28 = .ok (.getfield 7, 3) := by decide +kernel
theorem dyX6_copyFrom_31 : decode cX6_copyFrom 31 = .ok (.iconst 0, 1) := by decide +kernel
theorem dyX6_copyFrom_32 : decode cX6_copyFrom 32 = .ok (.iload_n 3, 1) := by decide +kernel
theorem dyX6_copyFrom_33 : decode cX6_copyFrom 33 = .ok (.invokestatic 27, 3) := by decide +kernel
theorem dyX6_copyFrom_36 : decode cX6_copyFrom 36 = .ok (.return_, 1) := by decide +kernel
theorem zsg_yX6_copyFrom : yX6_copyFrom.cls = RX6 ∧ yX6_copyFrom.cls ≠ "java/lang/invoke/MethodHandle" ∧ yX6_copyFrom.cls ≠ "java/lang/invoke/VarHandle" ∧ (parseMethodDescriptor yX6_copyFrom.desc).map (fun d => d.parameters.length) = some 2 := by decide +kernel
set_option maxRecDepth 20000 in
theorem c_Row_copyFrom {l : Launch} {D : va_G} {B : Nat} {cA : Nat → ClassId} {ad : Nat → Nat} {S : List zC} (hS : zOkX S) {k : Nat} {n : Nat} {a1 : Nat} {a1n : Nat} {a2 : Int32} {I : zI} {K : zI → Prop} (hk : zIsRow S k n) (ha1 : zIsRow S a1 a1n) (h : w_Row_copyFrom k n a1 a1n a2 I K) : Met l yX6_copyFrom (zws yX6_copyFrom cX6_copyFrom 4 none) (zrm 2 60) (zPc D B cA ad [.ref (B + k), .ref (B + a1), .int a2] S I) (zQc D B cA (zqV S K)) 0 0 (fun q => B ≤ q) := by
  refine zm_of (cc := cX6_copyFrom) (maxL := 4) (ret := none) (by decide +kernel) rfl (Nat.le_of_ble_eq_true rfl) trivial ?_
  intro p e s m args below meth c C _
  unfold w_Row_copyFrom at h
  show zX p l e (zrm 2 60) s m args below meth c (MQ below (zQc D B cA (zqV S K)) args s 0 0 (fun q => B ≤ q)) D B cA 4 0 0 S I [(0, .ref (B + k)), (1, .ref (B + a1)), (2, .int a2)] [] 0
  refine zr_iload_n C dyX6_copyFrom_0 rfl 2 rfl ?_
  refine zr_aload_n C dyX6_copyFrom_1 rfl 0 rfl ?_
  refine zg_6_7 C hk dyX6_copyFrom_2 ?_
  refine zr_alen C hk.2 dyX6_copyFrom_5 ?_
  refine zr_aload_n C dyX6_copyFrom_6 rfl 1 rfl ?_
  refine zg_6_7 C ha1 dyX6_copyFrom_7 ?_
  refine zr_alen C ha1.2 dyX6_copyFrom_10 ?_
  refine zr_mmin C zk_ml_6_21 zk_st_J_min zk_in_Math zk_cd_J_min (Nat.le_of_ble_eq_true rfl) (Nat.le_of_ble_eq_true rfl) (Nat.le_of_ble_eq_true rfl) (Nat.zero_le _) (Nat.zero_le _) dyX6_copyFrom_11 ?_
  refine zr_mmin C zk_ml_6_21 zk_st_J_min zk_in_Math zk_cd_J_min (Nat.le_of_ble_eq_true rfl) (Nat.le_of_ble_eq_true rfl) (Nat.le_of_ble_eq_true rfl) (Nat.zero_le _) (Nat.zero_le _) dyX6_copyFrom_14 ?_
  refine zn_istore_n C (fun v3_1 => [(3, .int v3_1), (0, .ref (B + k)), (1, .ref (B + a1)), (2, .int a2)]) dyX6_copyFrom_17 rfl (Nat.le_of_ble_eq_true rfl) (fun _ => rfl) (fun v3_1 ev3_1 => ?_)
  replace h := h v3_1 ev3_1
  refine zr_iload_n C dyX6_copyFrom_18 rfl 0 rfl ?_
  refine zr_if_le C dyX6_copyFrom_19 (tgt := 36) (by decide) (fun hc_3 => ?_) (fun hc_3 => ?_)
  · replace h := zif_pos hc_3 h
    exact zr_vret C rfl dyX6_copyFrom_36 ⟨rfl, rfl, h⟩
  · replace h := zif_neg hc_3 h
    refine zr_aload_n C dyX6_copyFrom_22 rfl 2 rfl ?_
    refine zg_6_7 C ha1 dyX6_copyFrom_23 ?_
    refine zr_iconst C dyX6_copyFrom_26 zc_i_0 ?_
    refine zr_aload_n C dyX6_copyFrom_27 rfl 1 rfl ?_
    refine zg_6_7 C hk dyX6_copyFrom_28 ?_
    refine zr_iconst C dyX6_copyFrom_31 zc_i_0 ?_
    refine zr_iload_n C dyX6_copyFrom_32 rfl 0 rfl ?_
    refine zr_acopy C (k0 := (a1 + 1)) (k := (k + 1)) (n0 := a1n) (n := n) ha1.2 hk.2 h.1 zk_ml_6_27 zk_nat zk_st_J_arraycopy zk_in_System ⟨Nat.le_of_ble_eq_true rfl, Nat.le_of_ble_eq_true rfl⟩ dyX6_copyFrom_33 ?_
    replace h := h.2
    refine zn_mem C (fun I_2 eI_2 => ?_)
    replace h := h I_2 eI_2
    exact zr_vret C rfl dyX6_copyFrom_36 ⟨rfl, rfl, h⟩
theorem zg_10_20 {p : Program} {l : Launch} {e : Env} {R : Room} {s : State} {m : MethodId} {args : Array Value} {below : List Frame} {meth : Method} {c : Code} {Q : State → Prop} {D : va_G} {B : Nat} {cA : Nat → ClassId} {ad : Nat → Nat} {cc : ByteArray} {nL : Nat} {ret : Option FieldType} {S : List zC} {I : zI} {lv : List (Nat × Value)} {st : List Value} {pc : Nat} (C : zCx p s m args meth c cc nL RX10 ret D B cA ad) {k : Nat} (hk : zIsTrial S k) (hd : decode cc pc = .ok (.getfield 20, 3)) (kk : zX p l e R s m args below meth c Q D B cA nL 0 0 S I lv (.int (I.1 k 1) :: st) (pc + 3)) : zX p l e R s m args below meth c Q D B cA nL 0 0 S I lv (.ref (B + k) :: st) pc :=
  zr_geti C (ci := 10) (Cn := RX10) (T := TX10) (N := 2) (k := k) (j := 1) (fs := [some (some (k + 1)), none]) rfl zin_10 (Nat.le_of_ble_eq_true rfl) rfl hk.1 rfl zk_fl_10_20 hd kk
theorem zv_10_28 {p : Program} {l : Launch} {e : Env} {R : Room} {s : State} {m : MethodId} {args : Array Value} {below : List Frame} {meth : Method} {c : Code} {Q : State → Prop} {D : va_G} {B : Nat} {cA : Nat → ClassId} {ad : Nat → Nat} {cc : ByteArray} {nL : Nat} {ret : Option FieldType} {S : List zC} {I : zI} {lv : List (Nat × Value)} {st : List Value} {pc : Nat} (C : zCx p s m args meth c cc nL RX10 ret D B cA ad) {K : zI → Prop} {xk : Nat} {xn : Nat} {xa1 : Nat} {xa1n : Nat} {xa2 : Int32} (hS : zOkX S) (xhk : zIsRow S xk xn) (xha1 : zIsRow S xa1 xa1n) (h : w_Row_copyFrom xk xn xa1 xa1n xa2 I K) (hR : 2 + 1 ≤ R.frames ∧ 8 + (4 + 11) + (60) ≤ R.locals) (hw : (st.map fun v => v.category).sum ≤ 8) (hd : decode cc pc = .ok (.invokevirtual 28, 3)) (kk : ∀ I2, K I2 → zX p l e R s m args below meth c Q D B cA nL 0 0 S I2 lv st (pc + 3)) : zX p l e R s m args below meth c Q D B cA nL 0 0 S I lv (.int xa2 :: .ref (B + xa1) :: .ref (B + xk) :: st) pc :=
  have hf : 0 ≤ R.cells ∧ 0 ≤ R.slots := ⟨Nat.zero_le _, Nat.zero_le _⟩
  zc_VqV C (ci := 6) (q := (RX6, TX6, 1)) (k := xk) (fs := [some (some (xk + 1))]) (As := [.ref (B + xa1), .int xa2]) (st := st) rfl xhk.1 (c_Row_copyFrom hS xhk xha1 h) (zgV zk_ml_10_28 zk_im_yX6_copyFrom zk_se_yX6_copyFrom zk_in_6 zk_cd_yX6_copyFrom) zsg_yX6_copyFrom hR rfl rfl hw hd hf kk
def w_Trial_copyFrom (k : Nat) (a1 : Nat) (I : zI) (K : zI → Prop) : Prop :=
  ∀ I_1, I_1 = (zu I k 1 (I.1 a1 1)) → w_Row_copyFrom (k + 1) 300 (a1 + 1) 300 ((I_1.1 k 1) + 1) I_1 (fun I_2 => K I_2)
theorem dyX10_copyFrom_0 : decode cX10_copyFrom 0 = .ok (.aload_n 0, 1) := by decide +kernel
theorem dyX10_copyFrom_1 : decode cX10_copyFrom 1 = .ok (.aload_n 1, 1) := by decide +kernel
theorem dyX10_copyFrom_2 : decode cX10_copyFrom 2 = .ok (.getfield 20, 3) := by decide +kernel
theorem dyX10_copyFrom_5 : decode cX10_copyFrom 5 = .ok (.putfield 20, 3) := by decide +kernel
theorem dyX10_copyFrom_8 : decode cX10_copyFrom 8 = .ok (.aload_n 0, 1) := by decide +kernel
theorem dyX10_copyFrom_9 : decode cX10_copyFrom 9 = .ok (.getfield 14, 3) := by decide +kernel
theorem dyX10_copyFrom_12 : decode cX10_copyFrom 12 = .ok (.aload_n 1, 1) := by decide +kernel
theorem dyX10_copyFrom_13 : decode cX10_copyFrom 13 = .ok (.getfield 14, 3) := by decide +kernel
theorem dyX10_copyFrom_16 : decode cX10_copyFrom 16 = .ok (.aload_n 0, 1) := by decide +kernel
theorem dyX10_copyFrom_17 : decode cX10_copyFrom 17 = .ok (.getfield 20, 3) := by decide +kernel
theorem dyX10_copyFrom_20 : decode cX10_copyFrom 20 = .ok (.iconst 1, 1) := by decide +kernel
theorem dyX10_copyFrom_21 : decode cX10_copyFrom 21 = .ok (.iadd, 1) := by decide +kernel
theorem dyX10_copyFrom_22 : decode cX10_copyFrom 22 = .ok (.invokevirtual 28, 3) := by decide +kernel
theorem dyX10_copyFrom_25 : decode cX10_copyFrom 25 = .ok (.return_, 1) := by decide +kernel
theorem zsg_yX10_copyFrom : yX10_copyFrom.cls = RX10 ∧ yX10_copyFrom.cls ≠ "java/lang/invoke/MethodHandle" ∧ yX10_copyFrom.cls ≠ "java/lang/invoke/VarHandle" ∧ (parseMethodDescriptor yX10_copyFrom.desc).map (fun d => d.parameters.length) = some 1 := by decide +kernel
set_option maxRecDepth 20000 in
theorem c_Trial_copyFrom {l : Launch} {D : va_G} {B : Nat} {cA : Nat → ClassId} {ad : Nat → Nat} {S : List zC} (hS : zOkX S) {k : Nat} {a1 : Nat} {I : zI} {K : zI → Prop} (hk : zIsTrial S k) (ha1 : zIsTrial S a1) (h : w_Trial_copyFrom k a1 I K) : Met l yX10_copyFrom (zws yX10_copyFrom cX10_copyFrom 2 none) (zrm 3 83) (zPc D B cA ad [.ref (B + k), .ref (B + a1)] S I) (zQc D B cA (zqV S K)) 0 0 (fun q => B ≤ q) := by
  refine zm_of (cc := cX10_copyFrom) (maxL := 2) (ret := none) (by decide +kernel) rfl (Nat.le_of_ble_eq_true rfl) trivial ?_
  intro p e s m args below meth c C _
  unfold w_Trial_copyFrom at h
  show zX p l e (zrm 3 83) s m args below meth c (MQ below (zQc D B cA (zqV S K)) args s 0 0 (fun q => B ≤ q)) D B cA 2 0 0 S I [(0, .ref (B + k)), (1, .ref (B + a1))] [] 0
  refine zr_aload_n C dyX10_copyFrom_0 rfl 0 rfl ?_
  refine zr_aload_n C dyX10_copyFrom_1 rfl 1 rfl ?_
  refine zg_10_20 C ha1 dyX10_copyFrom_2 ?_
  refine zp_10_20 C hk dyX10_copyFrom_5 ?_
  refine zn_mem C (fun I_1 eI_1 => ?_)
  replace h := h I_1 eI_1
  refine zr_aload_n C dyX10_copyFrom_8 rfl 0 rfl ?_
  refine zg_10_14 C hk dyX10_copyFrom_9 ?_
  refine zr_aload_n C dyX10_copyFrom_12 rfl 1 rfl ?_
  refine zg_10_14 C ha1 dyX10_copyFrom_13 ?_
  refine zr_aload_n C dyX10_copyFrom_16 rfl 0 rfl ?_
  refine zg_10_20 C hk dyX10_copyFrom_17 ?_
  refine zr_iconst C dyX10_copyFrom_20 zc_i_1 ?_
  refine zr_iadd C dyX10_copyFrom_21 ?_
  refine zv_10_28 C hS hk.2 ha1.2 (st := []) h ⟨Nat.le_of_ble_eq_true rfl, Nat.le_of_ble_eq_true rfl⟩ (Nat.le_of_ble_eq_true rfl) dyX10_copyFrom_22 (fun I_2 h => ?_)
  exact zr_vret C rfl dyX10_copyFrom_25 ⟨rfl, rfl, h⟩
def w_Desk_leadsTo (a0 : Int32) (a1 : Int32) (I : zI) (K : Int32 → Prop) : Prop :=
  (if a0 < 0 then K 0 else (if 21 ≤ a0 then K 0 else (if a1 < 0 then K 0 else (if a1 < 17 then (∀ v2_1, v2_1 = ((a0 * 17) + a1) → (if 357 ≤ v2_1 then K 0 else (vp_in v2_1 zst_LEADS.length ∧ (K (zst_LEADS.getD (Int32.toNatClampNeg v2_1) 0))))) else K 0))))
theorem dyX11_leadsTo_0 : decode cX11_leadsTo 0 = .ok (.iload_n 0, 1) := by decide +kernel
theorem dyX11_leadsTo_1 : decode cX11_leadsTo 1 = .ok (.ifCond .lt 19, 3) := by decide +kernel
theorem dyX11_leadsTo_4 : decode cX11_leadsTo 4 = .ok (.iload_n 0, 1) := by decide +kernel
theorem dyX11_leadsTo_5 : decode cX11_leadsTo 5 = .ok (.bipush 21, 2) := by decide +kernel
theorem dyX11_leadsTo_7 : decode cX11_leadsTo 7 = .ok (.if_icmp .ge 13, 3) := by decide +kernel
theorem dyX11_leadsTo_10 : decode cX11_leadsTo 10 = .ok (.iload_n 1, 1) := by decide +kernel
theorem dyX11_leadsTo_11 : decode cX11_leadsTo 11 = .ok (.ifCond .lt 9, 3) := by decide +kernel
theorem dyX11_leadsTo_14 : decode cX11_leadsTo 14 = .ok (.iload_n 1, 1) := by decide +kernel
theorem dyX11_leadsTo_15 : decode cX11_leadsTo 15 = .ok (.bipush 17, 2) := by decide +kernel
theorem dyX11_leadsTo_17 : decode cX11_leadsTo 17 = .ok (.if_icmp .lt 5, 3) := by decide +kernel
theorem dyX11_leadsTo_20 : decode cX11_leadsTo 20 = .ok (.iconst 0, 1) := by decide +kernel
theorem dyX11_leadsTo_21 : decode cX11_leadsTo 21 = .ok (.ireturn, 1) := by decide +kernel
theorem dyX11_leadsTo_22 : decode cX11_leadsTo 22 = .ok (.iload_n 0, 1) := by decide +kernel
theorem dyX11_leadsTo_23 : decode cX11_leadsTo 23 = .ok (.bipush 17, 2) := by decide +kernel
theorem dyX11_leadsTo_25 : decode cX11_leadsTo 25 = .ok (.imul, 1) := by decide +kernel
theorem dyX11_leadsTo_26 : decode cX11_leadsTo 26 = .ok (.iload_n 1, 1) := by decide +kernel
theorem dyX11_leadsTo_27 : decode cX11_leadsTo 27 = .ok (.iadd, 1) := by decide +kernel
theorem dyX11_leadsTo_28 : decode cX11_leadsTo 28 = .ok (.istore_n 2, 1) := by decide +kernel
theorem dyX11_leadsTo_29 : decode cX11_leadsTo 29 = .ok (.iload_n 2, 1) := by decide +kernel
theorem dyX11_leadsTo_30 : decode cX11_leadsTo 30 = .ok (.getstatic 446, 3) := by decide +kernel
theorem dyX11_leadsTo_33 : decode cX11_leadsTo 33 = .ok (.arraylength, 1) := by decide +kernel
theorem dyX11_leadsTo_34 : decode cX11_leadsTo 34 = .ok (.if_icmp .ge 11, 3) := by decide +kernel
theorem dyX11_leadsTo_37 : decode cX11_leadsTo 37 = .ok (.getstatic 446, 3) := by decide +kernel
theorem dyX11_leadsTo_40 : decode cX11_leadsTo 40 = .ok (.iload_n 2, 1) := by decide +kernel
theorem dyX11_leadsTo_41 : decode cX11_leadsTo 41 = .ok (.iaload, 1) := by decide +kernel
theorem dyX11_leadsTo_42 : decode cX11_leadsTo 42 = .ok (.goto 4, 3) := by decide +kernel
theorem dyX11_leadsTo_45 : decode cX11_leadsTo 45 = .ok (.iconst 0, 1) := by decide +kernel
theorem dyX11_leadsTo_46 : decode cX11_leadsTo 46 = .ok (.ireturn, 1) := by decide +kernel
theorem zsg_yX11_leadsTo : yX11_leadsTo.cls ≠ "java/lang/invoke/MethodHandle" ∧ yX11_leadsTo.cls ≠ "java/lang/invoke/VarHandle" ∧ (parseMethodDescriptor yX11_leadsTo.desc).map (fun d => d.parameters.length) = some 2 := by decide +kernel
set_option maxRecDepth 20000 in
theorem c_Desk_leadsTo {l : Launch} {D : va_G} {B : Nat} {cA : Nat → ClassId} {ad : Nat → Nat} {S : List zC} (hS : zOkX S) {a0 : Int32} {a1 : Int32} {I : zI} {K : Int32 → Prop}  (h : w_Desk_leadsTo a0 a1 I K) : Met l yX11_leadsTo (zws yX11_leadsTo cX11_leadsTo 3 (some .int)) (zrm 0 0) (zPc D B cA ad [.int a0, .int a1] S I) (zQc D B cA (zpI S I K)) 0 0 (fun q => B ≤ q) := by
  refine zm_of (cc := cX11_leadsTo) (maxL := 3) (ret := (some .int)) (by decide +kernel) rfl (Nat.le_of_ble_eq_true rfl) trivial ?_
  intro p e s m args below meth c C _
  unfold w_Desk_leadsTo at h
  show zX p l e (zrm 0 0) s m args below meth c (MQ below (zQc D B cA (zpI S I K)) args s 0 0 (fun q => B ≤ q)) D B cA 3 0 0 S I [(0, .int a0), (1, .int a1)] [] 0
  refine zr_iload_n C dyX11_leadsTo_0 rfl 0 rfl ?_
  refine zr_if_lt C dyX11_leadsTo_1 (tgt := 20) (by decide) (fun hc_6 => ?_) (fun hc_6 => ?_)
  · replace h := zif_pos hc_6 h
    refine zr_iconst C dyX11_leadsTo_20 zc_i_0 ?_
    exact zr_iret C rfl dyX11_leadsTo_21 ⟨rfl, rfl, _, rfl, h⟩
  · replace h := zif_neg hc_6 h
    refine zr_iload_n C dyX11_leadsTo_4 rfl 0 rfl ?_
    refine zr_bipush C dyX11_leadsTo_5 zc_b_21 ?_
    refine zr_icmp_ge C dyX11_leadsTo_7 (tgt := 20) (by decide) (fun hc_5 => ?_) (fun hc_5 => ?_)
    · replace h := zif_pos hc_5 h
      refine zr_iconst C dyX11_leadsTo_20 zc_i_0 ?_
      exact zr_iret C rfl dyX11_leadsTo_21 ⟨rfl, rfl, _, rfl, h⟩
    · replace h := zif_neg hc_5 h
      refine zr_iload_n C dyX11_leadsTo_10 rfl 1 rfl ?_
      refine zr_if_lt C dyX11_leadsTo_11 (tgt := 20) (by decide) (fun hc_4 => ?_) (fun hc_4 => ?_)
      · replace h := zif_pos hc_4 h
        refine zr_iconst C dyX11_leadsTo_20 zc_i_0 ?_
        exact zr_iret C rfl dyX11_leadsTo_21 ⟨rfl, rfl, _, rfl, h⟩
      · replace h := zif_neg hc_4 h
        refine zr_iload_n C dyX11_leadsTo_14 rfl 1 rfl ?_
        refine zr_bipush C dyX11_leadsTo_15 zc_b_17 ?_
        refine zr_icmp_lt C dyX11_leadsTo_17 (tgt := 22) (by decide) (fun hc_3 => ?_) (fun hc_3 => ?_)
        · replace h := zif_pos hc_3 h
          refine zr_iload_n C dyX11_leadsTo_22 rfl 0 rfl ?_
          refine zr_bipush C dyX11_leadsTo_23 zc_b_17 ?_
          refine zr_imul C dyX11_leadsTo_25 ?_
          refine zr_iload_n C dyX11_leadsTo_26 rfl 1 rfl ?_
          refine zr_iadd C dyX11_leadsTo_27 ?_
          refine zn_istore_n C (fun v2_1 => [(2, .int v2_1), (0, .int a0), (1, .int a1)]) dyX11_leadsTo_28 rfl (Nat.le_of_ble_eq_true rfl) (fun _ => rfl) (fun v2_1 ev2_1 => ?_)
          replace h := h v2_1 ev2_1
          refine zr_iload_n C dyX11_leadsTo_29 rfl 0 rfl ?_
          refine zr_stat C (i := 0) (q := ("RegrowDesk", "LEADS", zst_LEADS)) rfl rfl zk_fl_11_446 dyX11_leadsTo_30 ?_
          refine zr_stlen C (i := 0) rfl (v := 357) rfl dyX11_leadsTo_33 ?_
          refine zr_icmp_ge C dyX11_leadsTo_34 (tgt := 45) (by decide) (fun hc_2 => ?_) (fun hc_2 => ?_)
          · replace h := zif_pos hc_2 h
            refine zr_iconst C dyX11_leadsTo_45 zc_i_0 ?_
            exact zr_iret C rfl dyX11_leadsTo_46 ⟨rfl, rfl, _, rfl, h⟩
          · replace h := zif_neg hc_2 h
            refine zr_stat C (i := 0) (q := ("RegrowDesk", "LEADS", zst_LEADS)) rfl rfl zk_fl_11_446 dyX11_leadsTo_37 ?_
            refine zr_iload_n C dyX11_leadsTo_40 rfl 0 rfl ?_
            refine zr_stld C (i := 0) (q := ("RegrowDesk", "LEADS", zst_LEADS)) rfl h.1 dyX11_leadsTo_41 ?_
            replace h := h.2
            refine zr_goto C dyX11_leadsTo_42 (tgt := 46) (by decide) ?_
            exact zr_iret C rfl dyX11_leadsTo_46 ⟨rfl, rfl, _, rfl, h⟩
        · replace h := zif_neg hc_3 h
          refine zr_iconst C dyX11_leadsTo_20 zc_i_0 ?_
          exact zr_iret C rfl dyX11_leadsTo_21 ⟨rfl, rfl, _, rfl, h⟩
def w_Desk_ruleAt (a0 : Int32) (I : zI) (K : Int32 → Prop) : Prop :=
  (if a0 < 0 then (K (-1)) else (if 21 ≤ a0 then (K (-1)) else (vp_in a0 zst_STATE_RULE.length ∧ (K (zst_STATE_RULE.getD (Int32.toNatClampNeg a0) 0)))))
theorem dyX11_ruleAt_0 : decode cX11_ruleAt 0 = .ok (.iload_n 0, 1) := by decide +kernel
theorem dyX11_ruleAt_1 : decode cX11_ruleAt 1 = .ok (.ifCond .lt 19, 3) := by decide +kernel
theorem dyX11_ruleAt_4 : decode cX11_ruleAt 4 = .ok (.iload_n 0, 1) := by decide +kernel
theorem dyX11_ruleAt_5 : decode cX11_ruleAt 5 = .ok (.getstatic 450, 3) := by decide +kernel
theorem dyX11_ruleAt_8 : decode cX11_ruleAt 8 = .ok (.arraylength, 1) := by decide +kernel
theorem dyX11_ruleAt_9 : decode cX11_ruleAt 9 = .ok (.if_icmp .ge 11, 3) := by decide +kernel
theorem dyX11_ruleAt_12 : decode cX11_ruleAt 12 = .ok (.getstatic 450, 3) := by decide +kernel
theorem dyX11_ruleAt_15 : decode cX11_ruleAt 15 = .ok (.iload_n 0, 1) := by decide +kernel
theorem dyX11_ruleAt_16 : decode cX11_ruleAt 16 = .ok (.iaload, 1) := by decide +kernel
theorem dyX11_ruleAt_17 : decode cX11_ruleAt 17 = .ok (.goto 4, 3) := by decide +kernel
theorem dyX11_ruleAt_20 : decode cX11_ruleAt 20 = .ok (.iconst (-1), 1) := by decide +kernel
theorem dyX11_ruleAt_21 : decode cX11_ruleAt 21 = .ok (.ireturn, 1) := by decide +kernel
theorem zsg_yX11_ruleAt : yX11_ruleAt.cls ≠ "java/lang/invoke/MethodHandle" ∧ yX11_ruleAt.cls ≠ "java/lang/invoke/VarHandle" ∧ (parseMethodDescriptor yX11_ruleAt.desc).map (fun d => d.parameters.length) = some 1 := by decide +kernel
set_option maxRecDepth 20000 in
theorem c_Desk_ruleAt {l : Launch} {D : va_G} {B : Nat} {cA : Nat → ClassId} {ad : Nat → Nat} {S : List zC} (hS : zOkX S) {a0 : Int32} {I : zI} {K : Int32 → Prop}  (h : w_Desk_ruleAt a0 I K) : Met l yX11_ruleAt (zws yX11_ruleAt cX11_ruleAt 1 (some .int)) (zrm 0 0) (zPc D B cA ad [.int a0] S I) (zQc D B cA (zpI S I K)) 0 0 (fun q => B ≤ q) := by
  refine zm_of (cc := cX11_ruleAt) (maxL := 1) (ret := (some .int)) (by decide +kernel) rfl (Nat.le_of_ble_eq_true rfl) trivial ?_
  intro p e s m args below meth c C _
  unfold w_Desk_ruleAt at h
  show zX p l e (zrm 0 0) s m args below meth c (MQ below (zQc D B cA (zpI S I K)) args s 0 0 (fun q => B ≤ q)) D B cA 1 0 0 S I [(0, .int a0)] [] 0
  refine zr_iload_n C dyX11_ruleAt_0 rfl 0 rfl ?_
  refine zr_if_lt C dyX11_ruleAt_1 (tgt := 20) (by decide) (fun hc_2 => ?_) (fun hc_2 => ?_)
  · replace h := zif_pos hc_2 h
    refine zr_iconst C dyX11_ruleAt_20 zc_i_m1 ?_
    exact zr_iret C rfl dyX11_ruleAt_21 ⟨rfl, rfl, _, rfl, h⟩
  · replace h := zif_neg hc_2 h
    refine zr_iload_n C dyX11_ruleAt_4 rfl 0 rfl ?_
    refine zr_stat C (i := 1) (q := ("RegrowDesk", "STATE_RULE", zst_STATE_RULE)) rfl rfl zk_fl_11_450 dyX11_ruleAt_5 ?_
    refine zr_stlen C (i := 1) rfl (v := 21) rfl dyX11_ruleAt_8 ?_
    refine zr_icmp_ge C dyX11_ruleAt_9 (tgt := 20) (by decide) (fun hc_1 => ?_) (fun hc_1 => ?_)
    · replace h := zif_pos hc_1 h
      refine zr_iconst C dyX11_ruleAt_20 zc_i_m1 ?_
      exact zr_iret C rfl dyX11_ruleAt_21 ⟨rfl, rfl, _, rfl, h⟩
    · replace h := zif_neg hc_1 h
      refine zr_stat C (i := 1) (q := ("RegrowDesk", "STATE_RULE", zst_STATE_RULE)) rfl rfl zk_fl_11_450 dyX11_ruleAt_12 ?_
      refine zr_iload_n C dyX11_ruleAt_15 rfl 0 rfl ?_
      refine zr_stld C (i := 1) (q := ("RegrowDesk", "STATE_RULE", zst_STATE_RULE)) rfl h.1 dyX11_ruleAt_16 ?_
      replace h := h.2
      refine zr_goto C dyX11_ruleAt_17 (tgt := 21) (by decide) ?_
      exact zr_iret C rfl dyX11_ruleAt_21 ⟨rfl, rfl, _, rfl, h⟩
def w_Desk_lengthOf (a0 : Int32) (I : zI) (K : Int32 → Prop) : Prop :=
  (if a0 < 0 then K 0 else (if 11 ≤ a0 then K 0 else (vp_in a0 zst_RULE_LENGTH.length ∧ (K (zst_RULE_LENGTH.getD (Int32.toNatClampNeg a0) 0)))))
theorem dyX11_lengthOf_0 : decode cX11_lengthOf 0 = .ok (.iload_n 0, 1) := by decide +kernel
theorem dyX11_lengthOf_1 : decode cX11_lengthOf 1 = .ok (.ifCond .lt 19, 3) := by decide +kernel
theorem dyX11_lengthOf_4 : decode cX11_lengthOf 4 = .ok (.iload_n 0, 1) := by decide +kernel
theorem dyX11_lengthOf_5 : decode cX11_lengthOf 5 = .ok (.getstatic 456, 3) := by decide +kernel
theorem dyX11_lengthOf_8 : decode cX11_lengthOf 8 = .ok (.arraylength, 1) := by decide +kernel
theorem dyX11_lengthOf_9 : decode cX11_lengthOf 9 = .ok (.if_icmp .ge 11, 3) := by decide +kernel
theorem dyX11_lengthOf_12 : decode cX11_lengthOf 12 = .ok (.getstatic 456, 3) := by decide +kernel
theorem dyX11_lengthOf_15 : decode cX11_lengthOf 15 = .ok (.iload_n 0, 1) := by decide +kernel
theorem dyX11_lengthOf_16 : decode cX11_lengthOf 16 = .ok (.iaload, 1) := by decide +kernel
theorem dyX11_lengthOf_17 : decode cX11_lengthOf 17 = .ok (.goto 4, 3) := by decide +kernel
theorem dyX11_lengthOf_20 : decode cX11_lengthOf 20 = .ok (.iconst 0, 1) := by decide +kernel
theorem dyX11_lengthOf_21 : decode cX11_lengthOf 21 = .ok (.ireturn, 1) := by decide +kernel
theorem zsg_yX11_lengthOf : yX11_lengthOf.cls ≠ "java/lang/invoke/MethodHandle" ∧ yX11_lengthOf.cls ≠ "java/lang/invoke/VarHandle" ∧ (parseMethodDescriptor yX11_lengthOf.desc).map (fun d => d.parameters.length) = some 1 := by decide +kernel
set_option maxRecDepth 20000 in
theorem c_Desk_lengthOf {l : Launch} {D : va_G} {B : Nat} {cA : Nat → ClassId} {ad : Nat → Nat} {S : List zC} (hS : zOkX S) {a0 : Int32} {I : zI} {K : Int32 → Prop}  (h : w_Desk_lengthOf a0 I K) : Met l yX11_lengthOf (zws yX11_lengthOf cX11_lengthOf 1 (some .int)) (zrm 0 0) (zPc D B cA ad [.int a0] S I) (zQc D B cA (zpI S I K)) 0 0 (fun q => B ≤ q) := by
  refine zm_of (cc := cX11_lengthOf) (maxL := 1) (ret := (some .int)) (by decide +kernel) rfl (Nat.le_of_ble_eq_true rfl) trivial ?_
  intro p e s m args below meth c C _
  unfold w_Desk_lengthOf at h
  show zX p l e (zrm 0 0) s m args below meth c (MQ below (zQc D B cA (zpI S I K)) args s 0 0 (fun q => B ≤ q)) D B cA 1 0 0 S I [(0, .int a0)] [] 0
  refine zr_iload_n C dyX11_lengthOf_0 rfl 0 rfl ?_
  refine zr_if_lt C dyX11_lengthOf_1 (tgt := 20) (by decide) (fun hc_2 => ?_) (fun hc_2 => ?_)
  · replace h := zif_pos hc_2 h
    refine zr_iconst C dyX11_lengthOf_20 zc_i_0 ?_
    exact zr_iret C rfl dyX11_lengthOf_21 ⟨rfl, rfl, _, rfl, h⟩
  · replace h := zif_neg hc_2 h
    refine zr_iload_n C dyX11_lengthOf_4 rfl 0 rfl ?_
    refine zr_stat C (i := 4) (q := ("RegrowDesk", "RULE_LENGTH", zst_RULE_LENGTH)) rfl rfl zk_fl_11_456 dyX11_lengthOf_5 ?_
    refine zr_stlen C (i := 4) rfl (v := 11) rfl dyX11_lengthOf_8 ?_
    refine zr_icmp_ge C dyX11_lengthOf_9 (tgt := 20) (by decide) (fun hc_1 => ?_) (fun hc_1 => ?_)
    · replace h := zif_pos hc_1 h
      refine zr_iconst C dyX11_lengthOf_20 zc_i_0 ?_
      exact zr_iret C rfl dyX11_lengthOf_21 ⟨rfl, rfl, _, rfl, h⟩
    · replace h := zif_neg hc_1 h
      refine zr_stat C (i := 4) (q := ("RegrowDesk", "RULE_LENGTH", zst_RULE_LENGTH)) rfl rfl zk_fl_11_456 dyX11_lengthOf_12 ?_
      refine zr_iload_n C dyX11_lengthOf_15 rfl 0 rfl ?_
      refine zr_stld C (i := 4) (q := ("RegrowDesk", "RULE_LENGTH", zst_RULE_LENGTH)) rfl h.1 dyX11_lengthOf_16 ?_
      replace h := h.2
      refine zr_goto C dyX11_lengthOf_17 (tgt := 21) (by decide) ?_
      exact zr_iret C rfl dyX11_lengthOf_21 ⟨rfl, rfl, _, rfl, h⟩
def w_Desk_symbolOf (a0 : Int32) (I : zI) (K : Int32 → Prop) : Prop :=
  (if a0 < 0 then K 0 else (if 11 ≤ a0 then K 0 else (vp_in a0 zst_RULE_SYMBOL.length ∧ (K (zst_RULE_SYMBOL.getD (Int32.toNatClampNeg a0) 0)))))
theorem dyX11_symbolOf_0 : decode cX11_symbolOf 0 = .ok (.iload_n 0, 1) := by decide +kernel
theorem dyX11_symbolOf_1 : decode cX11_symbolOf 1 = .ok (.ifCond .lt 19, 3) := by decide +kernel
theorem dyX11_symbolOf_4 : decode cX11_symbolOf 4 = .ok (.iload_n 0, 1) := by decide +kernel
theorem dyX11_symbolOf_5 : decode cX11_symbolOf 5 = .ok (.getstatic 453, 3) := by decide +kernel
theorem dyX11_symbolOf_8 : decode cX11_symbolOf 8 = .ok (.arraylength, 1) := by decide +kernel
theorem dyX11_symbolOf_9 : decode cX11_symbolOf 9 = .ok (.if_icmp .ge 11, 3) := by decide +kernel
theorem dyX11_symbolOf_12 : decode cX11_symbolOf 12 = .ok (.getstatic 453, 3) := by decide +kernel
theorem dyX11_symbolOf_15 : decode cX11_symbolOf 15 = .ok (.iload_n 0, 1) := by decide +kernel
theorem dyX11_symbolOf_16 : decode cX11_symbolOf 16 = .ok (.iaload, 1) := by decide +kernel
theorem dyX11_symbolOf_17 : decode cX11_symbolOf 17 = .ok (.goto 4, 3) := by decide +kernel
theorem dyX11_symbolOf_20 : decode cX11_symbolOf 20 = .ok (.iconst 0, 1) := by decide +kernel
theorem dyX11_symbolOf_21 : decode cX11_symbolOf 21 = .ok (.ireturn, 1) := by decide +kernel
theorem zsg_yX11_symbolOf : yX11_symbolOf.cls ≠ "java/lang/invoke/MethodHandle" ∧ yX11_symbolOf.cls ≠ "java/lang/invoke/VarHandle" ∧ (parseMethodDescriptor yX11_symbolOf.desc).map (fun d => d.parameters.length) = some 1 := by decide +kernel
set_option maxRecDepth 20000 in
theorem c_Desk_symbolOf {l : Launch} {D : va_G} {B : Nat} {cA : Nat → ClassId} {ad : Nat → Nat} {S : List zC} (hS : zOkX S) {a0 : Int32} {I : zI} {K : Int32 → Prop}  (h : w_Desk_symbolOf a0 I K) : Met l yX11_symbolOf (zws yX11_symbolOf cX11_symbolOf 1 (some .int)) (zrm 0 0) (zPc D B cA ad [.int a0] S I) (zQc D B cA (zpI S I K)) 0 0 (fun q => B ≤ q) := by
  refine zm_of (cc := cX11_symbolOf) (maxL := 1) (ret := (some .int)) (by decide +kernel) rfl (Nat.le_of_ble_eq_true rfl) trivial ?_
  intro p e s m args below meth c C _
  unfold w_Desk_symbolOf at h
  show zX p l e (zrm 0 0) s m args below meth c (MQ below (zQc D B cA (zpI S I K)) args s 0 0 (fun q => B ≤ q)) D B cA 1 0 0 S I [(0, .int a0)] [] 0
  refine zr_iload_n C dyX11_symbolOf_0 rfl 0 rfl ?_
  refine zr_if_lt C dyX11_symbolOf_1 (tgt := 20) (by decide) (fun hc_2 => ?_) (fun hc_2 => ?_)
  · replace h := zif_pos hc_2 h
    refine zr_iconst C dyX11_symbolOf_20 zc_i_0 ?_
    exact zr_iret C rfl dyX11_symbolOf_21 ⟨rfl, rfl, _, rfl, h⟩
  · replace h := zif_neg hc_2 h
    refine zr_iload_n C dyX11_symbolOf_4 rfl 0 rfl ?_
    refine zr_stat C (i := 2) (q := ("RegrowDesk", "RULE_SYMBOL", zst_RULE_SYMBOL)) rfl rfl zk_fl_11_453 dyX11_symbolOf_5 ?_
    refine zr_stlen C (i := 2) rfl (v := 11) rfl dyX11_symbolOf_8 ?_
    refine zr_icmp_ge C dyX11_symbolOf_9 (tgt := 20) (by decide) (fun hc_1 => ?_) (fun hc_1 => ?_)
    · replace h := zif_pos hc_1 h
      refine zr_iconst C dyX11_symbolOf_20 zc_i_0 ?_
      exact zr_iret C rfl dyX11_symbolOf_21 ⟨rfl, rfl, _, rfl, h⟩
    · replace h := zif_neg hc_1 h
      refine zr_stat C (i := 2) (q := ("RegrowDesk", "RULE_SYMBOL", zst_RULE_SYMBOL)) rfl rfl zk_fl_11_453 dyX11_symbolOf_12 ?_
      refine zr_iload_n C dyX11_symbolOf_15 rfl 0 rfl ?_
      refine zr_stld C (i := 2) (q := ("RegrowDesk", "RULE_SYMBOL", zst_RULE_SYMBOL)) rfl h.1 dyX11_symbolOf_16 ?_
      replace h := h.2
      refine zr_goto C dyX11_symbolOf_17 (tgt := 21) (by decide) ?_
      exact zr_iret C rfl dyX11_symbolOf_21 ⟨rfl, rfl, _, rfl, h⟩
theorem zv_10_32 {p : Program} {l : Launch} {e : Env} {R : Room} {s : State} {m : MethodId} {args : Array Value} {below : List Frame} {meth : Method} {c : Code} {Q : State → Prop} {D : va_G} {B : Nat} {cA : Nat → ClassId} {ad : Nat → Nat} {cc : ByteArray} {nL : Nat} {ret : Option FieldType} {S : List zC} {I : zI} {lv : List (Nat × Value)} {st : List Value} {pc : Nat} (C : zCx p s m args meth c cc nL RX10 ret D B cA ad) {K : Int32 → Prop} {xk : Nat} {xn : Nat} {xa1 : Int32} (hS : zOkX S) (xhk : zIsRow S xk xn) (h : w_Row_get xk xn xa1 I K) (hR : 0 + 1 ≤ R.frames ∧ 8 + (2 + 11) + (0) ≤ R.locals) (hw : (st.map fun v => v.category).sum ≤ 8) (hd : decode cc pc = .ok (.invokevirtual 32, 3)) (kk : ∀ v, K v → zX p l e R s m args below meth c Q D B cA nL 0 0 S I lv (.int v :: st) (pc + 3)) : zX p l e R s m args below meth c Q D B cA nL 0 0 S I lv (.int xa1 :: .ref (B + xk) :: st) pc :=
  have hf : 0 ≤ R.cells ∧ 0 ≤ R.slots := ⟨Nat.zero_le _, Nat.zero_le _⟩
  zc_VpI C (ci := 6) (q := (RX6, TX6, 1)) (k := xk) (fs := [some (some (xk + 1))]) (As := [.int xa1]) (st := st) rfl xhk.1 (c_Row_get hS xhk h) (zgV zk_ml_10_32 zk_im_yX6_get zk_se_yX6_get zk_in_6 zk_cd_yX6_get) zsg_yX6_get hR rfl rfl hw hd hf kk
theorem zv_10_36 {p : Program} {l : Launch} {e : Env} {R : Room} {s : State} {m : MethodId} {args : Array Value} {below : List Frame} {meth : Method} {c : Code} {Q : State → Prop} {D : va_G} {B : Nat} {cA : Nat → ClassId} {ad : Nat → Nat} {cc : ByteArray} {nL : Nat} {ret : Option FieldType} {S : List zC} {I : zI} {lv : List (Nat × Value)} {st : List Value} {pc : Nat} (C : zCx p s m args meth c cc nL RX10 ret D B cA ad) {K : Int32 → Prop} {xa0 : Int32} {xa1 : Int32} (hS : zOkX S)  (h : w_Desk_leadsTo xa0 xa1 I K) (hR : 0 + 1 ≤ R.frames ∧ 8 + (3 + 11) + (0) ≤ R.locals) (hw : (st.map fun v => v.category).sum ≤ 8) (hd : decode cc pc = .ok (.invokestatic 36, 3)) (kk : ∀ v, K v → zX p l e R s m args below meth c Q D B cA nL 0 0 S I lv (.int v :: st) (pc + 3)) : zX p l e R s m args below meth c Q D B cA nL 0 0 S I lv (.int xa1 :: .int xa0 :: st) pc :=
  have hf : 0 ≤ R.cells ∧ 0 ≤ R.slots := ⟨Nat.zero_le _, Nat.zero_le _⟩
  zc_NpI C (As := [.int xa0, .int xa1]) (st := st) (c_Desk_leadsTo hS h) (zgM zk_cd_yX11_leadsTo) zk_mn_10_36 zk_st_yX11_leadsTo zk_in_11 zsg_yX11_leadsTo hR rfl rfl hw hd hf kk
theorem zv_10_40 {p : Program} {l : Launch} {e : Env} {R : Room} {s : State} {m : MethodId} {args : Array Value} {below : List Frame} {meth : Method} {c : Code} {Q : State → Prop} {D : va_G} {B : Nat} {cA : Nat → ClassId} {ad : Nat → Nat} {cc : ByteArray} {nL : Nat} {ret : Option FieldType} {S : List zC} {I : zI} {lv : List (Nat × Value)} {st : List Value} {pc : Nat} (C : zCx p s m args meth c cc nL RX10 ret D B cA ad) {K : Int32 → Prop} {xa0 : Int32} (hS : zOkX S)  (h : w_Desk_ruleAt xa0 I K) (hR : 0 + 1 ≤ R.frames ∧ 8 + (1 + 11) + (0) ≤ R.locals) (hw : (st.map fun v => v.category).sum ≤ 8) (hd : decode cc pc = .ok (.invokestatic 40, 3)) (kk : ∀ v, K v → zX p l e R s m args below meth c Q D B cA nL 0 0 S I lv (.int v :: st) (pc + 3)) : zX p l e R s m args below meth c Q D B cA nL 0 0 S I lv (.int xa0 :: st) pc :=
  have hf : 0 ≤ R.cells ∧ 0 ≤ R.slots := ⟨Nat.zero_le _, Nat.zero_le _⟩
  zc_NpI C (As := [.int xa0]) (st := st) (c_Desk_ruleAt hS h) (zgM zk_cd_yX11_ruleAt) zk_mn_10_40 zk_st_yX11_ruleAt zk_in_11 zsg_yX11_ruleAt hR rfl rfl hw hd hf kk
theorem zv_10_43 {p : Program} {l : Launch} {e : Env} {R : Room} {s : State} {m : MethodId} {args : Array Value} {below : List Frame} {meth : Method} {c : Code} {Q : State → Prop} {D : va_G} {B : Nat} {cA : Nat → ClassId} {ad : Nat → Nat} {cc : ByteArray} {nL : Nat} {ret : Option FieldType} {S : List zC} {I : zI} {lv : List (Nat × Value)} {st : List Value} {pc : Nat} (C : zCx p s m args meth c cc nL RX10 ret D B cA ad) {K : Int32 → Prop} {xa0 : Int32} (hS : zOkX S)  (h : w_Desk_lengthOf xa0 I K) (hR : 0 + 1 ≤ R.frames ∧ 8 + (1 + 11) + (0) ≤ R.locals) (hw : (st.map fun v => v.category).sum ≤ 8) (hd : decode cc pc = .ok (.invokestatic 43, 3)) (kk : ∀ v, K v → zX p l e R s m args below meth c Q D B cA nL 0 0 S I lv (.int v :: st) (pc + 3)) : zX p l e R s m args below meth c Q D B cA nL 0 0 S I lv (.int xa0 :: st) pc :=
  have hf : 0 ≤ R.cells ∧ 0 ≤ R.slots := ⟨Nat.zero_le _, Nat.zero_le _⟩
  zc_NpI C (As := [.int xa0]) (st := st) (c_Desk_lengthOf hS h) (zgM zk_cd_yX11_lengthOf) zk_mn_10_43 zk_st_yX11_lengthOf zk_in_11 zsg_yX11_lengthOf hR rfl rfl hw hd hf kk
theorem zv_10_46 {p : Program} {l : Launch} {e : Env} {R : Room} {s : State} {m : MethodId} {args : Array Value} {below : List Frame} {meth : Method} {c : Code} {Q : State → Prop} {D : va_G} {B : Nat} {cA : Nat → ClassId} {ad : Nat → Nat} {cc : ByteArray} {nL : Nat} {ret : Option FieldType} {S : List zC} {I : zI} {lv : List (Nat × Value)} {st : List Value} {pc : Nat} (C : zCx p s m args meth c cc nL RX10 ret D B cA ad) {K : Int32 → Prop} {xa0 : Int32} (hS : zOkX S)  (h : w_Desk_symbolOf xa0 I K) (hR : 0 + 1 ≤ R.frames ∧ 8 + (1 + 11) + (0) ≤ R.locals) (hw : (st.map fun v => v.category).sum ≤ 8) (hd : decode cc pc = .ok (.invokestatic 46, 3)) (kk : ∀ v, K v → zX p l e R s m args below meth c Q D B cA nL 0 0 S I lv (.int v :: st) (pc + 3)) : zX p l e R s m args below meth c Q D B cA nL 0 0 S I lv (.int xa0 :: st) pc :=
  have hf : 0 ≤ R.cells ∧ 0 ≤ R.slots := ⟨Nat.zero_le _, Nat.zero_le _⟩
  zc_NpI C (As := [.int xa0]) (st := st) (c_Desk_symbolOf hS h) (zgM zk_cd_yX11_symbolOf) zk_mn_10_46 zk_st_yX11_symbolOf zk_in_11 zsg_yX11_symbolOf hR rfl rfl hw hd hf kk
def w_Trial_accepts (k : Nat) (a1 : Int32) (I : zI) (K : Int32 → zI → Prop) : Prop :=
  ∀ (P2 : Int32 → zI → Prop), (∀ (v2_1 : Int32) (I_2 : zI), ((if 1000 ≤ v2_1 then K 0 I_2 else (w_Row_get (k + 1) 300 (I_2.1 k 1) I_2 (fun r_3 => w_Desk_leadsTo r_3 (5 + a1) I_2 (fun r_4 => w_Desk_ruleAt r_3 I_2 (fun r_5 => (if r_4 ≤ 0 then (∀ (P83 : Prop), (((if a1 = 10 then (if r_3 = 1 then K 1 I_2 else K 0 I_2) else K 0 I_2)) → P83) → (if r_5 < 0 then P83 else (w_Desk_lengthOf r_5 I_2 (fun r_8 => (if r_8 ≤ (I_2.1 k 1) then (w_Desk_lengthOf r_5 I_2 (fun r_9 => ∀ I_10, I_10 = (zu I_2 k 1 ((I_2.1 k 1) - r_9)) → ∀ I_11, I_11 = (zu I_10 k 1 ((I_10.1 k 1) + 1)) → w_Row_get (k + 1) 300 ((I_11.1 k 1) - 1) I_11 (fun r_12 => w_Desk_symbolOf r_5 I_11 (fun r_13 => w_Desk_leadsTo r_12 r_13 I_11 (fun r_14 => w_Row_set (k + 1) 300 (I_11.1 k 1) r_14 I_11 (fun I_15 => ∀ v2_16, v2_16 = (v2_1 + 1) → P2 v2_16 I_15)))))) else P83))))) else (∀ I_19, I_19 = (zu I_2 k 1 ((I_2.1 k 1) + 1)) → w_Row_set (k + 1) 300 (I_19.1 k 1) r_4 I_19 (fun I_20 => K 1 I_20))))))))) → P2 v2_1 I_2) → P2 0 I
theorem dyX10_accepts_0 : decode cX10_accepts 0 = .ok (.iconst 0, 1) := by decide +kernel
theorem dyX10_accepts_1 : decode cX10_accepts 1 = .ok (.istore_n 2, 1) := by decide +kernel
theorem dyX10_accepts_2 : decode cX10_accepts 2 = .ok (.iload_n 2, 1) := by decide +kernel
theorem dyX10_accepts_3 : decode cX10_accepts 3 = .ok (.sipush 1000, 3) := by decide +kernel
theorem dyX10_accepts_6 : decode cX10_accepts 6 = .ok (.if_icmp .ge 156, 3) := by decide +kernel
theorem dyX10_accepts_9 : decode cX10_accepts 9 = .ok (.aload_n 0, 1) := by decide +kernel
theorem dyX10_accepts_10 : decode cX10_accepts 10 = .ok (.getfield 14, 3) := by decide +kernel
theorem dyX10_accepts_13 : decode cX10_accepts 13 = .ok (.aload_n 0, 1) := by decide +kernel
theorem dyX10_accepts_14 : decode cX10_accepts 14 = .ok (.getfield 20, 3) := by decide +kernel
theorem dyX10_accepts_17 : decode cX10_accepts 17 = .ok (.invokevirtual 32, 3) := by decide +kernel
theorem dyX10_accepts_20 : decode cX10_accepts 20 = .ok (.istore_n 3, 1) := by decide +kernel
theorem dyX10_accepts_21 : decode cX10_accepts 21 = .ok (.iload_n 3, 1) := by decide +kernel
theorem dyX10_accepts_22 : decode cX10_accepts 22 = .ok (.iconst 5, 1) := by decide +kernel
theorem dyX10_accepts_23 : decode cX10_accepts 23 = .ok (.iload_n 1, 1) := by decide +kernel
theorem dyX10_accepts_24 : decode cX10_accepts 24 = .ok (.iadd, 1) := by decide +kernel
theorem dyX10_accepts_25 : decode cX10_accepts 25 = .ok (.invokestatic 36, 3) := by decide +kernel
theorem dyX10_accepts_28 : decode cX10_accepts 28 = .ok (.istore 4, 2) := by decide +kernel
theorem dyX10_accepts_30 : decode cX10_accepts 30 = .ok (.iload_n 3, 1) := by decide +kernel
theorem dyX10_accepts_31 : decode cX10_accepts 31 = .ok (.invokestatic 40, 3) := by decide +kernel
theorem dyX10_accepts_34 : decode cX10_accepts 34 = .ok (.istore 5, 2) := by decide +kernel
theorem dyX10_accepts_36 : decode cX10_accepts 36 = .ok (.iload 4, 2) := by decide +kernel
theorem dyX10_accepts_38 : decode cX10_accepts 38 = .ok (.ifCond .le 28, 3) := by decide +kernel
theorem dyX10_accepts_41 : decode cX10_accepts 41 = .ok (.aload_n 0, 1) := by decide +kernel
theorem dyX10_accepts_42 : decode cX10_accepts 42 = .ok (.dup, 1) := by decide +kernel
theorem dyX10_accepts_43 : decode cX10_accepts 43 = .ok (.getfield 20, 3) := by decide +kernel
theorem dyX10_accepts_46 : decode cX10_accepts 46 = .ok (.iconst 1, 1) := by decide +kernel
theorem dyX10_accepts_47 : decode cX10_accepts 47 = .ok (.iadd, 1) := by decide +kernel
theorem dyX10_accepts_48 : decode cX10_accepts 48 = .ok (.putfield 20, 3) := by decide +kernel
theorem dyX10_accepts_51 : decode cX10_accepts 51 = .ok (.aload_n 0, 1) := by decide +kernel
theorem dyX10_accepts_52 : decode cX10_accepts 52 = .ok (.getfield 14, 3) := by decide +kernel
theorem dyX10_accepts_55 : decode cX10_accepts 55 = .ok (.aload_n 0, 1) := by decide +kernel
theorem dyX10_accepts_56 : decode cX10_accepts 56 = .ok (.getfield 20, 3) := by decide +kernel
theorem dyX10_accepts_59 : decode cX10_accepts 59 = .ok (.iload 4, 2) := by decide +kernel
theorem dyX10_accepts_61 : decode cX10_accepts 61 = .ok (.invokevirtual 24, 3) := by decide +kernel
theorem dyX10_accepts_64 : decode cX10_accepts 64 = .ok (.iconst 1, 1) := by decide +kernel
theorem dyX10_accepts_65 : decode cX10_accepts 65 = .ok (.ireturn, 1) := by decide +kernel
theorem dyX10_accepts_66 : decode cX10_accepts 66 = .ok (.iload 5, 2) := by decide +kernel
theorem dyX10_accepts_68 : decode cX10_accepts 68 = .ok (.ifCond .lt 15, 3) := by decide +kernel
theorem dyX10_accepts_71 : decode cX10_accepts 71 = .ok (.iload 5, 2) := by decide +kernel
theorem dyX10_accepts_73 : decode cX10_accepts 73 = .ok (.invokestatic 43, 3) := by decide +kernel
theorem dyX10_accepts_76 : decode cX10_accepts 76 = .ok (.aload_n 0, 1) := by decide +kernel
theorem dyX10_accepts_77 : decode cX10_accepts 77 = .ok (.getfield 20, 3) := by decide +kernel
theorem dyX10_accepts_80 : decode cX10_accepts 80 = .ok (.if_icmp .le 20, 3) := by decide +kernel
theorem dyX10_accepts_83 : decode cX10_accepts 83 = .ok (.iload_n 1, 1) := by decide +kernel
theorem dyX10_accepts_84 : decode cX10_accepts 84 = .ok (.bipush 10, 2) := by decide +kernel
theorem dyX10_accepts_86 : decode cX10_accepts 86 = .ok (.if_icmp .ne 12, 3) := by decide +kernel
theorem dyX10_accepts_89 : decode cX10_accepts 89 = .ok (.iload_n 3, 1) := by decide +kernel
theorem dyX10_accepts_90 : decode cX10_accepts 90 = .ok (.iconst 1, 1) := by decide +kernel
theorem dyX10_accepts_91 : decode cX10_accepts 91 = .ok (.if_icmp .ne 7, 3) := by decide +kernel
theorem dyX10_accepts_94 : decode cX10_accepts 94 = .ok (.iconst 1, 1) := by decide +kernel
theorem dyX10_accepts_95 : decode cX10_accepts 95 = .ok (.goto 4, 3) := by decide +kernel
theorem dyX10_accepts_98 : decode cX10_accepts 98 = .ok (.iconst 0, 1) := by decide +kernel
theorem dyX10_accepts_99 : decode cX10_accepts 99 = .ok (.ireturn, 1) := by decide +kernel
theorem dyX10_accepts_100 : decode cX10_accepts 100 = .ok (.aload_n 0, 1) := by decide +kernel
theorem dyX10_accepts_101 : decode cX10_accepts 101 = .ok (.dup, 1) := by decide +kernel
theorem dyX10_accepts_102 : decode cX10_accepts 102 = .ok (.getfield 20, 3) := by decide +kernel
theorem dyX10_accepts_105 : decode cX10_accepts 105 = .ok (.iload 5, 2) := by decide +kernel
theorem dyX10_accepts_107 : decode cX10_accepts 107 = .ok (.invokestatic 43, 3) := by decide +kernel
theorem dyX10_accepts_110 : decode cX10_accepts 110 = .ok (.isub, 1) := by decide +kernel
theorem dyX10_accepts_111 : decode cX10_accepts 111 = .ok (.putfield 20, 3) := by decide +kernel
theorem dyX10_accepts_114 : decode cX10_accepts 114 = .ok (.aload_n 0, 1) := by decide +kernel
theorem dyX10_accepts_115 : decode cX10_accepts 115 = .ok (.dup, 1) := by decide +kernel
theorem dyX10_accepts_116 : decode cX10_accepts 116 = .ok (.getfield 20, 3) := by decide +kernel
theorem dyX10_accepts_119 : decode cX10_accepts 119 = .ok (.iconst 1, 1) := by decide +kernel
theorem dyX10_accepts_120 : decode cX10_accepts 120 = .ok (.iadd, 1) := by decide +kernel
theorem dyX10_accepts_121 : decode cX10_accepts 121 = .ok (.putfield 20, 3) := by decide +kernel
theorem dyX10_accepts_124 : decode cX10_accepts 124 = .ok (.aload_n 0, 1) := by decide +kernel
theorem dyX10_accepts_125 : decode cX10_accepts 125 = .ok (.getfield 14, 3) := by decide +kernel
theorem dyX10_accepts_128 : decode cX10_accepts 128 = .ok (.aload_n 0, 1) := by decide +kernel
theorem dyX10_accepts_129 : decode cX10_accepts 129 = .ok (.getfield 20, 3) := by decide +kernel
theorem dyX10_accepts_132 : decode cX10_accepts 132 = .ok (.aload_n 0, 1) := by decide +kernel
theorem dyX10_accepts_133 : decode cX10_accepts 133 = .ok (.getfield 14, 3) := by decide +kernel
theorem dyX10_accepts_136 : decode cX10_accepts 136 = .ok (.aload_n 0, 1) := by decide +kernel
theorem dyX10_accepts_137 : decode cX10_accepts 137 = .ok (.getfield 20, 3) := by decide +kernel
theorem dyX10_accepts_140 : decode cX10_accepts 140 = .ok (.iconst 1, 1) := by decide +kernel
theorem dyX10_accepts_141 : decode cX10_accepts 141 = .ok (.isub, 1) := by decide +kernel
theorem dyX10_accepts_142 : decode cX10_accepts 142 = .ok (.invokevirtual 32, 3) := by decide +kernel
theorem dyX10_accepts_145 : decode cX10_accepts 145 = .ok (.iload 5, 2) := by decide +kernel
theorem dyX10_accepts_147 : decode cX10_accepts 147 = .ok (.invokestatic 46, 3) := by decide +kernel
theorem dyX10_accepts_150 : decode cX10_accepts 150 = .ok (.invokestatic 36, 3) := by decide +kernel
theorem dyX10_accepts_153 : decode cX10_accepts 153 = .ok (.invokevirtual 24, 3) := by decide +kernel
theorem dyX10_accepts_156 : decode cX10_accepts 156 = .ok (.iinc 2 1, 3) := by decide +kernel
theorem dyX10_accepts_159 : decode cX10_accepts 159 = .ok (.goto (-157), 3) := by decide +kernel
theorem dyX10_accepts_162 : decode cX10_accepts 162 = .ok (.iconst 0, 1) := by decide +kernel
theorem dyX10_accepts_163 : decode cX10_accepts 163 = .ok (.ireturn, 1) := by decide +kernel
theorem zsg_yX10_accepts : yX10_accepts.cls = RX10 ∧ yX10_accepts.cls ≠ "java/lang/invoke/MethodHandle" ∧ yX10_accepts.cls ≠ "java/lang/invoke/VarHandle" ∧ (parseMethodDescriptor yX10_accepts.desc).map (fun d => d.parameters.length) = some 1 := by decide +kernel
set_option maxRecDepth 20000 in
theorem c_Trial_accepts {l : Launch} {D : va_G} {B : Nat} {cA : Nat → ClassId} {ad : Nat → Nat} {S : List zC} (hS : zOkX S) {k : Nat} {a1 : Int32} {I : zI} {K : Int32 → zI → Prop} (hk : zIsTrial S k) (h : w_Trial_accepts k a1 I K) : Met l yX10_accepts (zws yX10_accepts cX10_accepts 6 (some .boolean)) (zrm 1 22) (zPc D B cA ad [.ref (B + k), .int a1] S I) (zQc D B cA (zqI S K)) 0 0 (fun q => B ≤ q) := by
  refine zm_of (cc := cX10_accepts) (maxL := 6) (ret := (some .boolean)) (by decide +kernel) rfl (Nat.le_of_ble_eq_true rfl) trivial ?_
  intro p e s m args below meth c C _
  unfold w_Trial_accepts at h
  show zX p l e (zrm 1 22) s m args below meth c (MQ below (zQc D B cA (zqI S K)) args s 0 0 (fun q => B ≤ q)) D B cA 6 0 0 S I [(0, .ref (B + k)), (1, .int a1)] [] 0
  refine zr_iconst C dyX10_accepts_0 zc_i_0 ?_
  refine zr_istore_n C dyX10_accepts_1 rfl (Nat.le_of_ble_eq_true rfl) (lv2 := [(2, .int 0), (0, .ref (B + k)), (1, .int a1)]) rfl ?_
  refine zjn (h (fun (v2_1 : Int32) (I_2 : zI) => zX p l e (zrm 1 22) s m args below meth c (MQ below (zQc D B cA (zqI S K)) args s 0 0 (fun q => B ≤ q)) D B cA 6 0 0 S I_2 [(2, .int v2_1), (0, .ref (B + k)), (1, .int a1)] [] 2) (fun v2_1 I_2 h => ?_)) (fun h => ?_)
  · refine zr_iload_n C dyX10_accepts_2 rfl 0 rfl ?_
    refine zr_sipush C dyX10_accepts_3 zc_s_1000 ?_
    refine zr_icmp_ge C dyX10_accepts_6 (tgt := 162) (by decide) (fun hc_22 => ?_) (fun hc_22 => ?_)
    · replace h := zif_pos hc_22 h
      refine zr_iconst C dyX10_accepts_162 zc_i_0 ?_
      exact zr_zret C rfl (zb.nar zb_0) dyX10_accepts_163 ⟨rfl, _, rfl, h⟩
    · replace h := zif_neg hc_22 h
      refine zr_aload_n C dyX10_accepts_9 rfl 1 rfl ?_
      refine zg_10_14 C hk dyX10_accepts_10 ?_
      refine zr_aload_n C dyX10_accepts_13 rfl 1 rfl ?_
      refine zg_10_20 C hk dyX10_accepts_14 ?_
      refine zv_10_32 C hS hk.2 (st := []) h ⟨Nat.le_of_ble_eq_true rfl, Nat.le_of_ble_eq_true rfl⟩ (Nat.le_of_ble_eq_true rfl) dyX10_accepts_17 (fun r_3 h => ?_)
      refine zr_istore_n C dyX10_accepts_20 rfl (Nat.le_of_ble_eq_true rfl) (lv2 := [(3, .int r_3), (2, .int v2_1), (0, .ref (B + k)), (1, .int a1)]) rfl ?_
      refine zr_iload_n C dyX10_accepts_21 rfl 0 rfl ?_
      refine zr_iconst C dyX10_accepts_22 zc_i_5 ?_
      refine zr_iload_n C dyX10_accepts_23 rfl 3 rfl ?_
      refine zr_iadd C dyX10_accepts_24 ?_
      refine zv_10_36 C hS (st := []) h ⟨Nat.le_of_ble_eq_true rfl, Nat.le_of_ble_eq_true rfl⟩ (Nat.le_of_ble_eq_true rfl) dyX10_accepts_25 (fun r_4 h => ?_)
      refine zr_istore C dyX10_accepts_28 (Nat.le_of_ble_eq_true rfl) (lv2 := [(4, .int r_4), (3, .int r_3), (2, .int v2_1), (0, .ref (B + k)), (1, .int a1)]) rfl ?_
      refine zr_iload_n C dyX10_accepts_30 rfl 1 rfl ?_
      refine zv_10_40 C hS (st := []) h ⟨Nat.le_of_ble_eq_true rfl, Nat.le_of_ble_eq_true rfl⟩ (Nat.le_of_ble_eq_true rfl) dyX10_accepts_31 (fun r_5 h => ?_)
      refine zr_istore C dyX10_accepts_34 (Nat.le_of_ble_eq_true rfl) (lv2 := [(5, .int r_5), (4, .int r_4), (3, .int r_3), (2, .int v2_1), (0, .ref (B + k)), (1, .int a1)]) rfl ?_
      refine zr_iload C dyX10_accepts_36 1 rfl ?_
      refine zr_if_le C dyX10_accepts_38 (tgt := 66) (by decide) (fun hc_21 => ?_) (fun hc_21 => ?_)
      · replace h := zif_pos hc_21 h
        refine zr_iload C dyX10_accepts_66 0 rfl ?_
        refine zjn (h (zX p l e (zrm 1 22) s m args below meth c (MQ below (zQc D B cA (zqI S K)) args s 0 0 (fun q => B ≤ q)) D B cA 6 0 0 S I_2 [(3, .int r_3), (1, .int a1)] [] 83) (fun  h => ?_)) (fun h => ?_)
        · refine zr_iload_n C dyX10_accepts_83 rfl 1 rfl ?_
          refine zr_bipush C dyX10_accepts_84 zc_b_10 ?_
          refine zr_icmp_ne C dyX10_accepts_86 (tgt := 98) (by decide) (fun hc_7 => ?_) (fun hc_7 => ?_)
          · replace h := zif_neg hc_7 h
            refine zr_iconst C dyX10_accepts_98 zc_i_0 ?_
            exact zr_zret C rfl (zb.nar zb_0) dyX10_accepts_99 ⟨rfl, _, rfl, h⟩
          · replace h := zif_pos hc_7 h
            refine zr_iload_n C dyX10_accepts_89 rfl 0 rfl ?_
            refine zr_iconst C dyX10_accepts_90 zc_i_1 ?_
            refine zr_icmp_ne C dyX10_accepts_91 (tgt := 98) (by decide) (fun hc_6 => ?_) (fun hc_6 => ?_)
            · replace h := zif_neg hc_6 h
              refine zr_iconst C dyX10_accepts_98 zc_i_0 ?_
              exact zr_zret C rfl (zb.nar zb_0) dyX10_accepts_99 ⟨rfl, _, rfl, h⟩
            · replace h := zif_pos hc_6 h
              refine zr_iconst C dyX10_accepts_94 zc_i_1 ?_
              refine zr_goto C dyX10_accepts_95 (tgt := 99) (by decide) ?_
              exact zr_zret C rfl (zb.nar zb_1) dyX10_accepts_99 ⟨rfl, _, rfl, h⟩
        refine zr_if_lt C dyX10_accepts_68 (tgt := 83) (by decide) (fun hc_18 => ?_) (fun hc_18 => ?_)
        · replace h := zif_pos hc_18 h
          refine zr_sub (lv2 := [(3, .int r_3), (1, .int a1)]) [2, 5] rfl ?_
          exact h
        · replace h := zif_neg hc_18 h
          refine zr_iload C dyX10_accepts_71 0 rfl ?_
          refine zv_10_43 C hS (st := []) h ⟨Nat.le_of_ble_eq_true rfl, Nat.le_of_ble_eq_true rfl⟩ (Nat.le_of_ble_eq_true rfl) dyX10_accepts_73 (fun r_8 h => ?_)
          refine zr_aload_n C dyX10_accepts_76 rfl 4 rfl ?_
          refine zg_10_20 C hk dyX10_accepts_77 ?_
          refine zr_icmp_le C dyX10_accepts_80 (tgt := 100) (by decide) (fun hc_17 => ?_) (fun hc_17 => ?_)
          · replace h := zif_pos hc_17 h
            refine zr_aload_n C dyX10_accepts_100 rfl 4 rfl ?_
            refine zr_dup C dyX10_accepts_101 rfl ?_
            refine zg_10_20 C hk dyX10_accepts_102 ?_
            refine zr_iload C dyX10_accepts_105 0 rfl ?_
            refine zv_10_43 C hS (st := [.int (I_2.1 k 1), .ref (B + k)]) h ⟨Nat.le_of_ble_eq_true rfl, Nat.le_of_ble_eq_true rfl⟩ (Nat.le_of_ble_eq_true rfl) dyX10_accepts_107 (fun r_9 h => ?_)
            refine zr_isub C dyX10_accepts_110 ?_
            refine zp_10_20 C hk dyX10_accepts_111 ?_
            refine zn_mem C (fun I_10 eI_10 => ?_)
            replace h := h I_10 eI_10
            refine zr_aload_n C dyX10_accepts_114 rfl 4 rfl ?_
            refine zr_dup C dyX10_accepts_115 rfl ?_
            refine zg_10_20 C hk dyX10_accepts_116 ?_
            refine zr_iconst C dyX10_accepts_119 zc_i_1 ?_
            refine zr_iadd C dyX10_accepts_120 ?_
            refine zp_10_20 C hk dyX10_accepts_121 ?_
            refine zn_mem C (fun I_11 eI_11 => ?_)
            replace h := h I_11 eI_11
            refine zr_aload_n C dyX10_accepts_124 rfl 4 rfl ?_
            refine zg_10_14 C hk dyX10_accepts_125 ?_
            refine zr_aload_n C dyX10_accepts_128 rfl 4 rfl ?_
            refine zg_10_20 C hk dyX10_accepts_129 ?_
            refine zr_aload_n C dyX10_accepts_132 rfl 4 rfl ?_
            refine zg_10_14 C hk dyX10_accepts_133 ?_
            refine zr_aload_n C dyX10_accepts_136 rfl 4 rfl ?_
            refine zg_10_20 C hk dyX10_accepts_137 ?_
            refine zr_iconst C dyX10_accepts_140 zc_i_1 ?_
            refine zr_isub C dyX10_accepts_141 ?_
            refine zv_10_32 C hS hk.2 (st := [.int (I_11.1 k 1), .ref (B + (k + 1))]) h ⟨Nat.le_of_ble_eq_true rfl, Nat.le_of_ble_eq_true rfl⟩ (Nat.le_of_ble_eq_true rfl) dyX10_accepts_142 (fun r_12 h => ?_)
            refine zr_iload C dyX10_accepts_145 0 rfl ?_
            refine zv_10_46 C hS (st := [.int r_12, .int (I_11.1 k 1), .ref (B + (k + 1))]) h ⟨Nat.le_of_ble_eq_true rfl, Nat.le_of_ble_eq_true rfl⟩ (Nat.le_of_ble_eq_true rfl) dyX10_accepts_147 (fun r_13 h => ?_)
            refine zv_10_36 C hS (st := [.int (I_11.1 k 1), .ref (B + (k + 1))]) h ⟨Nat.le_of_ble_eq_true rfl, Nat.le_of_ble_eq_true rfl⟩ (Nat.le_of_ble_eq_true rfl) dyX10_accepts_150 (fun r_14 h => ?_)
            refine zv_10_24 C hS hk.2 (st := []) h ⟨Nat.le_of_ble_eq_true rfl, Nat.le_of_ble_eq_true rfl⟩ (Nat.le_of_ble_eq_true rfl) dyX10_accepts_153 (fun I_15 h => ?_)
            refine zn_iinc C (fun v2_16 => [(2, .int v2_16), (5, .int r_5), (4, .int r_4), (3, .int r_3), (0, .ref (B + k)), (1, .int a1)]) dyX10_accepts_156 3 rfl zc_i_1 (Nat.le_of_ble_eq_true rfl) (fun _ => rfl) (fun v2_16 ev2_16 => ?_)
            replace h := h v2_16 ev2_16
            refine zr_goto C dyX10_accepts_159 (tgt := 2) (by decide) ?_
            refine zr_sub (lv2 := [(2, .int v2_16), (0, .ref (B + k)), (1, .int a1)]) [0, 4, 5] rfl ?_
            exact h
          · replace h := zif_neg hc_17 h
            refine zr_sub (lv2 := [(3, .int r_3), (1, .int a1)]) [2, 5] rfl ?_
            exact h
      · replace h := zif_neg hc_21 h
        refine zr_aload_n C dyX10_accepts_41 rfl 4 rfl ?_
        refine zr_dup C dyX10_accepts_42 rfl ?_
        refine zg_10_20 C hk dyX10_accepts_43 ?_
        refine zr_iconst C dyX10_accepts_46 zc_i_1 ?_
        refine zr_iadd C dyX10_accepts_47 ?_
        refine zp_10_20 C hk dyX10_accepts_48 ?_
        refine zn_mem C (fun I_19 eI_19 => ?_)
        replace h := h I_19 eI_19
        refine zr_aload_n C dyX10_accepts_51 rfl 4 rfl ?_
        refine zg_10_14 C hk dyX10_accepts_52 ?_
        refine zr_aload_n C dyX10_accepts_55 rfl 4 rfl ?_
        refine zg_10_20 C hk dyX10_accepts_56 ?_
        refine zr_iload C dyX10_accepts_59 1 rfl ?_
        refine zv_10_24 C hS hk.2 (st := []) h ⟨Nat.le_of_ble_eq_true rfl, Nat.le_of_ble_eq_true rfl⟩ (Nat.le_of_ble_eq_true rfl) dyX10_accepts_61 (fun I_20 h => ?_)
        refine zr_iconst C dyX10_accepts_64 zc_i_1 ?_
        exact zr_zret C rfl (zb.nar zb_1) dyX10_accepts_65 ⟨rfl, _, rfl, h⟩
  exact h
theorem zg_10_49 {p : Program} {l : Launch} {e : Env} {R : Room} {s : State} {m : MethodId} {args : Array Value} {below : List Frame} {meth : Method} {c : Code} {Q : State → Prop} {D : va_G} {B : Nat} {cA : Nat → ClassId} {ad : Nat → Nat} {cc : ByteArray} {nL : Nat} {ret : Option FieldType} {S : List zC} {I : zI} {lv : List (Nat × Value)} {st : List Value} {pc : Nat} (C : zCx p s m args meth c cc nL RX10 ret D B cA ad) {k : Nat} (hk : zIsTokens S k) (hd : decode cc pc = .ok (.getfield 49, 3)) (kk : zX p l e R s m args below meth c Q D B cA nL 0 0 S I lv (.int (I.1 k 5) :: st) (pc + 3)) : zX p l e R s m args below meth c Q D B cA nL 0 0 S I lv (.ref (B + k) :: st) pc :=
  zr_geti C (ci := 8) (Cn := RX8) (T := TX8) (N := 6) (k := k) (j := 5) (fs := [some (some (k + 1)), some (some (k + 3)), some (some (k + 5)), some (some (k + 7)), some (some (k + 9)), none]) rfl zin_8 (Nat.le_of_ble_eq_true rfl) rfl hk.1 rfl zk_fl_10_49 hd kk
theorem zg_10_54 {p : Program} {l : Launch} {e : Env} {R : Room} {s : State} {m : MethodId} {args : Array Value} {below : List Frame} {meth : Method} {c : Code} {Q : State → Prop} {D : va_G} {B : Nat} {cA : Nat → ClassId} {ad : Nat → Nat} {cc : ByteArray} {nL : Nat} {ret : Option FieldType} {S : List zC} {I : zI} {lv : List (Nat × Value)} {st : List Value} {pc : Nat} (C : zCx p s m args meth c cc nL RX10 ret D B cA ad) {k : Nat} (hk : zIsTokens S k) (hd : decode cc pc = .ok (.getfield 54, 3)) (kk : zX p l e R s m args below meth c Q D B cA nL 0 0 S I lv (.ref (B + (k + 1)) :: st) (pc + 3)) : zX p l e R s m args below meth c Q D B cA nL 0 0 S I lv (.ref (B + k) :: st) pc :=
  zr_getr C (ci := 8) (Cn := RX8) (T := TX8) (N := 6) (k := k) (j := 0) (fs := [some (some (k + 1)), some (some (k + 3)), some (some (k + 5)), some (some (k + 7)), some (some (k + 9)), none]) rfl zin_8 (Nat.le_of_ble_eq_true rfl) rfl hk.1 rfl zk_fl_10_54 hd kk
theorem zv_10_57 {p : Program} {l : Launch} {e : Env} {R : Room} {s : State} {m : MethodId} {args : Array Value} {below : List Frame} {meth : Method} {c : Code} {Q : State → Prop} {D : va_G} {B : Nat} {cA : Nat → ClassId} {ad : Nat → Nat} {cc : ByteArray} {nL : Nat} {ret : Option FieldType} {S : List zC} {I : zI} {lv : List (Nat × Value)} {st : List Value} {pc : Nat} (C : zCx p s m args meth c cc nL RX10 ret D B cA ad) {K : Int32 → zI → Prop} {xk : Nat} {xa1 : Int32} (hS : zOkX S) (xhk : zIsTrial S xk) (h : w_Trial_accepts xk xa1 I K) (hR : 1 + 1 ≤ R.frames ∧ 8 + (6 + 11) + (22) ≤ R.locals) (hw : (st.map fun v => v.category).sum ≤ 8) (hd : decode cc pc = .ok (.invokevirtual 57, 3)) (kk : ∀ v I2, K v I2 → zX p l e R s m args below meth c Q D B cA nL 0 0 S I2 lv (.int v :: st) (pc + 3)) : zX p l e R s m args below meth c Q D B cA nL 0 0 S I lv (.int xa1 :: .ref (B + xk) :: st) pc :=
  have hf : 0 ≤ R.cells ∧ 0 ≤ R.slots := ⟨Nat.zero_le _, Nat.zero_le _⟩
  zc_VqI C (ci := 10) (q := (RX10, TX10, 2)) (k := xk) (fs := [some (some (xk + 1)), none]) (As := [.int xa1]) (st := st) rfl xhk.1 (c_Trial_accepts hS xhk h) (zgV zk_ml_10_57 zk_im_yX10_accepts zk_se_yX10_accepts zk_in_10 zk_cd_yX10_accepts) zsg_yX10_accepts hR rfl rfl hw hd hf kk
def w_Trial_acceptsFrom (k : Nat) (a1 : Nat) (a2 : Int32) (I : zI) (K : Int32 → zI → Prop) : Prop :=
  ∀ (P2 : Int32 → zI → Prop), (∀ (v3_1 : Int32) (I_2 : zI), ((if (I_2.1 a1 5) ≤ v3_1 then K 1 I_2 else (w_Row_get (a1 + 1) 100 v3_1 I_2 (fun r_3 => w_Trial_accepts k r_3 I_2 (fun r_4 I_5 => (if r_4 = 0 then K 0 I_5 else (∀ v3_6, v3_6 = (v3_1 + 1) → P2 v3_6 I_5))))))) → P2 v3_1 I_2) → P2 a2 I
theorem dyX10_acceptsFrom_0 : decode cX10_acceptsFrom 0 = .ok (.iload_n 2, 1) := by decide +kernel
theorem dyX10_acceptsFrom_1 : decode cX10_acceptsFrom 1 = .ok (.istore_n 3, 1) := by decide +kernel
theorem dyX10_acceptsFrom_2 : decode cX10_acceptsFrom 2 = .ok (.iload_n 3, 1) := by decide +kernel
theorem dyX10_acceptsFrom_3 : decode cX10_acceptsFrom 3 = .ok (.aload_n 1, 1) := by decide +kernel
theorem dyX10_acceptsFrom_4 : decode cX10_acceptsFrom 4 = .ok (.getfield 49, 3) := by decide +kernel
theorem dyX10_acceptsFrom_7 : decode cX10_acceptsFrom 7 = .ok (.if_icmp .ge 26, 3) := by decide +kernel
theorem dyX10_acceptsFrom_10 : decode cX10_acceptsFrom 10 = .ok (.aload_n 0, 1) := by decide +kernel
theorem dyX10_acceptsFrom_11 : decode cX10_acceptsFrom 11 = .ok (.aload_n 1, 1) := by decide +kernel
theorem dyX10_acceptsFrom_12 : decode cX10_acceptsFrom 12 = .ok (.getfield 54, 3) := by decide +kernel
theorem dyX10_acceptsFrom_15 : decode cX10_acceptsFrom 15 = .ok (.iload_n 3, 1) := by decide +kernel
theorem dyX10_acceptsFrom_16 : decode cX10_acceptsFrom 16 = .ok (.invokevirtual 32, 3) := by decide +kernel
theorem dyX10_acceptsFrom_19 : decode cX10_acceptsFrom 19 = .ok (.invokevirtual 57, 3) := by decide +kernel
theorem dyX10_acceptsFrom_22 : decode cX10_acceptsFrom 22 = .ok (.ifCond .ne 5, 3) := by decide +kernel
theorem dyX10_acceptsFrom_25 : decode cX10_acceptsFrom 25 = .ok (.iconst 0, 1) := by decide +kernel
theorem dyX10_acceptsFrom_26 : decode cX10_acceptsFrom 26 = .ok (.ireturn, 1) := by decide +kernel
theorem dyX10_acceptsFrom_27 : decode cX10_acceptsFrom 27 = .ok (.iinc 3 1, 3) := by decide +kernel
theorem dyX10_acceptsFrom_30 : decode cX10_acceptsFrom 30 = .ok (.goto (-28), 3) := by decide +kernel
theorem dyX10_acceptsFrom_33 : decode cX10_acceptsFrom 33 = .ok (.iconst 1, 1) := by decide +kernel
theorem dyX10_acceptsFrom_34 : decode cX10_acceptsFrom 34 = .ok (.ireturn, 1) := by decide +kernel
theorem zsg_yX10_acceptsFrom : yX10_acceptsFrom.cls = RX10 ∧ yX10_acceptsFrom.cls ≠ "java/lang/invoke/MethodHandle" ∧ yX10_acceptsFrom.cls ≠ "java/lang/invoke/VarHandle" ∧ (parseMethodDescriptor yX10_acceptsFrom.desc).map (fun d => d.parameters.length) = some 2 := by decide +kernel
set_option maxRecDepth 20000 in
theorem c_Trial_acceptsFrom {l : Launch} {D : va_G} {B : Nat} {cA : Nat → ClassId} {ad : Nat → Nat} {S : List zC} (hS : zOkX S) {k : Nat} {a1 : Nat} {a2 : Int32} {I : zI} {K : Int32 → zI → Prop} (hk : zIsTrial S k) (ha1 : zIsTokens S a1) (h : w_Trial_acceptsFrom k a1 a2 I K) : Met l yX10_acceptsFrom (zws yX10_acceptsFrom cX10_acceptsFrom 4 (some .boolean)) (zrm 2 47) (zPc D B cA ad [.ref (B + k), .ref (B + a1), .int a2] S I) (zQc D B cA (zqI S K)) 0 0 (fun q => B ≤ q) := by
  refine zm_of (cc := cX10_acceptsFrom) (maxL := 4) (ret := (some .boolean)) (by decide +kernel) rfl (Nat.le_of_ble_eq_true rfl) trivial ?_
  intro p e s m args below meth c C _
  unfold w_Trial_acceptsFrom at h
  show zX p l e (zrm 2 47) s m args below meth c (MQ below (zQc D B cA (zqI S K)) args s 0 0 (fun q => B ≤ q)) D B cA 4 0 0 S I [(0, .ref (B + k)), (1, .ref (B + a1)), (2, .int a2)] [] 0
  refine zr_iload_n C dyX10_acceptsFrom_0 rfl 2 rfl ?_
  refine zr_istore_n C dyX10_acceptsFrom_1 rfl (Nat.le_of_ble_eq_true rfl) (lv2 := [(3, .int a2), (0, .ref (B + k)), (1, .ref (B + a1)), (2, .int a2)]) rfl ?_
  refine zjn (h (fun (v3_1 : Int32) (I_2 : zI) => zX p l e (zrm 2 47) s m args below meth c (MQ below (zQc D B cA (zqI S K)) args s 0 0 (fun q => B ≤ q)) D B cA 4 0 0 S I_2 [(3, .int v3_1), (0, .ref (B + k)), (1, .ref (B + a1))] [] 2) (fun v3_1 I_2 h => ?_)) (fun h => ?_)
  · refine zr_iload_n C dyX10_acceptsFrom_2 rfl 0 rfl ?_
    refine zr_aload_n C dyX10_acceptsFrom_3 rfl 2 rfl ?_
    refine zg_10_49 C ha1 dyX10_acceptsFrom_4 ?_
    refine zr_icmp_ge C dyX10_acceptsFrom_7 (tgt := 33) (by decide) (fun hc_8 => ?_) (fun hc_8 => ?_)
    · replace h := zif_pos hc_8 h
      refine zr_iconst C dyX10_acceptsFrom_33 zc_i_1 ?_
      exact zr_zret C rfl (zb.nar zb_1) dyX10_acceptsFrom_34 ⟨rfl, _, rfl, h⟩
    · replace h := zif_neg hc_8 h
      refine zr_aload_n C dyX10_acceptsFrom_10 rfl 1 rfl ?_
      refine zr_aload_n C dyX10_acceptsFrom_11 rfl 2 rfl ?_
      refine zg_10_54 C ha1 dyX10_acceptsFrom_12 ?_
      refine zr_iload_n C dyX10_acceptsFrom_15 rfl 0 rfl ?_
      refine zv_10_32 C hS ha1.2.1 (st := [.ref (B + k)]) h ⟨Nat.le_of_ble_eq_true rfl, Nat.le_of_ble_eq_true rfl⟩ (Nat.le_of_ble_eq_true rfl) dyX10_acceptsFrom_16 (fun r_3 h => ?_)
      refine zv_10_57 C hS hk (st := []) h ⟨Nat.le_of_ble_eq_true rfl, Nat.le_of_ble_eq_true rfl⟩ (Nat.le_of_ble_eq_true rfl) dyX10_acceptsFrom_19 (fun r_4 I_5 h => ?_)
      refine zr_if_ne C dyX10_acceptsFrom_22 (tgt := 27) (by decide) (fun hc_7 => ?_) (fun hc_7 => ?_)
      · replace h := zif_neg hc_7 h
        refine zn_iinc C (fun v3_6 => [(3, .int v3_6), (0, .ref (B + k)), (1, .ref (B + a1))]) dyX10_acceptsFrom_27 0 rfl zc_i_1 (Nat.le_of_ble_eq_true rfl) (fun _ => rfl) (fun v3_6 ev3_6 => ?_)
        replace h := h v3_6 ev3_6
        refine zr_goto C dyX10_acceptsFrom_30 (tgt := 2) (by decide) ?_
        exact h
      · replace h := zif_pos hc_7 h
        refine zr_iconst C dyX10_acceptsFrom_25 zc_i_0 ?_
        exact zr_zret C rfl (zb.nar zb_0) dyX10_acceptsFrom_26 ⟨rfl, _, rfl, h⟩
  refine zr_sub (lv2 := [(3, .int a2), (0, .ref (B + k)), (1, .ref (B + a1))]) [0, 1, 2] rfl ?_
  exact h
theorem zp_0_84 {p : Program} {l : Launch} {e : Env} {R : Room} {s : State} {m : MethodId} {args : Array Value} {below : List Frame} {meth : Method} {c : Code} {Q : State → Prop} {D : va_G} {B : Nat} {cA : Nat → ClassId} {ad : Nat → Nat} {cc : ByteArray} {nL : Nat} {ret : Option FieldType} {S : List zC} {I : zI} {lv : List (Nat × Value)} {st : List Value} {pc : Nat} (C : zCx p s m args meth c cc nL RX0 ret D B cA ad) (hS : zOkX S) {v : Int32} (hd : decode cc pc = .ok (.putfield 84, 3)) (kk : zX p l e R s m args below meth c Q D B cA nL 0 0 S (zu I 100 3 v) lv st (pc + 3)) : zX p l e R s m args below meth c Q D B cA nL 0 0 S I lv (.int v :: .ref (B + 100) :: st) pc :=
  zr_puti C (ci := 0) (Cn := RX0) (T := TX0) (N := 5) (k := 100) (j := 3) (fs := [some (some 101), some (some 104), some (some 107), none, none]) rfl zin_0 (Nat.le_of_ble_eq_true rfl) rfl (hS _ _ zs_100) rfl tyX0 tyX0_ok nmX0 (ty := .int) zpd_I rfl rfl rfl zk_fl_0_84 hd kk
theorem zp_0_87 {p : Program} {l : Launch} {e : Env} {R : Room} {s : State} {m : MethodId} {args : Array Value} {below : List Frame} {meth : Method} {c : Code} {Q : State → Prop} {D : va_G} {B : Nat} {cA : Nat → ClassId} {ad : Nat → Nat} {cc : ByteArray} {nL : Nat} {ret : Option FieldType} {S : List zC} {I : zI} {lv : List (Nat × Value)} {st : List Value} {pc : Nat} (C : zCx p s m args meth c cc nL RX0 ret D B cA ad) (hS : zOkX S) {v : Int32} (hd : decode cc pc = .ok (.putfield 87, 3)) (kk : zX p l e R s m args below meth c Q D B cA nL 0 0 S (zu I 100 4 v) lv st (pc + 3)) : zX p l e R s m args below meth c Q D B cA nL 0 0 S I lv (.int v :: .ref (B + 100) :: st) pc :=
  zr_puti C (ci := 0) (Cn := RX0) (T := TX0) (N := 5) (k := 100) (j := 4) (fs := [some (some 101), some (some 104), some (some 107), none, none]) rfl zin_0 (Nat.le_of_ble_eq_true rfl) rfl (hS _ _ zs_100) rfl tyX0 tyX0_ok nmX0 (ty := .int) zpd_I rfl rfl rfl zk_fl_0_87 hd kk
def w_Adviser_found (a1 : Int32) (a2 : Int32) (I : zI) (K : zI → Prop) : Prop :=
  ∀ I_1, I_1 = (zu I 100 3 a1) → ∀ I_2, I_2 = (zu I_1 100 4 a2) → K I_2
theorem dyX0_found_0 : decode cX0_found 0 = .ok (.aload_n 0, 1) := by decide +kernel
theorem dyX0_found_1 : decode cX0_found 1 = .ok (.iload_n 1, 1) := by decide +kernel
theorem dyX0_found_2 : decode cX0_found 2 = .ok (.putfield 84, 3) := by decide +kernel
theorem dyX0_found_5 : decode cX0_found 5 = .ok (.aload_n 0, 1) := by decide +kernel
theorem dyX0_found_6 : decode cX0_found 6 = .ok (.iload_n 2, 1) := by decide +kernel
theorem dyX0_found_7 : decode cX0_found 7 = .ok (.putfield 87, 3) := by decide +kernel
theorem dyX0_found_10 : decode cX0_found 10 = .ok (.return_, 1) := by decide +kernel
theorem zsg_yX0_found : yX0_found.cls = RX0 ∧ yX0_found.cls ≠ "java/lang/invoke/MethodHandle" ∧ yX0_found.cls ≠ "java/lang/invoke/VarHandle" ∧ (parseMethodDescriptor yX0_found.desc).map (fun d => d.parameters.length) = some 2 := by decide +kernel
set_option maxRecDepth 20000 in
theorem c_Adviser_found {l : Launch} {D : va_G} {B : Nat} {cA : Nat → ClassId} {ad : Nat → Nat} {S : List zC} (hS : zOkX S) {a1 : Int32} {a2 : Int32} {I : zI} {K : zI → Prop}  (h : w_Adviser_found a1 a2 I K) : Met l yX0_found (zws yX0_found cX0_found 3 none) (zrm 0 0) (zPc D B cA ad [.ref (B + 100), .int a1, .int a2] S I) (zQc D B cA (zqV S K)) 0 0 (fun q => B ≤ q) := by
  refine zm_of (cc := cX0_found) (maxL := 3) (ret := none) (by decide +kernel) rfl (Nat.le_of_ble_eq_true rfl) trivial ?_
  intro p e s m args below meth c C _
  unfold w_Adviser_found at h
  show zX p l e (zrm 0 0) s m args below meth c (MQ below (zQc D B cA (zqV S K)) args s 0 0 (fun q => B ≤ q)) D B cA 3 0 0 S I [(0, .ref (B + 100)), (1, .int a1), (2, .int a2)] [] 0
  refine zr_aload_n C dyX0_found_0 rfl 0 rfl ?_
  refine zr_iload_n C dyX0_found_1 rfl 1 rfl ?_
  refine zp_0_84 C hS dyX0_found_2 ?_
  refine zn_mem C (fun I_1 eI_1 => ?_)
  replace h := h I_1 eI_1
  refine zr_aload_n C dyX0_found_5 rfl 0 rfl ?_
  refine zr_iload_n C dyX0_found_6 rfl 2 rfl ?_
  refine zp_0_87 C hS dyX0_found_7 ?_
  refine zn_mem C (fun I_2 eI_2 => ?_)
  replace h := h I_2 eI_2
  exact zr_vret C rfl dyX0_found_10 ⟨rfl, rfl, h⟩
theorem zv_0_30 {p : Program} {l : Launch} {e : Env} {R : Room} {s : State} {m : MethodId} {args : Array Value} {below : List Frame} {meth : Method} {c : Code} {Q : State → Prop} {D : va_G} {B : Nat} {cA : Nat → ClassId} {ad : Nat → Nat} {cc : ByteArray} {nL : Nat} {ret : Option FieldType} {S : List zC} {I : zI} {lv : List (Nat × Value)} {st : List Value} {pc : Nat} (C : zCx p s m args meth c cc nL RX0 ret D B cA ad) {K : zI → Prop} {xa1 : Nat} (hS : zOkX S) (xha1 : zIsTokens S xa1) (h : w_Adviser_weigh xa1 I K) (hR : 1 + 1 ≤ R.frames ∧ 8 + (4 + 11) + (22) ≤ R.locals) (hw : (st.map fun v => v.category).sum ≤ 8) (hd : decode cc pc = .ok (.invokevirtual 30, 3)) (kk : ∀ I2, K I2 → zX p l e R s m args below meth c Q D B cA nL 0 0 S I2 lv st (pc + 3)) : zX p l e R s m args below meth c Q D B cA nL 0 0 S I lv (.ref (B + xa1) :: .ref (B + 100) :: st) pc :=
  have hf : 0 ≤ R.cells ∧ 0 ≤ R.slots := ⟨Nat.zero_le _, Nat.zero_le _⟩
  zc_VqV C (ci := 0) (q := (RX0, TX0, 5)) (k := 100) (fs := [some (some 101), some (some 104), some (some 107), none, none]) (As := [.ref (B + xa1)]) (st := st) rfl (hS _ _ zs_100) (c_Adviser_weigh hS xha1 h) (zgV zk_ml_0_30 zk_im_yX0_weigh zk_se_yX0_weigh zk_in_0 zk_cd_yX0_weigh) zsg_yX0_weigh hR rfl rfl hw hd hf kk
theorem zv_0_34 {p : Program} {l : Launch} {e : Env} {R : Room} {s : State} {m : MethodId} {args : Array Value} {below : List Frame} {meth : Method} {c : Code} {Q : State → Prop} {D : va_G} {B : Nat} {cA : Nat → ClassId} {ad : Nat → Nat} {cc : ByteArray} {nL : Nat} {ret : Option FieldType} {S : List zC} {I : zI} {lv : List (Nat × Value)} {st : List Value} {pc : Nat} (C : zCx p s m args meth c cc nL RX0 ret D B cA ad) {K : Int32 → Prop} {xa0 : Nat} (hS : zOkX S) (xha0 : zIsTokens S xa0) (h : w_Adviser_lastMisfit xa0 I K) (hR : 1 + 1 ≤ R.frames ∧ 8 + (2 + 11) + (21) ≤ R.locals) (hw : (st.map fun v => v.category).sum ≤ 8) (hd : decode cc pc = .ok (.invokestatic 34, 3)) (kk : ∀ v, K v → zX p l e R s m args below meth c Q D B cA nL 0 0 S I lv (.int v :: st) (pc + 3)) : zX p l e R s m args below meth c Q D B cA nL 0 0 S I lv (.ref (B + xa0) :: st) pc :=
  have hf : 0 ≤ R.cells ∧ 0 ≤ R.slots := ⟨Nat.zero_le _, Nat.zero_le _⟩
  zc_SpI C (As := [.ref (B + xa0)]) (st := st) (c_Adviser_lastMisfit hS xha0 h) (zgM zk_cd_yX0_lastMisfit) zk_ml_0_34 zk_st_yX0_lastMisfit zk_in_0 zsg_yX0_lastMisfit hR rfl rfl hw hd hf kk
theorem zv_0_59 {p : Program} {l : Launch} {e : Env} {R : Room} {s : State} {m : MethodId} {args : Array Value} {below : List Frame} {meth : Method} {c : Code} {Q : State → Prop} {D : va_G} {B : Nat} {cA : Nat → ClassId} {ad : Nat → Nat} {cc : ByteArray} {nL : Nat} {ret : Option FieldType} {S : List zC} {I : zI} {lv : List (Nat × Value)} {st : List Value} {pc : Nat} (C : zCx p s m args meth c cc nL RX0 ret D B cA ad) {K : zI → Prop} {xa1 : Int32} {xa2 : Int32} (hS : zOkX S)  (h : w_Adviser_found xa1 xa2 I K) (hR : 0 + 1 ≤ R.frames ∧ 8 + (3 + 11) + (0) ≤ R.locals) (hw : (st.map fun v => v.category).sum ≤ 8) (hd : decode cc pc = .ok (.invokevirtual 59, 3)) (kk : ∀ I2, K I2 → zX p l e R s m args below meth c Q D B cA nL 0 0 S I2 lv st (pc + 3)) : zX p l e R s m args below meth c Q D B cA nL 0 0 S I lv (.int xa2 :: .int xa1 :: .ref (B + 100) :: st) pc :=
  have hf : 0 ≤ R.cells ∧ 0 ≤ R.slots := ⟨Nat.zero_le _, Nat.zero_le _⟩
  zc_VqV C (ci := 0) (q := (RX0, TX0, 5)) (k := 100) (fs := [some (some 101), some (some 104), some (some 107), none, none]) (As := [.int xa1, .int xa2]) (st := st) rfl (hS _ _ zs_100) (c_Adviser_found hS h) (zgV zk_ml_0_59 zk_im_yX0_found zk_se_yX0_found zk_in_0 zk_cd_yX0_found) zsg_yX0_found hR rfl rfl hw hd hf kk
theorem zg_0_12 {p : Program} {l : Launch} {e : Env} {R : Room} {s : State} {m : MethodId} {args : Array Value} {below : List Frame} {meth : Method} {c : Code} {Q : State → Prop} {D : va_G} {B : Nat} {cA : Nat → ClassId} {ad : Nat → Nat} {cc : ByteArray} {nL : Nat} {ret : Option FieldType} {S : List zC} {I : zI} {lv : List (Nat × Value)} {st : List Value} {pc : Nat} (C : zCx p s m args meth c cc nL RX0 ret D B cA ad) (hS : zOkX S) (hd : decode cc pc = .ok (.getfield 12, 3)) (kk : zX p l e R s m args below meth c Q D B cA nL 0 0 S I lv (.ref (B + 101) :: st) (pc + 3)) : zX p l e R s m args below meth c Q D B cA nL 0 0 S I lv (.ref (B + 100) :: st) pc :=
  zr_getr C (ci := 0) (Cn := RX0) (T := TX0) (N := 5) (k := 100) (j := 0) (fs := [some (some 101), some (some 104), some (some 107), none, none]) rfl zin_0 (Nat.le_of_ble_eq_true rfl) rfl (hS _ _ zs_100) rfl zk_fl_0_12 hd kk
theorem zv_0_44 {p : Program} {l : Launch} {e : Env} {R : Room} {s : State} {m : MethodId} {args : Array Value} {below : List Frame} {meth : Method} {c : Code} {Q : State → Prop} {D : va_G} {B : Nat} {cA : Nat → ClassId} {ad : Nat → Nat} {cc : ByteArray} {nL : Nat} {ret : Option FieldType} {S : List zC} {I : zI} {lv : List (Nat × Value)} {st : List Value} {pc : Nat} (C : zCx p s m args meth c cc nL RX0 ret D B cA ad) {K : zI → Prop} {xk : Nat} (hS : zOkX S) (xhk : zIsTrial S xk) (h : w_Trial_begin xk I K) (hR : 1 + 1 ≤ R.frames ∧ 8 + (1 + 11) + (22) ≤ R.locals) (hw : (st.map fun v => v.category).sum ≤ 8) (hd : decode cc pc = .ok (.invokevirtual 44, 3)) (kk : ∀ I2, K I2 → zX p l e R s m args below meth c Q D B cA nL 0 0 S I2 lv st (pc + 3)) : zX p l e R s m args below meth c Q D B cA nL 0 0 S I lv (.ref (B + xk) :: st) pc :=
  have hf : 0 ≤ R.cells ∧ 0 ≤ R.slots := ⟨Nat.zero_le _, Nat.zero_le _⟩
  zc_VqV C (ci := 10) (q := (RX10, TX10, 2)) (k := xk) (fs := [some (some (xk + 1)), none]) (As := []) (st := st) rfl xhk.1 (c_Trial_begin hS xhk h) (zgV zk_ml_0_44 zk_im_yX10_begin zk_se_yX10_begin zk_in_10 zk_cd_yX10_begin) zsg_yX10_begin hR rfl rfl hw hd hf kk
theorem zv_0_70 {p : Program} {l : Launch} {e : Env} {R : Room} {s : State} {m : MethodId} {args : Array Value} {below : List Frame} {meth : Method} {c : Code} {Q : State → Prop} {D : va_G} {B : Nat} {cA : Nat → ClassId} {ad : Nat → Nat} {cc : ByteArray} {nL : Nat} {ret : Option FieldType} {S : List zC} {I : zI} {lv : List (Nat × Value)} {st : List Value} {pc : Nat} (C : zCx p s m args meth c cc nL RX0 ret D B cA ad) {K : Int32 → zI → Prop} {xk : Nat} {xa1 : Int32} (hS : zOkX S) (xhk : zIsTrial S xk) (h : w_Trial_accepts xk xa1 I K) (hR : 1 + 1 ≤ R.frames ∧ 8 + (6 + 11) + (22) ≤ R.locals) (hw : (st.map fun v => v.category).sum ≤ 8) (hd : decode cc pc = .ok (.invokevirtual 70, 3)) (kk : ∀ v I2, K v I2 → zX p l e R s m args below meth c Q D B cA nL 0 0 S I2 lv (.int v :: st) (pc + 3)) : zX p l e R s m args below meth c Q D B cA nL 0 0 S I lv (.int xa1 :: .ref (B + xk) :: st) pc :=
  have hf : 0 ≤ R.cells ∧ 0 ≤ R.slots := ⟨Nat.zero_le _, Nat.zero_le _⟩
  zc_VqI C (ci := 10) (q := (RX10, TX10, 2)) (k := xk) (fs := [some (some (xk + 1)), none]) (As := [.int xa1]) (st := st) rfl xhk.1 (c_Trial_accepts hS xhk h) (zgV zk_ml_0_70 zk_im_yX10_accepts zk_se_yX10_accepts zk_in_10 zk_cd_yX10_accepts) zsg_yX10_accepts hR rfl rfl hw hd hf kk
theorem zv_0_47 {p : Program} {l : Launch} {e : Env} {R : Room} {s : State} {m : MethodId} {args : Array Value} {below : List Frame} {meth : Method} {c : Code} {Q : State → Prop} {D : va_G} {B : Nat} {cA : Nat → ClassId} {ad : Nat → Nat} {cc : ByteArray} {nL : Nat} {ret : Option FieldType} {S : List zC} {I : zI} {lv : List (Nat × Value)} {st : List Value} {pc : Nat} (C : zCx p s m args meth c cc nL RX0 ret D B cA ad) {K : Int32 → Prop} {xa1 : Nat} {xa2 : Int32} {xa3 : Int32} (hS : zOkX S) (xha1 : zIsTokens S xa1) (h : w_Adviser_couldGo xa1 xa2 xa3 I K) (hR : 1 + 1 ≤ R.frames ∧ 8 + (6 + 11) + (21) ≤ R.locals) (hw : (st.map fun v => v.category).sum ≤ 8) (hd : decode cc pc = .ok (.invokevirtual 47, 3)) (kk : ∀ v, K v → zX p l e R s m args below meth c Q D B cA nL 0 0 S I lv (.int v :: st) (pc + 3)) : zX p l e R s m args below meth c Q D B cA nL 0 0 S I lv (.int xa3 :: .int xa2 :: .ref (B + xa1) :: .ref (B + 100) :: st) pc :=
  have hf : 0 ≤ R.cells ∧ 0 ≤ R.slots := ⟨Nat.zero_le _, Nat.zero_le _⟩
  zc_VpI C (ci := 0) (q := (RX0, TX0, 5)) (k := 100) (fs := [some (some 101), some (some 104), some (some 107), none, none]) (As := [.ref (B + xa1), .int xa2, .int xa3]) (st := st) rfl (hS _ _ zs_100) (c_Adviser_couldGo hS xha1 h) (zgV zk_ml_0_47 zk_im_yX0_couldGo zk_se_yX0_couldGo zk_in_0 zk_cd_yX0_couldGo) zsg_yX0_couldGo hR rfl rfl hw hd hf kk
theorem zg_0_18 {p : Program} {l : Launch} {e : Env} {R : Room} {s : State} {m : MethodId} {args : Array Value} {below : List Frame} {meth : Method} {c : Code} {Q : State → Prop} {D : va_G} {B : Nat} {cA : Nat → ClassId} {ad : Nat → Nat} {cc : ByteArray} {nL : Nat} {ret : Option FieldType} {S : List zC} {I : zI} {lv : List (Nat × Value)} {st : List Value} {pc : Nat} (C : zCx p s m args meth c cc nL RX0 ret D B cA ad) (hS : zOkX S) (hd : decode cc pc = .ok (.getfield 18, 3)) (kk : zX p l e R s m args below meth c Q D B cA nL 0 0 S I lv (.ref (B + 104) :: st) (pc + 3)) : zX p l e R s m args below meth c Q D B cA nL 0 0 S I lv (.ref (B + 100) :: st) pc :=
  zr_getr C (ci := 0) (Cn := RX0) (T := TX0) (N := 5) (k := 100) (j := 1) (fs := [some (some 101), some (some 104), some (some 107), none, none]) rfl zin_0 (Nat.le_of_ble_eq_true rfl) rfl (hS _ _ zs_100) rfl zk_fl_0_18 hd kk
theorem zv_0_51 {p : Program} {l : Launch} {e : Env} {R : Room} {s : State} {m : MethodId} {args : Array Value} {below : List Frame} {meth : Method} {c : Code} {Q : State → Prop} {D : va_G} {B : Nat} {cA : Nat → ClassId} {ad : Nat → Nat} {cc : ByteArray} {nL : Nat} {ret : Option FieldType} {S : List zC} {I : zI} {lv : List (Nat × Value)} {st : List Value} {pc : Nat} (C : zCx p s m args meth c cc nL RX0 ret D B cA ad) {K : zI → Prop} {xk : Nat} {xa1 : Nat} (hS : zOkX S) (xhk : zIsTrial S xk) (xha1 : zIsTrial S xa1) (h : w_Trial_copyFrom xk xa1 I K) (hR : 3 + 1 ≤ R.frames ∧ 8 + (2 + 11) + (83) ≤ R.locals) (hw : (st.map fun v => v.category).sum ≤ 8) (hd : decode cc pc = .ok (.invokevirtual 51, 3)) (kk : ∀ I2, K I2 → zX p l e R s m args below meth c Q D B cA nL 0 0 S I2 lv st (pc + 3)) : zX p l e R s m args below meth c Q D B cA nL 0 0 S I lv (.ref (B + xa1) :: .ref (B + xk) :: st) pc :=
  have hf : 0 ≤ R.cells ∧ 0 ≤ R.slots := ⟨Nat.zero_le _, Nat.zero_le _⟩
  zc_VqV C (ci := 10) (q := (RX10, TX10, 2)) (k := xk) (fs := [some (some (xk + 1)), none]) (As := [.ref (B + xa1)]) (st := st) rfl xhk.1 (c_Trial_copyFrom hS xhk xha1 h) (zgV zk_ml_0_51 zk_im_yX10_copyFrom zk_se_yX10_copyFrom zk_in_10 zk_cd_yX10_copyFrom) zsg_yX10_copyFrom hR rfl rfl hw hd hf kk
theorem zv_0_55 {p : Program} {l : Launch} {e : Env} {R : Room} {s : State} {m : MethodId} {args : Array Value} {below : List Frame} {meth : Method} {c : Code} {Q : State → Prop} {D : va_G} {B : Nat} {cA : Nat → ClassId} {ad : Nat → Nat} {cc : ByteArray} {nL : Nat} {ret : Option FieldType} {S : List zC} {I : zI} {lv : List (Nat × Value)} {st : List Value} {pc : Nat} (C : zCx p s m args meth c cc nL RX0 ret D B cA ad) {K : Int32 → zI → Prop} {xk : Nat} {xa1 : Nat} {xa2 : Int32} (hS : zOkX S) (xhk : zIsTrial S xk) (xha1 : zIsTokens S xa1) (h : w_Trial_acceptsFrom xk xa1 xa2 I K) (hR : 2 + 1 ≤ R.frames ∧ 8 + (4 + 11) + (47) ≤ R.locals) (hw : (st.map fun v => v.category).sum ≤ 8) (hd : decode cc pc = .ok (.invokevirtual 55, 3)) (kk : ∀ v I2, K v I2 → zX p l e R s m args below meth c Q D B cA nL 0 0 S I2 lv (.int v :: st) (pc + 3)) : zX p l e R s m args below meth c Q D B cA nL 0 0 S I lv (.int xa2 :: .ref (B + xa1) :: .ref (B + xk) :: st) pc :=
  have hf : 0 ≤ R.cells ∧ 0 ≤ R.slots := ⟨Nat.zero_le _, Nat.zero_le _⟩
  zc_VqI C (ci := 10) (q := (RX10, TX10, 2)) (k := xk) (fs := [some (some (xk + 1)), none]) (As := [.ref (B + xa1), .int xa2]) (st := st) rfl xhk.1 (c_Trial_acceptsFrom hS xhk xha1 h) (zgV zk_ml_0_55 zk_im_yX10_acceptsFrom zk_se_yX10_acceptsFrom zk_in_10 zk_cd_yX10_acceptsFrom) zsg_yX10_acceptsFrom hR rfl rfl hw hd hf kk
def w_Adviser_findWay (a1 : Nat) (I : zI) (K : zI → Prop) : Prop :=
  w_Adviser_weigh a1 I (fun I_1 => w_Adviser_lastMisfit a1 I_1 (fun r_2 => ∀ (P12 : Int32 → zI → Prop), (∀ (v3_3 : Int32) (I_4 : zI), ((if (I_4.1 a1 5) ≤ v3_3 then (w_Adviser_found (-2) (-2) I_4 (fun I_5 => K I_5)) else (w_Trial_begin 101 I_4 (fun I_6 => ∀ (P33 : Int32 → Int32 → zI → Prop), (∀ (v4_7 : Int32) (v5_8 : Int32) (I_9 : zI), (∀ (P126 : Prop), ((∀ v3_10, v3_10 = (v3_3 + 1) → P12 v3_10 I_9) → P126) → (if v4_7 = 0 then P126 else (if (I_9.1 a1 5) ≤ (v5_8 + v3_3) then P126 else (∀ (P102 : zI → Prop), (∀ (I_11 : zI), (w_Row_get (a1 + 1) 100 v5_8 I_11 (fun r_12 => w_Trial_accepts 101 r_12 I_11 (fun r_13 I_14 => ∀ v5_15, v5_15 = (v5_8 + 1) → P33 r_13 v5_15 I_14))) → P102 I_11) → (if (v5_8 + v3_3) ≤ r_2 then P102 I_9 else (w_Adviser_couldGo a1 v5_8 v3_3 I_9 (fun r_16 => (if r_16 = 0 then P102 I_9 else (w_Trial_copyFrom 104 101 I_9 (fun I_17 => w_Trial_acceptsFrom 104 a1 (v5_8 + v3_3) I_17 (fun r_18 I_19 => (if r_18 = 0 then P102 I_19 else (w_Adviser_found v5_8 v3_3 I_19 (fun I_20 => K I_20)))))))))))))) → P33 v4_7 v5_8 I_9) → P33 1 0 I_6)))) → P12 v3_3 I_4) → P12 1 I_1))
theorem dyX0_findWay_0 : decode cX0_findWay 0 = .ok (.aload_n 0, 1) := by decide +kernel
theorem dyX0_findWay_1 : decode cX0_findWay 1 = .ok (.aload_n 1, 1) := by decide +kernel
theorem dyX0_findWay_2 : decode cX0_findWay 2 = .ok (.invokevirtual 30, 3) := by decide +kernel
theorem dyX0_findWay_5 : decode cX0_findWay 5 = .ok (.aload_n 1, 1) := by decide +kernel
theorem dyX0_findWay_6 : decode cX0_findWay 6 = .ok (.invokestatic 34, 3) := by decide +kernel
theorem dyX0_findWay_9 : decode cX0_findWay 9 = .ok (.istore_n 2, 1) := by decide +kernel
theorem dyX0_findWay_10 : decode cX0_findWay 10 = .ok (.iconst 1, 1) := by decide +kernel
theorem dyX0_findWay_11 : decode cX0_findWay 11 = .ok (.istore_n 3, 1) := by decide +kernel
theorem dyX0_findWay_12 : decode cX0_findWay 12 = .ok (.iload_n 3, 1) := by decide +kernel
theorem dyX0_findWay_13 : decode cX0_findWay 13 = .ok (.aload_n 1, 1) := by decide +kernel
theorem dyX0_findWay_14 : decode cX0_findWay 14 = .ok (.getfield 38, 3) := by decide +kernel
theorem dyX0_findWay_17 : decode cX0_findWay 17 = .ok (.if_icmp .ge 115, 3) := by decide +kernel
theorem dyX0_findWay_20 : decode cX0_findWay 20 = .ok (.aload_n 0, 1) := by decide +kernel
theorem dyX0_findWay_21 : decode cX0_findWay 21 = .ok (.getfield 12, 3) := by decide +kernel
theorem dyX0_findWay_24 : decode cX0_findWay 24 = .ok (.invokevirtual 44, 3) := by decide +kernel
theorem dyX0_findWay_27 : decode cX0_findWay 27 = .ok (.iconst 1, 1) := by decide +kernel
theorem dyX0_findWay_28 : decode cX0_findWay 28 = .ok (.istore 4, 2) := by decide +kernel
theorem dyX0_findWay_30 : decode cX0_findWay 30 = .ok (.iconst 0, 1) := by decide +kernel
theorem dyX0_findWay_31 : decode cX0_findWay 31 = .ok (.istore 5, 2) := by decide +kernel
theorem dyX0_findWay_33 : decode cX0_findWay 33 = .ok (.iload 4, 2) := by decide +kernel
theorem dyX0_findWay_35 : decode cX0_findWay 35 = .ok (.ifCond .eq 91, 3) := by decide +kernel
theorem dyX0_findWay_38 : decode cX0_findWay 38 = .ok (.iload 5, 2) := by decide +kernel
theorem dyX0_findWay_40 : decode cX0_findWay 40 = .ok (.iload_n 3, 1) := by decide +kernel
theorem dyX0_findWay_41 : decode cX0_findWay 41 = .ok (.iadd, 1) := by decide +kernel
theorem dyX0_findWay_42 : decode cX0_findWay 42 = .ok (.aload_n 1, 1) := by decide +kernel
theorem dyX0_findWay_43 : decode cX0_findWay 43 = .ok (.getfield 38, 3) := by decide +kernel
theorem dyX0_findWay_46 : decode cX0_findWay 46 = .ok (.if_icmp .ge 80, 3) := by decide +kernel
theorem dyX0_findWay_49 : decode cX0_findWay 49 = .ok (.iload 5, 2) := by decide +kernel
theorem dyX0_findWay_51 : decode cX0_findWay 51 = .ok (.iload_n 3, 1) := by decide +kernel
theorem dyX0_findWay_52 : decode cX0_findWay 52 = .ok (.iadd, 1) := by decide +kernel
theorem dyX0_findWay_53 : decode cX0_findWay 53 = .ok (.iload_n 2, 1) := by decide +kernel
theorem dyX0_findWay_54 : decode cX0_findWay 54 = .ok (.if_icmp .le 48, 3) := by decide +kernel
theorem dyX0_findWay_57 : decode cX0_findWay 57 = .ok (.aload_n 0, 1) := by decide +kernel
theorem dyX0_findWay_58 : decode cX0_findWay 58 = .ok (.aload_n 1, 1) := by decide +kernel
theorem dyX0_findWay_59 : decode cX0_findWay 59 = .ok (.iload 5, 2) := by decide +kernel
theorem dyX0_findWay_61 : decode cX0_findWay 61 = .ok (.iload_n 3, 1) := by decide +kernel
theorem dyX0_findWay_62 : decode cX0_findWay 62 = .ok (.invokevirtual 47, 3) := by decide +kernel
theorem dyX0_findWay_65 : decode cX0_findWay 65 = .ok (.ifCond .eq 37, 3) := by decide +kernel
theorem dyX0_findWay_68 : decode cX0_findWay 68 = .ok (.aload_n 0, 1) := by decide +kernel
theorem dyX0_findWay_69 : decode cX0_findWay 69 = .ok (.getfield 18, 3) := by decide +kernel
theorem dyX0_findWay_72 : decode cX0_findWay 72 = .ok (.aload_n 0, 1) := by decide +kernel
theorem dyX0_findWay_73 : decode cX0_findWay 73 = .ok (.getfield 12, 3) := by decide +kernel
theorem dyX0_findWay_76 : decode cX0_findWay 76 = .ok (.invokevirtual 51, 3) := by decide +kernel
theorem dyX0_findWay_79 : decode cX0_findWay 79 = .ok (.aload_n 0, 1) := by decide +kernel
theorem dyX0_findWay_80 : decode cX0_findWay 80 = .ok (.getfield 18, 3) := by decide +kernel
theorem dyX0_findWay_83 : decode cX0_findWay 83 = .ok (.aload_n 1, 1) := by decide +kernel
theorem dyX0_findWay_84 : decode cX0_findWay 84 = .ok (.iload 5, 2) := by decide +kernel
theorem dyX0_findWay_86 : decode cX0_findWay 86 = .ok (.iload_n 3, 1) := by decide +kernel
theorem dyX0_findWay_87 : decode cX0_findWay 87 = .ok (.iadd, 1) := by decide +kernel
theorem dyX0_findWay_88 : decode cX0_findWay 88 = .ok (.invokevirtual 55, 3) := by decide +kernel
theorem dyX0_findWay_91 : decode cX0_findWay 91 = .ok (.ifCond .eq 11, 3) := by decide +kernel
theorem dyX0_findWay_94 : decode cX0_findWay 94 = .ok (.aload_n 0, 1) := by decide +kernel
theorem dyX0_findWay_95 : decode cX0_findWay 95 = .ok (.iload 5, 2) := by decide +kernel
theorem dyX0_findWay_97 : decode cX0_findWay 97 = .ok (.iload_n 3, 1) := by decide +kernel
theorem dyX0_findWay_98 : decode cX0_findWay 98 = .ok (.invokevirtual 59, 3) := by decide +kernel
theorem dyX0_findWay_101 : decode cX0_findWay 101 = .ok (.return_, 1) := by decide +kernel
theorem dyX0_findWay_102 : decode cX0_findWay 102 = .ok (.aload_n 0, 1) := by decide +kernel
theorem dyX0_findWay_103 : decode cX0_findWay 103 = .ok (.getfield 12, 3) := by decide +kernel
theorem dyX0_findWay_106 : decode cX0_findWay 106 = .ok (.aload_n 1, 1) := by decide +kernel
theorem dyX0_findWay_107 : decode cX0_findWay 107 = .ok (.getfield 63, 3) := by decide +kernel
theorem dyX0_findWay_110 : decode cX0_findWay 110 = .ok (.iload 5, 2) := by decide +kernel
theorem dyX0_findWay_112 : decode cX0_findWay 112 = .ok (.invokevirtual 66, 3) := by decide +kernel
theorem dyX0_findWay_115 : decode cX0_findWay 115 = .ok (.invokevirtual 70, 3) := by decide +kernel
theorem dyX0_findWay_118 : decode cX0_findWay 118 = .ok (.istore 4, 2) := by decide +kernel
theorem dyX0_findWay_120 : decode cX0_findWay 120 = .ok (.iinc 5 1, 3) := by decide +kernel
theorem dyX0_findWay_123 : decode cX0_findWay 123 = .ok (.goto (-90), 3) := by decide +kernel
theorem dyX0_findWay_126 : decode cX0_findWay 126 = .ok (.iinc 3 1, 3) := by decide +kernel
theorem dyX0_findWay_129 : decode cX0_findWay 129 = .ok (.goto (-117), 3) := by decide +kernel
theorem dyX0_findWay_132 : decode cX0_findWay 132 = .ok (.aload_n 0, 1) := by decide +kernel
theorem dyX0_findWay_133 : decode cX0_findWay 133 = .ok (.bipush (-2), 2) := by decide +kernel
theorem dyX0_findWay_135 : decode cX0_findWay 135 = .ok (.bipush (-2), 2) := by decide +kernel
theorem dyX0_findWay_137 : decode cX0_findWay 137 = .ok (.invokevirtual 59, 3) := by decide +kernel
theorem dyX0_findWay_140 : decode cX0_findWay 140 = .ok (.return_, 1) := by decide +kernel
theorem zsg_yX0_findWay : yX0_findWay.cls = RX0 ∧ yX0_findWay.cls ≠ "java/lang/invoke/MethodHandle" ∧ yX0_findWay.cls ≠ "java/lang/invoke/VarHandle" ∧ (parseMethodDescriptor yX0_findWay.desc).map (fun d => d.parameters.length) = some 1 := by decide +kernel
set_option maxRecDepth 20000 in
theorem c_Adviser_findWay {l : Launch} {D : va_G} {B : Nat} {cA : Nat → ClassId} {ad : Nat → Nat} {S : List zC} (hS : zOkX S) {a1 : Nat} {I : zI} {K : zI → Prop} (ha1 : zIsTokens S a1) (h : w_Adviser_findWay a1 I K) : Met l yX0_findWay (zws yX0_findWay cX0_findWay 6 none) (zrm 4 104) (zPc D B cA ad [.ref (B + 100), .ref (B + a1)] S I) (zQc D B cA (zqV S K)) 0 0 (fun q => B ≤ q) := by
  refine zm_of (cc := cX0_findWay) (maxL := 6) (ret := none) (by decide +kernel) rfl (Nat.le_of_ble_eq_true rfl) trivial ?_
  intro p e s m args below meth c C _
  unfold w_Adviser_findWay at h
  show zX p l e (zrm 4 104) s m args below meth c (MQ below (zQc D B cA (zqV S K)) args s 0 0 (fun q => B ≤ q)) D B cA 6 0 0 S I [(0, .ref (B + 100)), (1, .ref (B + a1))] [] 0
  refine zr_aload_n C dyX0_findWay_0 rfl 0 rfl ?_
  refine zr_aload_n C dyX0_findWay_1 rfl 1 rfl ?_
  refine zv_0_30 C hS ha1 (st := []) h ⟨Nat.le_of_ble_eq_true rfl, Nat.le_of_ble_eq_true rfl⟩ (Nat.le_of_ble_eq_true rfl) dyX0_findWay_2 (fun I_1 h => ?_)
  refine zr_aload_n C dyX0_findWay_5 rfl 1 rfl ?_
  refine zv_0_34 C hS ha1 (st := []) h ⟨Nat.le_of_ble_eq_true rfl, Nat.le_of_ble_eq_true rfl⟩ (Nat.le_of_ble_eq_true rfl) dyX0_findWay_6 (fun r_2 h => ?_)
  refine zr_istore_n C dyX0_findWay_9 rfl (Nat.le_of_ble_eq_true rfl) (lv2 := [(2, .int r_2), (0, .ref (B + 100)), (1, .ref (B + a1))]) rfl ?_
  refine zr_iconst C dyX0_findWay_10 zc_i_1 ?_
  refine zr_istore_n C dyX0_findWay_11 rfl (Nat.le_of_ble_eq_true rfl) (lv2 := [(3, .int 1), (2, .int r_2), (0, .ref (B + 100)), (1, .ref (B + a1))]) rfl ?_
  refine zjn (h (fun (v3_3 : Int32) (I_4 : zI) => zX p l e (zrm 4 104) s m args below meth c (MQ below (zQc D B cA (zqV S K)) args s 0 0 (fun q => B ≤ q)) D B cA 6 0 0 S I_4 [(3, .int v3_3), (2, .int r_2), (0, .ref (B + 100)), (1, .ref (B + a1))] [] 12) (fun v3_3 I_4 h => ?_)) (fun h => ?_)
  · refine zr_iload_n C dyX0_findWay_12 rfl 0 rfl ?_
    refine zr_aload_n C dyX0_findWay_13 rfl 3 rfl ?_
    refine zg_0_38 C ha1 dyX0_findWay_14 ?_
    refine zr_icmp_ge C dyX0_findWay_17 (tgt := 132) (by decide) (fun hc_26 => ?_) (fun hc_26 => ?_)
    · replace h := zif_pos hc_26 h
      refine zr_aload_n C dyX0_findWay_132 rfl 2 rfl ?_
      refine zr_bipush C dyX0_findWay_133 zc_b_m2 ?_
      refine zr_bipush C dyX0_findWay_135 zc_b_m2 ?_
      refine zv_0_59 C hS (st := []) h ⟨Nat.le_of_ble_eq_true rfl, Nat.le_of_ble_eq_true rfl⟩ (Nat.le_of_ble_eq_true rfl) dyX0_findWay_137 (fun I_5 h => ?_)
      exact zr_vret C rfl dyX0_findWay_140 ⟨rfl, rfl, h⟩
    · replace h := zif_neg hc_26 h
      refine zr_aload_n C dyX0_findWay_20 rfl 2 rfl ?_
      refine zg_0_12 C hS dyX0_findWay_21 ?_
      refine zv_0_44 C hS (zIsTrial.of hS zit_101) (st := []) h ⟨Nat.le_of_ble_eq_true rfl, Nat.le_of_ble_eq_true rfl⟩ (Nat.le_of_ble_eq_true rfl) dyX0_findWay_24 (fun I_6 h => ?_)
      refine zr_iconst C dyX0_findWay_27 zc_i_1 ?_
      refine zr_istore C dyX0_findWay_28 (Nat.le_of_ble_eq_true rfl) (lv2 := [(4, .int 1), (3, .int v3_3), (2, .int r_2), (0, .ref (B + 100)), (1, .ref (B + a1))]) rfl ?_
      refine zr_iconst C dyX0_findWay_30 zc_i_0 ?_
      refine zr_istore C dyX0_findWay_31 (Nat.le_of_ble_eq_true rfl) (lv2 := [(5, .int 0), (4, .int 1), (3, .int v3_3), (2, .int r_2), (0, .ref (B + 100)), (1, .ref (B + a1))]) rfl ?_
      refine zjn (h (fun (v4_7 : Int32) (v5_8 : Int32) (I_9 : zI) => zX p l e (zrm 4 104) s m args below meth c (MQ below (zQc D B cA (zqV S K)) args s 0 0 (fun q => B ≤ q)) D B cA 6 0 0 S I_9 [(5, .int v5_8), (4, .int v4_7), (3, .int v3_3), (2, .int r_2), (0, .ref (B + 100)), (1, .ref (B + a1))] [] 33) (fun v4_7 v5_8 I_9 h => ?_)) (fun h => ?_)
      · refine zr_iload C dyX0_findWay_33 1 rfl ?_
        refine zjn (h (zX p l e (zrm 4 104) s m args below meth c (MQ below (zQc D B cA (zqV S K)) args s 0 0 (fun q => B ≤ q)) D B cA 6 0 0 S I_9 [(3, .int v3_3), (2, .int r_2), (0, .ref (B + 100)), (1, .ref (B + a1))] [] 126) (fun  h => ?_)) (fun h => ?_)
        · refine zn_iinc C (fun v3_10 => [(3, .int v3_10), (2, .int r_2), (0, .ref (B + 100)), (1, .ref (B + a1))]) dyX0_findWay_126 0 rfl zc_i_1 (Nat.le_of_ble_eq_true rfl) (fun _ => rfl) (fun v3_10 ev3_10 => ?_)
          replace h := h v3_10 ev3_10
          refine zr_goto C dyX0_findWay_129 (tgt := 12) (by decide) ?_
          exact h
        refine zr_if_eq C dyX0_findWay_35 (tgt := 126) (by decide) (fun hc_25 => ?_) (fun hc_25 => ?_)
        · replace h := zif_pos hc_25 h
          refine zr_sub (lv2 := [(3, .int v3_3), (2, .int r_2), (0, .ref (B + 100)), (1, .ref (B + a1))]) [2, 3, 4, 5] rfl ?_
          exact h
        · replace h := zif_neg hc_25 h
          refine zr_iload C dyX0_findWay_38 0 rfl ?_
          refine zr_iload_n C dyX0_findWay_40 rfl 2 rfl ?_
          refine zr_iadd C dyX0_findWay_41 ?_
          refine zr_aload_n C dyX0_findWay_42 rfl 5 rfl ?_
          refine zg_0_38 C ha1 dyX0_findWay_43 ?_
          refine zr_icmp_ge C dyX0_findWay_46 (tgt := 126) (by decide) (fun hc_24 => ?_) (fun hc_24 => ?_)
          · replace h := zif_pos hc_24 h
            refine zr_sub (lv2 := [(3, .int v3_3), (2, .int r_2), (0, .ref (B + 100)), (1, .ref (B + a1))]) [2, 3, 4, 5] rfl ?_
            exact h
          · replace h := zif_neg hc_24 h
            refine zr_iload C dyX0_findWay_49 0 rfl ?_
            refine zr_iload_n C dyX0_findWay_51 rfl 2 rfl ?_
            refine zr_iadd C dyX0_findWay_52 ?_
            refine zr_iload_n C dyX0_findWay_53 rfl 3 rfl ?_
            refine zjn (h (fun (I_11 : zI) => zX p l e (zrm 4 104) s m args below meth c (MQ below (zQc D B cA (zqV S K)) args s 0 0 (fun q => B ≤ q)) D B cA 6 0 0 S I_11 [(5, .int v5_8), (3, .int v3_3), (2, .int r_2), (0, .ref (B + 100)), (1, .ref (B + a1))] [] 102) (fun I_11 h => ?_)) (fun h => ?_)
            · refine zr_aload_n C dyX0_findWay_102 rfl 3 rfl ?_
              refine zg_0_12 C hS dyX0_findWay_103 ?_
              refine zr_aload_n C dyX0_findWay_106 rfl 4 rfl ?_
              refine zg_0_63 C ha1 dyX0_findWay_107 ?_
              refine zr_iload C dyX0_findWay_110 0 rfl ?_
              refine zv_0_66 C hS ha1.2.1 (st := [.ref (B + 101)]) h ⟨Nat.le_of_ble_eq_true rfl, Nat.le_of_ble_eq_true rfl⟩ (Nat.le_of_ble_eq_true rfl) dyX0_findWay_112 (fun r_12 h => ?_)
              refine zv_0_70 C hS (zIsTrial.of hS zit_101) (st := []) h ⟨Nat.le_of_ble_eq_true rfl, Nat.le_of_ble_eq_true rfl⟩ (Nat.le_of_ble_eq_true rfl) dyX0_findWay_115 (fun r_13 I_14 h => ?_)
              refine zr_istore C dyX0_findWay_118 (Nat.le_of_ble_eq_true rfl) (lv2 := [(4, .int r_13), (5, .int v5_8), (3, .int v3_3), (2, .int r_2), (0, .ref (B + 100)), (1, .ref (B + a1))]) rfl ?_
              refine zn_iinc C (fun v5_15 => [(5, .int v5_15), (4, .int r_13), (3, .int v3_3), (2, .int r_2), (0, .ref (B + 100)), (1, .ref (B + a1))]) dyX0_findWay_120 1 rfl zc_i_1 (Nat.le_of_ble_eq_true rfl) (fun _ => rfl) (fun v5_15 ev5_15 => ?_)
              replace h := h v5_15 ev5_15
              refine zr_goto C dyX0_findWay_123 (tgt := 33) (by decide) ?_
              exact h
            refine zr_icmp_le C dyX0_findWay_54 (tgt := 102) (by decide) (fun hc_23 => ?_) (fun hc_23 => ?_)
            · replace h := zif_pos hc_23 h
              refine zr_sub (lv2 := [(5, .int v5_8), (3, .int v3_3), (2, .int r_2), (0, .ref (B + 100)), (1, .ref (B + a1))]) [0, 2, 3, 4, 5] rfl ?_
              exact h
            · replace h := zif_neg hc_23 h
              refine zr_aload_n C dyX0_findWay_57 rfl 4 rfl ?_
              refine zr_aload_n C dyX0_findWay_58 rfl 5 rfl ?_
              refine zr_iload C dyX0_findWay_59 0 rfl ?_
              refine zr_iload_n C dyX0_findWay_61 rfl 2 rfl ?_
              refine zv_0_47 C hS ha1 (st := []) h ⟨Nat.le_of_ble_eq_true rfl, Nat.le_of_ble_eq_true rfl⟩ (Nat.le_of_ble_eq_true rfl) dyX0_findWay_62 (fun r_16 h => ?_)
              refine zr_if_eq C dyX0_findWay_65 (tgt := 102) (by decide) (fun hc_22 => ?_) (fun hc_22 => ?_)
              · replace h := zif_pos hc_22 h
                refine zr_sub (lv2 := [(5, .int v5_8), (3, .int v3_3), (2, .int r_2), (0, .ref (B + 100)), (1, .ref (B + a1))]) [0, 2, 3, 4, 5] rfl ?_
                exact h
              · replace h := zif_neg hc_22 h
                refine zr_aload_n C dyX0_findWay_68 rfl 4 rfl ?_
                refine zg_0_18 C hS dyX0_findWay_69 ?_
                refine zr_aload_n C dyX0_findWay_72 rfl 4 rfl ?_
                refine zg_0_12 C hS dyX0_findWay_73 ?_
                refine zv_0_51 C hS (zIsTrial.of hS zit_104) (zIsTrial.of hS zit_101) (st := []) h ⟨Nat.le_of_ble_eq_true rfl, Nat.le_of_ble_eq_true rfl⟩ (Nat.le_of_ble_eq_true rfl) dyX0_findWay_76 (fun I_17 h => ?_)
                refine zr_aload_n C dyX0_findWay_79 rfl 4 rfl ?_
                refine zg_0_18 C hS dyX0_findWay_80 ?_
                refine zr_aload_n C dyX0_findWay_83 rfl 5 rfl ?_
                refine zr_iload C dyX0_findWay_84 0 rfl ?_
                refine zr_iload_n C dyX0_findWay_86 rfl 2 rfl ?_
                refine zr_iadd C dyX0_findWay_87 ?_
                refine zv_0_55 C hS (zIsTrial.of hS zit_104) ha1 (st := []) h ⟨Nat.le_of_ble_eq_true rfl, Nat.le_of_ble_eq_true rfl⟩ (Nat.le_of_ble_eq_true rfl) dyX0_findWay_88 (fun r_18 I_19 h => ?_)
                refine zr_if_eq C dyX0_findWay_91 (tgt := 102) (by decide) (fun hc_21 => ?_) (fun hc_21 => ?_)
                · replace h := zif_pos hc_21 h
                  refine zr_sub (lv2 := [(5, .int v5_8), (3, .int v3_3), (2, .int r_2), (0, .ref (B + 100)), (1, .ref (B + a1))]) [0, 2, 3, 4, 5] rfl ?_
                  exact h
                · replace h := zif_neg hc_21 h
                  refine zr_aload_n C dyX0_findWay_94 rfl 4 rfl ?_
                  refine zr_iload C dyX0_findWay_95 0 rfl ?_
                  refine zr_iload_n C dyX0_findWay_97 rfl 2 rfl ?_
                  refine zv_0_59 C hS (st := []) h ⟨Nat.le_of_ble_eq_true rfl, Nat.le_of_ble_eq_true rfl⟩ (Nat.le_of_ble_eq_true rfl) dyX0_findWay_98 (fun I_20 h => ?_)
                  exact zr_vret C rfl dyX0_findWay_101 ⟨rfl, rfl, h⟩
      exact h
  exact h
def w_Adviser_findMend (a1 : Nat) (I : zI) (K : zI → Prop) : Prop :=
  w_Trial_begin 101 I (fun I_1 => ∀ (P11 : Int32 → Int32 → zI → Prop), (∀ (v2_2 : Int32) (v3_3 : Int32) (I_4 : zI), (∀ (P104 : Prop), ((w_Adviser_found (-2) (-2) I_4 (fun I_5 => K I_5)) → P104) → (if v2_2 = 0 then P104 else (if (I_4.1 a1 5) ≤ v3_3 then P104 else (∀ (P26 : Int32 → zI → Prop), (∀ (v4_6 : Int32) (I_7 : zI), ((if 10 ≤ v4_6 then (w_Row_get (a1 + 1) 100 v3_3 I_7 (fun r_8 => w_Trial_accepts 101 r_8 I_7 (fun r_9 I_10 => ∀ v3_11, v3_11 = (v3_3 + 1) → P11 r_9 v3_11 I_10))) else (w_Trial_copyFrom 104 101 I_7 (fun I_12 => w_Trial_accepts 104 v4_6 I_12 (fun r_13 I_14 => ∀ (P76 : zI → Prop), (∀ (I_15 : zI), (∀ v4_16, v4_16 = (v4_6 + 1) → P26 v4_16 I_15) → P76 I_15) → (if r_13 = 0 then P76 I_14 else (w_Trial_acceptsFrom 104 a1 v3_3 I_14 (fun r_17 I_18 => (if r_17 = 0 then P76 I_18 else (w_Adviser_found v3_3 v4_6 I_18 (fun I_19 => K I_19))))))))))) → P26 v4_6 I_7) → P26 0 I_4)))) → P11 v2_2 v3_3 I_4) → P11 1 0 I_1)
theorem dyX0_findMend_0 : decode cX0_findMend 0 = .ok (.aload_n 0, 1) := by decide +kernel
theorem dyX0_findMend_1 : decode cX0_findMend 1 = .ok (.getfield 12, 3) := by decide +kernel
theorem dyX0_findMend_4 : decode cX0_findMend 4 = .ok (.invokevirtual 44, 3) := by decide +kernel
theorem dyX0_findMend_7 : decode cX0_findMend 7 = .ok (.iconst 1, 1) := by decide +kernel
theorem dyX0_findMend_8 : decode cX0_findMend 8 = .ok (.istore_n 2, 1) := by decide +kernel
theorem dyX0_findMend_9 : decode cX0_findMend 9 = .ok (.iconst 0, 1) := by decide +kernel
theorem dyX0_findMend_10 : decode cX0_findMend 10 = .ok (.istore_n 3, 1) := by decide +kernel
theorem dyX0_findMend_11 : decode cX0_findMend 11 = .ok (.iload_n 2, 1) := by decide +kernel
theorem dyX0_findMend_12 : decode cX0_findMend 12 = .ok (.ifCond .eq 92, 3) := by decide +kernel
theorem dyX0_findMend_15 : decode cX0_findMend 15 = .ok (.iload_n 3, 1) := by decide +kernel
theorem dyX0_findMend_16 : decode cX0_findMend 16 = .ok (.aload_n 1, 1) := by decide +kernel
theorem dyX0_findMend_17 : decode cX0_findMend 17 = .ok (.getfield 38, 3) := by decide +kernel
theorem dyX0_findMend_20 : decode cX0_findMend 20 = .ok (.if_icmp .ge 84, 3) := by decide +kernel
theorem dyX0_findMend_23 : decode cX0_findMend 23 = .ok (.iconst 0, 1) := by decide +kernel
theorem dyX0_findMend_24 : decode cX0_findMend 24 = .ok (.istore 4, 2) := by decide +kernel
theorem dyX0_findMend_26 : decode cX0_findMend 26 = .ok (.iload 4, 2) := by decide +kernel
theorem dyX0_findMend_28 : decode cX0_findMend 28 = .ok (.bipush 10, 2) := by decide +kernel
theorem dyX0_findMend_30 : decode cX0_findMend 30 = .ok (.if_icmp .ge 52, 3) := by decide +kernel
theorem dyX0_findMend_33 : decode cX0_findMend 33 = .ok (.aload_n 0, 1) := by decide +kernel
theorem dyX0_findMend_34 : decode cX0_findMend 34 = .ok (.getfield 18, 3) := by decide +kernel
theorem dyX0_findMend_37 : decode cX0_findMend 37 = .ok (.aload_n 0, 1) := by decide +kernel
theorem dyX0_findMend_38 : decode cX0_findMend 38 = .ok (.getfield 12, 3) := by decide +kernel
theorem dyX0_findMend_41 : decode cX0_findMend 41 = .ok (.invokevirtual 51, 3) := by decide +kernel
theorem dyX0_findMend_44 : decode cX0_findMend 44 = .ok (.aload_n 0, 1) := by decide +kernel
theorem dyX0_findMend_45 : decode cX0_findMend 45 = .ok (.getfield 18, 3) := by decide +kernel
theorem dyX0_findMend_48 : decode cX0_findMend 48 = .ok (.iload 4, 2) := by decide +kernel
theorem dyX0_findMend_50 : decode cX0_findMend 50 = .ok (.invokevirtual 70, 3) := by decide +kernel
theorem dyX0_findMend_53 : decode cX0_findMend 53 = .ok (.ifCond .eq 23, 3) := by decide +kernel
theorem dyX0_findMend_56 : decode cX0_findMend 56 = .ok (.aload_n 0, 1) := by decide +kernel
theorem dyX0_findMend_57 : decode cX0_findMend 57 = .ok (.getfield 18, 3) := by decide +kernel
theorem dyX0_findMend_60 : decode cX0_findMend 60 = .ok (.aload_n 1, 1) := by decide +kernel
theorem dyX0_findMend_61 : decode cX0_findMend 61 = .ok (.iload_n 3, 1) := by decide +kernel
theorem dyX0_findMend_62 : decode cX0_findMend 62 = .ok (.invokevirtual 55, 3) := by decide +kernel
theorem dyX0_findMend_65 : decode cX0_findMend 65 = .ok (.ifCond .eq 11, 3) := by decide +kernel
theorem dyX0_findMend_68 : decode cX0_findMend 68 = .ok (.aload_n 0, 1) := by decide +kernel
theorem dyX0_findMend_69 : decode cX0_findMend 69 = .ok (.iload_n 3, 1) := by decide +kernel
theorem dyX0_findMend_70 : decode cX0_findMend 70 = .ok (.iload 4, 2) := by decide +kernel
theorem dyX0_findMend_72 : decode cX0_findMend 72 = .ok (.invokevirtual 59, 3) := by decide +kernel
theorem dyX0_findMend_75 : decode cX0_findMend 75 = .ok (.return_, 1) := by decide +kernel
theorem dyX0_findMend_76 : decode cX0_findMend 76 = .ok (.iinc 4 1, 3) := by decide +kernel
theorem dyX0_findMend_79 : decode cX0_findMend 79 = .ok (.goto (-53), 3) := by decide +kernel
theorem dyX0_findMend_82 : decode cX0_findMend 82 = .ok (.aload_n 0, 1) := by decide +kernel
theorem dyX0_findMend_83 : decode cX0_findMend 83 = .ok (.getfield 12, 3) := by decide +kernel
theorem dyX0_findMend_86 : decode cX0_findMend 86 = .ok (.aload_n 1, 1) := by decide +kernel
theorem dyX0_findMend_87 : decode cX0_findMend 87 = .ok (.getfield 63, 3) := by decide +kernel
theorem dyX0_findMend_90 : decode cX0_findMend 90 = .ok (.iload_n 3, 1) := by decide +kernel
theorem dyX0_findMend_91 : decode cX0_findMend 91 = .ok (.invokevirtual 66, 3) := by decide +kernel
theorem dyX0_findMend_94 : decode cX0_findMend 94 = .ok (.invokevirtual 70, 3) := by decide +kernel
theorem dyX0_findMend_97 : decode cX0_findMend 97 = .ok (.istore_n 2, 1) := by decide +kernel
theorem dyX0_findMend_98 : decode cX0_findMend 98 = .ok (.iinc 3 1, 3) := by decide +kernel
theorem dyX0_findMend_101 : decode cX0_findMend 101 = .ok (.goto (-90), 3) := by decide +kernel
theorem dyX0_findMend_104 : decode cX0_findMend 104 = .ok (.aload_n 0, 1) := by decide +kernel
theorem dyX0_findMend_105 : decode cX0_findMend 105 = .ok (.bipush (-2), 2) := by decide +kernel
theorem dyX0_findMend_107 : decode cX0_findMend 107 = .ok (.bipush (-2), 2) := by decide +kernel
theorem dyX0_findMend_109 : decode cX0_findMend 109 = .ok (.invokevirtual 59, 3) := by decide +kernel
theorem dyX0_findMend_112 : decode cX0_findMend 112 = .ok (.return_, 1) := by decide +kernel
theorem zsg_yX0_findMend : yX0_findMend.cls = RX0 ∧ yX0_findMend.cls ≠ "java/lang/invoke/MethodHandle" ∧ yX0_findMend.cls ≠ "java/lang/invoke/VarHandle" ∧ (parseMethodDescriptor yX0_findMend.desc).map (fun d => d.parameters.length) = some 1 := by decide +kernel
set_option maxRecDepth 20000 in
theorem c_Adviser_findMend {l : Launch} {D : va_G} {B : Nat} {cA : Nat → ClassId} {ad : Nat → Nat} {S : List zC} (hS : zOkX S) {a1 : Nat} {I : zI} {K : zI → Prop} (ha1 : zIsTokens S a1) (h : w_Adviser_findMend a1 I K) : Met l yX0_findMend (zws yX0_findMend cX0_findMend 5 none) (zrm 4 104) (zPc D B cA ad [.ref (B + 100), .ref (B + a1)] S I) (zQc D B cA (zqV S K)) 0 0 (fun q => B ≤ q) := by
  refine zm_of (cc := cX0_findMend) (maxL := 5) (ret := none) (by decide +kernel) rfl (Nat.le_of_ble_eq_true rfl) trivial ?_
  intro p e s m args below meth c C _
  unfold w_Adviser_findMend at h
  show zX p l e (zrm 4 104) s m args below meth c (MQ below (zQc D B cA (zqV S K)) args s 0 0 (fun q => B ≤ q)) D B cA 5 0 0 S I [(0, .ref (B + 100)), (1, .ref (B + a1))] [] 0
  refine zr_aload_n C dyX0_findMend_0 rfl 0 rfl ?_
  refine zg_0_12 C hS dyX0_findMend_1 ?_
  refine zv_0_44 C hS (zIsTrial.of hS zit_101) (st := []) h ⟨Nat.le_of_ble_eq_true rfl, Nat.le_of_ble_eq_true rfl⟩ (Nat.le_of_ble_eq_true rfl) dyX0_findMend_4 (fun I_1 h => ?_)
  refine zr_iconst C dyX0_findMend_7 zc_i_1 ?_
  refine zr_istore_n C dyX0_findMend_8 rfl (Nat.le_of_ble_eq_true rfl) (lv2 := [(2, .int 1), (0, .ref (B + 100)), (1, .ref (B + a1))]) rfl ?_
  refine zr_iconst C dyX0_findMend_9 zc_i_0 ?_
  refine zr_istore_n C dyX0_findMend_10 rfl (Nat.le_of_ble_eq_true rfl) (lv2 := [(3, .int 0), (2, .int 1), (0, .ref (B + 100)), (1, .ref (B + a1))]) rfl ?_
  refine zjn (h (fun (v2_2 : Int32) (v3_3 : Int32) (I_4 : zI) => zX p l e (zrm 4 104) s m args below meth c (MQ below (zQc D B cA (zqV S K)) args s 0 0 (fun q => B ≤ q)) D B cA 5 0 0 S I_4 [(3, .int v3_3), (2, .int v2_2), (0, .ref (B + 100)), (1, .ref (B + a1))] [] 11) (fun v2_2 v3_3 I_4 h => ?_)) (fun h => ?_)
  · refine zr_iload_n C dyX0_findMend_11 rfl 1 rfl ?_
    refine zjn (h (zX p l e (zrm 4 104) s m args below meth c (MQ below (zQc D B cA (zqV S K)) args s 0 0 (fun q => B ≤ q)) D B cA 5 0 0 S I_4 [(0, .ref (B + 100))] [] 104) (fun  h => ?_)) (fun h => ?_)
    · refine zr_aload_n C dyX0_findMend_104 rfl 0 rfl ?_
      refine zr_bipush C dyX0_findMend_105 zc_b_m2 ?_
      refine zr_bipush C dyX0_findMend_107 zc_b_m2 ?_
      refine zv_0_59 C hS (st := []) h ⟨Nat.le_of_ble_eq_true rfl, Nat.le_of_ble_eq_true rfl⟩ (Nat.le_of_ble_eq_true rfl) dyX0_findMend_109 (fun I_5 h => ?_)
      exact zr_vret C rfl dyX0_findMend_112 ⟨rfl, rfl, h⟩
    refine zr_if_eq C dyX0_findMend_12 (tgt := 104) (by decide) (fun hc_24 => ?_) (fun hc_24 => ?_)
    · replace h := zif_pos hc_24 h
      refine zr_sub (lv2 := [(0, .ref (B + 100))]) [2] rfl ?_
      exact h
    · replace h := zif_neg hc_24 h
      refine zr_iload_n C dyX0_findMend_15 rfl 0 rfl ?_
      refine zr_aload_n C dyX0_findMend_16 rfl 3 rfl ?_
      refine zg_0_38 C ha1 dyX0_findMend_17 ?_
      refine zr_icmp_ge C dyX0_findMend_20 (tgt := 104) (by decide) (fun hc_23 => ?_) (fun hc_23 => ?_)
      · replace h := zif_pos hc_23 h
        refine zr_sub (lv2 := [(0, .ref (B + 100))]) [2] rfl ?_
        exact h
      · replace h := zif_neg hc_23 h
        refine zr_iconst C dyX0_findMend_23 zc_i_0 ?_
        refine zr_istore C dyX0_findMend_24 (Nat.le_of_ble_eq_true rfl) (lv2 := [(4, .int 0), (3, .int v3_3), (2, .int v2_2), (0, .ref (B + 100)), (1, .ref (B + a1))]) rfl ?_
        refine zjn (h (fun (v4_6 : Int32) (I_7 : zI) => zX p l e (zrm 4 104) s m args below meth c (MQ below (zQc D B cA (zqV S K)) args s 0 0 (fun q => B ≤ q)) D B cA 5 0 0 S I_7 [(4, .int v4_6), (3, .int v3_3), (0, .ref (B + 100)), (1, .ref (B + a1))] [] 26) (fun v4_6 I_7 h => ?_)) (fun h => ?_)
        · refine zr_iload C dyX0_findMend_26 0 rfl ?_
          refine zr_bipush C dyX0_findMend_28 zc_b_10 ?_
          refine zr_icmp_ge C dyX0_findMend_30 (tgt := 82) (by decide) (fun hc_22 => ?_) (fun hc_22 => ?_)
          · replace h := zif_pos hc_22 h
            refine zr_aload_n C dyX0_findMend_82 rfl 2 rfl ?_
            refine zg_0_12 C hS dyX0_findMend_83 ?_
            refine zr_aload_n C dyX0_findMend_86 rfl 3 rfl ?_
            refine zg_0_63 C ha1 dyX0_findMend_87 ?_
            refine zr_iload_n C dyX0_findMend_90 rfl 1 rfl ?_
            refine zv_0_66 C hS ha1.2.1 (st := [.ref (B + 101)]) h ⟨Nat.le_of_ble_eq_true rfl, Nat.le_of_ble_eq_true rfl⟩ (Nat.le_of_ble_eq_true rfl) dyX0_findMend_91 (fun r_8 h => ?_)
            refine zv_0_70 C hS (zIsTrial.of hS zit_101) (st := []) h ⟨Nat.le_of_ble_eq_true rfl, Nat.le_of_ble_eq_true rfl⟩ (Nat.le_of_ble_eq_true rfl) dyX0_findMend_94 (fun r_9 I_10 h => ?_)
            refine zr_istore_n C dyX0_findMend_97 rfl (Nat.le_of_ble_eq_true rfl) (lv2 := [(2, .int r_9), (4, .int v4_6), (3, .int v3_3), (0, .ref (B + 100)), (1, .ref (B + a1))]) rfl ?_
            refine zn_iinc C (fun v3_11 => [(3, .int v3_11), (2, .int r_9), (4, .int v4_6), (0, .ref (B + 100)), (1, .ref (B + a1))]) dyX0_findMend_98 2 rfl zc_i_1 (Nat.le_of_ble_eq_true rfl) (fun _ => rfl) (fun v3_11 ev3_11 => ?_)
            replace h := h v3_11 ev3_11
            refine zr_goto C dyX0_findMend_101 (tgt := 11) (by decide) ?_
            refine zr_sub (lv2 := [(3, .int v3_11), (2, .int r_9), (0, .ref (B + 100)), (1, .ref (B + a1))]) [0, 1, 3, 4] rfl ?_
            exact h
          · replace h := zif_neg hc_22 h
            refine zr_aload_n C dyX0_findMend_33 rfl 2 rfl ?_
            refine zg_0_18 C hS dyX0_findMend_34 ?_
            refine zr_aload_n C dyX0_findMend_37 rfl 2 rfl ?_
            refine zg_0_12 C hS dyX0_findMend_38 ?_
            refine zv_0_51 C hS (zIsTrial.of hS zit_104) (zIsTrial.of hS zit_101) (st := []) h ⟨Nat.le_of_ble_eq_true rfl, Nat.le_of_ble_eq_true rfl⟩ (Nat.le_of_ble_eq_true rfl) dyX0_findMend_41 (fun I_12 h => ?_)
            refine zr_aload_n C dyX0_findMend_44 rfl 2 rfl ?_
            refine zg_0_18 C hS dyX0_findMend_45 ?_
            refine zr_iload C dyX0_findMend_48 0 rfl ?_
            refine zv_0_70 C hS (zIsTrial.of hS zit_104) (st := []) h ⟨Nat.le_of_ble_eq_true rfl, Nat.le_of_ble_eq_true rfl⟩ (Nat.le_of_ble_eq_true rfl) dyX0_findMend_50 (fun r_13 I_14 h => ?_)
            refine zjn (h (fun (I_15 : zI) => zX p l e (zrm 4 104) s m args below meth c (MQ below (zQc D B cA (zqV S K)) args s 0 0 (fun q => B ≤ q)) D B cA 5 0 0 S I_15 [(4, .int v4_6), (3, .int v3_3), (0, .ref (B + 100)), (1, .ref (B + a1))] [] 76) (fun I_15 h => ?_)) (fun h => ?_)
            · refine zn_iinc C (fun v4_16 => [(4, .int v4_16), (3, .int v3_3), (0, .ref (B + 100)), (1, .ref (B + a1))]) dyX0_findMend_76 0 rfl zc_i_1 (Nat.le_of_ble_eq_true rfl) (fun _ => rfl) (fun v4_16 ev4_16 => ?_)
              replace h := h v4_16 ev4_16
              refine zr_goto C dyX0_findMend_79 (tgt := 26) (by decide) ?_
              exact h
            refine zr_if_eq C dyX0_findMend_53 (tgt := 76) (by decide) (fun hc_21 => ?_) (fun hc_21 => ?_)
            · replace h := zif_pos hc_21 h
              exact h
            · replace h := zif_neg hc_21 h
              refine zr_aload_n C dyX0_findMend_56 rfl 2 rfl ?_
              refine zg_0_18 C hS dyX0_findMend_57 ?_
              refine zr_aload_n C dyX0_findMend_60 rfl 3 rfl ?_
              refine zr_iload_n C dyX0_findMend_61 rfl 1 rfl ?_
              refine zv_0_55 C hS (zIsTrial.of hS zit_104) ha1 (st := []) h ⟨Nat.le_of_ble_eq_true rfl, Nat.le_of_ble_eq_true rfl⟩ (Nat.le_of_ble_eq_true rfl) dyX0_findMend_62 (fun r_17 I_18 h => ?_)
              refine zr_if_eq C dyX0_findMend_65 (tgt := 76) (by decide) (fun hc_20 => ?_) (fun hc_20 => ?_)
              · replace h := zif_pos hc_20 h
                exact h
              · replace h := zif_neg hc_20 h
                refine zr_aload_n C dyX0_findMend_68 rfl 2 rfl ?_
                refine zr_iload_n C dyX0_findMend_69 rfl 1 rfl ?_
                refine zr_iload C dyX0_findMend_70 0 rfl ?_
                refine zv_0_59 C hS (st := []) h ⟨Nat.le_of_ble_eq_true rfl, Nat.le_of_ble_eq_true rfl⟩ (Nat.le_of_ble_eq_true rfl) dyX0_findMend_72 (fun I_19 h => ?_)
                exact zr_vret C rfl dyX0_findMend_75 ⟨rfl, rfl, h⟩
        refine zr_sub (lv2 := [(4, .int 0), (3, .int v3_3), (0, .ref (B + 100)), (1, .ref (B + a1))]) [0, 1, 3, 4] rfl ?_
        exact h
  exact h
def w_Adviser_goToWrong (a1 : Nat) (I : zI) (K : zI → Prop) : Prop :=
  w_Trial_begin 101 I (fun I_1 => w_Trial_begin 104 I_1 (fun I_2 => ∀ (P16 : Int32 → zI → Prop), (∀ (v2_3 : Int32) (I_4 : zI), ((if (I_4.1 a1 5) ≤ v2_3 then K I_4 else (w_Row_get (a1 + 1) 100 v2_3 I_4 (fun r_5 => w_Trial_accepts 104 r_5 I_4 (fun r_6 I_7 => (if r_6 = 0 then K I_7 else (w_Trial_copyFrom 101 104 I_7 (fun I_8 => ∀ v2_9, v2_9 = (v2_3 + 1) → P16 v2_9 I_8)))))))) → P16 v2_3 I_4) → P16 0 I_2))
theorem dyX0_goToWrong_0 : decode cX0_goToWrong 0 = .ok (.aload_n 0, 1) := by decide +kernel
theorem dyX0_goToWrong_1 : decode cX0_goToWrong 1 = .ok (.getfield 12, 3) := by decide +kernel
theorem dyX0_goToWrong_4 : decode cX0_goToWrong 4 = .ok (.invokevirtual 44, 3) := by decide +kernel
theorem dyX0_goToWrong_7 : decode cX0_goToWrong 7 = .ok (.aload_n 0, 1) := by decide +kernel
theorem dyX0_goToWrong_8 : decode cX0_goToWrong 8 = .ok (.getfield 18, 3) := by decide +kernel
theorem dyX0_goToWrong_11 : decode cX0_goToWrong 11 = .ok (.invokevirtual 44, 3) := by decide +kernel
theorem dyX0_goToWrong_14 : decode cX0_goToWrong 14 = .ok (.iconst 0, 1) := by decide +kernel
theorem dyX0_goToWrong_15 : decode cX0_goToWrong 15 = .ok (.istore_n 2, 1) := by decide +kernel
theorem dyX0_goToWrong_16 : decode cX0_goToWrong 16 = .ok (.iload_n 2, 1) := by decide +kernel
theorem dyX0_goToWrong_17 : decode cX0_goToWrong 17 = .ok (.aload_n 1, 1) := by decide +kernel
theorem dyX0_goToWrong_18 : decode cX0_goToWrong 18 = .ok (.getfield 38, 3) := by decide +kernel
theorem dyX0_goToWrong_21 : decode cX0_goToWrong 21 = .ok (.if_icmp .ge 38, 3) := by decide +kernel
theorem dyX0_goToWrong_24 : decode cX0_goToWrong 24 = .ok (.aload_n 0, 1) := by decide +kernel
theorem dyX0_goToWrong_25 : decode cX0_goToWrong 25 = .ok (.getfield 18, 3) := by decide +kernel
theorem dyX0_goToWrong_28 : decode cX0_goToWrong 28 = .ok (.aload_n 1, 1) := by decide +kernel
theorem dyX0_goToWrong_29 : decode cX0_goToWrong 29 = .ok (.getfield 63, 3) := by decide +kernel
theorem dyX0_goToWrong_32 : decode cX0_goToWrong 32 = .ok (.iload_n 2, 1) := by decide +kernel
theorem dyX0_goToWrong_33 : decode cX0_goToWrong 33 = .ok (.invokevirtual 66, 3) := by decide +kernel
theorem dyX0_goToWrong_36 : decode cX0_goToWrong 36 = .ok (.invokevirtual 70, 3) := by decide +kernel
theorem dyX0_goToWrong_39 : decode cX0_goToWrong 39 = .ok (.ifCond .eq 20, 3) := by decide +kernel
theorem dyX0_goToWrong_42 : decode cX0_goToWrong 42 = .ok (.aload_n 0, 1) := by decide +kernel
theorem dyX0_goToWrong_43 : decode cX0_goToWrong 43 = .ok (.getfield 12, 3) := by decide +kernel
theorem dyX0_goToWrong_46 : decode cX0_goToWrong 46 = .ok (.aload_n 0, 1) := by decide +kernel
theorem dyX0_goToWrong_47 : decode cX0_goToWrong 47 = .ok (.getfield 18, 3) := by decide +kernel
theorem dyX0_goToWrong_50 : decode cX0_goToWrong 50 = .ok (.invokevirtual 51, 3) := by decide +kernel
theorem dyX0_goToWrong_53 : decode cX0_goToWrong 53 = .ok (.iinc 2 1, 3) := by decide +kernel
theorem dyX0_goToWrong_56 : decode cX0_goToWrong 56 = .ok (.goto (-40), 3) := by decide +kernel
theorem dyX0_goToWrong_59 : decode cX0_goToWrong 59 = .ok (.return_, 1) := by decide +kernel
theorem zsg_yX0_goToWrong : yX0_goToWrong.cls = RX0 ∧ yX0_goToWrong.cls ≠ "java/lang/invoke/MethodHandle" ∧ yX0_goToWrong.cls ≠ "java/lang/invoke/VarHandle" ∧ (parseMethodDescriptor yX0_goToWrong.desc).map (fun d => d.parameters.length) = some 1 := by decide +kernel
set_option maxRecDepth 20000 in
theorem c_Adviser_goToWrong {l : Launch} {D : va_G} {B : Nat} {cA : Nat → ClassId} {ad : Nat → Nat} {S : List zC} (hS : zOkX S) {a1 : Nat} {I : zI} {K : zI → Prop} (ha1 : zIsTokens S a1) (h : w_Adviser_goToWrong a1 I K) : Met l yX0_goToWrong (zws yX0_goToWrong cX0_goToWrong 3 none) (zrm 4 104) (zPc D B cA ad [.ref (B + 100), .ref (B + a1)] S I) (zQc D B cA (zqV S K)) 0 0 (fun q => B ≤ q) := by
  refine zm_of (cc := cX0_goToWrong) (maxL := 3) (ret := none) (by decide +kernel) rfl (Nat.le_of_ble_eq_true rfl) trivial ?_
  intro p e s m args below meth c C _
  unfold w_Adviser_goToWrong at h
  show zX p l e (zrm 4 104) s m args below meth c (MQ below (zQc D B cA (zqV S K)) args s 0 0 (fun q => B ≤ q)) D B cA 3 0 0 S I [(0, .ref (B + 100)), (1, .ref (B + a1))] [] 0
  refine zr_aload_n C dyX0_goToWrong_0 rfl 0 rfl ?_
  refine zg_0_12 C hS dyX0_goToWrong_1 ?_
  refine zv_0_44 C hS (zIsTrial.of hS zit_101) (st := []) h ⟨Nat.le_of_ble_eq_true rfl, Nat.le_of_ble_eq_true rfl⟩ (Nat.le_of_ble_eq_true rfl) dyX0_goToWrong_4 (fun I_1 h => ?_)
  refine zr_aload_n C dyX0_goToWrong_7 rfl 0 rfl ?_
  refine zg_0_18 C hS dyX0_goToWrong_8 ?_
  refine zv_0_44 C hS (zIsTrial.of hS zit_104) (st := []) h ⟨Nat.le_of_ble_eq_true rfl, Nat.le_of_ble_eq_true rfl⟩ (Nat.le_of_ble_eq_true rfl) dyX0_goToWrong_11 (fun I_2 h => ?_)
  refine zr_iconst C dyX0_goToWrong_14 zc_i_0 ?_
  refine zr_istore_n C dyX0_goToWrong_15 rfl (Nat.le_of_ble_eq_true rfl) (lv2 := [(2, .int 0), (0, .ref (B + 100)), (1, .ref (B + a1))]) rfl ?_
  refine zjn (h (fun (v2_3 : Int32) (I_4 : zI) => zX p l e (zrm 4 104) s m args below meth c (MQ below (zQc D B cA (zqV S K)) args s 0 0 (fun q => B ≤ q)) D B cA 3 0 0 S I_4 [(2, .int v2_3), (0, .ref (B + 100)), (1, .ref (B + a1))] [] 16) (fun v2_3 I_4 h => ?_)) (fun h => ?_)
  · refine zr_iload_n C dyX0_goToWrong_16 rfl 0 rfl ?_
    refine zr_aload_n C dyX0_goToWrong_17 rfl 2 rfl ?_
    refine zg_0_38 C ha1 dyX0_goToWrong_18 ?_
    refine zr_icmp_ge C dyX0_goToWrong_21 (tgt := 59) (by decide) (fun hc_11 => ?_) (fun hc_11 => ?_)
    · replace h := zif_pos hc_11 h
      exact zr_vret C rfl dyX0_goToWrong_59 ⟨rfl, rfl, h⟩
    · replace h := zif_neg hc_11 h
      refine zr_aload_n C dyX0_goToWrong_24 rfl 1 rfl ?_
      refine zg_0_18 C hS dyX0_goToWrong_25 ?_
      refine zr_aload_n C dyX0_goToWrong_28 rfl 2 rfl ?_
      refine zg_0_63 C ha1 dyX0_goToWrong_29 ?_
      refine zr_iload_n C dyX0_goToWrong_32 rfl 0 rfl ?_
      refine zv_0_66 C hS ha1.2.1 (st := [.ref (B + 104)]) h ⟨Nat.le_of_ble_eq_true rfl, Nat.le_of_ble_eq_true rfl⟩ (Nat.le_of_ble_eq_true rfl) dyX0_goToWrong_33 (fun r_5 h => ?_)
      refine zv_0_70 C hS (zIsTrial.of hS zit_104) (st := []) h ⟨Nat.le_of_ble_eq_true rfl, Nat.le_of_ble_eq_true rfl⟩ (Nat.le_of_ble_eq_true rfl) dyX0_goToWrong_36 (fun r_6 I_7 h => ?_)
      refine zr_if_eq C dyX0_goToWrong_39 (tgt := 59) (by decide) (fun hc_10 => ?_) (fun hc_10 => ?_)
      · replace h := zif_pos hc_10 h
        exact zr_vret C rfl dyX0_goToWrong_59 ⟨rfl, rfl, h⟩
      · replace h := zif_neg hc_10 h
        refine zr_aload_n C dyX0_goToWrong_42 rfl 1 rfl ?_
        refine zg_0_12 C hS dyX0_goToWrong_43 ?_
        refine zr_aload_n C dyX0_goToWrong_46 rfl 1 rfl ?_
        refine zg_0_18 C hS dyX0_goToWrong_47 ?_
        refine zv_0_51 C hS (zIsTrial.of hS zit_101) (zIsTrial.of hS zit_104) (st := []) h ⟨Nat.le_of_ble_eq_true rfl, Nat.le_of_ble_eq_true rfl⟩ (Nat.le_of_ble_eq_true rfl) dyX0_goToWrong_50 (fun I_8 h => ?_)
        refine zn_iinc C (fun v2_9 => [(2, .int v2_9), (0, .ref (B + 100)), (1, .ref (B + a1))]) dyX0_goToWrong_53 0 rfl zc_i_1 (Nat.le_of_ble_eq_true rfl) (fun _ => rfl) (fun v2_9 ev2_9 => ?_)
        replace h := h v2_9 ev2_9
        refine zr_goto C dyX0_goToWrong_56 (tgt := 16) (by decide) ?_
        exact h
  exact h
theorem zv_0_81 {p : Program} {l : Launch} {e : Env} {R : Room} {s : State} {m : MethodId} {args : Array Value} {below : List Frame} {meth : Method} {c : Code} {Q : State → Prop} {D : va_G} {B : Nat} {cA : Nat → ClassId} {ad : Nat → Nat} {cc : ByteArray} {nL : Nat} {ret : Option FieldType} {S : List zC} {I : zI} {lv : List (Nat × Value)} {st : List Value} {pc : Nat} (C : zCx p s m args meth c cc nL RX0 ret D B cA ad) {K : zI → Prop} {xa1 : Nat} (hS : zOkX S) (xha1 : zIsTokens S xa1) (h : w_Adviser_goToWrong xa1 I K) (hR : 4 + 1 ≤ R.frames ∧ 8 + (3 + 11) + (104) ≤ R.locals) (hw : (st.map fun v => v.category).sum ≤ 8) (hd : decode cc pc = .ok (.invokevirtual 81, 3)) (kk : ∀ I2, K I2 → zX p l e R s m args below meth c Q D B cA nL 0 0 S I2 lv st (pc + 3)) : zX p l e R s m args below meth c Q D B cA nL 0 0 S I lv (.ref (B + xa1) :: .ref (B + 100) :: st) pc :=
  have hf : 0 ≤ R.cells ∧ 0 ≤ R.slots := ⟨Nat.zero_le _, Nat.zero_le _⟩
  zc_VqV C (ci := 0) (q := (RX0, TX0, 5)) (k := 100) (fs := [some (some 101), some (some 104), some (some 107), none, none]) (As := [.ref (B + xa1)]) (st := st) rfl (hS _ _ zs_100) (c_Adviser_goToWrong hS xha1 h) (zgV zk_ml_0_81 zk_im_yX0_goToWrong zk_se_yX0_goToWrong zk_in_0 zk_cd_yX0_goToWrong) zsg_yX0_goToWrong hR rfl rfl hw hd hf kk
def w_Adviser_kindsInPlace (a1 : Nat) (I : zI) (K : Int32 → zI → Prop) : Prop :=
  w_Adviser_goToWrong a1 I (fun I_1 => ∀ (P9 : Int32 → Int32 → zI → Prop), (∀ (v2_2 : Int32) (v3_3 : Int32) (I_4 : zI), ((if 10 < v3_3 then K v2_2 I_4 else (w_Trial_copyFrom 104 101 I_4 (fun I_5 => w_Trial_accepts 104 v3_3 I_5 (fun r_6 I_7 => ∀ (P45 : Int32 → Prop), (∀ (t_8 : Int32), (∀ v2_9, v2_9 = (v2_2 ||| t_8) → ∀ v3_10, v3_10 = (v3_3 + 1) → P9 v2_9 v3_10 I_7) → P45 t_8) → (if r_6 = 0 then P45 0 else (P45 (1 <<< (v3_3 &&& 31))))))))) → P9 v2_2 v3_3 I_4) → P9 0 0 I_1)
theorem dyX0_kindsInPlace_0 : decode cX0_kindsInPlace 0 = .ok (.aload_n 0, 1) := by decide +kernel
theorem dyX0_kindsInPlace_1 : decode cX0_kindsInPlace 1 = .ok (.aload_n 1, 1) := by decide +kernel
theorem dyX0_kindsInPlace_2 : decode cX0_kindsInPlace 2 = .ok (.invokevirtual 81, 3) := by decide +kernel
theorem dyX0_kindsInPlace_5 : decode cX0_kindsInPlace 5 = .ok (.iconst 0, 1) := by decide +kernel
theorem dyX0_kindsInPlace_6 : decode cX0_kindsInPlace 6 = .ok (.istore_n 2, 1) := by decide +kernel
theorem dyX0_kindsInPlace_7 : decode cX0_kindsInPlace 7 = .ok (.iconst 0, 1) := by decide +kernel
theorem dyX0_kindsInPlace_8 : decode cX0_kindsInPlace 8 = .ok (.istore_n 3, 1) := by decide +kernel
theorem dyX0_kindsInPlace_9 : decode cX0_kindsInPlace 9 = .ok (.iload_n 3, 1) := by decide +kernel
theorem dyX0_kindsInPlace_10 : decode cX0_kindsInPlace 10 = .ok (.bipush 10, 2) := by decide +kernel
theorem dyX0_kindsInPlace_12 : decode cX0_kindsInPlace 12 = .ok (.if_icmp .gt 41, 3) := by decide +kernel
theorem dyX0_kindsInPlace_15 : decode cX0_kindsInPlace 15 = .ok (.aload_n 0, 1) := by decide +kernel
theorem dyX0_kindsInPlace_16 : decode cX0_kindsInPlace 16 = .ok (.getfield 18, 3) := by decide +kernel
theorem dyX0_kindsInPlace_19 : decode cX0_kindsInPlace 19 = .ok (.aload_n 0, 1) := by decide +kernel
theorem dyX0_kindsInPlace_20 : decode cX0_kindsInPlace 20 = .ok (.getfield 12, 3) := by decide +kernel
theorem dyX0_kindsInPlace_23 : decode cX0_kindsInPlace 23 = .ok (.invokevirtual 51, 3) := by decide +kernel
theorem dyX0_kindsInPlace_26 : decode cX0_kindsInPlace 26 = .ok (.iload_n 2, 1) := by decide +kernel
theorem dyX0_kindsInPlace_27 : decode cX0_kindsInPlace 27 = .ok (.aload_n 0, 1) := by decide +kernel
theorem dyX0_kindsInPlace_28 : decode cX0_kindsInPlace 28 = .ok (.getfield 18, 3) := by decide +kernel
theorem dyX0_kindsInPlace_31 : decode cX0_kindsInPlace 31 = .ok (.iload_n 3, 1) := by decide +kernel
theorem dyX0_kindsInPlace_32 : decode cX0_kindsInPlace 32 = .ok (.invokevirtual 70, 3) := by decide +kernel
theorem dyX0_kindsInPlace_35 : decode cX0_kindsInPlace 35 = .ok (.ifCond .eq 9, 3) := by decide +kernel
theorem dyX0_kindsInPlace_38 : decode cX0_kindsInPlace 38 = .ok (.iconst 1, 1) := by decide +kernel
theorem dyX0_kindsInPlace_39 : decode cX0_kindsInPlace 39 = .ok (.iload_n 3, 1) := by decide +kernel
theorem dyX0_kindsInPlace_40 : decode cX0_kindsInPlace 40 = .ok (.ishl, 1) := by decide +kernel
theorem dyX0_kindsInPlace_41 : decode cX0_kindsInPlace 41 = .ok (.goto 4, 3) := by decide +kernel
theorem dyX0_kindsInPlace_44 : decode cX0_kindsInPlace 44 = .ok (.iconst 0, 1) := by decide +kernel
theorem dyX0_kindsInPlace_45 : decode cX0_kindsInPlace 45 = .ok (.ior, 1) := by decide +kernel
theorem dyX0_kindsInPlace_46 : decode cX0_kindsInPlace 46 = .ok (.istore_n 2, 1) := by decide +kernel
theorem dyX0_kindsInPlace_47 : decode cX0_kindsInPlace 47 = .ok (.iinc 3 1, 3) := by decide +kernel
theorem dyX0_kindsInPlace_50 : decode cX0_kindsInPlace 50 = .ok (.goto (-41), 3) := by decide +kernel
theorem dyX0_kindsInPlace_53 : decode cX0_kindsInPlace 53 = .ok (.iload_n 2, 1) := by decide +kernel
theorem dyX0_kindsInPlace_54 : decode cX0_kindsInPlace 54 = .ok (.ireturn, 1) := by decide +kernel
theorem zsg_yX0_kindsInPlace : yX0_kindsInPlace.cls = RX0 ∧ yX0_kindsInPlace.cls ≠ "java/lang/invoke/MethodHandle" ∧ yX0_kindsInPlace.cls ≠ "java/lang/invoke/VarHandle" ∧ (parseMethodDescriptor yX0_kindsInPlace.desc).map (fun d => d.parameters.length) = some 1 := by decide +kernel
set_option maxRecDepth 20000 in
theorem c_Adviser_kindsInPlace {l : Launch} {D : va_G} {B : Nat} {cA : Nat → ClassId} {ad : Nat → Nat} {S : List zC} (hS : zOkX S) {a1 : Nat} {I : zI} {K : Int32 → zI → Prop} (ha1 : zIsTokens S a1) (h : w_Adviser_kindsInPlace a1 I K) : Met l yX0_kindsInPlace (zws yX0_kindsInPlace cX0_kindsInPlace 4 (some .int)) (zrm 5 126) (zPc D B cA ad [.ref (B + 100), .ref (B + a1)] S I) (zQc D B cA (zqI S K)) 0 0 (fun q => B ≤ q) := by
  refine zm_of (cc := cX0_kindsInPlace) (maxL := 4) (ret := (some .int)) (by decide +kernel) rfl (Nat.le_of_ble_eq_true rfl) trivial ?_
  intro p e s m args below meth c C _
  unfold w_Adviser_kindsInPlace at h
  show zX p l e (zrm 5 126) s m args below meth c (MQ below (zQc D B cA (zqI S K)) args s 0 0 (fun q => B ≤ q)) D B cA 4 0 0 S I [(0, .ref (B + 100)), (1, .ref (B + a1))] [] 0
  refine zr_aload_n C dyX0_kindsInPlace_0 rfl 0 rfl ?_
  refine zr_aload_n C dyX0_kindsInPlace_1 rfl 1 rfl ?_
  refine zv_0_81 C hS ha1 (st := []) h ⟨Nat.le_of_ble_eq_true rfl, Nat.le_of_ble_eq_true rfl⟩ (Nat.le_of_ble_eq_true rfl) dyX0_kindsInPlace_2 (fun I_1 h => ?_)
  refine zr_iconst C dyX0_kindsInPlace_5 zc_i_0 ?_
  refine zr_istore_n C dyX0_kindsInPlace_6 rfl (Nat.le_of_ble_eq_true rfl) (lv2 := [(2, .int 0), (0, .ref (B + 100)), (1, .ref (B + a1))]) rfl ?_
  refine zr_iconst C dyX0_kindsInPlace_7 zc_i_0 ?_
  refine zr_istore_n C dyX0_kindsInPlace_8 rfl (Nat.le_of_ble_eq_true rfl) (lv2 := [(3, .int 0), (2, .int 0), (0, .ref (B + 100)), (1, .ref (B + a1))]) rfl ?_
  refine zjn (h (fun (v2_2 : Int32) (v3_3 : Int32) (I_4 : zI) => zX p l e (zrm 5 126) s m args below meth c (MQ below (zQc D B cA (zqI S K)) args s 0 0 (fun q => B ≤ q)) D B cA 4 0 0 S I_4 [(3, .int v3_3), (2, .int v2_2), (0, .ref (B + 100))] [] 9) (fun v2_2 v3_3 I_4 h => ?_)) (fun h => ?_)
  · refine zr_iload_n C dyX0_kindsInPlace_9 rfl 0 rfl ?_
    refine zr_bipush C dyX0_kindsInPlace_10 zc_b_10 ?_
    refine zr_icmp_gt C dyX0_kindsInPlace_12 (tgt := 53) (by decide) (fun hc_12 => ?_) (fun hc_12 => ?_)
    · replace h := zif_pos hc_12 h
      refine zr_iload_n C dyX0_kindsInPlace_53 rfl 1 rfl ?_
      exact zr_iret C rfl dyX0_kindsInPlace_54 ⟨rfl, _, rfl, h⟩
    · replace h := zif_neg hc_12 h
      refine zr_aload_n C dyX0_kindsInPlace_15 rfl 2 rfl ?_
      refine zg_0_18 C hS dyX0_kindsInPlace_16 ?_
      refine zr_aload_n C dyX0_kindsInPlace_19 rfl 2 rfl ?_
      refine zg_0_12 C hS dyX0_kindsInPlace_20 ?_
      refine zv_0_51 C hS (zIsTrial.of hS zit_104) (zIsTrial.of hS zit_101) (st := []) h ⟨Nat.le_of_ble_eq_true rfl, Nat.le_of_ble_eq_true rfl⟩ (Nat.le_of_ble_eq_true rfl) dyX0_kindsInPlace_23 (fun I_5 h => ?_)
      refine zr_iload_n C dyX0_kindsInPlace_26 rfl 1 rfl ?_
      refine zr_aload_n C dyX0_kindsInPlace_27 rfl 2 rfl ?_
      refine zg_0_18 C hS dyX0_kindsInPlace_28 ?_
      refine zr_iload_n C dyX0_kindsInPlace_31 rfl 0 rfl ?_
      refine zv_0_70 C hS (zIsTrial.of hS zit_104) (st := [.int v2_2]) h ⟨Nat.le_of_ble_eq_true rfl, Nat.le_of_ble_eq_true rfl⟩ (Nat.le_of_ble_eq_true rfl) dyX0_kindsInPlace_32 (fun r_6 I_7 h => ?_)
      refine zjn (h (fun (t_8 : Int32) => zX p l e (zrm 5 126) s m args below meth c (MQ below (zQc D B cA (zqI S K)) args s 0 0 (fun q => B ≤ q)) D B cA 4 0 0 S I_7 [(3, .int v3_3), (0, .ref (B + 100))] [.int t_8, .int v2_2] 45) (fun t_8 h => ?_)) (fun h => ?_)
      · refine zr_ior C dyX0_kindsInPlace_45 ?_
        refine zn_istore_n C (fun v2_9 => [(2, .int v2_9), (3, .int v3_3), (0, .ref (B + 100))]) dyX0_kindsInPlace_46 rfl (Nat.le_of_ble_eq_true rfl) (fun _ => rfl) (fun v2_9 ev2_9 => ?_)
        replace h := h v2_9 ev2_9
        refine zn_iinc C (fun v3_10 => [(3, .int v3_10), (2, .int v2_9), (0, .ref (B + 100))]) dyX0_kindsInPlace_47 1 rfl zc_i_1 (Nat.le_of_ble_eq_true rfl) (fun _ => rfl) (fun v3_10 ev3_10 => ?_)
        replace h := h v3_10 ev3_10
        refine zr_goto C dyX0_kindsInPlace_50 (tgt := 9) (by decide) ?_
        exact h
      refine zr_if_eq C dyX0_kindsInPlace_35 (tgt := 44) (by decide) (fun hc_11 => ?_) (fun hc_11 => ?_)
      · replace h := zif_pos hc_11 h
        refine zr_iconst C dyX0_kindsInPlace_44 zc_i_0 ?_
        refine zr_sub (lv2 := [(3, .int v3_3), (0, .ref (B + 100))]) [0, 2] rfl ?_
        exact h
      · replace h := zif_neg hc_11 h
        refine zr_iconst C dyX0_kindsInPlace_38 zc_i_1 ?_
        refine zr_iload_n C dyX0_kindsInPlace_39 rfl 0 rfl ?_
        refine zr_ishl C dyX0_kindsInPlace_40 ?_
        refine zr_goto C dyX0_kindsInPlace_41 (tgt := 45) (by decide) ?_
        refine zr_sub (lv2 := [(3, .int v3_3), (0, .ref (B + 100))]) [0, 2] rfl ?_
        exact h
  refine zr_sub (lv2 := [(3, .int 0), (2, .int 0), (0, .ref (B + 100))]) [0, 1, 2] rfl ?_
  exact h
theorem zg_1_20 {p : Program} {l : Launch} {e : Env} {R : Room} {s : State} {m : MethodId} {args : Array Value} {below : List Frame} {meth : Method} {c : Code} {Q : State → Prop} {D : va_G} {B : Nat} {cA : Nat → ClassId} {ad : Nat → Nat} {cc : ByteArray} {nL : Nat} {ret : Option FieldType} {S : List zC} {I : zI} {lv : List (Nat × Value)} {st : List Value} {pc : Nat} (C : zCx p s m args meth c cc nL RX1 ret D B cA ad) (hS : zOkX S) (hd : decode cc pc = .ok (.getfield 20, 3)) (kk : zX p l e R s m args below meth c Q D B cA nL 0 0 S I lv (.ref (B + 67) :: st) (pc + 3)) : zX p l e R s m args below meth c Q D B cA nL 0 0 S I lv (.ref (B + 64) :: st) pc :=
  zr_getr C (ci := 1) (Cn := RX1) (T := TX1) (N := 14) (k := 64) (j := 3) (fs := [some (some 24), some (some 43), some (some 65), some (some 67), none, none, none, none, none, none, none, none, none, none]) rfl zin_1 (Nat.le_of_ble_eq_true rfl) rfl (hS _ _ zs_64) rfl zk_fl_1_20 hd kk
theorem zg_1_31 {p : Program} {l : Launch} {e : Env} {R : Room} {s : State} {m : MethodId} {args : Array Value} {below : List Frame} {meth : Method} {c : Code} {Q : State → Prop} {D : va_G} {B : Nat} {cA : Nat → ClassId} {ad : Nat → Nat} {cc : ByteArray} {nL : Nat} {ret : Option FieldType} {S : List zC} {I : zI} {lv : List (Nat × Value)} {st : List Value} {pc : Nat} (C : zCx p s m args meth c cc nL RX1 ret D B cA ad) (hS : zOkX S) (hd : decode cc pc = .ok (.getfield 31, 3)) (kk : zX p l e R s m args below meth c Q D B cA nL 0 0 S I lv (.int (I.1 64 4) :: st) (pc + 3)) : zX p l e R s m args below meth c Q D B cA nL 0 0 S I lv (.ref (B + 64) :: st) pc :=
  zr_geti C (ci := 1) (Cn := RX1) (T := TX1) (N := 14) (k := 64) (j := 4) (fs := [some (some 24), some (some 43), some (some 65), some (some 67), none, none, none, none, none, none, none, none, none, none]) rfl zin_1 (Nat.le_of_ble_eq_true rfl) rfl (hS _ _ zs_64) rfl zk_fl_1_31 hd kk
theorem zv_1_35 {p : Program} {l : Launch} {e : Env} {R : Room} {s : State} {m : MethodId} {args : Array Value} {below : List Frame} {meth : Method} {c : Code} {Q : State → Prop} {D : va_G} {B : Nat} {cA : Nat → ClassId} {ad : Nat → Nat} {cc : ByteArray} {nL : Nat} {ret : Option FieldType} {S : List zC} {I : zI} {lv : List (Nat × Value)} {st : List Value} {pc : Nat} (C : zCx p s m args meth c cc nL RX1 ret D B cA ad) {K : Int32 → Prop} {xk : Nat} {xn : Nat} {xa1 : Int32} (hS : zOkX S) (xhk : zIsRow S xk xn) (h : w_Row_get xk xn xa1 I K) (hR : 0 + 1 ≤ R.frames ∧ 8 + (2 + 11) + (0) ≤ R.locals) (hw : (st.map fun v => v.category).sum ≤ 8) (hd : decode cc pc = .ok (.invokevirtual 35, 3)) (kk : ∀ v, K v → zX p l e R s m args below meth c Q D B cA nL 0 0 S I lv (.int v :: st) (pc + 3)) : zX p l e R s m args below meth c Q D B cA nL 0 0 S I lv (.int xa1 :: .ref (B + xk) :: st) pc :=
  have hf : 0 ≤ R.cells ∧ 0 ≤ R.slots := ⟨Nat.zero_le _, Nat.zero_le _⟩
  zc_VpI C (ci := 6) (q := (RX6, TX6, 1)) (k := xk) (fs := [some (some (xk + 1))]) (As := [.int xa1]) (st := st) rfl xhk.1 (c_Row_get hS xhk h) (zgV zk_ml_1_35 zk_im_yX6_get zk_se_yX6_get zk_in_6 zk_cd_yX6_get) zsg_yX6_get hR rfl rfl hw hd hf kk
def w_Grower_onTop  (I : zI) (K : Int32 → Prop) : Prop :=
  w_Row_get 67 300 (I.1 64 4) I (fun r_1 => K r_1)
theorem dyX1_onTop_0 : decode cX1_onTop 0 = .ok (.aload_n 0, 1) := by decide +kernel
theorem dyX1_onTop_1 : decode cX1_onTop 1 = .ok (.getfield 20, 3) := by decide +kernel
theorem dyX1_onTop_4 : decode cX1_onTop 4 = .ok (.aload_n 0, 1) := by decide +kernel
theorem dyX1_onTop_5 : decode cX1_onTop 5 = .ok (.getfield 31, 3) := by decide +kernel
theorem dyX1_onTop_8 : decode cX1_onTop 8 = .ok (.invokevirtual 35, 3) := by decide +kernel
theorem dyX1_onTop_11 : decode cX1_onTop 11 = .ok (.ireturn, 1) := by decide +kernel
theorem zsg_yX1_onTop : yX1_onTop.cls = RX1 ∧ yX1_onTop.cls ≠ "java/lang/invoke/MethodHandle" ∧ yX1_onTop.cls ≠ "java/lang/invoke/VarHandle" ∧ (parseMethodDescriptor yX1_onTop.desc).map (fun d => d.parameters.length) = some 0 := by decide +kernel
set_option maxRecDepth 20000 in
theorem c_Grower_onTop {l : Launch} {D : va_G} {B : Nat} {cA : Nat → ClassId} {ad : Nat → Nat} {S : List zC} (hS : zOkX S)  {I : zI} {K : Int32 → Prop}  (h : w_Grower_onTop  I K) : Met l yX1_onTop (zws yX1_onTop cX1_onTop 1 (some .int)) (zrm 1 21) (zPc D B cA ad [.ref (B + 64)] S I) (zQc D B cA (zpI S I K)) 0 0 (fun q => B ≤ q) := by
  refine zm_of (cc := cX1_onTop) (maxL := 1) (ret := (some .int)) (by decide +kernel) rfl (Nat.le_of_ble_eq_true rfl) trivial ?_
  intro p e s m args below meth c C _
  unfold w_Grower_onTop at h
  show zX p l e (zrm 1 21) s m args below meth c (MQ below (zQc D B cA (zpI S I K)) args s 0 0 (fun q => B ≤ q)) D B cA 1 0 0 S I [(0, .ref (B + 64))] [] 0
  refine zr_aload_n C dyX1_onTop_0 rfl 0 rfl ?_
  refine zg_1_20 C hS dyX1_onTop_1 ?_
  refine zr_aload_n C dyX1_onTop_4 rfl 0 rfl ?_
  refine zg_1_31 C hS dyX1_onTop_5 ?_
  refine zv_1_35 C hS (zIsRow.of hS zir_67) (st := []) h ⟨Nat.le_of_ble_eq_true rfl, Nat.le_of_ble_eq_true rfl⟩ (Nat.le_of_ble_eq_true rfl) dyX1_onTop_8 (fun r_1 h => ?_)
  exact zr_iret C rfl dyX1_onTop_11 ⟨rfl, rfl, _, rfl, h⟩
theorem zg_3_20 {p : Program} {l : Launch} {e : Env} {R : Room} {s : State} {m : MethodId} {args : Array Value} {below : List Frame} {meth : Method} {c : Code} {Q : State → Prop} {D : va_G} {B : Nat} {cA : Nat → ClassId} {ad : Nat → Nat} {cc : ByteArray} {nL : Nat} {ret : Option FieldType} {S : List zC} {I : zI} {lv : List (Nat × Value)} {st : List Value} {pc : Nat} (C : zCx p s m args meth c cc nL RX3 ret D B cA ad) (hS : zOkX S) (hd : decode cc pc = .ok (.getfield 20, 3)) (kk : zX p l e R s m args below meth c Q D B cA nL 0 0 S I lv (.ref (B + 27) :: st) (pc + 3)) : zX p l e R s m args below meth c Q D B cA nL 0 0 S I lv (.ref (B + 24) :: st) pc :=
  zr_getr C (ci := 3) (Cn := RX3) (T := TX3) (N := 10) (k := 24) (j := 1) (fs := [some (some 25), some (some 27), some (some 29), some (some 31), some (some 33), some (some 35), some (some 37), some (some 39), some (some 41), none]) rfl zin_3 (Nat.le_of_ble_eq_true rfl) rfl (hS _ _ zs_24) rfl zk_fl_3_20 hd kk
theorem zv_3_60 {p : Program} {l : Launch} {e : Env} {R : Room} {s : State} {m : MethodId} {args : Array Value} {below : List Frame} {meth : Method} {c : Code} {Q : State → Prop} {D : va_G} {B : Nat} {cA : Nat → ClassId} {ad : Nat → Nat} {cc : ByteArray} {nL : Nat} {ret : Option FieldType} {S : List zC} {I : zI} {lv : List (Nat × Value)} {st : List Value} {pc : Nat} (C : zCx p s m args meth c cc nL RX3 ret D B cA ad) {K : Int32 → Prop} {xk : Nat} {xn : Nat} {xa1 : Int32} (hS : zOkX S) (xhk : zIsRow S xk xn) (h : w_Row_get xk xn xa1 I K) (hR : 0 + 1 ≤ R.frames ∧ 8 + (2 + 11) + (0) ≤ R.locals) (hw : (st.map fun v => v.category).sum ≤ 8) (hd : decode cc pc = .ok (.invokevirtual 60, 3)) (kk : ∀ v, K v → zX p l e R s m args below meth c Q D B cA nL 0 0 S I lv (.int v :: st) (pc + 3)) : zX p l e R s m args below meth c Q D B cA nL 0 0 S I lv (.int xa1 :: .ref (B + xk) :: st) pc :=
  have hf : 0 ≤ R.cells ∧ 0 ≤ R.slots := ⟨Nat.zero_le _, Nat.zero_le _⟩
  zc_VpI C (ci := 6) (q := (RX6, TX6, 1)) (k := xk) (fs := [some (some (xk + 1))]) (As := [.int xa1]) (st := st) rfl xhk.1 (c_Row_get hS xhk h) (zgV zk_ml_3_60 zk_im_yX6_get zk_se_yX6_get zk_in_6 zk_cd_yX6_get) zsg_yX6_get hR rfl rfl hw hd hf kk
theorem zg_3_69 {p : Program} {l : Launch} {e : Env} {R : Room} {s : State} {m : MethodId} {args : Array Value} {below : List Frame} {meth : Method} {c : Code} {Q : State → Prop} {D : va_G} {B : Nat} {cA : Nat → ClassId} {ad : Nat → Nat} {cc : ByteArray} {nL : Nat} {ret : Option FieldType} {S : List zC} {I : zI} {lv : List (Nat × Value)} {st : List Value} {pc : Nat} (C : zCx p s m args meth c cc nL RX3 ret D B cA ad) {k : Nat} (hk : zIsTokens S k) (hd : decode cc pc = .ok (.getfield 69, 3)) (kk : zX p l e R s m args below meth c Q D B cA nL 0 0 S I lv (.ref (B + (k + 1)) :: st) (pc + 3)) : zX p l e R s m args below meth c Q D B cA nL 0 0 S I lv (.ref (B + k) :: st) pc :=
  zr_getr C (ci := 8) (Cn := RX8) (T := TX8) (N := 6) (k := k) (j := 0) (fs := [some (some (k + 1)), some (some (k + 3)), some (some (k + 5)), some (some (k + 7)), some (some (k + 9)), none]) rfl zin_8 (Nat.le_of_ble_eq_true rfl) rfl hk.1 rfl zk_fl_3_69 hd kk
theorem zg_3_32 {p : Program} {l : Launch} {e : Env} {R : Room} {s : State} {m : MethodId} {args : Array Value} {below : List Frame} {meth : Method} {c : Code} {Q : State → Prop} {D : va_G} {B : Nat} {cA : Nat → ClassId} {ad : Nat → Nat} {cc : ByteArray} {nL : Nat} {ret : Option FieldType} {S : List zC} {I : zI} {lv : List (Nat × Value)} {st : List Value} {pc : Nat} (C : zCx p s m args meth c cc nL RX3 ret D B cA ad) (hS : zOkX S) (hd : decode cc pc = .ok (.getfield 32, 3)) (kk : zX p l e R s m args below meth c Q D B cA nL 0 0 S I lv (.ref (B + 35) :: st) (pc + 3)) : zX p l e R s m args below meth c Q D B cA nL 0 0 S I lv (.ref (B + 24) :: st) pc :=
  zr_getr C (ci := 3) (Cn := RX3) (T := TX3) (N := 10) (k := 24) (j := 5) (fs := [some (some 25), some (some 27), some (some 29), some (some 31), some (some 33), some (some 35), some (some 37), some (some 39), some (some 41), none]) rfl zin_3 (Nat.le_of_ble_eq_true rfl) rfl (hS _ _ zs_24) rfl zk_fl_3_32 hd kk
theorem zg_3_74 {p : Program} {l : Launch} {e : Env} {R : Room} {s : State} {m : MethodId} {args : Array Value} {below : List Frame} {meth : Method} {c : Code} {Q : State → Prop} {D : va_G} {B : Nat} {cA : Nat → ClassId} {ad : Nat → Nat} {cc : ByteArray} {nL : Nat} {ret : Option FieldType} {S : List zC} {I : zI} {lv : List (Nat × Value)} {st : List Value} {pc : Nat} (C : zCx p s m args meth c cc nL RX3 ret D B cA ad) {k : Nat} (hk : zIsTokens S k) (hd : decode cc pc = .ok (.getfield 74, 3)) (kk : zX p l e R s m args below meth c Q D B cA nL 0 0 S I lv (.ref (B + (k + 5)) :: st) (pc + 3)) : zX p l e R s m args below meth c Q D B cA nL 0 0 S I lv (.ref (B + k) :: st) pc :=
  zr_getr C (ci := 8) (Cn := RX8) (T := TX8) (N := 6) (k := k) (j := 2) (fs := [some (some (k + 1)), some (some (k + 3)), some (some (k + 5)), some (some (k + 7)), some (some (k + 9)), none]) rfl zin_8 (Nat.le_of_ble_eq_true rfl) rfl hk.1 rfl zk_fl_3_74 hd kk
theorem zg_3_35 {p : Program} {l : Launch} {e : Env} {R : Room} {s : State} {m : MethodId} {args : Array Value} {below : List Frame} {meth : Method} {c : Code} {Q : State → Prop} {D : va_G} {B : Nat} {cA : Nat → ClassId} {ad : Nat → Nat} {cc : ByteArray} {nL : Nat} {ret : Option FieldType} {S : List zC} {I : zI} {lv : List (Nat × Value)} {st : List Value} {pc : Nat} (C : zCx p s m args meth c cc nL RX3 ret D B cA ad) (hS : zOkX S) (hd : decode cc pc = .ok (.getfield 35, 3)) (kk : zX p l e R s m args below meth c Q D B cA nL 0 0 S I lv (.ref (B + 37) :: st) (pc + 3)) : zX p l e R s m args below meth c Q D B cA nL 0 0 S I lv (.ref (B + 24) :: st) pc :=
  zr_getr C (ci := 3) (Cn := RX3) (T := TX3) (N := 10) (k := 24) (j := 6) (fs := [some (some 25), some (some 27), some (some 29), some (some 31), some (some 33), some (some 35), some (some 37), some (some 39), some (some 41), none]) rfl zin_3 (Nat.le_of_ble_eq_true rfl) rfl (hS _ _ zs_24) rfl zk_fl_3_35 hd kk
theorem zg_3_75 {p : Program} {l : Launch} {e : Env} {R : Room} {s : State} {m : MethodId} {args : Array Value} {below : List Frame} {meth : Method} {c : Code} {Q : State → Prop} {D : va_G} {B : Nat} {cA : Nat → ClassId} {ad : Nat → Nat} {cc : ByteArray} {nL : Nat} {ret : Option FieldType} {S : List zC} {I : zI} {lv : List (Nat × Value)} {st : List Value} {pc : Nat} (C : zCx p s m args meth c cc nL RX3 ret D B cA ad) {k : Nat} (hk : zIsTokens S k) (hd : decode cc pc = .ok (.getfield 75, 3)) (kk : zX p l e R s m args below meth c Q D B cA nL 0 0 S I lv (.ref (B + (k + 7)) :: st) (pc + 3)) : zX p l e R s m args below meth c Q D B cA nL 0 0 S I lv (.ref (B + k) :: st) pc :=
  zr_getr C (ci := 8) (Cn := RX8) (T := TX8) (N := 6) (k := k) (j := 3) (fs := [some (some (k + 1)), some (some (k + 3)), some (some (k + 5)), some (some (k + 7)), some (some (k + 9)), none]) rfl zin_8 (Nat.le_of_ble_eq_true rfl) rfl hk.1 rfl zk_fl_3_75 hd kk
theorem zg_3_38 {p : Program} {l : Launch} {e : Env} {R : Room} {s : State} {m : MethodId} {args : Array Value} {below : List Frame} {meth : Method} {c : Code} {Q : State → Prop} {D : va_G} {B : Nat} {cA : Nat → ClassId} {ad : Nat → Nat} {cc : ByteArray} {nL : Nat} {ret : Option FieldType} {S : List zC} {I : zI} {lv : List (Nat × Value)} {st : List Value} {pc : Nat} (C : zCx p s m args meth c cc nL RX3 ret D B cA ad) (hS : zOkX S) (hd : decode cc pc = .ok (.getfield 38, 3)) (kk : zX p l e R s m args below meth c Q D B cA nL 0 0 S I lv (.ref (B + 39) :: st) (pc + 3)) : zX p l e R s m args below meth c Q D B cA nL 0 0 S I lv (.ref (B + 24) :: st) pc :=
  zr_getr C (ci := 3) (Cn := RX3) (T := TX3) (N := 10) (k := 24) (j := 7) (fs := [some (some 25), some (some 27), some (some 29), some (some 31), some (some 33), some (some 35), some (some 37), some (some 39), some (some 41), none]) rfl zin_3 (Nat.le_of_ble_eq_true rfl) rfl (hS _ _ zs_24) rfl zk_fl_3_38 hd kk
theorem zg_3_76 {p : Program} {l : Launch} {e : Env} {R : Room} {s : State} {m : MethodId} {args : Array Value} {below : List Frame} {meth : Method} {c : Code} {Q : State → Prop} {D : va_G} {B : Nat} {cA : Nat → ClassId} {ad : Nat → Nat} {cc : ByteArray} {nL : Nat} {ret : Option FieldType} {S : List zC} {I : zI} {lv : List (Nat × Value)} {st : List Value} {pc : Nat} (C : zCx p s m args meth c cc nL RX3 ret D B cA ad) {k : Nat} (hk : zIsTokens S k) (hd : decode cc pc = .ok (.getfield 76, 3)) (kk : zX p l e R s m args below meth c Q D B cA nL 0 0 S I lv (.ref (B + (k + 9)) :: st) (pc + 3)) : zX p l e R s m args below meth c Q D B cA nL 0 0 S I lv (.ref (B + k) :: st) pc :=
  zr_getr C (ci := 8) (Cn := RX8) (T := TX8) (N := 6) (k := k) (j := 4) (fs := [some (some (k + 1)), some (some (k + 3)), some (some (k + 5)), some (some (k + 7)), some (some (k + 9)), none]) rfl zin_8 (Nat.le_of_ble_eq_true rfl) rfl hk.1 rfl zk_fl_3_76 hd kk
def w_Nodes_isLike (a1 : Int32) (a2 : Nat) (a3 : Int32) (I : zI) (K : Int32 → Prop) : Prop :=
  w_Row_get 27 3400 a1 I (fun r_1 => w_Row_get (a2 + 1) 100 a3 I (fun r_2 => (if r_1 = (5 + r_2) then (w_Row_get 35 3400 a1 I (fun r_3 => w_Row_get (a2 + 5) 100 a3 I (fun r_4 => (if r_3 = r_4 then (w_Row_get 37 3400 a1 I (fun r_5 => w_Row_get (a2 + 7) 100 a3 I (fun r_6 => (if r_5 = r_6 then (w_Row_get 39 3400 a1 I (fun r_7 => w_Row_get (a2 + 9) 100 a3 I (fun r_8 => (if r_7 = r_8 then K 1 else K 0)))) else K 0)))) else K 0)))) else K 0)))
theorem dyX3_isLike_0 : decode cX3_isLike 0 = .ok (.aload_n 0, 1) := by decide +kernel
theorem dyX3_isLike_1 : decode cX3_isLike 1 = .ok (.getfield 20, 3) := by decide +kernel
theorem dyX3_isLike_4 : decode cX3_isLike 4 = .ok (.iload_n 1, 1) := by decide +kernel
theorem dyX3_isLike_5 : decode cX3_isLike 5 = .ok (.invokevirtual 60, 3) := by decide +kernel
theorem dyX3_isLike_8 : decode cX3_isLike 8 = .ok (.iconst 5, 1) := by decide +kernel
theorem dyX3_isLike_9 : decode cX3_isLike 9 = .ok (.aload_n 2, 1) := by decide +kernel
theorem dyX3_isLike_10 : decode cX3_isLike 10 = .ok (.getfield 69, 3) := by decide +kernel
theorem dyX3_isLike_13 : decode cX3_isLike 13 = .ok (.iload_n 3, 1) := by decide +kernel
theorem dyX3_isLike_14 : decode cX3_isLike 14 = .ok (.invokevirtual 60, 3) := by decide +kernel
theorem dyX3_isLike_17 : decode cX3_isLike 17 = .ok (.iadd, 1) := by decide +kernel
theorem dyX3_isLike_18 : decode cX3_isLike 18 = .ok (.if_icmp .ne 64, 3) := by decide +kernel
theorem dyX3_isLike_21 : decode cX3_isLike 21 = .ok (.aload_n 0, 1) := by decide +kernel
theorem dyX3_isLike_22 : decode cX3_isLike 22 = .ok (.getfield 32, 3) := by decide +kernel
theorem dyX3_isLike_25 : decode cX3_isLike 25 = .ok (.iload_n 1, 1) := by decide +kernel
theorem dyX3_isLike_26 : decode cX3_isLike 26 = .ok (.invokevirtual 60, 3) := by decide +kernel
theorem dyX3_isLike_29 : decode cX3_isLike 29 = .ok (.aload_n 2, 1) := by decide +kernel
theorem dyX3_isLike_30 : decode cX3_isLike 30 = .ok (.getfield 74, 3) := by decide +kernel
theorem dyX3_isLike_33 : decode cX3_isLike 33 = .ok (.iload_n 3, 1) := by decide +kernel
theorem dyX3_isLike_34 : decode cX3_isLike 34 = .ok (.invokevirtual 60, 3) := by decide +kernel
theorem dyX3_isLike_37 : decode cX3_isLike 37 = .ok (.if_icmp .ne 45, 3) := by decide +kernel
theorem dyX3_isLike_40 : decode cX3_isLike 40 = .ok (.aload_n 0, 1) := by decide +kernel
theorem dyX3_isLike_41 : decode cX3_isLike 41 = .ok (.getfield 35, 3) := by decide +kernel
theorem dyX3_isLike_44 : decode cX3_isLike 44 = .ok (.iload_n 1, 1) := by decide +kernel
theorem dyX3_isLike_45 : decode cX3_isLike 45 = .ok (.invokevirtual 60, 3) := by decide +kernel
theorem dyX3_isLike_48 : decode cX3_isLike 48 = .ok (.aload_n 2, 1) := by decide +kernel
theorem dyX3_isLike_49 : decode cX3_isLike 49 = .ok (.getfield 75, 3) := by decide +kernel
theorem dyX3_isLike_52 : decode cX3_isLike 52 = .ok (.iload_n 3, 1) := by decide +kernel
theorem dyX3_isLike_53 : decode cX3_isLike 53 = .ok (.invokevirtual 60, 3) := by decide +kernel
theorem dyX3_isLike_56 : decode cX3_isLike 56 = .ok (.if_icmp .ne 26, 3) := by decide +kernel
theorem dyX3_isLike_59 : decode cX3_isLike 59 = .ok (.aload_n 0, 1) := by decide +kernel
theorem dyX3_isLike_60 : decode cX3_isLike 60 = .ok (.getfield 38, 3) := by decide +kernel
theorem dyX3_isLike_63 : decode cX3_isLike 63 = .ok (.iload_n 1, 1) := by decide +kernel
theorem dyX3_isLike_64 : decode cX3_isLike 64 = .ok (.invokevirtual 60, 3) := by decide +kernel
theorem dyX3_isLike_67 : decode cX3_isLike 67 = .ok (.aload_n 2, 1) := by decide +kernel
theorem dyX3_isLike_68 : decode cX3_isLike 68 = .ok (.getfield 76, 3) := by decide +kernel
theorem dyX3_isLike_71 : decode cX3_isLike 71 = .ok (.iload_n 3, 1) := by decide +kernel
theorem dyX3_isLike_72 : decode cX3_isLike 72 = .ok (.invokevirtual 60, 3) := by decide +kernel
theorem dyX3_isLike_75 : decode cX3_isLike 75 = .ok (.if_icmp .ne 7, 3) := by decide +kernel
theorem dyX3_isLike_78 : decode cX3_isLike 78 = .ok (.iconst 1, 1) := by decide +kernel
theorem dyX3_isLike_79 : decode cX3_isLike 79 = .ok (.goto 4, 3) := by decide +kernel
theorem dyX3_isLike_82 : decode cX3_isLike 82 = .ok (.iconst 0, 1) := by decide +kernel
theorem dyX3_isLike_83 : decode cX3_isLike 83 = .ok (.ireturn, 1) := by decide +kernel
theorem zsg_yX3_isLike : yX3_isLike.cls = RX3 ∧ yX3_isLike.cls ≠ "java/lang/invoke/MethodHandle" ∧ yX3_isLike.cls ≠ "java/lang/invoke/VarHandle" ∧ (parseMethodDescriptor yX3_isLike.desc).map (fun d => d.parameters.length) = some 3 := by decide +kernel
set_option maxRecDepth 20000 in
theorem c_Nodes_isLike {l : Launch} {D : va_G} {B : Nat} {cA : Nat → ClassId} {ad : Nat → Nat} {S : List zC} (hS : zOkX S) {a1 : Int32} {a2 : Nat} {a3 : Int32} {I : zI} {K : Int32 → Prop} (ha2 : zIsTokens S a2) (h : w_Nodes_isLike a1 a2 a3 I K) : Met l yX3_isLike (zws yX3_isLike cX3_isLike 4 (some .boolean)) (zrm 1 21) (zPc D B cA ad [.ref (B + 24), .int a1, .ref (B + a2), .int a3] S I) (zQc D B cA (zpI S I K)) 0 0 (fun q => B ≤ q) := by
  refine zm_of (cc := cX3_isLike) (maxL := 4) (ret := (some .boolean)) (by decide +kernel) rfl (Nat.le_of_ble_eq_true rfl) trivial ?_
  intro p e s m args below meth c C _
  unfold w_Nodes_isLike at h
  show zX p l e (zrm 1 21) s m args below meth c (MQ below (zQc D B cA (zpI S I K)) args s 0 0 (fun q => B ≤ q)) D B cA 4 0 0 S I [(0, .ref (B + 24)), (1, .int a1), (2, .ref (B + a2)), (3, .int a3)] [] 0
  refine zr_aload_n C dyX3_isLike_0 rfl 0 rfl ?_
  refine zg_3_20 C hS dyX3_isLike_1 ?_
  refine zr_iload_n C dyX3_isLike_4 rfl 1 rfl ?_
  refine zv_3_60 C hS (zIsRow.of hS zir_27) (st := []) h ⟨Nat.le_of_ble_eq_true rfl, Nat.le_of_ble_eq_true rfl⟩ (Nat.le_of_ble_eq_true rfl) dyX3_isLike_5 (fun r_1 h => ?_)
  refine zr_iconst C dyX3_isLike_8 zc_i_5 ?_
  refine zr_aload_n C dyX3_isLike_9 rfl 2 rfl ?_
  refine zg_3_69 C ha2 dyX3_isLike_10 ?_
  refine zr_iload_n C dyX3_isLike_13 rfl 3 rfl ?_
  refine zv_3_60 C hS ha2.2.1 (st := [.int 5, .int r_1]) h ⟨Nat.le_of_ble_eq_true rfl, Nat.le_of_ble_eq_true rfl⟩ (Nat.le_of_ble_eq_true rfl) dyX3_isLike_14 (fun r_2 h => ?_)
  refine zr_iadd C dyX3_isLike_17 ?_
  refine zr_icmp_ne C dyX3_isLike_18 (tgt := 82) (by decide) (fun hc_12 => ?_) (fun hc_12 => ?_)
  · replace h := zif_neg hc_12 h
    refine zr_iconst C dyX3_isLike_82 zc_i_0 ?_
    exact zr_zret C rfl (zb.nar zb_0) dyX3_isLike_83 ⟨rfl, rfl, _, rfl, h⟩
  · replace h := zif_pos hc_12 h
    refine zr_aload_n C dyX3_isLike_21 rfl 0 rfl ?_
    refine zg_3_32 C hS dyX3_isLike_22 ?_
    refine zr_iload_n C dyX3_isLike_25 rfl 1 rfl ?_
    refine zv_3_60 C hS (zIsRow.of hS zir_35) (st := []) h ⟨Nat.le_of_ble_eq_true rfl, Nat.le_of_ble_eq_true rfl⟩ (Nat.le_of_ble_eq_true rfl) dyX3_isLike_26 (fun r_3 h => ?_)
    refine zr_aload_n C dyX3_isLike_29 rfl 2 rfl ?_
    refine zg_3_74 C ha2 dyX3_isLike_30 ?_
    refine zr_iload_n C dyX3_isLike_33 rfl 3 rfl ?_
    refine zv_3_60 C hS ha2.2.2.2.1 (st := [.int r_3]) h ⟨Nat.le_of_ble_eq_true rfl, Nat.le_of_ble_eq_true rfl⟩ (Nat.le_of_ble_eq_true rfl) dyX3_isLike_34 (fun r_4 h => ?_)
    refine zr_icmp_ne C dyX3_isLike_37 (tgt := 82) (by decide) (fun hc_11 => ?_) (fun hc_11 => ?_)
    · replace h := zif_neg hc_11 h
      refine zr_iconst C dyX3_isLike_82 zc_i_0 ?_
      exact zr_zret C rfl (zb.nar zb_0) dyX3_isLike_83 ⟨rfl, rfl, _, rfl, h⟩
    · replace h := zif_pos hc_11 h
      refine zr_aload_n C dyX3_isLike_40 rfl 0 rfl ?_
      refine zg_3_35 C hS dyX3_isLike_41 ?_
      refine zr_iload_n C dyX3_isLike_44 rfl 1 rfl ?_
      refine zv_3_60 C hS (zIsRow.of hS zir_37) (st := []) h ⟨Nat.le_of_ble_eq_true rfl, Nat.le_of_ble_eq_true rfl⟩ (Nat.le_of_ble_eq_true rfl) dyX3_isLike_45 (fun r_5 h => ?_)
      refine zr_aload_n C dyX3_isLike_48 rfl 2 rfl ?_
      refine zg_3_75 C ha2 dyX3_isLike_49 ?_
      refine zr_iload_n C dyX3_isLike_52 rfl 3 rfl ?_
      refine zv_3_60 C hS ha2.2.2.2.2.1 (st := [.int r_5]) h ⟨Nat.le_of_ble_eq_true rfl, Nat.le_of_ble_eq_true rfl⟩ (Nat.le_of_ble_eq_true rfl) dyX3_isLike_53 (fun r_6 h => ?_)
      refine zr_icmp_ne C dyX3_isLike_56 (tgt := 82) (by decide) (fun hc_10 => ?_) (fun hc_10 => ?_)
      · replace h := zif_neg hc_10 h
        refine zr_iconst C dyX3_isLike_82 zc_i_0 ?_
        exact zr_zret C rfl (zb.nar zb_0) dyX3_isLike_83 ⟨rfl, rfl, _, rfl, h⟩
      · replace h := zif_pos hc_10 h
        refine zr_aload_n C dyX3_isLike_59 rfl 0 rfl ?_
        refine zg_3_38 C hS dyX3_isLike_60 ?_
        refine zr_iload_n C dyX3_isLike_63 rfl 1 rfl ?_
        refine zv_3_60 C hS (zIsRow.of hS zir_39) (st := []) h ⟨Nat.le_of_ble_eq_true rfl, Nat.le_of_ble_eq_true rfl⟩ (Nat.le_of_ble_eq_true rfl) dyX3_isLike_64 (fun r_7 h => ?_)
        refine zr_aload_n C dyX3_isLike_67 rfl 2 rfl ?_
        refine zg_3_76 C ha2 dyX3_isLike_68 ?_
        refine zr_iload_n C dyX3_isLike_71 rfl 3 rfl ?_
        refine zv_3_60 C hS ha2.2.2.2.2.2 (st := [.int r_7]) h ⟨Nat.le_of_ble_eq_true rfl, Nat.le_of_ble_eq_true rfl⟩ (Nat.le_of_ble_eq_true rfl) dyX3_isLike_72 (fun r_8 h => ?_)
        refine zr_icmp_ne C dyX3_isLike_75 (tgt := 82) (by decide) (fun hc_9 => ?_) (fun hc_9 => ?_)
        · replace h := zif_neg hc_9 h
          refine zr_iconst C dyX3_isLike_82 zc_i_0 ?_
          exact zr_zret C rfl (zb.nar zb_0) dyX3_isLike_83 ⟨rfl, rfl, _, rfl, h⟩
        · replace h := zif_pos hc_9 h
          refine zr_iconst C dyX3_isLike_78 zc_i_1 ?_
          refine zr_goto C dyX3_isLike_79 (tgt := 83) (by decide) ?_
          exact zr_zret C rfl (zb.nar zb_1) dyX3_isLike_83 ⟨rfl, rfl, _, rfl, h⟩
theorem zg_1_44 {p : Program} {l : Launch} {e : Env} {R : Room} {s : State} {m : MethodId} {args : Array Value} {below : List Frame} {meth : Method} {c : Code} {Q : State → Prop} {D : va_G} {B : Nat} {cA : Nat → ClassId} {ad : Nat → Nat} {cc : ByteArray} {nL : Nat} {ret : Option FieldType} {S : List zC} {I : zI} {lv : List (Nat × Value)} {st : List Value} {pc : Nat} (C : zCx p s m args meth c cc nL RX1 ret D B cA ad) (hS : zOkX S) (hd : decode cc pc = .ok (.getfield 44, 3)) (kk : zX p l e R s m args below meth c Q D B cA nL 0 0 S I lv (.int (I.1 64 5) :: st) (pc + 3)) : zX p l e R s m args below meth c Q D B cA nL 0 0 S I lv (.ref (B + 64) :: st) pc :=
  zr_geti C (ci := 1) (Cn := RX1) (T := TX1) (N := 14) (k := 64) (j := 5) (fs := [some (some 24), some (some 43), some (some 65), some (some 67), none, none, none, none, none, none, none, none, none, none]) rfl zin_1 (Nat.le_of_ble_eq_true rfl) rfl (hS _ _ zs_64) rfl zk_fl_1_44 hd kk
theorem zg_1_56 {p : Program} {l : Launch} {e : Env} {R : Room} {s : State} {m : MethodId} {args : Array Value} {below : List Frame} {meth : Method} {c : Code} {Q : State → Prop} {D : va_G} {B : Nat} {cA : Nat → ClassId} {ad : Nat → Nat} {cc : ByteArray} {nL : Nat} {ret : Option FieldType} {S : List zC} {I : zI} {lv : List (Nat × Value)} {st : List Value} {pc : Nat} (C : zCx p s m args meth c cc nL RX1 ret D B cA ad) (hS : zOkX S) (hd : decode cc pc = .ok (.getfield 56, 3)) (kk : zX p l e R s m args below meth c Q D B cA nL 0 0 S I lv (.int (I.1 64 6) :: st) (pc + 3)) : zX p l e R s m args below meth c Q D B cA nL 0 0 S I lv (.ref (B + 64) :: st) pc :=
  zr_geti C (ci := 1) (Cn := RX1) (T := TX1) (N := 14) (k := 64) (j := 6) (fs := [some (some 24), some (some 43), some (some 65), some (some 67), none, none, none, none, none, none, none, none, none, none]) rfl zin_1 (Nat.le_of_ble_eq_true rfl) rfl (hS _ _ zs_64) rfl zk_fl_1_56 hd kk
theorem zp_1_77 {p : Program} {l : Launch} {e : Env} {R : Room} {s : State} {m : MethodId} {args : Array Value} {below : List Frame} {meth : Method} {c : Code} {Q : State → Prop} {D : va_G} {B : Nat} {cA : Nat → ClassId} {ad : Nat → Nat} {cc : ByteArray} {nL : Nat} {ret : Option FieldType} {S : List zC} {I : zI} {lv : List (Nat × Value)} {st : List Value} {pc : Nat} (C : zCx p s m args meth c cc nL RX1 ret D B cA ad) (hS : zOkX S) {v : Int32} (hd : decode cc pc = .ok (.putfield 77, 3)) (kk : zX p l e R s m args below meth c Q D B cA nL 0 0 S (zu I 64 7 v) lv st (pc + 3)) : zX p l e R s m args below meth c Q D B cA nL 0 0 S I lv (.int v :: .ref (B + 64) :: st) pc :=
  zr_puti C (ci := 1) (Cn := RX1) (T := TX1) (N := 14) (k := 64) (j := 7) (fs := [some (some 24), some (some 43), some (some 65), some (some 67), none, none, none, none, none, none, none, none, none, none]) rfl zin_1 (Nat.le_of_ble_eq_true rfl) rfl (hS _ _ zs_64) rfl tyX1 tyX1_ok nmX1 (ty := .int) zpd_I rfl rfl rfl zk_fl_1_77 hd kk
theorem zg_1_77 {p : Program} {l : Launch} {e : Env} {R : Room} {s : State} {m : MethodId} {args : Array Value} {below : List Frame} {meth : Method} {c : Code} {Q : State → Prop} {D : va_G} {B : Nat} {cA : Nat → ClassId} {ad : Nat → Nat} {cc : ByteArray} {nL : Nat} {ret : Option FieldType} {S : List zC} {I : zI} {lv : List (Nat × Value)} {st : List Value} {pc : Nat} (C : zCx p s m args meth c cc nL RX1 ret D B cA ad) (hS : zOkX S) (hd : decode cc pc = .ok (.getfield 77, 3)) (kk : zX p l e R s m args below meth c Q D B cA nL 0 0 S I lv (.int (I.1 64 7) :: st) (pc + 3)) : zX p l e R s m args below meth c Q D B cA nL 0 0 S I lv (.ref (B + 64) :: st) pc :=
  zr_geti C (ci := 1) (Cn := RX1) (T := TX1) (N := 14) (k := 64) (j := 7) (fs := [some (some 24), some (some 43), some (some 65), some (some 67), none, none, none, none, none, none, none, none, none, none]) rfl zin_1 (Nat.le_of_ble_eq_true rfl) rfl (hS _ _ zs_64) rfl zk_fl_1_77 hd kk
theorem zp_1_89 {p : Program} {l : Launch} {e : Env} {R : Room} {s : State} {m : MethodId} {args : Array Value} {below : List Frame} {meth : Method} {c : Code} {Q : State → Prop} {D : va_G} {B : Nat} {cA : Nat → ClassId} {ad : Nat → Nat} {cc : ByteArray} {nL : Nat} {ret : Option FieldType} {S : List zC} {I : zI} {lv : List (Nat × Value)} {st : List Value} {pc : Nat} (C : zCx p s m args meth c cc nL RX1 ret D B cA ad) (hS : zOkX S) {v : Int32} (hd : decode cc pc = .ok (.putfield 89, 3)) (kk : zX p l e R s m args below meth c Q D B cA nL 0 0 S (zu I 64 8 v) lv st (pc + 3)) : zX p l e R s m args below meth c Q D B cA nL 0 0 S I lv (.int v :: .ref (B + 64) :: st) pc :=
  zr_puti C (ci := 1) (Cn := RX1) (T := TX1) (N := 14) (k := 64) (j := 8) (fs := [some (some 24), some (some 43), some (some 65), some (some 67), none, none, none, none, none, none, none, none, none, none]) rfl zin_1 (Nat.le_of_ble_eq_true rfl) rfl (hS _ _ zs_64) rfl tyX1 tyX1_ok nmX1 (ty := .int) zpd_I rfl rfl rfl zk_fl_1_89 hd kk
theorem zg_1_89 {p : Program} {l : Launch} {e : Env} {R : Room} {s : State} {m : MethodId} {args : Array Value} {below : List Frame} {meth : Method} {c : Code} {Q : State → Prop} {D : va_G} {B : Nat} {cA : Nat → ClassId} {ad : Nat → Nat} {cc : ByteArray} {nL : Nat} {ret : Option FieldType} {S : List zC} {I : zI} {lv : List (Nat × Value)} {st : List Value} {pc : Nat} (C : zCx p s m args meth c cc nL RX1 ret D B cA ad) (hS : zOkX S) (hd : decode cc pc = .ok (.getfield 89, 3)) (kk : zX p l e R s m args below meth c Q D B cA nL 0 0 S I lv (.int (I.1 64 8) :: st) (pc + 3)) : zX p l e R s m args below meth c Q D B cA nL 0 0 S I lv (.ref (B + 64) :: st) pc :=
  zr_geti C (ci := 1) (Cn := RX1) (T := TX1) (N := 14) (k := 64) (j := 8) (fs := [some (some 24), some (some 43), some (some 65), some (some 67), none, none, none, none, none, none, none, none, none, none]) rfl zin_1 (Nat.le_of_ble_eq_true rfl) rfl (hS _ _ zs_64) rfl zk_fl_1_89 hd kk
theorem zg_1_23 {p : Program} {l : Launch} {e : Env} {R : Room} {s : State} {m : MethodId} {args : Array Value} {below : List Frame} {meth : Method} {c : Code} {Q : State → Prop} {D : va_G} {B : Nat} {cA : Nat → ClassId} {ad : Nat → Nat} {cc : ByteArray} {nL : Nat} {ret : Option FieldType} {S : List zC} {I : zI} {lv : List (Nat × Value)} {st : List Value} {pc : Nat} (C : zCx p s m args meth c cc nL RX1 ret D B cA ad) (hS : zOkX S) (hd : decode cc pc = .ok (.getfield 23, 3)) (kk : zX p l e R s m args below meth c Q D B cA nL 0 0 S I lv (.ref (B + 24) :: st) (pc + 3)) : zX p l e R s m args below meth c Q D B cA nL 0 0 S I lv (.ref (B + 64) :: st) pc :=
  zr_getr C (ci := 1) (Cn := RX1) (T := TX1) (N := 14) (k := 64) (j := 0) (fs := [some (some 24), some (some 43), some (some 65), some (some 67), none, none, none, none, none, none, none, none, none, none]) rfl zin_1 (Nat.le_of_ble_eq_true rfl) rfl (hS _ _ zs_64) rfl zk_fl_1_23 hd kk
theorem zg_1_80 {p : Program} {l : Launch} {e : Env} {R : Room} {s : State} {m : MethodId} {args : Array Value} {below : List Frame} {meth : Method} {c : Code} {Q : State → Prop} {D : va_G} {B : Nat} {cA : Nat → ClassId} {ad : Nat → Nat} {cc : ByteArray} {nL : Nat} {ret : Option FieldType} {S : List zC} {I : zI} {lv : List (Nat × Value)} {st : List Value} {pc : Nat} (C : zCx p s m args meth c cc nL RX1 ret D B cA ad) {k : Nat} (hk : zIsMoment S k) (hd : decode cc pc = .ok (.getfield 80, 3)) (kk : zX p l e R s m args below meth c Q D B cA nL 0 0 S I lv (.ref (B + (k + 14)) :: st) (pc + 3)) : zX p l e R s m args below meth c Q D B cA nL 0 0 S I lv (.ref (B + k) :: st) pc :=
  zr_getr C (ci := 2) (Cn := RX2) (T := TX2) (N := 9) (k := k) (j := 4) (fs := [some (some (k + 1)), none, some (some (k + 3)), none, some (some (k + 14)), some (some (k + 16)), none, none, none]) rfl zin_2 (Nat.le_of_ble_eq_true rfl) rfl hk.1 rfl zk_fl_1_80 hd kk
theorem zv_1_83 {p : Program} {l : Launch} {e : Env} {R : Room} {s : State} {m : MethodId} {args : Array Value} {below : List Frame} {meth : Method} {c : Code} {Q : State → Prop} {D : va_G} {B : Nat} {cA : Nat → ClassId} {ad : Nat → Nat} {cc : ByteArray} {nL : Nat} {ret : Option FieldType} {S : List zC} {I : zI} {lv : List (Nat × Value)} {st : List Value} {pc : Nat} (C : zCx p s m args meth c cc nL RX1 ret D B cA ad) {K : Int32 → Prop} {xa1 : Int32} {xa2 : Nat} {xa3 : Int32} (hS : zOkX S) (xha2 : zIsTokens S xa2) (h : w_Nodes_isLike xa1 xa2 xa3 I K) (hR : 1 + 1 ≤ R.frames ∧ 8 + (4 + 11) + (21) ≤ R.locals) (hw : (st.map fun v => v.category).sum ≤ 8) (hd : decode cc pc = .ok (.invokevirtual 83, 3)) (kk : ∀ v, K v → zX p l e R s m args below meth c Q D B cA nL 0 0 S I lv (.int v :: st) (pc + 3)) : zX p l e R s m args below meth c Q D B cA nL 0 0 S I lv (.int xa3 :: .ref (B + xa2) :: .int xa1 :: .ref (B + 24) :: st) pc :=
  have hf : 0 ≤ R.cells ∧ 0 ≤ R.slots := ⟨Nat.zero_le _, Nat.zero_le _⟩
  zc_VpI C (ci := 3) (q := (RX3, TX3, 10)) (k := 24) (fs := [some (some 25), some (some 27), some (some 29), some (some 31), some (some 33), some (some 35), some (some 37), some (some 39), some (some 41), none]) (As := [.int xa1, .ref (B + xa2), .int xa3]) (st := st) rfl (hS _ _ zs_24) (c_Nodes_isLike hS xha2 h) (zgV zk_ml_1_83 zk_im_yX3_isLike zk_se_yX3_isLike zk_in_3 zk_cd_yX3_isLike) zsg_yX3_isLike hR rfl rfl hw hd hf kk
def w_Grower_keepAlike (a1 : Nat) (a2 : Nat) (I : zI) (K : zI → Prop) : Prop :=
  ∀ v3_1, v3_1 = ((if (I.1 64 6) < (I.1 64 5) then (I.1 64 6) else (I.1 64 5)) - 1) → ∀ I_2, I_2 = (zu I 64 7 0) → ∀ (P19 : zI → Prop), (∀ (I_3 : zI), (∀ (P66 : Prop), ((∀ I_4, I_4 = (zu I_3 64 8 1) → ∀ (P71 : zI → Prop), (∀ (I_5 : zI), ((if (v3_1 - (I_5.1 64 7)) < (I_5.1 64 8) then K I_5 else (w_Row_get (a1 + 14) 100 (((I_5.1 64 5) - 1) - (I_5.1 64 8)) I_5 (fun r_6 => w_Nodes_isLike r_6 a2 (((I_5.1 64 6) - 1) - (I_5.1 64 8)) I_5 (fun r_7 => (if r_7 = 0 then K I_5 else (∀ I_8, I_8 = (zu I_5 64 8 ((I_5.1 64 8) + 1)) → P71 I_8))))))) → P71 I_5) → P71 I_4) → P66) → (if v3_1 ≤ (I_3.1 64 7) then P66 else (w_Row_get (a1 + 14) 100 (I_3.1 64 7) I_3 (fun r_11 => w_Nodes_isLike r_11 a2 (I_3.1 64 7) I_3 (fun r_12 => (if r_12 = 0 then P66 else (∀ I_13, I_13 = (zu I_3 64 7 ((I_3.1 64 7) + 1)) → P19 I_13))))))) → P19 I_3) → P19 I_2
theorem dyX1_keepAlike_0 : decode cX1_keepAlike 0 = .ok (.aload_n 0, 1) := by decide +kernel
theorem dyX1_keepAlike_1 : decode cX1_keepAlike 1 = .ok (.getfield 44, 3) := by decide +kernel
theorem dyX1_keepAlike_4 : decode cX1_keepAlike 4 = .ok (.aload_n 0, 1) := by decide +kernel
theorem dyX1_keepAlike_5 : decode cX1_keepAlike 5 = .ok (.getfield 56, 3) := by decide +kernel
theorem dyX1_keepAlike_8 : decode cX1_keepAlike 8 = .ok (.invokestatic 71, 3) := by decide +kernel
theorem dyX1_keepAlike_11 : decode cX1_keepAlike 11 = .ok (.iconst 1, 1) := by decide +kernel
theorem dyX1_keepAlike_12 : decode cX1_keepAlike 12 = .ok (.isub, 1) := by decide +kernel
theorem dyX1_keepAlike_13 : decode cX1_keepAlike 13 = .ok (.istore_n 3, 1) := by decide +kernel
theorem dyX1_keepAlike_14 : decode cX1_keepAlike 14 = .ok (.aload_n 0, 1) := by decide +kernel
theorem dyX1_keepAlike_15 : decode cX1_keepAlike 15 = .ok (.iconst 0, 1) := by decide +kernel
theorem dyX1_keepAlike_16 : decode cX1_keepAlike 16 = .ok (.putfield 77, 3) := by decide +kernel
theorem dyX1_keepAlike_19 : decode cX1_keepAlike 19 = .ok (.aload_n 0, 1) := by decide +kernel
theorem dyX1_keepAlike_20 : decode cX1_keepAlike 20 = .ok (.getfield 77, 3) := by decide +kernel
theorem dyX1_keepAlike_23 : decode cX1_keepAlike 23 = .ok (.iload_n 3, 1) := by decide +kernel
theorem dyX1_keepAlike_24 : decode cX1_keepAlike 24 = .ok (.if_icmp .ge 42, 3) := by decide +kernel
theorem dyX1_keepAlike_27 : decode cX1_keepAlike 27 = .ok (.aload_n 0, 1) := by decide +kernel
theorem dyX1_keepAlike_28 : decode cX1_keepAlike 28 = .ok (.getfield 23, 3) := by decide +kernel
theorem dyX1_keepAlike_31 : decode cX1_keepAlike 31 = .ok (.aload_n 1, 1) := by decide +kernel
theorem dyX1_keepAlike_32 : decode cX1_keepAlike 32 = .ok (.getfield 80, 3) := by decide +kernel
theorem dyX1_keepAlike_35 : decode cX1_keepAlike 35 = .ok (.aload_n 0, 1) := by decide +kernel
theorem dyX1_keepAlike_36 : decode cX1_keepAlike 36 = .ok (.getfield 77, 3) := by decide +kernel
theorem dyX1_keepAlike_39 : decode cX1_keepAlike 39 = .ok (.invokevirtual 35, 3) := by decide +kernel
theorem dyX1_keepAlike_42 : decode cX1_keepAlike 42 = .ok (.aload_n 2, 1) := by decide +kernel
theorem dyX1_keepAlike_43 : decode cX1_keepAlike 43 = .ok (.aload_n 0, 1) := by decide +kernel
theorem dyX1_keepAlike_44 : decode cX1_keepAlike 44 = .ok (.getfield 77, 3) := by decide +kernel
theorem dyX1_keepAlike_47 : decode cX1_keepAlike 47 = .ok (.invokevirtual 83, 3) := by decide +kernel
theorem dyX1_keepAlike_50 : decode cX1_keepAlike 50 = .ok (.ifCond .eq 16, 3) := by decide +kernel
theorem dyX1_keepAlike_53 : decode cX1_keepAlike 53 = .ok (.aload_n 0, 1) := by decide +kernel
theorem dyX1_keepAlike_54 : decode cX1_keepAlike 54 = .ok (.dup, 1) := by decide +kernel
theorem dyX1_keepAlike_55 : decode cX1_keepAlike 55 = .ok (.getfield 77, 3) := by decide +kernel
theorem dyX1_keepAlike_58 : decode cX1_keepAlike 58 = .ok (.iconst 1, 1) := by decide +kernel
theorem dyX1_keepAlike_59 : decode cX1_keepAlike 59 = .ok (.iadd, 1) := by decide +kernel
theorem dyX1_keepAlike_60 : decode cX1_keepAlike 60 = .ok (.putfield 77, 3) := by decide +kernel
theorem dyX1_keepAlike_63 : decode cX1_keepAlike 63 = .ok (.goto (-44), 3) := by decide +kernel
theorem dyX1_keepAlike_66 : decode cX1_keepAlike 66 = .ok (.aload_n 0, 1) := by decide +kernel
theorem dyX1_keepAlike_67 : decode cX1_keepAlike 67 = .ok (.iconst 1, 1) := by decide +kernel
theorem dyX1_keepAlike_68 : decode cX1_keepAlike 68 = .ok (.putfield 89, 3) := by decide +kernel
theorem dyX1_keepAlike_71 : decode cX1_keepAlike 71 = .ok (.aload_n 0, 1) := by decide +kernel
theorem dyX1_keepAlike_72 : decode cX1_keepAlike 72 = .ok (.getfield 89, 3) := by decide +kernel
theorem dyX1_keepAlike_75 : decode cX1_keepAlike 75 = .ok (.iload_n 3, 1) := by decide +kernel
theorem dyX1_keepAlike_76 : decode cX1_keepAlike 76 = .ok (.aload_n 0, 1) := by decide +kernel
theorem dyX1_keepAlike_77 : decode cX1_keepAlike 77 = .ok (.getfield 77, 3) := by decide +kernel
theorem dyX1_keepAlike_80 : decode cX1_keepAlike 80 = .ok (.isub, 1) := by decide +kernel
theorem dyX1_keepAlike_81 : decode cX1_keepAlike 81 = .ok (.if_icmp .gt 56, 3) := by decide +kernel
theorem dyX1_keepAlike_84 : decode cX1_keepAlike 84 = .ok (.aload_n 0, 1) := by decide +kernel
theorem dyX1_keepAlike_85 : decode cX1_keepAlike 85 = .ok (.getfield 23, 3) := by decide +kernel
theorem dyX1_keepAlike_88 : decode cX1_keepAlike 88 = .ok (.aload_n 1, 1) := by decide +kernel
theorem dyX1_keepAlike_89 : decode cX1_keepAlike 89 = .ok (.getfield 80, 3) := by decide +kernel
theorem dyX1_keepAlike_92 : decode cX1_keepAlike 92 = .ok (.aload_n 0, 1) := by decide +kernel
theorem dyX1_keepAlike_93 : decode cX1_keepAlike 93 = .ok (.getfield 44, 3) := by decide +kernel
theorem dyX1_keepAlike_96 : decode cX1_keepAlike 96 = .ok (.iconst 1, 1) := by decide +kernel
theorem dyX1_keepAlike_97 : decode cX1_keepAlike 97 = .ok (.isub, 1) := by decide +kernel
theorem dyX1_keepAlike_98 : decode cX1_keepAlike 98 = .ok (.aload_n 0, 1) := by decide +kernel
theorem dyX1_keepAlike_99 : decode cX1_keepAlike 99 = .ok (.getfield 89, 3) := by decide +kernel
theorem dyX1_keepAlike_102 : decode cX1_keepAlike 102 = .ok (.isub, 1) := by decide +kernel
theorem dyX1_keepAlike_103 : decode cX1_keepAlike 103 = .ok (.invokevirtual 35, 3) := by decide +kernel
theorem dyX1_keepAlike_106 : decode cX1_keepAlike 106 = .ok (.aload_n 2, 1) := by decide +kernel
theorem dyX1_keepAlike_107 : decode cX1_keepAlike 107 = .ok (.aload_n 0, 1) := by decide +kernel
theorem dyX1_keepAlike_108 : decode cX1_keepAlike 108 = .ok (.getfield 56, 3) := by decide +kernel
theorem dyX1_keepAlike_111 : decode cX1_keepAlike 111 = .ok (.iconst 1, 1) := by decide +kernel
theorem dyX1_keepAlike_112 : decode cX1_keepAlike 112 = .ok (.isub, 1) := by decide +kernel
theorem dyX1_keepAlike_113 : decode cX1_keepAlike 113 = .ok (.aload_n 0, 1) := by decide +kernel
theorem dyX1_keepAlike_114 : decode cX1_keepAlike 114 = .ok (.getfield 89, 3) := by decide +kernel
theorem dyX1_keepAlike_117 : decode cX1_keepAlike 117 = .ok (.isub, 1) := by decide +kernel
theorem dyX1_keepAlike_118 : decode cX1_keepAlike 118 = .ok (.invokevirtual 83, 3) := by decide +kernel
theorem dyX1_keepAlike_121 : decode cX1_keepAlike 121 = .ok (.ifCond .eq 16, 3) := by decide +kernel
theorem dyX1_keepAlike_124 : decode cX1_keepAlike 124 = .ok (.aload_n 0, 1) := by decide +kernel
theorem dyX1_keepAlike_125 : decode cX1_keepAlike 125 = .ok (.dup, 1) := by decide +kernel
theorem dyX1_keepAlike_126 : decode cX1_keepAlike 126 = .ok (.getfield 89, 3) := by decide +kernel
theorem dyX1_keepAlike_129 : decode cX1_keepAlike 129 = .ok (.iconst 1, 1) := by decide +kernel
theorem dyX1_keepAlike_130 : decode cX1_keepAlike 130 = .ok (.iadd, 1) := by decide +kernel
theorem dyX1_keepAlike_131 : decode cX1_keepAlike 131 = .ok (.putfield 89, 3) := by decide +kernel
theorem dyX1_keepAlike_134 : decode cX1_keepAlike 134 = .ok (.goto (-63), 3) := by decide +kernel
theorem dyX1_keepAlike_137 : decode cX1_keepAlike 137 = .ok (.return_, 1) := by decide +kernel
theorem zsg_yX1_keepAlike : yX1_keepAlike.cls = RX1 ∧ yX1_keepAlike.cls ≠ "java/lang/invoke/MethodHandle" ∧ yX1_keepAlike.cls ≠ "java/lang/invoke/VarHandle" ∧ (parseMethodDescriptor yX1_keepAlike.desc).map (fun d => d.parameters.length) = some 2 := by decide +kernel
set_option maxRecDepth 20000 in
theorem c_Grower_keepAlike {l : Launch} {D : va_G} {B : Nat} {cA : Nat → ClassId} {ad : Nat → Nat} {S : List zC} (hS : zOkX S) {a1 : Nat} {a2 : Nat} {I : zI} {K : zI → Prop} (ha1 : zIsMoment S a1) (ha2 : zIsTokens S a2) (h : w_Grower_keepAlike a1 a2 I K) : Met l yX1_keepAlike (zws yX1_keepAlike cX1_keepAlike 4 none) (zrm 2 44) (zPc D B cA ad [.ref (B + 64), .ref (B + a1), .ref (B + a2)] S I) (zQc D B cA (zqV S K)) 0 0 (fun q => B ≤ q) := by
  refine zm_of (cc := cX1_keepAlike) (maxL := 4) (ret := none) (by decide +kernel) rfl (Nat.le_of_ble_eq_true rfl) trivial ?_
  intro p e s m args below meth c C _
  unfold w_Grower_keepAlike at h
  show zX p l e (zrm 2 44) s m args below meth c (MQ below (zQc D B cA (zqV S K)) args s 0 0 (fun q => B ≤ q)) D B cA 4 0 0 S I [(0, .ref (B + 64)), (1, .ref (B + a1)), (2, .ref (B + a2))] [] 0
  refine zr_aload_n C dyX1_keepAlike_0 rfl 0 rfl ?_
  refine zg_1_44 C hS dyX1_keepAlike_1 ?_
  refine zr_aload_n C dyX1_keepAlike_4 rfl 0 rfl ?_
  refine zg_1_56 C hS dyX1_keepAlike_5 ?_
  refine zr_mmin C zk_ml_1_71 zk_st_J_min zk_in_Math zk_cd_J_min (Nat.le_of_ble_eq_true rfl) (Nat.le_of_ble_eq_true rfl) (Nat.le_of_ble_eq_true rfl) (Nat.zero_le _) (Nat.zero_le _) dyX1_keepAlike_8 ?_
  refine zr_iconst C dyX1_keepAlike_11 zc_i_1 ?_
  refine zr_isub C dyX1_keepAlike_12 ?_
  refine zn_istore_n C (fun v3_1 => [(3, .int v3_1), (0, .ref (B + 64)), (1, .ref (B + a1)), (2, .ref (B + a2))]) dyX1_keepAlike_13 rfl (Nat.le_of_ble_eq_true rfl) (fun _ => rfl) (fun v3_1 ev3_1 => ?_)
  replace h := h v3_1 ev3_1
  refine zr_aload_n C dyX1_keepAlike_14 rfl 1 rfl ?_
  refine zr_iconst C dyX1_keepAlike_15 zc_i_0 ?_
  refine zp_1_77 C hS dyX1_keepAlike_16 ?_
  refine zn_mem C (fun I_2 eI_2 => ?_)
  replace h := h I_2 eI_2
  refine zjn (h (fun (I_3 : zI) => zX p l e (zrm 2 44) s m args below meth c (MQ below (zQc D B cA (zqV S K)) args s 0 0 (fun q => B ≤ q)) D B cA 4 0 0 S I_3 [(3, .int v3_1), (0, .ref (B + 64)), (1, .ref (B + a1)), (2, .ref (B + a2))] [] 19) (fun I_3 h => ?_)) (fun h => ?_)
  · refine zr_aload_n C dyX1_keepAlike_19 rfl 1 rfl ?_
    refine zg_1_77 C hS dyX1_keepAlike_20 ?_
    refine zr_iload_n C dyX1_keepAlike_23 rfl 0 rfl ?_
    refine zjn (h (zX p l e (zrm 2 44) s m args below meth c (MQ below (zQc D B cA (zqV S K)) args s 0 0 (fun q => B ≤ q)) D B cA 4 0 0 S I_3 [(3, .int v3_1), (0, .ref (B + 64)), (1, .ref (B + a1)), (2, .ref (B + a2))] [] 66) (fun  h => ?_)) (fun h => ?_)
    · refine zr_aload_n C dyX1_keepAlike_66 rfl 1 rfl ?_
      refine zr_iconst C dyX1_keepAlike_67 zc_i_1 ?_
      refine zp_1_89 C hS dyX1_keepAlike_68 ?_
      refine zn_mem C (fun I_4 eI_4 => ?_)
      replace h := h I_4 eI_4
      refine zjn (h (fun (I_5 : zI) => zX p l e (zrm 2 44) s m args below meth c (MQ below (zQc D B cA (zqV S K)) args s 0 0 (fun q => B ≤ q)) D B cA 4 0 0 S I_5 [(3, .int v3_1), (0, .ref (B + 64)), (1, .ref (B + a1)), (2, .ref (B + a2))] [] 71) (fun I_5 h => ?_)) (fun h => ?_)
      · refine zr_aload_n C dyX1_keepAlike_71 rfl 1 rfl ?_
        refine zg_1_89 C hS dyX1_keepAlike_72 ?_
        refine zr_iload_n C dyX1_keepAlike_75 rfl 0 rfl ?_
        refine zr_aload_n C dyX1_keepAlike_76 rfl 1 rfl ?_
        refine zg_1_77 C hS dyX1_keepAlike_77 ?_
        refine zr_isub C dyX1_keepAlike_80 ?_
        refine zr_icmp_gt C dyX1_keepAlike_81 (tgt := 137) (by decide) (fun hc_10 => ?_) (fun hc_10 => ?_)
        · replace h := zif_pos hc_10 h
          exact zr_vret C rfl dyX1_keepAlike_137 ⟨rfl, rfl, h⟩
        · replace h := zif_neg hc_10 h
          refine zr_aload_n C dyX1_keepAlike_84 rfl 1 rfl ?_
          refine zg_1_23 C hS dyX1_keepAlike_85 ?_
          refine zr_aload_n C dyX1_keepAlike_88 rfl 2 rfl ?_
          refine zg_1_80 C ha1 dyX1_keepAlike_89 ?_
          refine zr_aload_n C dyX1_keepAlike_92 rfl 1 rfl ?_
          refine zg_1_44 C hS dyX1_keepAlike_93 ?_
          refine zr_iconst C dyX1_keepAlike_96 zc_i_1 ?_
          refine zr_isub C dyX1_keepAlike_97 ?_
          refine zr_aload_n C dyX1_keepAlike_98 rfl 1 rfl ?_
          refine zg_1_89 C hS dyX1_keepAlike_99 ?_
          refine zr_isub C dyX1_keepAlike_102 ?_
          refine zv_1_35 C hS ha1.2.2.2.1 (st := [.ref (B + 24)]) h ⟨Nat.le_of_ble_eq_true rfl, Nat.le_of_ble_eq_true rfl⟩ (Nat.le_of_ble_eq_true rfl) dyX1_keepAlike_103 (fun r_6 h => ?_)
          refine zr_aload_n C dyX1_keepAlike_106 rfl 3 rfl ?_
          refine zr_aload_n C dyX1_keepAlike_107 rfl 1 rfl ?_
          refine zg_1_56 C hS dyX1_keepAlike_108 ?_
          refine zr_iconst C dyX1_keepAlike_111 zc_i_1 ?_
          refine zr_isub C dyX1_keepAlike_112 ?_
          refine zr_aload_n C dyX1_keepAlike_113 rfl 1 rfl ?_
          refine zg_1_89 C hS dyX1_keepAlike_114 ?_
          refine zr_isub C dyX1_keepAlike_117 ?_
          refine zv_1_83 C hS ha2 (st := []) h ⟨Nat.le_of_ble_eq_true rfl, Nat.le_of_ble_eq_true rfl⟩ (Nat.le_of_ble_eq_true rfl) dyX1_keepAlike_118 (fun r_7 h => ?_)
          refine zr_if_eq C dyX1_keepAlike_121 (tgt := 137) (by decide) (fun hc_9 => ?_) (fun hc_9 => ?_)
          · replace h := zif_pos hc_9 h
            exact zr_vret C rfl dyX1_keepAlike_137 ⟨rfl, rfl, h⟩
          · replace h := zif_neg hc_9 h
            refine zr_aload_n C dyX1_keepAlike_124 rfl 1 rfl ?_
            refine zr_dup C dyX1_keepAlike_125 rfl ?_
            refine zg_1_89 C hS dyX1_keepAlike_126 ?_
            refine zr_iconst C dyX1_keepAlike_129 zc_i_1 ?_
            refine zr_iadd C dyX1_keepAlike_130 ?_
            refine zp_1_89 C hS dyX1_keepAlike_131 ?_
            refine zn_mem C (fun I_8 eI_8 => ?_)
            replace h := h I_8 eI_8
            refine zr_goto C dyX1_keepAlike_134 (tgt := 71) (by decide) ?_
            exact h
      exact h
    refine zr_icmp_ge C dyX1_keepAlike_24 (tgt := 66) (by decide) (fun hc_15 => ?_) (fun hc_15 => ?_)
    · replace h := zif_pos hc_15 h
      exact h
    · replace h := zif_neg hc_15 h
      refine zr_aload_n C dyX1_keepAlike_27 rfl 1 rfl ?_
      refine zg_1_23 C hS dyX1_keepAlike_28 ?_
      refine zr_aload_n C dyX1_keepAlike_31 rfl 2 rfl ?_
      refine zg_1_80 C ha1 dyX1_keepAlike_32 ?_
      refine zr_aload_n C dyX1_keepAlike_35 rfl 1 rfl ?_
      refine zg_1_77 C hS dyX1_keepAlike_36 ?_
      refine zv_1_35 C hS ha1.2.2.2.1 (st := [.ref (B + 24)]) h ⟨Nat.le_of_ble_eq_true rfl, Nat.le_of_ble_eq_true rfl⟩ (Nat.le_of_ble_eq_true rfl) dyX1_keepAlike_39 (fun r_11 h => ?_)
      refine zr_aload_n C dyX1_keepAlike_42 rfl 3 rfl ?_
      refine zr_aload_n C dyX1_keepAlike_43 rfl 1 rfl ?_
      refine zg_1_77 C hS dyX1_keepAlike_44 ?_
      refine zv_1_83 C hS ha2 (st := []) h ⟨Nat.le_of_ble_eq_true rfl, Nat.le_of_ble_eq_true rfl⟩ (Nat.le_of_ble_eq_true rfl) dyX1_keepAlike_47 (fun r_12 h => ?_)
      refine zr_if_eq C dyX1_keepAlike_50 (tgt := 66) (by decide) (fun hc_14 => ?_) (fun hc_14 => ?_)
      · replace h := zif_pos hc_14 h
        exact h
      · replace h := zif_neg hc_14 h
        refine zr_aload_n C dyX1_keepAlike_53 rfl 1 rfl ?_
        refine zr_dup C dyX1_keepAlike_54 rfl ?_
        refine zg_1_77 C hS dyX1_keepAlike_55 ?_
        refine zr_iconst C dyX1_keepAlike_58 zc_i_1 ?_
        refine zr_iadd C dyX1_keepAlike_59 ?_
        refine zp_1_77 C hS dyX1_keepAlike_60 ?_
        refine zn_mem C (fun I_13 eI_13 => ?_)
        replace h := h I_13 eI_13
        refine zr_goto C dyX1_keepAlike_63 (tgt := 19) (by decide) ?_
        exact h
  exact h
