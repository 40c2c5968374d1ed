theorem zc_b_31 : (Int8.ofInt 31).toInt32 = 31 := by decide
theorem zc_b_44 : (Int8.ofInt 44).toInt32 = 44 := by decide
theorem zc_b_59 : (Int8.ofInt 59).toInt32 = 59 := by decide
theorem zc_b_61 : (Int8.ofInt 61).toInt32 = 61 := by decide
theorem zc_b_63 : (Int8.ofInt 63).toInt32 = 63 := by decide
theorem zc_b_80 : (Int8.ofInt 80).toInt32 = 80 := by decide
theorem zc_b_90 : (Int8.ofInt 90).toInt32 = 90 := by decide
theorem zc_b_123 : (Int8.ofInt 123).toInt32 = 123 := by decide
theorem zc_b_125 : (Int8.ofInt 125).toInt32 = 125 := by decide
theorem zc_s_150 : (Int16.ofInt 150).toInt32 = 150 := by decide
theorem zc_s_511 : (Int16.ofInt 511).toInt32 = 511 := by decide
theorem zc_s_800 : (Int16.ofInt 800).toInt32 = 800 := by decide
theorem zc_s_2048 : (Int16.ofInt 2048).toInt32 = 2048 := by decide
theorem zc_s_2300 : (Int16.ofInt 2300).toInt32 = 2300 := by decide
def w_Law_letter (a0 : Int32) (S : List zC) (I : zI) (K : Int32 → Prop) : Prop :=
  (if a0 < 97 then K 0 else (if 122 < a0 then K 0 else K 1))
theorem dyL_letter_0 : decode cL_letter 0 = .ok (.iload_n 0, 1) := by decide +kernel
theorem dyL_letter_1 : decode cL_letter 1 = .ok (.bipush 97, 2) := by decide +kernel
theorem dyL_letter_3 : decode cL_letter 3 = .ok (.if_icmp .lt 13, 3) := by decide +kernel
theorem dyL_letter_6 : decode cL_letter 6 = .ok (.iload_n 0, 1) := by decide +kernel
theorem dyL_letter_7 : decode cL_letter 7 = .ok (.bipush 122, 2) := by decide +kernel
theorem dyL_letter_9 : decode cL_letter 9 = .ok (.if_icmp .gt 7, 3) := by decide +kernel
theorem dyL_letter_12 : decode cL_letter 12 = .ok (.iconst 1, 1) := by decide +kernel
theorem dyL_letter_13 : decode cL_letter 13 = .ok (.goto 4, 3) := by decide +kernel
theorem dyL_letter_16 : decode cL_letter 16 = .ok (.iconst 0, 1) := by decide +kernel
theorem dyL_letter_17 : decode cL_letter 17 = .ok (.ireturn, 1) := by decide +kernel
theorem zsg_yL_letter : yL_letter.cls ≠ "java/lang/invoke/MethodHandle" ∧ yL_letter.cls ≠ "java/lang/invoke/VarHandle" ∧ (parseMethodDescriptor yL_letter.desc).map (fun d => d.parameters.length) = some 1 := by decide +kernel
set_option maxHeartbeats 4000000 in
set_option maxRecDepth 20000 in
theorem c_Law_letter {l : Launch} {D : va_G} {B : Nat} {cA : Nat → ClassId} {ad : Nat → Nat} {S : List zC} (hS : zOkX S) {a0 : Int32} {I : zI} {K : Int32 → Prop} (h : w_Law_letter a0 S I K) : Met l yL_letter (zws yL_letter cL_letter 1 (some .boolean)) (zrm 0 0) (zPc D B cA ad [.int a0] S I) (zQc D B cA (zpI S I K)) 0 0 (fun q => B ≤ q) := by
  refine zm_of (cc := cL_letter) (maxL := 1) (ret := (some .boolean)) (by decide +kernel) rfl (Nat.le_of_ble_eq_true rfl) trivial ?_
  intro p e s m args below meth c C _
  unfold w_Law_letter at h
  have g0 : zGo S 0 0 S 0 0 := zGo.start hS
  show zX p l e (zrm 0 0) s m args below meth c (MQ below (zQc D B cA (zpI S I K)) args s 0 0 (fun q => B ≤ q)) D B cA 1 0 0 S I [(0, .int a0)] [] 0
  refine zr_iload_n C dyL_letter_0 rfl 0 rfl ?_
  refine zr_bipush C dyL_letter_1 zc_b_97 ?_
  refine zr_icmp_lt C dyL_letter_3 (tgt := 16) (by decide) (fun hc_2 => ?_) (fun hc_2 => ?_)
  · replace h := zif_pos hc_2 h
    refine zr_iconst C dyL_letter_16 zc_i_0 ?_
    exact zr_zret C rfl (zb.nar zb_0) dyL_letter_17 ⟨rfl, rfl, _, rfl, h⟩
  · replace h := zif_neg hc_2 h
    refine zr_iload_n C dyL_letter_6 rfl 0 rfl ?_
    refine zr_bipush C dyL_letter_7 zc_b_122 ?_
    refine zr_icmp_gt C dyL_letter_9 (tgt := 16) (by decide) (fun hc_1 => ?_) (fun hc_1 => ?_)
    · replace h := zif_pos hc_1 h
      refine zr_iconst C dyL_letter_16 zc_i_0 ?_
      exact zr_zret C rfl (zb.nar zb_0) dyL_letter_17 ⟨rfl, rfl, _, rfl, h⟩
    · replace h := zif_neg hc_1 h
      refine zr_iconst C dyL_letter_12 zc_i_1 ?_
      refine zr_goto C dyL_letter_13 (tgt := 17) (by decide) ?_
      exact zr_zret C rfl (zb.nar zb_1) dyL_letter_17 ⟨rfl, rfl, _, rfl, h⟩
def w_Law_digit (a0 : Int32) (S : List zC) (I : zI) (K : Int32 → Prop) : Prop :=
  (if a0 < 48 then K 0 else (if 57 < a0 then K 0 else K 1))
theorem dyL_digit_0 : decode cL_digit 0 = .ok (.iload_n 0, 1) := by decide +kernel
theorem dyL_digit_1 : decode cL_digit 1 = .ok (.bipush 48, 2) := by decide +kernel
theorem dyL_digit_3 : decode cL_digit 3 = .ok (.if_icmp .lt 13, 3) := by decide +kernel
theorem dyL_digit_6 : decode cL_digit 6 = .ok (.iload_n 0, 1) := by decide +kernel
theorem dyL_digit_7 : decode cL_digit 7 = .ok (.bipush 57, 2) := by decide +kernel
theorem dyL_digit_9 : decode cL_digit 9 = .ok (.if_icmp .gt 7, 3) := by decide +kernel
theorem dyL_digit_12 : decode cL_digit 12 = .ok (.iconst 1, 1) := by decide +kernel
theorem dyL_digit_13 : decode cL_digit 13 = .ok (.goto 4, 3) := by decide +kernel
theorem dyL_digit_16 : decode cL_digit 16 = .ok (.iconst 0, 1) := by decide +kernel
theorem dyL_digit_17 : decode cL_digit 17 = .ok (.ireturn, 1) := by decide +kernel
theorem zsg_yL_digit : yL_digit.cls ≠ "java/lang/invoke/MethodHandle" ∧ yL_digit.cls ≠ "java/lang/invoke/VarHandle" ∧ (parseMethodDescriptor yL_digit.desc).map (fun d => d.parameters.length) = some 1 := by decide +kernel
set_option maxHeartbeats 4000000 in
set_option maxRecDepth 20000 in
theorem c_Law_digit {l : Launch} {D : va_G} {B : Nat} {cA : Nat → ClassId} {ad : Nat → Nat} {S : List zC} (hS : zOkX S) {a0 : Int32} {I : zI} {K : Int32 → Prop} (h : w_Law_digit a0 S I K) : Met l yL_digit (zws yL_digit cL_digit 1 (some .boolean)) (zrm 0 0) (zPc D B cA ad [.int a0] S I) (zQc D B cA (zpI S I K)) 0 0 (fun q => B ≤ q) := by
  refine zm_of (cc := cL_digit) (maxL := 1) (ret := (some .boolean)) (by decide +kernel) rfl (Nat.le_of_ble_eq_true rfl) trivial ?_
  intro p e s m args below meth c C _
  unfold w_Law_digit at h
  have g0 : zGo S 0 0 S 0 0 := zGo.start hS
  show zX p l e (zrm 0 0) s m args below meth c (MQ below (zQc D B cA (zpI S I K)) args s 0 0 (fun q => B ≤ q)) D B cA 1 0 0 S I [(0, .int a0)] [] 0
  refine zr_iload_n C dyL_digit_0 rfl 0 rfl ?_
  refine zr_bipush C dyL_digit_1 zc_b_48 ?_
  refine zr_icmp_lt C dyL_digit_3 (tgt := 16) (by decide) (fun hc_2 => ?_) (fun hc_2 => ?_)
  · replace h := zif_pos hc_2 h
    refine zr_iconst C dyL_digit_16 zc_i_0 ?_
    exact zr_zret C rfl (zb.nar zb_0) dyL_digit_17 ⟨rfl, rfl, _, rfl, h⟩
  · replace h := zif_neg hc_2 h
    refine zr_iload_n C dyL_digit_6 rfl 0 rfl ?_
    refine zr_bipush C dyL_digit_7 zc_b_57 ?_
    refine zr_icmp_gt C dyL_digit_9 (tgt := 16) (by decide) (fun hc_1 => ?_) (fun hc_1 => ?_)
    · replace h := zif_pos hc_1 h
      refine zr_iconst C dyL_digit_16 zc_i_0 ?_
      exact zr_zret C rfl (zb.nar zb_0) dyL_digit_17 ⟨rfl, rfl, _, rfl, h⟩
    · replace h := zif_neg hc_1 h
      refine zr_iconst C dyL_digit_12 zc_i_1 ?_
      refine zr_goto C dyL_digit_13 (tgt := 17) (by decide) ?_
      exact zr_zret C rfl (zb.nar zb_1) dyL_digit_17 ⟨rfl, rfl, _, rfl, h⟩
def w_Law_sign (a1 : Int32) (S : List zC) (I : zI) (K : zI → Prop) : Prop :=
  w_Desk_feed (a1 <<< ((24 : Int32) &&& (31 : Int32))) 0 0 0 0 I (fun r_1 I_2 => w_Desk_back 19 I_2 (fun r_3 I_4 => K I_4))
theorem dyL_sign_0 : decode cL_sign 0 = .ok (.aload_n 0, 1) := by decide +kernel
theorem dyL_sign_1 : decode cL_sign 1 = .ok (.iload_n 1, 1) := by decide +kernel
theorem dyL_sign_2 : decode cL_sign 2 = .ok (.bipush 24, 2) := by decide +kernel
theorem dyL_sign_4 : decode cL_sign 4 = .ok (.ishl, 1) := by decide +kernel
theorem dyL_sign_5 : decode cL_sign 5 = .ok (.iconst 0, 1) := by decide +kernel
theorem dyL_sign_6 : decode cL_sign 6 = .ok (.iconst 0, 1) := by decide +kernel
theorem dyL_sign_7 : decode cL_sign 7 = .ok (.iconst 0, 1) := by decide +kernel
theorem dyL_sign_8 : decode cL_sign 8 = .ok (.iconst 0, 1) := by decide +kernel
theorem dyL_sign_9 : decode cL_sign 9 = .ok (.invokevirtual 7, 3) := by decide +kernel
theorem dyL_sign_12 : decode cL_sign 12 = .ok (.pop, 1) := by decide +kernel
theorem dyL_sign_13 : decode cL_sign 13 = .ok (.aload_n 0, 1) := by decide +kernel
theorem dyL_sign_14 : decode cL_sign 14 = .ok (.bipush 19, 2) := by decide +kernel
theorem dyL_sign_16 : decode cL_sign 16 = .ok (.invokevirtual 13, 3) := by decide +kernel
theorem dyL_sign_19 : decode cL_sign 19 = .ok (.pop, 1) := by decide +kernel
theorem dyL_sign_20 : decode cL_sign 20 = .ok (.return_, 1) := by decide +kernel
theorem zsg_yL_sign : yL_sign.cls ≠ "java/lang/invoke/MethodHandle" ∧ yL_sign.cls ≠ "java/lang/invoke/VarHandle" ∧ (parseMethodDescriptor yL_sign.desc).map (fun d => d.parameters.length) = some 2 := by decide +kernel
theorem zv_L_7t {p : Program} {l : Launch} {e : Env} {R : Room} {s : State} {m : MethodId} {args : Array Value} {below : List Frame} {meth : Method} {c : Code} {Q : State → Prop} {D : va_G} {B : Nat} {cA : Nat → ClassId} {ad : Nat → Nat} {cc : ByteArray} {nL : Nat} {ret : Option FieldType} {S : List zC} {I : zI} {lv : List (Nat × Value)} {st : List Value} {pc cells slots : Nat} (C : zCx p s m args meth c cc nL RL ret D B cA ad) {K : Int32 → zI → Prop} {xa1 : Int32} {xa2 : Int32} {xa3 : Int32} {xa4 : Int32} {xa5 : Int32} (hS : zOkX S)  (h : w_Desk_feed xa1 xa2 xa3 xa4 xa5 I K) (hR : 2 + 1 ≤ R.frames ∧ 8 + (6 + 11) + (44) ≤ R.locals) (hw : (st.map fun v => v.category).sum ≤ 8) (hd : decode cc pc = .ok (.invokevirtual 7, 3)) (hf : cells ≤ R.cells ∧ slots ≤ R.slots) (kk : ∀ v I2, K v I2 → zX p l e R s m args below meth c Q D B cA nL cells slots S I2 lv (.int v :: st) (pc + 3)) : zX p l e R s m args below meth c Q D B cA nL cells slots S I lv (.int xa5 :: .int xa4 :: .int xa3 :: .int xa2 :: .int xa1 :: .ref (B + 0) :: st) pc :=
  zc_VqI C (ci := 11) (q := (RX11, TX11, 19)) (k := 0) (fs := [some (some 1), none, some (some 3), some (some 4), none, none, none, none, some (some 22), some (some 24), some (some 43), some (some 64), some (some 69), some (some 88), some (some 97), some (some 100), some (some 109), some (some 111), none]) (As := [.int xa1, .int xa2, .int xa3, .int xa4, .int xa5]) (st := st) rfl (hS _ _ zs_0) (c_Desk_feed hS h) (zgV zk_ml_L_7 zk_im_yX11_feed zk_se_yX11_feed zk_in_11 zk_cd_yX11_feed) zsg_yX11_feed hR rfl rfl hw hd hf kk
theorem zv_L_13t {p : Program} {l : Launch} {e : Env} {R : Room} {s : State} {m : MethodId} {args : Array Value} {below : List Frame} {meth : Method} {c : Code} {Q : State → Prop} {D : va_G} {B : Nat} {cA : Nat → ClassId} {ad : Nat → Nat} {cc : ByteArray} {nL : Nat} {ret : Option FieldType} {S : List zC} {I : zI} {lv : List (Nat × Value)} {st : List Value} {pc cells slots : Nat} (C : zCx p s m args meth c cc nL RL ret D B cA ad) {K : Int32 → zI → Prop} {xa1 : Int32} (hS : zOkX S)  (h : w_Desk_back xa1 I K) (hR : 0 + 1 ≤ R.frames ∧ 8 + (2 + 11) + (0) ≤ R.locals) (hw : (st.map fun v => v.category).sum ≤ 8) (hd : decode cc pc = .ok (.invokevirtual 13, 3)) (hf : cells ≤ R.cells ∧ slots ≤ R.slots) (kk : ∀ v I2, K v I2 → zX p l e R s m args below meth c Q D B cA nL cells slots S I2 lv (.int v :: st) (pc + 3)) : zX p l e R s m args below meth c Q D B cA nL cells slots S I lv (.int xa1 :: .ref (B + 0) :: st) pc :=
  zc_VqI C (ci := 11) (q := (RX11, TX11, 19)) (k := 0) (fs := [some (some 1), none, some (some 3), some (some 4), none, none, none, none, some (some 22), some (some 24), some (some 43), some (some 64), some (some 69), some (some 88), some (some 97), some (some 100), some (some 109), some (some 111), none]) (As := [.int xa1]) (st := st) rfl (hS _ _ zs_0) (c_Desk_back hS h) (zgV zk_ml_L_13 zk_im_yX11_back zk_se_yX11_back zk_in_11 zk_cd_yX11_back) zsg_yX11_back hR rfl rfl hw hd hf kk
set_option maxHeartbeats 4000000 in
set_option maxRecDepth 20000 in
theorem c_Law_sign {l : Launch} {D : va_G} {B : Nat} {cA : Nat → ClassId} {ad : Nat → Nat} {S : List zC} (hS : zOkX S) {a1 : Int32} {I : zI} {K : zI → Prop} (h : w_Law_sign a1 S I K) : Met l yL_sign (zws yL_sign cL_sign 2 none) (zrm 3 69) (zPc D B cA ad [.ref (B + 0), .int a1] S I) (zQc D B cA (zqV S K)) 0 0 (fun q => B ≤ q) := by
  refine zm_of (cc := cL_sign) (maxL := 2) (ret := none) (by decide +kernel) rfl (Nat.le_of_ble_eq_true rfl) trivial ?_
  intro p e s m args below meth c C _
  unfold w_Law_sign at h
  have g0 : zGo S 0 0 S 0 0 := zGo.start hS
  show zX p l e (zrm 3 69) s m args below meth c (MQ below (zQc D B cA (zqV S K)) args s 0 0 (fun q => B ≤ q)) D B cA 2 0 0 S I [(0, .ref (B + 0)), (1, .int a1)] [] 0
  refine zr_aload_n C dyL_sign_0 rfl 0 rfl ?_
  refine zr_iload_n C dyL_sign_1 rfl 1 rfl ?_
  refine zr_bipush C dyL_sign_2 zc_b_24 ?_
  refine zr_ishl C dyL_sign_4 ?_
  refine zr_iconst C dyL_sign_5 zc_i_0 ?_
  refine zr_iconst C dyL_sign_6 zc_i_0 ?_
  refine zr_iconst C dyL_sign_7 zc_i_0 ?_
  refine zr_iconst C dyL_sign_8 zc_i_0 ?_
  refine zv_L_7t C g0.1 (st := []) h ⟨Nat.le_of_ble_eq_true rfl, Nat.le_of_ble_eq_true rfl⟩ (Nat.le_of_ble_eq_true rfl) dyL_sign_9 ⟨g0.2.2.1, g0.2.2.2⟩ (fun r_1 I_2 h => ?_)
  refine zr_pop C dyL_sign_12 rfl ?_
  refine zr_aload_n C dyL_sign_13 rfl 0 rfl ?_
  refine zr_bipush C dyL_sign_14 zc_b_19 ?_
  refine zv_L_13t C g0.1 (st := []) h ⟨Nat.le_of_ble_eq_true rfl, Nat.le_of_ble_eq_true rfl⟩ (Nat.le_of_ble_eq_true rfl) dyL_sign_16 ⟨g0.2.2.1, g0.2.2.2⟩ (fun r_3 I_4 h => ?_)
  refine zr_pop C dyL_sign_19 rfl ?_
  exact zr_vret C rfl dyL_sign_20 ⟨rfl, rfl, h⟩
def w_Law_tape (a1 : Nat) (a1n : Nat) (S : List zC) (I : zI) (K : zI → Prop) : Prop :=
  zAt S a1 a1n ∧ ∀ v3_1, v3_1 = (Int32.ofNat a1n) → ∀ (P8 : Int32 → zI → Prop), (∀ (v4_2 : Int32) (I_3 : zI), ((if v3_1 ≤ v4_2 then K I_3 else ((zAt S a1 a1n ∧ vp_in v4_2 a1n) ∧ ∀ v5_4, v5_4 = (I_3.1 a1 (Int32.toNatClampNeg v4_2)) → w_Law_sign v5_4 S I_3 (fun I_5 => ∀ v4_6, v4_6 = (v4_2 + 1) → P8 v4_6 I_5)))) → P8 v4_2 I_3) → P8 0 I
theorem dyL_tape_0 : decode cL_tape 0 = .ok (.aload_n 1, 1) := by decide +kernel
theorem dyL_tape_1 : decode cL_tape 1 = .ok (.astore_n 2, 1) := by decide +kernel
theorem dyL_tape_2 : decode cL_tape 2 = .ok (.aload_n 2, 1) := by decide +kernel
theorem dyL_tape_3 : decode cL_tape 3 = .ok (.arraylength, 1) := by decide +kernel
theorem dyL_tape_4 : decode cL_tape 4 = .ok (.istore_n 3, 1) := by decide +kernel
theorem dyL_tape_5 : decode cL_tape 5 = .ok (.iconst 0, 1) := by decide +kernel
theorem dyL_tape_6 : decode cL_tape 6 = .ok (.istore 4, 2) := by decide +kernel
theorem dyL_tape_8 : decode cL_tape 8 = .ok (.iload 4, 2) := by decide +kernel
theorem dyL_tape_10 : decode cL_tape 10 = .ok (.iload_n 3, 1) := by decide +kernel
theorem dyL_tape_11 : decode cL_tape 11 = .ok (.if_icmp .ge 21, 3) := by decide +kernel
theorem dyL_tape_14 : decode cL_tape 14 = .ok (.aload_n 2, 1) := by decide +kernel
theorem dyL_tape_15 : decode cL_tape 15 = .ok (.iload 4, 2) := by decide +kernel
theorem dyL_tape_17 : decode cL_tape 17 = .ok (.iaload, 1) := by decide +kernel
theorem dyL_tape_18 : decode cL_tape 18 = .ok (.istore 5, 2) := by decide +kernel
theorem dyL_tape_20 : decode cL_tape 20 = .ok (.aload_n 0, 1) := by decide +kernel
theorem dyL_tape_21 : decode cL_tape 21 = .ok (.iload 5, 2) := by decide +kernel
theorem dyL_tape_23 : decode cL_tape 23 = .ok (.invokestatic 23, 3) := by decide +kernel
theorem dyL_tape_26 : decode cL_tape 26 = .ok (.iinc 4 1, 3) := by decide +kernel
theorem dyL_tape_29 : decode cL_tape 29 = .ok (.goto (-21), 3) := by decide +kernel
theorem dyL_tape_32 : decode cL_tape 32 = .ok (.return_, 1) := by decide +kernel
theorem zsg_yL_tape : yL_tape.cls ≠ "java/lang/invoke/MethodHandle" ∧ yL_tape.cls ≠ "java/lang/invoke/VarHandle" ∧ (parseMethodDescriptor yL_tape.desc).map (fun d => d.parameters.length) = some 2 := by decide +kernel
theorem zv_L_23t {p : Program} {l : Launch} {e : Env} {R : Room} {s : State} {m : MethodId} {args : Array Value} {below : List Frame} {meth : Method} {c : Code} {Q : State → Prop} {D : va_G} {B : Nat} {cA : Nat → ClassId} {ad : Nat → Nat} {cc : ByteArray} {nL : Nat} {ret : Option FieldType} {S : List zC} {I : zI} {lv : List (Nat × Value)} {st : List Value} {pc cells slots : Nat} (C : zCx p s m args meth c cc nL RL ret D B cA ad) {K : zI → Prop} {xa1 : Int32} (hS : zOkX S) (h : w_Law_sign xa1 S I K) (hR : 3 + 1 ≤ R.frames ∧ 8 + (2 + 11) + 69 ≤ R.locals) (hw : (st.map fun v => v.category).sum ≤ 8) (hd : decode cc pc = .ok (.invokestatic 23, 3)) (hf : cells ≤ R.cells ∧ slots ≤ R.slots) (kk : ∀ I2, K I2 → zX p l e R s m args below meth c Q D B cA nL cells slots S I2 lv st (pc + 3)) : zX p l e R s m args below meth c Q D B cA nL cells slots S I lv (.int xa1 :: .ref (B + 0) :: st) pc :=
  zc_SqV C (As := [.ref (B + 0), .int xa1]) (st := st) (c_Law_sign hS h) (zgM zk_cd_yL_sign) zk_ml_L_23 zk_st_yL_sign zk_in_L zsg_yL_sign hR rfl rfl hw hd hf kk
set_option maxHeartbeats 4000000 in
set_option maxRecDepth 20000 in
theorem c_Law_tape {l : Launch} {D : va_G} {B : Nat} {cA : Nat → ClassId} {ad : Nat → Nat} {S : List zC} (hS : zOkX S) {a1 : Nat} {a1n : Nat} {I : zI} {K : zI → Prop} (h : w_Law_tape a1 a1n S I K) : Met l yL_tape (zws yL_tape cL_tape 6 none) (zrm 4 90) (zPc D B cA ad [.ref (B + 0), .ref (B + a1)] S I) (zQc D B cA (zqV S K)) 0 0 (fun q => B ≤ q) := by
  refine zm_of (cc := cL_tape) (maxL := 6) (ret := none) (by decide +kernel) rfl (Nat.le_of_ble_eq_true rfl) trivial ?_
  intro p e s m args below meth c C _
  unfold w_Law_tape at h
  have g0 : zGo S 0 0 S 0 0 := zGo.start hS
  show zX p l e (zrm 4 90) s m args below meth c (MQ below (zQc D B cA (zqV S K)) args s 0 0 (fun q => B ≤ q)) D B cA 6 0 0 S I [(0, .ref (B + 0)), (1, .ref (B + a1))] [] 0
  refine zr_aload_n C dyL_tape_0 rfl 1 rfl ?_
  refine zr_astore_n C dyL_tape_1 rfl (Nat.le_of_ble_eq_true rfl) (lv2 := [(2, .ref (B + a1)), (0, .ref (B + 0)), (1, .ref (B + a1))]) rfl ?_
  refine zr_aload_n C dyL_tape_2 rfl 0 rfl ?_
  refine zr_alen C h.1 dyL_tape_3 ?_
  replace h := h.2
  refine zn_istore_n C (fun v3_1 => [(3, .int v3_1), (2, .ref (B + a1)), (0, .ref (B + 0)), (1, .ref (B + a1))]) dyL_tape_4 rfl (Nat.le_of_ble_eq_true rfl) (fun _ => rfl) (fun v3_1 ev3_1 => ?_)
  replace h := h v3_1 ev3_1
  refine zr_iconst C dyL_tape_5 zc_i_0 ?_
  refine zr_istore C dyL_tape_6 (Nat.le_of_ble_eq_true rfl) (lv2 := [(4, .int 0), (3, .int v3_1), (2, .ref (B + a1)), (0, .ref (B + 0)), (1, .ref (B + a1))]) rfl ?_
  refine zjn (h (fun (v4_2 : Int32) (I_3 : zI) => zX p l e (zrm 4 90) s m args below meth c (MQ below (zQc D B cA (zqV S K)) args s 0 0 (fun q => B ≤ q)) D B cA 6 0 0 S I_3 [(4, .int v4_2), (3, .int v3_1), (2, .ref (B + a1)), (0, .ref (B + 0))] [] 8) (fun v4_2 I_3 h => ?_)) (fun h => ?_)
  · refine zr_iload C dyL_tape_8 0 rfl ?_
    refine zr_iload_n C dyL_tape_10 rfl 1 rfl ?_
    refine zr_icmp_ge C dyL_tape_11 (tgt := 32) (by decide) (fun hc_7 => ?_) (fun hc_7 => ?_)
    · replace h := zif_pos hc_7 h
      exact zr_vret C rfl dyL_tape_32 ⟨rfl, rfl, h⟩
    · replace h := zif_neg hc_7 h
      refine zr_aload_n C dyL_tape_14 rfl 2 rfl ?_
      refine zr_iload C dyL_tape_15 0 rfl ?_
      refine zr_iald C h.1.1 h.1.2 dyL_tape_17 ?_
      replace h := h.2
      refine zn_istore C (fun v5_4 => [(5, .int v5_4), (4, .int v4_2), (3, .int v3_1), (2, .ref (B + a1)), (0, .ref (B + 0))]) dyL_tape_18 (Nat.le_of_ble_eq_true rfl) (fun _ => rfl) (fun v5_4 ev5_4 => ?_)
      replace h := h v5_4 ev5_4
      refine zr_aload_n C dyL_tape_20 rfl 4 rfl ?_
      refine zr_iload C dyL_tape_21 0 rfl ?_
      refine zv_L_23t C g0.1 (st := []) h ⟨Nat.le_of_ble_eq_true rfl, Nat.le_of_ble_eq_true rfl⟩ (Nat.le_of_ble_eq_true rfl) dyL_tape_23 ⟨g0.2.2.1, g0.2.2.2⟩ (fun I_5 h => ?_)
      refine zn_iinc C (fun v4_6 => [(4, .int v4_6), (5, .int v5_4), (3, .int v3_1), (2, .ref (B + a1)), (0, .ref (B + 0))]) dyL_tape_26 1 rfl zc_i_1 (Nat.le_of_ble_eq_true rfl) (fun _ => rfl) (fun v4_6 ev4_6 => ?_)
      replace h := h v4_6 ev4_6
      refine zr_goto C dyL_tape_29 (tgt := 8) (by decide) ?_
      refine zr_sub (lv2 := [(4, .int v4_6), (3, .int v3_1), (2, .ref (B + a1)), (0, .ref (B + 0))]) [0, 2, 3, 4] rfl ?_
      exact h
  refine zr_sub (lv2 := [(4, .int 0), (3, .int v3_1), (2, .ref (B + a1)), (0, .ref (B + 0))]) [0, 1, 2, 3] rfl ?_
  exact h
def w_Law_with (a0 : Nat) (a0n : Nat) (a1 : Nat) (a1n : Nat) (S : List zC) (I : zI) (K : Nat → Nat → List zC → zI → Prop) : Prop :=
  zAt S a0 a0n ∧ zAt S a1 a1n ∧ (zZ I S.length ∧ (0 : Int32) ≤ ((Int32.ofNat a0n) + (Int32.ofNat a1n)) ∧ Int32.toNatClampNeg ((Int32.ofNat a0n) + (Int32.ofNat a1n)) ≤ 100000 ∧ 0 + 1 ≤ 1 ∧ 0 + Int32.toNatClampNeg ((Int32.ofNat a0n) + (Int32.ofNat a1n)) ≤ 1000) ∧ ∀ (S_1 : List zC) (k_2 n_3 : Nat), S_1 = S ++ [.inr (.inl (0, n_3))] → k_2 = S.length → n_3 = Int32.toNatClampNeg ((Int32.ofNat a0n) + (Int32.ofNat a1n)) → ∀ (P10 : Int32 → zI → Prop), (∀ (v3_5 : Int32) (I_6 : zI), (zAt S_1 k_2 n_3 ∧ (if (Int32.ofNat n_3) ≤ v3_5 then K k_2 n_3 S_1 I_6 else (zAt S_1 a0 a0n ∧ ∀ (P36 : Int32 → Prop), (∀ (t_7 : Int32), ((zAt S_1 k_2 n_3 ∧ vp_in v3_5 n_3) ∧ ∀ I_8, I_8 = (zu I_6 k_2 (Int32.toNatClampNeg v3_5) t_7) → ∀ v3_9, v3_9 = (v3_5 + 1) → P10 v3_9 I_8) → P36 t_7) → (if (Int32.ofNat a0n) ≤ v3_5 then (zAt S_1 a0 a0n ∧ (zAt S_1 a1 a1n ∧ vp_in (v3_5 - (Int32.ofNat a0n)) a1n) ∧ P36 (I_6.1 a1 (Int32.toNatClampNeg (v3_5 - (Int32.ofNat a0n))))) else ((zAt S_1 a0 a0n ∧ vp_in v3_5 a0n) ∧ P36 (I_6.1 a0 (Int32.toNatClampNeg v3_5))))))) → P10 v3_5 I_6) → P10 0 I
theorem dyL_with_0 : decode cL_with 0 = .ok (.aload_n 0, 1) := by decide +kernel
theorem dyL_with_1 : decode cL_with 1 = .ok (.arraylength, 1) := by decide +kernel
theorem dyL_with_2 : decode cL_with 2 = .ok (.aload_n 1, 1) := by decide +kernel
theorem dyL_with_3 : decode cL_with 3 = .ok (.arraylength, 1) := by decide +kernel
theorem dyL_with_4 : decode cL_with 4 = .ok (.iadd, 1) := by decide +kernel
theorem dyL_with_5 : decode cL_with 5 = .ok (.newarray .int, 2) := by decide +kernel
theorem dyL_with_7 : decode cL_with 7 = .ok (.astore_n 2, 1) := by decide +kernel
theorem dyL_with_8 : decode cL_with 8 = .ok (.iconst 0, 1) := by decide +kernel
theorem dyL_with_9 : decode cL_with 9 = .ok (.istore_n 3, 1) := by decide +kernel
theorem dyL_with_10 : decode cL_with 10 = .ok (.iload_n 3, 1) := by decide +kernel
theorem dyL_with_11 : decode cL_with 11 = .ok (.aload_n 2, 1) := by decide +kernel
theorem dyL_with_12 : decode cL_with 12 = .ok (.arraylength, 1) := by decide +kernel
theorem dyL_with_13 : decode cL_with 13 = .ok (.if_icmp .ge 30, 3) := by decide +kernel
theorem dyL_with_16 : decode cL_with 16 = .ok (.aload_n 2, 1) := by decide +kernel
theorem dyL_with_17 : decode cL_with 17 = .ok (.iload_n 3, 1) := by decide +kernel
theorem dyL_with_18 : decode cL_with 18 = .ok (.iload_n 3, 1) := by decide +kernel
theorem dyL_with_19 : decode cL_with 19 = .ok (.aload_n 0, 1) := by decide +kernel
theorem dyL_with_20 : decode cL_with 20 = .ok (.arraylength, 1) := by decide +kernel
theorem dyL_with_21 : decode cL_with 21 = .ok (.if_icmp .ge 9, 3) := by decide +kernel
theorem dyL_with_24 : decode cL_with 24 = .ok (.aload_n 0, 1) := by decide +kernel
theorem dyL_with_25 : decode cL_with 25 = .ok (.iload_n 3, 1) := by decide +kernel
theorem dyL_with_26 : decode cL_with 26 = .ok (.iaload, 1) := by decide +kernel
theorem dyL_with_27 : decode cL_with 27 = .ok (.goto 9, 3) := by decide +kernel
theorem dyL_with_30 : decode cL_with 30 = .ok (.aload_n 1, 1) := by decide +kernel
theorem dyL_with_31 : decode cL_with 31 = .ok (.iload_n 3, 1) := by decide +kernel
theorem dyL_with_32 : decode cL_with 32 = .ok (.aload_n 0, 1) := by decide +kernel
theorem dyL_with_33 : decode cL_with 33 = .ok (.arraylength, 1) := by decide +kernel
theorem dyL_with_34 : decode cL_with 34 = .ok (.isub, 1) := by decide +kernel
theorem dyL_with_35 : decode cL_with 35 = .ok (.iaload, 1) := by decide +kernel
theorem dyL_with_36 : decode cL_with 36 = .ok (.iastore, 1) := by decide +kernel
theorem dyL_with_37 : decode cL_with 37 = .ok (.iinc 3 1, 3) := by decide +kernel
theorem dyL_with_40 : decode cL_with 40 = .ok (.goto (-30), 3) := by decide +kernel
theorem dyL_with_43 : decode cL_with 43 = .ok (.aload_n 2, 1) := by decide +kernel
theorem dyL_with_44 : decode cL_with 44 = .ok (.areturn, 1) := by decide +kernel
theorem zsg_yL_with : yL_with.cls ≠ "java/lang/invoke/MethodHandle" ∧ yL_with.cls ≠ "java/lang/invoke/VarHandle" ∧ (parseMethodDescriptor yL_with.desc).map (fun d => d.parameters.length) = some 2 := by decide +kernel
set_option maxHeartbeats 4000000 in
set_option maxRecDepth 20000 in
theorem c_Law_with {l : Launch} {D : va_G} {B : Nat} {cA : Nat → ClassId} {ad : Nat → Nat} {S : List zC} (hS : zOkX S) {a0 : Nat} {a0n : Nat} {a1 : Nat} {a1n : Nat} {I : zI} {K : Nat → Nat → List zC → zI → Prop} (h : w_Law_with a0 a0n a1 a1n S I K) : Met l yL_with (zws yL_with cL_with 4 (some (.array .int))) (zrA 0 0 1 1000) (zPc D B cA ad [.ref (B + a0), .ref (B + a1)] S I) (zQc D B cA (zaA B S K)) 1 1000 (fun q => B ≤ q) := by
  refine zm_of (cc := cL_with) (maxL := 4) (ret := (some (.array .int))) (by decide +kernel) rfl (Nat.le_of_ble_eq_true rfl) trivial ?_
  intro p e s m args below meth c C _
  unfold w_Law_with at h
  have g0 : zGo S 1 1000 S 0 0 := zGo.start hS
  show zX p l e (zrA 0 0 1 1000) s m args below meth c (MQ below (zQc D B cA (zaA B S K)) args s 1 1000 (fun q => B ≤ q)) D B cA 4 0 0 S I [(0, .ref (B + a0)), (1, .ref (B + a1))] [] 0
  refine zr_aload_n C dyL_with_0 rfl 0 rfl ?_
  refine zr_alen C h.1 dyL_with_1 ?_
  replace h := h.2
  refine zr_aload_n C dyL_with_2 rfl 1 rfl ?_
  refine zr_alen C h.1 dyL_with_3 ?_
  replace h := h.2
  refine zr_iadd C dyL_with_4 ?_
  refine za_nn C g0 zk_ac_int rfl rfl h.1 dyL_with_5 (fun S_1 k_2 n_3 eS eK eN g_4 => ?_)
  replace h := h.2 S_1 k_2 n_3 eS eK eN
  refine zr_astore_n C dyL_with_7 rfl (Nat.le_of_ble_eq_true rfl) (lv2 := [(2, .ref (B + k_2)), (0, .ref (B + a0)), (1, .ref (B + a1))]) rfl ?_
  refine zr_iconst C dyL_with_8 zc_i_0 ?_
  refine zr_istore_n C dyL_with_9 rfl (Nat.le_of_ble_eq_true rfl) (lv2 := [(3, .int 0), (2, .ref (B + k_2)), (0, .ref (B + a0)), (1, .ref (B + a1))]) rfl ?_
  refine zjn (h (fun (v3_5 : Int32) (I_6 : zI) => zX p l e (zrA 0 0 1 1000) s m args below meth c (MQ below (zQc D B cA (zaA B S K)) args s 1 1000 (fun q => B ≤ q)) D B cA 4 (0 + 1) (0 + n_3) S_1 I_6 [(3, .int v3_5), (2, .ref (B + k_2)), (0, .ref (B + a0)), (1, .ref (B + a1))] [] 10) (fun v3_5 I_6 h => ?_)) (fun h => ?_)
  · refine zr_iload_n C dyL_with_10 rfl 0 rfl ?_
    refine zr_aload_n C dyL_with_11 rfl 1 rfl ?_
    refine zr_alen C h.1 dyL_with_12 ?_
    replace h := h.2
    refine zr_icmp_ge C dyL_with_13 (tgt := 43) (by decide) (fun hc_11 => ?_) (fun hc_11 => ?_)
    · replace h := zif_pos hc_11 h
      refine zr_aload_n C dyL_with_43 rfl 1 rfl ?_
      refine zr_widen g_4.2.2.1 g_4.2.2.2 ?_
      exact zr_aretA C rfl dyL_with_44 ⟨g_4.2.1, _, _, rfl, h⟩
    · replace h := zif_neg hc_11 h
      refine zr_aload_n C dyL_with_16 rfl 1 rfl ?_
      refine zr_iload_n C dyL_with_17 rfl 0 rfl ?_
      refine zr_iload_n C dyL_with_18 rfl 0 rfl ?_
      refine zr_aload_n C dyL_with_19 rfl 2 rfl ?_
      refine zr_alen C h.1 dyL_with_20 ?_
      replace h := h.2
      refine zjn (h (fun (t_7 : Int32) => zX p l e (zrA 0 0 1 1000) s m args below meth c (MQ below (zQc D B cA (zaA B S K)) args s 1 1000 (fun q => B ≤ q)) D B cA 4 (0 + 1) (0 + n_3) S_1 I_6 [(3, .int v3_5), (2, .ref (B + k_2)), (0, .ref (B + a0)), (1, .ref (B + a1))] [.int t_7, .int v3_5, .ref (B + k_2)] 36) (fun t_7 h => ?_)) (fun h => ?_)
      · refine zr_iast C h.1.1 h.1.2 dyL_with_36 ?_
        replace h := h.2
        refine zn_mem C (fun I_8 eI_8 => ?_)
        replace h := h I_8 eI_8
        refine zn_iinc C (fun v3_9 => [(3, .int v3_9), (2, .ref (B + k_2)), (0, .ref (B + a0)), (1, .ref (B + a1))]) dyL_with_37 0 rfl zc_i_1 (Nat.le_of_ble_eq_true rfl) (fun _ => rfl) (fun v3_9 ev3_9 => ?_)
        replace h := h v3_9 ev3_9
        refine zr_goto C dyL_with_40 (tgt := 10) (by decide) ?_
        exact h
      refine zr_icmp_ge C dyL_with_21 (tgt := 30) (by decide) (fun hc_10 => ?_) (fun hc_10 => ?_)
      · replace h := zif_pos hc_10 h
        refine zr_aload_n C dyL_with_30 rfl 3 rfl ?_
        refine zr_iload_n C dyL_with_31 rfl 0 rfl ?_
        refine zr_aload_n C dyL_with_32 rfl 2 rfl ?_
        refine zr_alen C h.1 dyL_with_33 ?_
        replace h := h.2
        refine zr_isub C dyL_with_34 ?_
        refine zr_iald C h.1.1 h.1.2 dyL_with_35 ?_
        replace h := h.2
        exact h
      · replace h := zif_neg hc_10 h
        refine zr_aload_n C dyL_with_24 rfl 2 rfl ?_
        refine zr_iload_n C dyL_with_25 rfl 0 rfl ?_
        refine zr_iald C h.1.1 h.1.2 dyL_with_26 ?_
        replace h := h.2
        refine zr_goto C dyL_with_27 (tgt := 36) (by decide) ?_
        exact h
  exact h
def w_Law_part (a0 : Nat) (a0n : Nat) (a1 : Int32) (a2 : Int32) (S : List zC) (I : zI) (K : Nat → Nat → List zC → zI → Prop) : Prop :=
  (zZ I S.length ∧ (0 : Int32) ≤ (a2 - a1) ∧ Int32.toNatClampNeg (a2 - a1) ≤ 100000 ∧ 0 + 1 ≤ 1 ∧ 0 + Int32.toNatClampNeg (a2 - a1) ≤ 1000) ∧ ∀ (S_1 : List zC) (k_2 n_3 : Nat), S_1 = S ++ [.inr (.inl (0, n_3))] → k_2 = S.length → n_3 = Int32.toNatClampNeg (a2 - a1) → ∀ (P9 : Int32 → zI → Prop), (∀ (v4_5 : Int32) (I_6 : zI), (zAt S_1 k_2 n_3 ∧ (if (Int32.ofNat n_3) ≤ v4_5 then K k_2 n_3 S_1 I_6 else ((zAt S_1 a0 a0n ∧ vp_in (a1 + v4_5) a0n) ∧ (zAt S_1 k_2 n_3 ∧ vp_in v4_5 n_3) ∧ ∀ I_7, I_7 = (zu I_6 k_2 (Int32.toNatClampNeg v4_5) (I_6.1 a0 (Int32.toNatClampNeg (a1 + v4_5)))) → ∀ v4_8, v4_8 = (v4_5 + 1) → P9 v4_8 I_7))) → P9 v4_5 I_6) → P9 0 I
theorem dyL_part_0 : decode cL_part 0 = .ok (.iload_n 2, 1) := by decide +kernel
theorem dyL_part_1 : decode cL_part 1 = .ok (.iload_n 1, 1) := by decide +kernel
theorem dyL_part_2 : decode cL_part 2 = .ok (.isub, 1) := by decide +kernel
theorem dyL_part_3 : decode cL_part 3 = .ok (.newarray .int, 2) := by decide +kernel
theorem dyL_part_5 : decode cL_part 5 = .ok (.astore_n 3, 1) := by decide +kernel
theorem dyL_part_6 : decode cL_part 6 = .ok (.iconst 0, 1) := by decide +kernel
theorem dyL_part_7 : decode cL_part 7 = .ok (.istore 4, 2) := by decide +kernel
theorem dyL_part_9 : decode cL_part 9 = .ok (.iload 4, 2) := by decide +kernel
theorem dyL_part_11 : decode cL_part 11 = .ok (.aload_n 3, 1) := by decide +kernel
theorem dyL_part_12 : decode cL_part 12 = .ok (.arraylength, 1) := by decide +kernel
theorem dyL_part_13 : decode cL_part 13 = .ok (.if_icmp .ge 19, 3) := by decide +kernel
theorem dyL_part_16 : decode cL_part 16 = .ok (.aload_n 3, 1) := by decide +kernel
theorem dyL_part_17 : decode cL_part 17 = .ok (.iload 4, 2) := by decide +kernel
theorem dyL_part_19 : decode cL_part 19 = .ok (.aload_n 0, 1) := by decide +kernel
theorem dyL_part_20 : decode cL_part 20 = .ok (.iload_n 1, 1) := by decide +kernel
theorem dyL_part_21 : decode cL_part 21 = .ok (.iload 4, 2) := by decide +kernel
theorem dyL_part_23 : decode cL_part 23 = .ok (.iadd, 1) := by decide +kernel
theorem dyL_part_24 : decode cL_part 24 = .ok (.iaload, 1) := by decide +kernel
theorem dyL_part_25 : decode cL_part 25 = .ok (.iastore, 1) := by decide +kernel
theorem dyL_part_26 : decode cL_part 26 = .ok (.iinc 4 1, 3) := by decide +kernel
theorem dyL_part_29 : decode cL_part 29 = .ok (.goto (-20), 3) := by decide +kernel
theorem dyL_part_32 : decode cL_part 32 = .ok (.aload_n 3, 1) := by decide +kernel
theorem dyL_part_33 : decode cL_part 33 = .ok (.areturn, 1) := by decide +kernel
theorem zsg_yL_part : yL_part.cls ≠ "java/lang/invoke/MethodHandle" ∧ yL_part.cls ≠ "java/lang/invoke/VarHandle" ∧ (parseMethodDescriptor yL_part.desc).map (fun d => d.parameters.length) = some 3 := by decide +kernel
set_option maxHeartbeats 4000000 in
set_option maxRecDepth 20000 in
theorem c_Law_part {l : Launch} {D : va_G} {B : Nat} {cA : Nat → ClassId} {ad : Nat → Nat} {S : List zC} (hS : zOkX S) {a0 : Nat} {a0n : Nat} {a1 : Int32} {a2 : Int32} {I : zI} {K : Nat → Nat → List zC → zI → Prop} (h : w_Law_part a0 a0n a1 a2 S I K) : Met l yL_part (zws yL_part cL_part 5 (some (.array .int))) (zrA 0 0 1 1000) (zPc D B cA ad [.ref (B + a0), .int a1, .int a2] S I) (zQc D B cA (zaA B S K)) 1 1000 (fun q => B ≤ q) := by
  refine zm_of (cc := cL_part) (maxL := 5) (ret := (some (.array .int))) (by decide +kernel) rfl (Nat.le_of_ble_eq_true rfl) trivial ?_
  intro p e s m args below meth c C _
  unfold w_Law_part at h
  have g0 : zGo S 1 1000 S 0 0 := zGo.start hS
  show zX p l e (zrA 0 0 1 1000) s m args below meth c (MQ below (zQc D B cA (zaA B S K)) args s 1 1000 (fun q => B ≤ q)) D B cA 5 0 0 S I [(0, .ref (B + a0)), (1, .int a1), (2, .int a2)] [] 0
  refine zr_iload_n C dyL_part_0 rfl 2 rfl ?_
  refine zr_iload_n C dyL_part_1 rfl 1 rfl ?_
  refine zr_isub C dyL_part_2 ?_
  refine za_nn C g0 zk_ac_int rfl rfl h.1 dyL_part_3 (fun S_1 k_2 n_3 eS eK eN g_4 => ?_)
  replace h := h.2 S_1 k_2 n_3 eS eK eN
  refine zr_astore_n C dyL_part_5 rfl (Nat.le_of_ble_eq_true rfl) (lv2 := [(3, .ref (B + k_2)), (0, .ref (B + a0)), (1, .int a1), (2, .int a2)]) rfl ?_
  refine zr_iconst C dyL_part_6 zc_i_0 ?_
  refine zr_istore C dyL_part_7 (Nat.le_of_ble_eq_true rfl) (lv2 := [(4, .int 0), (3, .ref (B + k_2)), (0, .ref (B + a0)), (1, .int a1), (2, .int a2)]) rfl ?_
  refine zjn (h (fun (v4_5 : Int32) (I_6 : zI) => zX p l e (zrA 0 0 1 1000) s m args below meth c (MQ below (zQc D B cA (zaA B S K)) args s 1 1000 (fun q => B ≤ q)) D B cA 5 (0 + 1) (0 + n_3) S_1 I_6 [(4, .int v4_5), (3, .ref (B + k_2)), (0, .ref (B + a0)), (1, .int a1)] [] 9) (fun v4_5 I_6 h => ?_)) (fun h => ?_)
  · refine zr_iload C dyL_part_9 0 rfl ?_
    refine zr_aload_n C dyL_part_11 rfl 1 rfl ?_
    refine zr_alen C h.1 dyL_part_12 ?_
    replace h := h.2
    refine zr_icmp_ge C dyL_part_13 (tgt := 32) (by decide) (fun hc_9 => ?_) (fun hc_9 => ?_)
    · replace h := zif_pos hc_9 h
      refine zr_aload_n C dyL_part_32 rfl 1 rfl ?_
      refine zr_widen g_4.2.2.1 g_4.2.2.2 ?_
      exact zr_aretA C rfl dyL_part_33 ⟨g_4.2.1, _, _, rfl, h⟩
    · replace h := zif_neg hc_9 h
      refine zr_aload_n C dyL_part_16 rfl 1 rfl ?_
      refine zr_iload C dyL_part_17 0 rfl ?_
      refine zr_aload_n C dyL_part_19 rfl 2 rfl ?_
      refine zr_iload_n C dyL_part_20 rfl 3 rfl ?_
      refine zr_iload C dyL_part_21 0 rfl ?_
      refine zr_iadd C dyL_part_23 ?_
      refine zr_iald C h.1.1 h.1.2 dyL_part_24 ?_
      replace h := h.2
      refine zr_iast C h.1.1 h.1.2 dyL_part_25 ?_
      replace h := h.2
      refine zn_mem C (fun I_7 eI_7 => ?_)
      replace h := h I_7 eI_7
      refine zn_iinc C (fun v4_8 => [(4, .int v4_8), (3, .ref (B + k_2)), (0, .ref (B + a0)), (1, .int a1)]) dyL_part_26 0 rfl zc_i_1 (Nat.le_of_ble_eq_true rfl) (fun _ => rfl) (fun v4_8 ev4_8 => ?_)
      replace h := h v4_8 ev4_8
      refine zr_goto C dyL_part_29 (tgt := 9) (by decide) ?_
      exact h
  refine zr_sub (lv2 := [(4, .int 0), (3, .ref (B + k_2)), (0, .ref (B + a0)), (1, .int a1)]) [0, 1, 2, 3] rfl ?_
  exact h
