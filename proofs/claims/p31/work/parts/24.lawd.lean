def w_lawc_30 (L : Nat) (xs : Nat → Int32) (v3 : Int32) (I : zI) (J : zI → Prop) : Prop :=
  vp_in (v3 + 1) L ∧ (w_Desk_value (xs (Int32.toNatClampNeg (v3 + 1))) I (fun r_1 => vp_in (v3 + 1) L ∧ (w_M_value (xs (Int32.toNatClampNeg (v3 + 1))) I (fun r_2 I_3 => J I_3))))
set_option maxHeartbeats 4000000 in
set_option maxRecDepth 20000 in
theorem zl_c30 {p : Program} {l : Launch} {e : Env} {s : State} {m : MethodId} {below : List Frame} {meth : Method} {c : Code} {D : va_G} {B : Nat} {cA : Nat → ClassId} {ad : Nat → Nat} {b L : Nat} {xs : Nat → Int32} {S : List zC} (C : zCx p s m #[Value.ref b] meth c cL_law 4 RL ret D B cA ad) (hX : va_X b L xs s s.heap) (hbl : b < s.heap.size) (hbA : ¬ B ≤ b) (hS : zOkM S) (hB : B = s.heap.size) {v3 : Int32} {I : zI} {J : zI → Prop} (h : w_lawc_30 L xs v3 I J) (kk : ∀ I2, J I2 → zX p l e room_1 s m #[Value.ref b] below meth c (lw_Z below #[Value.ref b] s) D B cA 4 546 406967 S I2 [(3, .int v3), (0, .ref b), (1, .ref (B + 0)), (2, .ref (B + 491))] [] 1245) : zX p l e room_1 s m #[Value.ref b] below meth c (lw_Z below #[Value.ref b] s) D B cA 4 546 406967 S I [(3, .int v3), (0, .ref b), (1, .ref (B + 0)), (2, .ref (B + 491))] [] 952 := by
  unfold w_lawc_30 at h
  refine zr_aload_n C dyL_law_952 rfl 2 rfl ?_
  refine zr_aload_n C dyL_law_953 rfl 1 rfl ?_
  refine zr_iload_n C dyL_law_954 rfl 0 rfl ?_
  refine zr_iconst C dyL_law_955 zc_i_1 ?_
  refine zr_iadd C dyL_law_956 ?_
  refine zr_sld C hX hbl hbA h.1 dyL_law_957 ?_
  replace h := h.2
  refine zv_L_138t C hS.x (st := []) h ⟨Nat.le_of_ble_eq_true rfl, Nat.le_of_ble_eq_true rfl⟩ (Nat.le_of_ble_eq_true rfl) dyL_law_958 ⟨Nat.le_of_ble_eq_true rfl, Nat.le_of_ble_eq_true rfl⟩ (fun r_1 h => ?_)
  refine zr_pop C dyL_law_961 rfl ?_
  refine zr_aload_n C dyL_law_962 rfl 3 rfl ?_
  refine zr_aload_n C dyL_law_963 rfl 1 rfl ?_
  refine zr_iload_n C dyL_law_964 rfl 0 rfl ?_
  refine zr_iconst C dyL_law_965 zc_i_1 ?_
  refine zr_iadd C dyL_law_966 ?_
  refine zr_sld C hX hbl hbA h.1 dyL_law_967 ?_
  replace h := h.2
  refine zv_L_141t C hS (st := []) h ⟨Nat.le_of_ble_eq_true rfl, Nat.le_of_ble_eq_true rfl⟩ (Nat.le_of_ble_eq_true rfl) dyL_law_968 ⟨Nat.le_of_ble_eq_true rfl, Nat.le_of_ble_eq_true rfl⟩ (fun r_2 I_3 h => ?_)
  refine zr_pop C dyL_law_971 rfl ?_
  refine zr_goto C dyL_law_972 (tgt := 1245) (by decide) ?_
  exact kk _ h
theorem zv_L_142t {p : Program} {l : Launch} {e : Env} {R : Room} {s : State} {m : MethodId} {args : Array Value} {below : List Frame} {meth : Method} {c : Code} {Q : State → Prop} {D : va_G} {B : Nat} {cA : Nat → ClassId} {ad : Nat → Nat} {cc : ByteArray} {nL : Nat} {ret : Option FieldType} {S : List zC} {I : zI} {lv : List (Nat × Value)} {st : List Value} {pc cells slots : Nat} (C : zCx p s m args meth c cc nL RL ret D B cA ad) {K : Int32 → Prop} {xa1 : Int32} (hS : zOkX S)  (h : w_Desk_worth xa1 I K) (hR : 3 + 1 ≤ R.frames ∧ 8 + (2 + 11) + (64) ≤ R.locals) (hw : (st.map fun v => v.category).sum ≤ 8) (hd : decode cc pc = .ok (.invokevirtual 142, 3)) (hf : cells ≤ R.cells ∧ slots ≤ R.slots) (kk : ∀ v, K v → zX p l e R s m args below meth c Q D B cA nL cells slots S I lv (.int v :: st) (pc + 3)) : zX p l e R s m args below meth c Q D B cA nL cells slots S I lv (.int xa1 :: .ref (B + 0) :: st) pc :=
  zc_VpI C (ci := 11) (q := (RX11, TX11, 19)) (k := 0) (fs := [some (some 1), none, some (some 3), some (some 4), none, none, none, none, some (some 22), some (some 24), some (some 43), some (some 64), some (some 69), some (some 88), some (some 97), some (some 100), some (some 109), some (some 111), none]) (As := [.int xa1]) (st := st) rfl (hS _ _ zs_0) (c_Desk_worth hS h) (zgV zk_ml_L_142 zk_im_yX11_worth zk_se_yX11_worth zk_in_11 zk_cd_yX11_worth) zsg_yX11_worth hR rfl rfl hw hd hf kk
theorem zv_L_145t {p : Program} {l : Launch} {e : Env} {R : Room} {s : State} {m : MethodId} {args : Array Value} {below : List Frame} {meth : Method} {c : Code} {Q : State → Prop} {D : va_G} {B : Nat} {cA : Nat → ClassId} {ad : Nat → Nat} {cc : ByteArray} {nL : Nat} {ret : Option FieldType} {S : List zC} {I : zI} {lv : List (Nat × Value)} {st : List Value} {pc cells slots : Nat} (C : zCx p s m args meth c cc nL RL ret D B cA ad) {K : Int32 → zI → Prop} {xa1 : Int32} (hS : zOkM S)  (h : w_M_worth xa1 I K) (hR : 3 + 1 ≤ R.frames ∧ 8 + (2 + 11) + (76) ≤ R.locals) (hw : (st.map fun v => v.category).sum ≤ 8) (hd : decode cc pc = .ok (.invokevirtual 145, 3)) (hf : cells ≤ R.cells ∧ slots ≤ R.slots) (kk : ∀ v I2, K v I2 → zX p l e R s m args below meth c Q D B cA nL cells slots S I2 lv (.int v :: st) (pc + 3)) : zX p l e R s m args below meth c Q D B cA nL cells slots S I lv (.int xa1 :: .ref (B + 491) :: st) pc :=
  zc_VqI C (ci := 12) (q := (RX12, TX12, 82)) (k := 491) (fs := [none, some (some 492), some (some 493), none, some (some 494), none, some (some 495), none, none, none, some (some 496), some (some 497), some (some 498), some (some 499), some (some 500), none, some (some 501), some (some 502), some (some 503), none, some (some 504), some (some 505), some (some 506), some (some 507), some (some 508), none, some (some 509), some (some 510), some (some 511), some (some 512), some (some 513), some (some 514), some (some 515), some (some 516), some (some 517), some (some 518), none, none, some (some 519), none, some (some 520), none, none, none, some (some 521), some (some 522), some (some 523), some (some 524), some (some 525), some (some 526), some (some 527), none, some (some 528), none, some (some 529), none, some (some 530), some (some 531), some (some 532), none, some (some 533), some (some 534), some (some 535), some (some 536), some (some 537), none, none, none, some (some 538), some (some 539), some (some 540), none, none, none, some (some 541), none, none, some (some 542), some (some 543), some (some 544), none, some (some 545)]) (As := [.int xa1]) (st := st) rfl (hS _ _ zs_491) (c_M_worth hS h) (zgV zk_ml_L_145 zk_im_yX12_worth zk_se_yX12_worth zk_in_12 zk_cd_yX12_worth) zsg_yX12_worth hR rfl rfl hw hd hf kk
def w_lawc_31 (L : Nat) (xs : Nat → Int32) (v3 : Int32) (I : zI) (J : zI → Prop) : Prop :=
  vp_in (v3 + 1) L ∧ (w_Desk_worth (xs (Int32.toNatClampNeg (v3 + 1))) I (fun r_1 => vp_in (v3 + 1) L ∧ (w_M_worth (xs (Int32.toNatClampNeg (v3 + 1))) I (fun r_2 I_3 => J I_3))))
set_option maxHeartbeats 4000000 in
set_option maxRecDepth 20000 in
theorem zl_c31 {p : Program} {l : Launch} {e : Env} {s : State} {m : MethodId} {below : List Frame} {meth : Method} {c : Code} {D : va_G} {B : Nat} {cA : Nat → ClassId} {ad : Nat → Nat} {b L : Nat} {xs : Nat → Int32} {S : List zC} (C : zCx p s m #[Value.ref b] meth c cL_law 4 RL ret D B cA ad) (hX : va_X b L xs s s.heap) (hbl : b < s.heap.size) (hbA : ¬ B ≤ b) (hS : zOkM S) (hB : B = s.heap.size) {v3 : Int32} {I : zI} {J : zI → Prop} (h : w_lawc_31 L xs v3 I J) (kk : ∀ I2, J I2 → zX p l e room_1 s m #[Value.ref b] below meth c (lw_Z below #[Value.ref b] s) D B cA 4 546 406967 S I2 [(3, .int v3), (0, .ref b), (1, .ref (B + 0)), (2, .ref (B + 491))] [] 1245) : zX p l e room_1 s m #[Value.ref b] below meth c (lw_Z below #[Value.ref b] s) D B cA 4 546 406967 S I [(3, .int v3), (0, .ref b), (1, .ref (B + 0)), (2, .ref (B + 491))] [] 975 := by
  unfold w_lawc_31 at h
  refine zr_aload_n C dyL_law_975 rfl 2 rfl ?_
  refine zr_aload_n C dyL_law_976 rfl 1 rfl ?_
  refine zr_iload_n C dyL_law_977 rfl 0 rfl ?_
  refine zr_iconst C dyL_law_978 zc_i_1 ?_
  refine zr_iadd C dyL_law_979 ?_
  refine zr_sld C hX hbl hbA h.1 dyL_law_980 ?_
  replace h := h.2
  refine zv_L_142t C hS.x (st := []) h ⟨Nat.le_of_ble_eq_true rfl, Nat.le_of_ble_eq_true rfl⟩ (Nat.le_of_ble_eq_true rfl) dyL_law_981 ⟨Nat.le_of_ble_eq_true rfl, Nat.le_of_ble_eq_true rfl⟩ (fun r_1 h => ?_)
  refine zr_pop C dyL_law_984 rfl ?_
  refine zr_aload_n C dyL_law_985 rfl 3 rfl ?_
  refine zr_aload_n C dyL_law_986 rfl 1 rfl ?_
  refine zr_iload_n C dyL_law_987 rfl 0 rfl ?_
  refine zr_iconst C dyL_law_988 zc_i_1 ?_
  refine zr_iadd C dyL_law_989 ?_
  refine zr_sld C hX hbl hbA h.1 dyL_law_990 ?_
  replace h := h.2
  refine zv_L_145t C hS (st := []) h ⟨Nat.le_of_ble_eq_true rfl, Nat.le_of_ble_eq_true rfl⟩ (Nat.le_of_ble_eq_true rfl) dyL_law_991 ⟨Nat.le_of_ble_eq_true rfl, Nat.le_of_ble_eq_true rfl⟩ (fun r_2 I_3 h => ?_)
  refine zr_pop C dyL_law_994 rfl ?_
  refine zr_goto C dyL_law_995 (tgt := 1245) (by decide) ?_
  exact kk _ h
theorem zv_L_146t {p : Program} {l : Launch} {e : Env} {R : Room} {s : State} {m : MethodId} {args : Array Value} {below : List Frame} {meth : Method} {c : Code} {Q : State → Prop} {D : va_G} {B : Nat} {cA : Nat → ClassId} {ad : Nat → Nat} {cc : ByteArray} {nL : Nat} {ret : Option FieldType} {S : List zC} {I : zI} {lv : List (Nat × Value)} {st : List Value} {pc cells slots : Nat} (C : zCx p s m args meth c cc nL RL ret D B cA ad) {K : Int32 → Prop} {xa1 : Int32} {xa2 : Int32} (hS : zOkX S)  (h : w_Desk_above xa1 xa2 I K) (hR : 4 + 1 ≤ R.frames ∧ 8 + (4 + 11) + (88) ≤ R.locals) (hw : (st.map fun v => v.category).sum ≤ 8) (hd : decode cc pc = .ok (.invokevirtual 146, 3)) (hf : cells ≤ R.cells ∧ slots ≤ R.slots) (kk : ∀ v, K v → zX p l e R s m args below meth c Q D B cA nL cells slots S I lv (.int v :: st) (pc + 3)) : zX p l e R s m args below meth c Q D B cA nL cells slots S I lv (.int xa2 :: .int xa1 :: .ref (B + 0) :: st) pc :=
  zc_VpI C (ci := 11) (q := (RX11, TX11, 19)) (k := 0) (fs := [some (some 1), none, some (some 3), some (some 4), none, none, none, none, some (some 22), some (some 24), some (some 43), some (some 64), some (some 69), some (some 88), some (some 97), some (some 100), some (some 109), some (some 111), none]) (As := [.int xa1, .int xa2]) (st := st) rfl (hS _ _ zs_0) (c_Desk_above hS h) (zgV zk_ml_L_146 zk_im_yX11_above zk_se_yX11_above zk_in_11 zk_cd_yX11_above) zsg_yX11_above hR rfl rfl hw hd hf kk
theorem zv_L_149t {p : Program} {l : Launch} {e : Env} {R : Room} {s : State} {m : MethodId} {args : Array Value} {below : List Frame} {meth : Method} {c : Code} {Q : State → Prop} {D : va_G} {B : Nat} {cA : Nat → ClassId} {ad : Nat → Nat} {cc : ByteArray} {nL : Nat} {ret : Option FieldType} {S : List zC} {I : zI} {lv : List (Nat × Value)} {st : List Value} {pc cells slots : Nat} (C : zCx p s m args meth c cc nL RL ret D B cA ad) {K : Int32 → Prop} {xa1 : Int32} {xa2 : Int32} (hS : zOkM S)  (h : w_M_above xa1 xa2 I K) (hR : 2 + 1 ≤ R.frames ∧ 8 + (4 + 11) + (43) ≤ R.locals) (hw : (st.map fun v => v.category).sum ≤ 8) (hd : decode cc pc = .ok (.invokevirtual 149, 3)) (hf : cells ≤ R.cells ∧ slots ≤ R.slots) (kk : ∀ v, K v → zX p l e R s m args below meth c Q D B cA nL cells slots S I lv (.int v :: st) (pc + 3)) : zX p l e R s m args below meth c Q D B cA nL cells slots S I lv (.int xa2 :: .int xa1 :: .ref (B + 491) :: st) pc :=
  zc_VpI C (ci := 12) (q := (RX12, TX12, 82)) (k := 491) (fs := [none, some (some 492), some (some 493), none, some (some 494), none, some (some 495), none, none, none, some (some 496), some (some 497), some (some 498), some (some 499), some (some 500), none, some (some 501), some (some 502), some (some 503), none, some (some 504), some (some 505), some (some 506), some (some 507), some (some 508), none, some (some 509), some (some 510), some (some 511), some (some 512), some (some 513), some (some 514), some (some 515), some (some 516), some (some 517), some (some 518), none, none, some (some 519), none, some (some 520), none, none, none, some (some 521), some (some 522), some (some 523), some (some 524), some (some 525), some (some 526), some (some 527), none, some (some 528), none, some (some 529), none, some (some 530), some (some 531), some (some 532), none, some (some 533), some (some 534), some (some 535), some (some 536), some (some 537), none, none, none, some (some 538), some (some 539), some (some 540), none, none, none, some (some 541), none, none, some (some 542), some (some 543), some (some 544), none, some (some 545)]) (As := [.int xa1, .int xa2]) (st := st) rfl (hS _ _ zs_491) (c_M_above hS h) (zgV zk_ml_L_149 zk_im_yX12_above zk_se_yX12_above zk_in_12 zk_cd_yX12_above) zsg_yX12_above hR rfl rfl hw hd hf kk
def w_lawc_32 (L : Nat) (xs : Nat → Int32) (v3 : Int32) (I : zI) (J : zI → Prop) : Prop :=
  vp_in (v3 + 1) L ∧ (vp_in (v3 + 2) L ∧ (w_Desk_above (xs (Int32.toNatClampNeg (v3 + 1))) (xs (Int32.toNatClampNeg (v3 + 2))) I (fun r_1 => vp_in (v3 + 1) L ∧ (vp_in (v3 + 2) L ∧ (w_M_above (xs (Int32.toNatClampNeg (v3 + 1))) (xs (Int32.toNatClampNeg (v3 + 2))) I (fun r_2 => J I))))))
set_option maxHeartbeats 4000000 in
set_option maxRecDepth 20000 in
theorem zl_c32 {p : Program} {l : Launch} {e : Env} {s : State} {m : MethodId} {below : List Frame} {meth : Method} {c : Code} {D : va_G} {B : Nat} {cA : Nat → ClassId} {ad : Nat → Nat} {b L : Nat} {xs : Nat → Int32} {S : List zC} (C : zCx p s m #[Value.ref b] meth c cL_law 4 RL ret D B cA ad) (hX : va_X b L xs s s.heap) (hbl : b < s.heap.size) (hbA : ¬ B ≤ b) (hS : zOkM S) (hB : B = s.heap.size) {v3 : Int32} {I : zI} {J : zI → Prop} (h : w_lawc_32 L xs v3 I J) (kk : ∀ I2, J I2 → zX p l e room_1 s m #[Value.ref b] below meth c (lw_Z below #[Value.ref b] s) D B cA 4 546 406967 S I2 [(3, .int v3), (0, .ref b), (1, .ref (B + 0)), (2, .ref (B + 491))] [] 1245) : zX p l e room_1 s m #[Value.ref b] below meth c (lw_Z below #[Value.ref b] s) D B cA 4 546 406967 S I [(3, .int v3), (0, .ref b), (1, .ref (B + 0)), (2, .ref (B + 491))] [] 998 := by
  unfold w_lawc_32 at h
  refine zr_aload_n C dyL_law_998 rfl 2 rfl ?_
  refine zr_aload_n C dyL_law_999 rfl 1 rfl ?_
  refine zr_iload_n C dyL_law_1000 rfl 0 rfl ?_
  refine zr_iconst C dyL_law_1001 zc_i_1 ?_
  refine zr_iadd C dyL_law_1002 ?_
  refine zr_sld C hX hbl hbA h.1 dyL_law_1003 ?_
  replace h := h.2
  refine zr_aload_n C dyL_law_1004 rfl 1 rfl ?_
  refine zr_iload_n C dyL_law_1005 rfl 0 rfl ?_
  refine zr_iconst C dyL_law_1006 zc_i_2 ?_
  refine zr_iadd C dyL_law_1007 ?_
  refine zr_sld C hX hbl hbA h.1 dyL_law_1008 ?_
  replace h := h.2
  refine zv_L_146t C hS.x (st := []) h ⟨Nat.le_of_ble_eq_true rfl, Nat.le_of_ble_eq_true rfl⟩ (Nat.le_of_ble_eq_true rfl) dyL_law_1009 ⟨Nat.le_of_ble_eq_true rfl, Nat.le_of_ble_eq_true rfl⟩ (fun r_1 h => ?_)
  refine zr_pop C dyL_law_1012 rfl ?_
  refine zr_aload_n C dyL_law_1013 rfl 3 rfl ?_
  refine zr_aload_n C dyL_law_1014 rfl 1 rfl ?_
  refine zr_iload_n C dyL_law_1015 rfl 0 rfl ?_
  refine zr_iconst C dyL_law_1016 zc_i_1 ?_
  refine zr_iadd C dyL_law_1017 ?_
  refine zr_sld C hX hbl hbA h.1 dyL_law_1018 ?_
  replace h := h.2
  refine zr_aload_n C dyL_law_1019 rfl 1 rfl ?_
  refine zr_iload_n C dyL_law_1020 rfl 0 rfl ?_
  refine zr_iconst C dyL_law_1021 zc_i_2 ?_
  refine zr_iadd C dyL_law_1022 ?_
  refine zr_sld C hX hbl hbA h.1 dyL_law_1023 ?_
  replace h := h.2
  refine zv_L_149t C hS (st := []) h ⟨Nat.le_of_ble_eq_true rfl, Nat.le_of_ble_eq_true rfl⟩ (Nat.le_of_ble_eq_true rfl) dyL_law_1024 ⟨Nat.le_of_ble_eq_true rfl, Nat.le_of_ble_eq_true rfl⟩ (fun r_2 h => ?_)
  refine zr_pop C dyL_law_1027 rfl ?_
  refine zr_goto C dyL_law_1028 (tgt := 1245) (by decide) ?_
  exact kk _ h
theorem zv_L_150t {p : Program} {l : Launch} {e : Env} {R : Room} {s : State} {m : MethodId} {args : Array Value} {below : List Frame} {meth : Method} {c : Code} {Q : State → Prop} {D : va_G} {B : Nat} {cA : Nat → ClassId} {ad : Nat → Nat} {cc : ByteArray} {nL : Nat} {ret : Option FieldType} {S : List zC} {I : zI} {lv : List (Nat × Value)} {st : List Value} {pc cells slots : Nat} (C : zCx p s m args meth c cc nL RL ret D B cA ad) {K : Int32 → Prop} {xa1 : Int32} {xa2 : Int32} (hS : zOkX S)  (h : w_Desk_common xa1 xa2 I K) (hR : 4 + 1 ≤ R.frames ∧ 8 + (5 + 11) + (89) ≤ R.locals) (hw : (st.map fun v => v.category).sum ≤ 8) (hd : decode cc pc = .ok (.invokevirtual 150, 3)) (hf : cells ≤ R.cells ∧ slots ≤ R.slots) (kk : ∀ v, K v → zX p l e R s m args below meth c Q D B cA nL cells slots S I lv (.int v :: st) (pc + 3)) : zX p l e R s m args below meth c Q D B cA nL cells slots S I lv (.int xa2 :: .int xa1 :: .ref (B + 0) :: st) pc :=
  zc_VpI C (ci := 11) (q := (RX11, TX11, 19)) (k := 0) (fs := [some (some 1), none, some (some 3), some (some 4), none, none, none, none, some (some 22), some (some 24), some (some 43), some (some 64), some (some 69), some (some 88), some (some 97), some (some 100), some (some 109), some (some 111), none]) (As := [.int xa1, .int xa2]) (st := st) rfl (hS _ _ zs_0) (c_Desk_common hS h) (zgV zk_ml_L_150 zk_im_yX11_common zk_se_yX11_common zk_in_11 zk_cd_yX11_common) zsg_yX11_common hR rfl rfl hw hd hf kk
theorem zv_L_153t {p : Program} {l : Launch} {e : Env} {R : Room} {s : State} {m : MethodId} {args : Array Value} {below : List Frame} {meth : Method} {c : Code} {Q : State → Prop} {D : va_G} {B : Nat} {cA : Nat → ClassId} {ad : Nat → Nat} {cc : ByteArray} {nL : Nat} {ret : Option FieldType} {S : List zC} {I : zI} {lv : List (Nat × Value)} {st : List Value} {pc cells slots : Nat} (C : zCx p s m args meth c cc nL RL ret D B cA ad) {K : Int32 → Prop} {xa1 : Int32} {xa2 : Int32} (hS : zOkM S)  (h : w_M_common xa1 xa2 I K) (hR : 2 + 1 ≤ R.frames ∧ 8 + (5 + 11) + (43) ≤ R.locals) (hw : (st.map fun v => v.category).sum ≤ 8) (hd : decode cc pc = .ok (.invokevirtual 153, 3)) (hf : cells ≤ R.cells ∧ slots ≤ R.slots) (kk : ∀ v, K v → zX p l e R s m args below meth c Q D B cA nL cells slots S I lv (.int v :: st) (pc + 3)) : zX p l e R s m args below meth c Q D B cA nL cells slots S I lv (.int xa2 :: .int xa1 :: .ref (B + 491) :: st) pc :=
  zc_VpI C (ci := 12) (q := (RX12, TX12, 82)) (k := 491) (fs := [none, some (some 492), some (some 493), none, some (some 494), none, some (some 495), none, none, none, some (some 496), some (some 497), some (some 498), some (some 499), some (some 500), none, some (some 501), some (some 502), some (some 503), none, some (some 504), some (some 505), some (some 506), some (some 507), some (some 508), none, some (some 509), some (some 510), some (some 511), some (some 512), some (some 513), some (some 514), some (some 515), some (some 516), some (some 517), some (some 518), none, none, some (some 519), none, some (some 520), none, none, none, some (some 521), some (some 522), some (some 523), some (some 524), some (some 525), some (some 526), some (some 527), none, some (some 528), none, some (some 529), none, some (some 530), some (some 531), some (some 532), none, some (some 533), some (some 534), some (some 535), some (some 536), some (some 537), none, none, none, some (some 538), some (some 539), some (some 540), none, none, none, some (some 541), none, none, some (some 542), some (some 543), some (some 544), none, some (some 545)]) (As := [.int xa1, .int xa2]) (st := st) rfl (hS _ _ zs_491) (c_M_common hS h) (zgV zk_ml_L_153 zk_im_yX12_common zk_se_yX12_common zk_in_12 zk_cd_yX12_common) zsg_yX12_common hR rfl rfl hw hd hf kk
def w_lawc_33 (L : Nat) (xs : Nat → Int32) (v3 : Int32) (I : zI) (J : zI → Prop) : Prop :=
  vp_in (v3 + 1) L ∧ (vp_in (v3 + 2) L ∧ (w_Desk_common (xs (Int32.toNatClampNeg (v3 + 1))) (xs (Int32.toNatClampNeg (v3 + 2))) I (fun r_1 => vp_in (v3 + 1) L ∧ (vp_in (v3 + 2) L ∧ (w_M_common (xs (Int32.toNatClampNeg (v3 + 1))) (xs (Int32.toNatClampNeg (v3 + 2))) I (fun r_2 => J I))))))
set_option maxHeartbeats 4000000 in
set_option maxRecDepth 20000 in
theorem zl_c33 {p : Program} {l : Launch} {e : Env} {s : State} {m : MethodId} {below : List Frame} {meth : Method} {c : Code} {D : va_G} {B : Nat} {cA : Nat → ClassId} {ad : Nat → Nat} {b L : Nat} {xs : Nat → Int32} {S : List zC} (C : zCx p s m #[Value.ref b] meth c cL_law 4 RL ret D B cA ad) (hX : va_X b L xs s s.heap) (hbl : b < s.heap.size) (hbA : ¬ B ≤ b) (hS : zOkM S) (hB : B = s.heap.size) {v3 : Int32} {I : zI} {J : zI → Prop} (h : w_lawc_33 L xs v3 I J) (kk : ∀ I2, J I2 → zX p l e room_1 s m #[Value.ref b] below meth c (lw_Z below #[Value.ref b] s) D B cA 4 546 406967 S I2 [(3, .int v3), (0, .ref b), (1, .ref (B + 0)), (2, .ref (B + 491))] [] 1245) : zX p l e room_1 s m #[Value.ref b] below meth c (lw_Z below #[Value.ref b] s) D B cA 4 546 406967 S I [(3, .int v3), (0, .ref b), (1, .ref (B + 0)), (2, .ref (B + 491))] [] 1031 := by
  unfold w_lawc_33 at h
  refine zr_aload_n C dyL_law_1031 rfl 2 rfl ?_
  refine zr_aload_n C dyL_law_1032 rfl 1 rfl ?_
  refine zr_iload_n C dyL_law_1033 rfl 0 rfl ?_
  refine zr_iconst C dyL_law_1034 zc_i_1 ?_
  refine zr_iadd C dyL_law_1035 ?_
  refine zr_sld C hX hbl hbA h.1 dyL_law_1036 ?_
  replace h := h.2
  refine zr_aload_n C dyL_law_1037 rfl 1 rfl ?_
  refine zr_iload_n C dyL_law_1038 rfl 0 rfl ?_
  refine zr_iconst C dyL_law_1039 zc_i_2 ?_
  refine zr_iadd C dyL_law_1040 ?_
  refine zr_sld C hX hbl hbA h.1 dyL_law_1041 ?_
  replace h := h.2
  refine zv_L_150t C hS.x (st := []) h ⟨Nat.le_of_ble_eq_true rfl, Nat.le_of_ble_eq_true rfl⟩ (Nat.le_of_ble_eq_true rfl) dyL_law_1042 ⟨Nat.le_of_ble_eq_true rfl, Nat.le_of_ble_eq_true rfl⟩ (fun r_1 h => ?_)
  refine zr_pop C dyL_law_1045 rfl ?_
  refine zr_aload_n C dyL_law_1046 rfl 3 rfl ?_
  refine zr_aload_n C dyL_law_1047 rfl 1 rfl ?_
  refine zr_iload_n C dyL_law_1048 rfl 0 rfl ?_
  refine zr_iconst C dyL_law_1049 zc_i_1 ?_
  refine zr_iadd C dyL_law_1050 ?_
  refine zr_sld C hX hbl hbA h.1 dyL_law_1051 ?_
  replace h := h.2
  refine zr_aload_n C dyL_law_1052 rfl 1 rfl ?_
  refine zr_iload_n C dyL_law_1053 rfl 0 rfl ?_
  refine zr_iconst C dyL_law_1054 zc_i_2 ?_
  refine zr_iadd C dyL_law_1055 ?_
  refine zr_sld C hX hbl hbA h.1 dyL_law_1056 ?_
  replace h := h.2
  refine zv_L_153t C hS (st := []) h ⟨Nat.le_of_ble_eq_true rfl, Nat.le_of_ble_eq_true rfl⟩ (Nat.le_of_ble_eq_true rfl) dyL_law_1057 ⟨Nat.le_of_ble_eq_true rfl, Nat.le_of_ble_eq_true rfl⟩ (fun r_2 h => ?_)
  refine zr_pop C dyL_law_1060 rfl ?_
  refine zr_goto C dyL_law_1061 (tgt := 1245) (by decide) ?_
  exact kk _ h
theorem zv_L_154t {p : Program} {l : Launch} {e : Env} {R : Room} {s : State} {m : MethodId} {args : Array Value} {below : List Frame} {meth : Method} {c : Code} {Q : State → Prop} {D : va_G} {B : Nat} {cA : Nat → ClassId} {ad : Nat → Nat} {cc : ByteArray} {nL : Nat} {ret : Option FieldType} {S : List zC} {I : zI} {lv : List (Nat × Value)} {st : List Value} {pc cells slots : Nat} (C : zCx p s m args meth c cc nL RL ret D B cA ad) {K : Int32 → Prop} {xa1 : Int32} (hS : zOkX S)  (h : w_Desk_uses xa1 I K) (hR : 2 + 1 ≤ R.frames ∧ 8 + (2 + 11) + (43) ≤ R.locals) (hw : (st.map fun v => v.category).sum ≤ 8) (hd : decode cc pc = .ok (.invokevirtual 154, 3)) (hf : cells ≤ R.cells ∧ slots ≤ R.slots) (kk : ∀ v, K v → zX p l e R s m args below meth c Q D B cA nL cells slots S I lv (.int v :: st) (pc + 3)) : zX p l e R s m args below meth c Q D B cA nL cells slots S I lv (.int xa1 :: .ref (B + 0) :: st) pc :=
  zc_VpI C (ci := 11) (q := (RX11, TX11, 19)) (k := 0) (fs := [some (some 1), none, some (some 3), some (some 4), none, none, none, none, some (some 22), some (some 24), some (some 43), some (some 64), some (some 69), some (some 88), some (some 97), some (some 100), some (some 109), some (some 111), none]) (As := [.int xa1]) (st := st) rfl (hS _ _ zs_0) (c_Desk_uses hS h) (zgV zk_ml_L_154 zk_im_yX11_uses zk_se_yX11_uses zk_in_11 zk_cd_yX11_uses) zsg_yX11_uses hR rfl rfl hw hd hf kk
theorem zv_L_157t {p : Program} {l : Launch} {e : Env} {R : Room} {s : State} {m : MethodId} {args : Array Value} {below : List Frame} {meth : Method} {c : Code} {Q : State → Prop} {D : va_G} {B : Nat} {cA : Nat → ClassId} {ad : Nat → Nat} {cc : ByteArray} {nL : Nat} {ret : Option FieldType} {S : List zC} {I : zI} {lv : List (Nat × Value)} {st : List Value} {pc cells slots : Nat} (C : zCx p s m args meth c cc nL RL ret D B cA ad) {K : Int32 → Prop} {xa1 : Int32} (hS : zOkM S)  (h : w_M_uses xa1 I K) (hR : 2 + 1 ≤ R.frames ∧ 8 + (5 + 11) + (43) ≤ R.locals) (hw : (st.map fun v => v.category).sum ≤ 8) (hd : decode cc pc = .ok (.invokevirtual 157, 3)) (hf : cells ≤ R.cells ∧ slots ≤ R.slots) (kk : ∀ v, K v → zX p l e R s m args below meth c Q D B cA nL cells slots S I lv (.int v :: st) (pc + 3)) : zX p l e R s m args below meth c Q D B cA nL cells slots S I lv (.int xa1 :: .ref (B + 491) :: st) pc :=
  zc_VpI C (ci := 12) (q := (RX12, TX12, 82)) (k := 491) (fs := [none, some (some 492), some (some 493), none, some (some 494), none, some (some 495), none, none, none, some (some 496), some (some 497), some (some 498), some (some 499), some (some 500), none, some (some 501), some (some 502), some (some 503), none, some (some 504), some (some 505), some (some 506), some (some 507), some (some 508), none, some (some 509), some (some 510), some (some 511), some (some 512), some (some 513), some (some 514), some (some 515), some (some 516), some (some 517), some (some 518), none, none, some (some 519), none, some (some 520), none, none, none, some (some 521), some (some 522), some (some 523), some (some 524), some (some 525), some (some 526), some (some 527), none, some (some 528), none, some (some 529), none, some (some 530), some (some 531), some (some 532), none, some (some 533), some (some 534), some (some 535), some (some 536), some (some 537), none, none, none, some (some 538), some (some 539), some (some 540), none, none, none, some (some 541), none, none, some (some 542), some (some 543), some (some 544), none, some (some 545)]) (As := [.int xa1]) (st := st) rfl (hS _ _ zs_491) (c_M_uses hS h) (zgV zk_ml_L_157 zk_im_yX12_uses zk_se_yX12_uses zk_in_12 zk_cd_yX12_uses) zsg_yX12_uses hR rfl rfl hw hd hf kk
def w_lawc_34 (L : Nat) (xs : Nat → Int32) (v3 : Int32) (I : zI) (J : zI → Prop) : Prop :=
  vp_in (v3 + 1) L ∧ (w_Desk_uses (xs (Int32.toNatClampNeg (v3 + 1))) I (fun r_1 => vp_in (v3 + 1) L ∧ (w_M_uses (xs (Int32.toNatClampNeg (v3 + 1))) I (fun r_2 => J I))))
set_option maxHeartbeats 4000000 in
set_option maxRecDepth 20000 in
theorem zl_c34 {p : Program} {l : Launch} {e : Env} {s : State} {m : MethodId} {below : List Frame} {meth : Method} {c : Code} {D : va_G} {B : Nat} {cA : Nat → ClassId} {ad : Nat → Nat} {b L : Nat} {xs : Nat → Int32} {S : List zC} (C : zCx p s m #[Value.ref b] meth c cL_law 4 RL ret D B cA ad) (hX : va_X b L xs s s.heap) (hbl : b < s.heap.size) (hbA : ¬ B ≤ b) (hS : zOkM S) (hB : B = s.heap.size) {v3 : Int32} {I : zI} {J : zI → Prop} (h : w_lawc_34 L xs v3 I J) (kk : ∀ I2, J I2 → zX p l e room_1 s m #[Value.ref b] below meth c (lw_Z below #[Value.ref b] s) D B cA 4 546 406967 S I2 [(3, .int v3), (0, .ref b), (1, .ref (B + 0)), (2, .ref (B + 491))] [] 1245) : zX p l e room_1 s m #[Value.ref b] below meth c (lw_Z below #[Value.ref b] s) D B cA 4 546 406967 S I [(3, .int v3), (0, .ref b), (1, .ref (B + 0)), (2, .ref (B + 491))] [] 1064 := by
  unfold w_lawc_34 at h
  refine zr_aload_n C dyL_law_1064 rfl 2 rfl ?_
  refine zr_aload_n C dyL_law_1065 rfl 1 rfl ?_
  refine zr_iload_n C dyL_law_1066 rfl 0 rfl ?_
  refine zr_iconst C dyL_law_1067 zc_i_1 ?_
  refine zr_iadd C dyL_law_1068 ?_
  refine zr_sld C hX hbl hbA h.1 dyL_law_1069 ?_
  replace h := h.2
  refine zv_L_154t C hS.x (st := []) h ⟨Nat.le_of_ble_eq_true rfl, Nat.le_of_ble_eq_true rfl⟩ (Nat.le_of_ble_eq_true rfl) dyL_law_1070 ⟨Nat.le_of_ble_eq_true rfl, Nat.le_of_ble_eq_true rfl⟩ (fun r_1 h => ?_)
  refine zr_pop C dyL_law_1073 rfl ?_
  refine zr_aload_n C dyL_law_1074 rfl 3 rfl ?_
  refine zr_aload_n C dyL_law_1075 rfl 1 rfl ?_
  refine zr_iload_n C dyL_law_1076 rfl 0 rfl ?_
  refine zr_iconst C dyL_law_1077 zc_i_1 ?_
  refine zr_iadd C dyL_law_1078 ?_
  refine zr_sld C hX hbl hbA h.1 dyL_law_1079 ?_
  replace h := h.2
  refine zv_L_157t C hS (st := []) h ⟨Nat.le_of_ble_eq_true rfl, Nat.le_of_ble_eq_true rfl⟩ (Nat.le_of_ble_eq_true rfl) dyL_law_1080 ⟨Nat.le_of_ble_eq_true rfl, Nat.le_of_ble_eq_true rfl⟩ (fun r_2 h => ?_)
  refine zr_pop C dyL_law_1083 rfl ?_
  refine zr_goto C dyL_law_1084 (tgt := 1245) (by decide) ?_
  exact kk _ h
theorem zv_L_158t {p : Program} {l : Launch} {e : Env} {R : Room} {s : State} {m : MethodId} {args : Array Value} {below : List Frame} {meth : Method} {c : Code} {Q : State → Prop} {D : va_G} {B : Nat} {cA : Nat → ClassId} {ad : Nat → Nat} {cc : ByteArray} {nL : Nat} {ret : Option FieldType} {S : List zC} {I : zI} {lv : List (Nat × Value)} {st : List Value} {pc cells slots : Nat} (C : zCx p s m args meth c cc nL RL ret D B cA ad) {K : Int32 → Prop} {xa1 : Int32} (hS : zOkX S)  (h : w_Desk_idle xa1 I K) (hR : 1 + 1 ≤ R.frames ∧ 8 + (2 + 11) + (21) ≤ R.locals) (hw : (st.map fun v => v.category).sum ≤ 8) (hd : decode cc pc = .ok (.invokevirtual 158, 3)) (hf : cells ≤ R.cells ∧ slots ≤ R.slots) (kk : ∀ v, K v → zX p l e R s m args below meth c Q D B cA nL cells slots S I lv (.int v :: st) (pc + 3)) : zX p l e R s m args below meth c Q D B cA nL cells slots S I lv (.int xa1 :: .ref (B + 0) :: st) pc :=
  zc_VpI C (ci := 11) (q := (RX11, TX11, 19)) (k := 0) (fs := [some (some 1), none, some (some 3), some (some 4), none, none, none, none, some (some 22), some (some 24), some (some 43), some (some 64), some (some 69), some (some 88), some (some 97), some (some 100), some (some 109), some (some 111), none]) (As := [.int xa1]) (st := st) rfl (hS _ _ zs_0) (c_Desk_idle hS h) (zgV zk_ml_L_158 zk_im_yX11_idle zk_se_yX11_idle zk_in_11 zk_cd_yX11_idle) zsg_yX11_idle hR rfl rfl hw hd hf kk
theorem zv_L_161t {p : Program} {l : Launch} {e : Env} {R : Room} {s : State} {m : MethodId} {args : Array Value} {below : List Frame} {meth : Method} {c : Code} {Q : State → Prop} {D : va_G} {B : Nat} {cA : Nat → ClassId} {ad : Nat → Nat} {cc : ByteArray} {nL : Nat} {ret : Option FieldType} {S : List zC} {I : zI} {lv : List (Nat × Value)} {st : List Value} {pc cells slots : Nat} (C : zCx p s m args meth c cc nL RL ret D B cA ad) {K : Int32 → Prop} {xa1 : Int32} (hS : zOkM S)  (h : w_M_idle xa1 I K) (hR : 3 + 1 ≤ R.frames ∧ 8 + (5 + 11) + (69) ≤ R.locals) (hw : (st.map fun v => v.category).sum ≤ 8) (hd : decode cc pc = .ok (.invokevirtual 161, 3)) (hf : cells ≤ R.cells ∧ slots ≤ R.slots) (kk : ∀ v, K v → zX p l e R s m args below meth c Q D B cA nL cells slots S I lv (.int v :: st) (pc + 3)) : zX p l e R s m args below meth c Q D B cA nL cells slots S I lv (.int xa1 :: .ref (B + 491) :: st) pc :=
  zc_VpI C (ci := 12) (q := (RX12, TX12, 82)) (k := 491) (fs := [none, some (some 492), some (some 493), none, some (some 494), none, some (some 495), none, none, none, some (some 496), some (some 497), some (some 498), some (some 499), some (some 500), none, some (some 501), some (some 502), some (some 503), none, some (some 504), some (some 505), some (some 506), some (some 507), some (some 508), none, some (some 509), some (some 510), some (some 511), some (some 512), some (some 513), some (some 514), some (some 515), some (some 516), some (some 517), some (some 518), none, none, some (some 519), none, some (some 520), none, none, none, some (some 521), some (some 522), some (some 523), some (some 524), some (some 525), some (some 526), some (some 527), none, some (some 528), none, some (some 529), none, some (some 530), some (some 531), some (some 532), none, some (some 533), some (some 534), some (some 535), some (some 536), some (some 537), none, none, none, some (some 538), some (some 539), some (some 540), none, none, none, some (some 541), none, none, some (some 542), some (some 543), some (some 544), none, some (some 545)]) (As := [.int xa1]) (st := st) rfl (hS _ _ zs_491) (c_M_idle hS h) (zgV zk_ml_L_161 zk_im_yX12_idle zk_se_yX12_idle zk_in_12 zk_cd_yX12_idle) zsg_yX12_idle hR rfl rfl hw hd hf kk
def w_lawc_35 (L : Nat) (xs : Nat → Int32) (v3 : Int32) (I : zI) (J : zI → Prop) : Prop :=
  vp_in (v3 + 1) L ∧ (w_Desk_idle (xs (Int32.toNatClampNeg (v3 + 1))) I (fun r_1 => vp_in (v3 + 1) L ∧ (w_M_idle (xs (Int32.toNatClampNeg (v3 + 1))) I (fun r_2 => J I))))
set_option maxHeartbeats 4000000 in
set_option maxRecDepth 20000 in
theorem zl_c35 {p : Program} {l : Launch} {e : Env} {s : State} {m : MethodId} {below : List Frame} {meth : Method} {c : Code} {D : va_G} {B : Nat} {cA : Nat → ClassId} {ad : Nat → Nat} {b L : Nat} {xs : Nat → Int32} {S : List zC} (C : zCx p s m #[Value.ref b] meth c cL_law 4 RL ret D B cA ad) (hX : va_X b L xs s s.heap) (hbl : b < s.heap.size) (hbA : ¬ B ≤ b) (hS : zOkM S) (hB : B = s.heap.size) {v3 : Int32} {I : zI} {J : zI → Prop} (h : w_lawc_35 L xs v3 I J) (kk : ∀ I2, J I2 → zX p l e room_1 s m #[Value.ref b] below meth c (lw_Z below #[Value.ref b] s) D B cA 4 546 406967 S I2 [(3, .int v3), (0, .ref b), (1, .ref (B + 0)), (2, .ref (B + 491))] [] 1245) : zX p l e room_1 s m #[Value.ref b] below meth c (lw_Z below #[Value.ref b] s) D B cA 4 546 406967 S I [(3, .int v3), (0, .ref b), (1, .ref (B + 0)), (2, .ref (B + 491))] [] 1087 := by
  unfold w_lawc_35 at h
  refine zr_aload_n C dyL_law_1087 rfl 2 rfl ?_
  refine zr_aload_n C dyL_law_1088 rfl 1 rfl ?_
  refine zr_iload_n C dyL_law_1089 rfl 0 rfl ?_
  refine zr_iconst C dyL_law_1090 zc_i_1 ?_
  refine zr_iadd C dyL_law_1091 ?_
  refine zr_sld C hX hbl hbA h.1 dyL_law_1092 ?_
  replace h := h.2
  refine zv_L_158t C hS.x (st := []) h ⟨Nat.le_of_ble_eq_true rfl, Nat.le_of_ble_eq_true rfl⟩ (Nat.le_of_ble_eq_true rfl) dyL_law_1093 ⟨Nat.le_of_ble_eq_true rfl, Nat.le_of_ble_eq_true rfl⟩ (fun r_1 h => ?_)
  refine zr_pop C dyL_law_1096 rfl ?_
  refine zr_aload_n C dyL_law_1097 rfl 3 rfl ?_
  refine zr_aload_n C dyL_law_1098 rfl 1 rfl ?_
  refine zr_iload_n C dyL_law_1099 rfl 0 rfl ?_
  refine zr_iconst C dyL_law_1100 zc_i_1 ?_
  refine zr_iadd C dyL_law_1101 ?_
  refine zr_sld C hX hbl hbA h.1 dyL_law_1102 ?_
  replace h := h.2
  refine zv_L_161t C hS (st := []) h ⟨Nat.le_of_ble_eq_true rfl, Nat.le_of_ble_eq_true rfl⟩ (Nat.le_of_ble_eq_true rfl) dyL_law_1103 ⟨Nat.le_of_ble_eq_true rfl, Nat.le_of_ble_eq_true rfl⟩ (fun r_2 h => ?_)
  refine zr_pop C dyL_law_1106 rfl ?_
  refine zr_goto C dyL_law_1107 (tgt := 1245) (by decide) ?_
  exact kk _ h
theorem zv_L_162t {p : Program} {l : Launch} {e : Env} {R : Room} {s : State} {m : MethodId} {args : Array Value} {below : List Frame} {meth : Method} {c : Code} {Q : State → Prop} {D : va_G} {B : Nat} {cA : Nat → ClassId} {ad : Nat → Nat} {cc : ByteArray} {nL : Nat} {ret : Option FieldType} {S : List zC} {I : zI} {lv : List (Nat × Value)} {st : List Value} {pc cells slots : Nat} (C : zCx p s m args meth c cc nL RL ret D B cA ad) {K : Int32 → Prop} {xa1 : Int32} (hS : zOkX S)  (h : w_Desk_firm xa1 I K) (hR : 3 + 1 ≤ R.frames ∧ 8 + (2 + 11) + (66) ≤ R.locals) (hw : (st.map fun v => v.category).sum ≤ 8) (hd : decode cc pc = .ok (.invokevirtual 162, 3)) (hf : cells ≤ R.cells ∧ slots ≤ R.slots) (kk : ∀ v, K v → zX p l e R s m args below meth c Q D B cA nL cells slots S I lv (.int v :: st) (pc + 3)) : zX p l e R s m args below meth c Q D B cA nL cells slots S I lv (.int xa1 :: .ref (B + 0) :: st) pc :=
  zc_VpI C (ci := 11) (q := (RX11, TX11, 19)) (k := 0) (fs := [some (some 1), none, some (some 3), some (some 4), none, none, none, none, some (some 22), some (some 24), some (some 43), some (some 64), some (some 69), some (some 88), some (some 97), some (some 100), some (some 109), some (some 111), none]) (As := [.int xa1]) (st := st) rfl (hS _ _ zs_0) (c_Desk_firm hS h) (zgV zk_ml_L_162 zk_im_yX11_firm zk_se_yX11_firm zk_in_11 zk_cd_yX11_firm) zsg_yX11_firm hR rfl rfl hw hd hf kk
theorem zv_L_165t {p : Program} {l : Launch} {e : Env} {R : Room} {s : State} {m : MethodId} {args : Array Value} {below : List Frame} {meth : Method} {c : Code} {Q : State → Prop} {D : va_G} {B : Nat} {cA : Nat → ClassId} {ad : Nat → Nat} {cc : ByteArray} {nL : Nat} {ret : Option FieldType} {S : List zC} {I : zI} {lv : List (Nat × Value)} {st : List Value} {pc cells slots : Nat} (C : zCx p s m args meth c cc nL RL ret D B cA ad) {K : Int32 → Prop} {xa1 : Int32} (hS : zOkM S)  (h : w_M_firm xa1 I K) (hR : 3 + 1 ≤ R.frames ∧ 8 + (4 + 11) + (64) ≤ R.locals) (hw : (st.map fun v => v.category).sum ≤ 8) (hd : decode cc pc = .ok (.invokevirtual 165, 3)) (hf : cells ≤ R.cells ∧ slots ≤ R.slots) (kk : ∀ v, K v → zX p l e R s m args below meth c Q D B cA nL cells slots S I lv (.int v :: st) (pc + 3)) : zX p l e R s m args below meth c Q D B cA nL cells slots S I lv (.int xa1 :: .ref (B + 491) :: st) pc :=
  zc_VpI C (ci := 12) (q := (RX12, TX12, 82)) (k := 491) (fs := [none, some (some 492), some (some 493), none, some (some 494), none, some (some 495), none, none, none, some (some 496), some (some 497), some (some 498), some (some 499), some (some 500), none, some (some 501), some (some 502), some (some 503), none, some (some 504), some (some 505), some (some 506), some (some 507), some (some 508), none, some (some 509), some (some 510), some (some 511), some (some 512), some (some 513), some (some 514), some (some 515), some (some 516), some (some 517), some (some 518), none, none, some (some 519), none, some (some 520), none, none, none, some (some 521), some (some 522), some (some 523), some (some 524), some (some 525), some (some 526), some (some 527), none, some (some 528), none, some (some 529), none, some (some 530), some (some 531), some (some 532), none, some (some 533), some (some 534), some (some 535), some (some 536), some (some 537), none, none, none, some (some 538), some (some 539), some (some 540), none, none, none, some (some 541), none, none, some (some 542), some (some 543), some (some 544), none, some (some 545)]) (As := [.int xa1]) (st := st) rfl (hS _ _ zs_491) (c_M_firm hS h) (zgV zk_ml_L_165 zk_im_yX12_firm zk_se_yX12_firm zk_in_12 zk_cd_yX12_firm) zsg_yX12_firm hR rfl rfl hw hd hf kk
def w_lawc_36 (L : Nat) (xs : Nat → Int32) (v3 : Int32) (I : zI) (J : zI → Prop) : Prop :=
  vp_in (v3 + 1) L ∧ (w_Desk_firm (xs (Int32.toNatClampNeg (v3 + 1))) I (fun r_1 => vp_in (v3 + 1) L ∧ (w_M_firm (xs (Int32.toNatClampNeg (v3 + 1))) I (fun r_2 => J I))))
set_option maxHeartbeats 4000000 in
set_option maxRecDepth 20000 in
theorem zl_c36 {p : Program} {l : Launch} {e : Env} {s : State} {m : MethodId} {below : List Frame} {meth : Method} {c : Code} {D : va_G} {B : Nat} {cA : Nat → ClassId} {ad : Nat → Nat} {b L : Nat} {xs : Nat → Int32} {S : List zC} (C : zCx p s m #[Value.ref b] meth c cL_law 4 RL ret D B cA ad) (hX : va_X b L xs s s.heap) (hbl : b < s.heap.size) (hbA : ¬ B ≤ b) (hS : zOkM S) (hB : B = s.heap.size) {v3 : Int32} {I : zI} {J : zI → Prop} (h : w_lawc_36 L xs v3 I J) (kk : ∀ I2, J I2 → zX p l e room_1 s m #[Value.ref b] below meth c (lw_Z below #[Value.ref b] s) D B cA 4 546 406967 S I2 [(3, .int v3), (0, .ref b), (1, .ref (B + 0)), (2, .ref (B + 491))] [] 1245) : zX p l e room_1 s m #[Value.ref b] below meth c (lw_Z below #[Value.ref b] s) D B cA 4 546 406967 S I [(3, .int v3), (0, .ref b), (1, .ref (B + 0)), (2, .ref (B + 491))] [] 1110 := by
  unfold w_lawc_36 at h
  refine zr_aload_n C dyL_law_1110 rfl 2 rfl ?_
  refine zr_aload_n C dyL_law_1111 rfl 1 rfl ?_
  refine zr_iload_n C dyL_law_1112 rfl 0 rfl ?_
  refine zr_iconst C dyL_law_1113 zc_i_1 ?_
  refine zr_iadd C dyL_law_1114 ?_
  refine zr_sld C hX hbl hbA h.1 dyL_law_1115 ?_
  replace h := h.2
  refine zv_L_162t C hS.x (st := []) h ⟨Nat.le_of_ble_eq_true rfl, Nat.le_of_ble_eq_true rfl⟩ (Nat.le_of_ble_eq_true rfl) dyL_law_1116 ⟨Nat.le_of_ble_eq_true rfl, Nat.le_of_ble_eq_true rfl⟩ (fun r_1 h => ?_)
  refine zr_pop C dyL_law_1119 rfl ?_
  refine zr_aload_n C dyL_law_1120 rfl 3 rfl ?_
  refine zr_aload_n C dyL_law_1121 rfl 1 rfl ?_
  refine zr_iload_n C dyL_law_1122 rfl 0 rfl ?_
  refine zr_iconst C dyL_law_1123 zc_i_1 ?_
  refine zr_iadd C dyL_law_1124 ?_
  refine zr_sld C hX hbl hbA h.1 dyL_law_1125 ?_
  replace h := h.2
  refine zv_L_165t C hS (st := []) h ⟨Nat.le_of_ble_eq_true rfl, Nat.le_of_ble_eq_true rfl⟩ (Nat.le_of_ble_eq_true rfl) dyL_law_1126 ⟨Nat.le_of_ble_eq_true rfl, Nat.le_of_ble_eq_true rfl⟩ (fun r_2 h => ?_)
  refine zr_pop C dyL_law_1129 rfl ?_
  refine zr_goto C dyL_law_1130 (tgt := 1245) (by decide) ?_
  exact kk _ h
theorem zv_L_166t {p : Program} {l : Launch} {e : Env} {R : Room} {s : State} {m : MethodId} {args : Array Value} {below : List Frame} {meth : Method} {c : Code} {Q : State → Prop} {D : va_G} {B : Nat} {cA : Nat → ClassId} {ad : Nat → Nat} {cc : ByteArray} {nL : Nat} {ret : Option FieldType} {S : List zC} {I : zI} {lv : List (Nat × Value)} {st : List Value} {pc cells slots : Nat} (C : zCx p s m args meth c cc nL RL ret D B cA ad) {K : Int32 → zI → Prop} {xa1 : Int32} {xa2 : Int32} (hS : zOkX S)  (h : w_Desk_alike xa1 xa2 I K) (hR : 5 + 1 ≤ R.frames ∧ 8 + (3 + 11) + (117) ≤ R.locals) (hw : (st.map fun v => v.category).sum ≤ 8) (hd : decode cc pc = .ok (.invokevirtual 166, 3)) (hf : cells ≤ R.cells ∧ slots ≤ R.slots) (kk : ∀ v I2, K v I2 → zX p l e R s m args below meth c Q D B cA nL cells slots S I2 lv (.int v :: st) (pc + 3)) : zX p l e R s m args below meth c Q D B cA nL cells slots S I lv (.int xa2 :: .int xa1 :: .ref (B + 0) :: st) pc :=
  zc_VqI C (ci := 11) (q := (RX11, TX11, 19)) (k := 0) (fs := [some (some 1), none, some (some 3), some (some 4), none, none, none, none, some (some 22), some (some 24), some (some 43), some (some 64), some (some 69), some (some 88), some (some 97), some (some 100), some (some 109), some (some 111), none]) (As := [.int xa1, .int xa2]) (st := st) rfl (hS _ _ zs_0) (c_Desk_alike hS h) (zgV zk_ml_L_166 zk_im_yX11_alike zk_se_yX11_alike zk_in_11 zk_cd_yX11_alike) zsg_yX11_alike hR rfl rfl hw hd hf kk
theorem zv_L_169t {p : Program} {l : Launch} {e : Env} {R : Room} {s : State} {m : MethodId} {args : Array Value} {below : List Frame} {meth : Method} {c : Code} {Q : State → Prop} {D : va_G} {B : Nat} {cA : Nat → ClassId} {ad : Nat → Nat} {cc : ByteArray} {nL : Nat} {ret : Option FieldType} {S : List zC} {I : zI} {lv : List (Nat × Value)} {st : List Value} {pc cells slots : Nat} (C : zCx p s m args meth c cc nL RL ret D B cA ad) {K : Int32 → zI → Prop} {xa1 : Int32} {xa2 : Int32} (hS : zOkM S)  (h : w_M_alike xa1 xa2 I K) (hR : 3 + 1 ≤ R.frames ∧ 8 + (5 + 11) + (70) ≤ R.locals) (hw : (st.map fun v => v.category).sum ≤ 8) (hd : decode cc pc = .ok (.invokevirtual 169, 3)) (hf : cells ≤ R.cells ∧ slots ≤ R.slots) (kk : ∀ v I2, K v I2 → zX p l e R s m args below meth c Q D B cA nL cells slots S I2 lv (.int v :: st) (pc + 3)) : zX p l e R s m args below meth c Q D B cA nL cells slots S I lv (.int xa2 :: .int xa1 :: .ref (B + 491) :: st) pc :=
  zc_VqI C (ci := 12) (q := (RX12, TX12, 82)) (k := 491) (fs := [none, some (some 492), some (some 493), none, some (some 494), none, some (some 495), none, none, none, some (some 496), some (some 497), some (some 498), some (some 499), some (some 500), none, some (some 501), some (some 502), some (some 503), none, some (some 504), some (some 505), some (some 506), some (some 507), some (some 508), none, some (some 509), some (some 510), some (some 511), some (some 512), some (some 513), some (some 514), some (some 515), some (some 516), some (some 517), some (some 518), none, none, some (some 519), none, some (some 520), none, none, none, some (some 521), some (some 522), some (some 523), some (some 524), some (some 525), some (some 526), some (some 527), none, some (some 528), none, some (some 529), none, some (some 530), some (some 531), some (some 532), none, some (some 533), some (some 534), some (some 535), some (some 536), some (some 537), none, none, none, some (some 538), some (some 539), some (some 540), none, none, none, some (some 541), none, none, some (some 542), some (some 543), some (some 544), none, some (some 545)]) (As := [.int xa1, .int xa2]) (st := st) rfl (hS _ _ zs_491) (c_M_alike hS h) (zgV zk_ml_L_169 zk_im_yX12_alike zk_se_yX12_alike zk_in_12 zk_cd_yX12_alike) zsg_yX12_alike hR rfl rfl hw hd hf kk
def w_lawc_37 (L : Nat) (xs : Nat → Int32) (v3 : Int32) (I : zI) (J : zI → Prop) : Prop :=
  vp_in (v3 + 1) L ∧ (vp_in (v3 + 2) L ∧ (w_Desk_alike (xs (Int32.toNatClampNeg (v3 + 1))) (xs (Int32.toNatClampNeg (v3 + 2))) I (fun r_1 I_2 => vp_in (v3 + 1) L ∧ (vp_in (v3 + 2) L ∧ (w_M_alike (xs (Int32.toNatClampNeg (v3 + 1))) (xs (Int32.toNatClampNeg (v3 + 2))) I_2 (fun r_3 I_4 => J I_4))))))
set_option maxHeartbeats 4000000 in
set_option maxRecDepth 20000 in
theorem zl_c37 {p : Program} {l : Launch} {e : Env} {s : State} {m : MethodId} {below : List Frame} {meth : Method} {c : Code} {D : va_G} {B : Nat} {cA : Nat → ClassId} {ad : Nat → Nat} {b L : Nat} {xs : Nat → Int32} {S : List zC} (C : zCx p s m #[Value.ref b] meth c cL_law 4 RL ret D B cA ad) (hX : va_X b L xs s s.heap) (hbl : b < s.heap.size) (hbA : ¬ B ≤ b) (hS : zOkM S) (hB : B = s.heap.size) {v3 : Int32} {I : zI} {J : zI → Prop} (h : w_lawc_37 L xs v3 I J) (kk : ∀ I2, J I2 → zX p l e room_1 s m #[Value.ref b] below meth c (lw_Z below #[Value.ref b] s) D B cA 4 546 406967 S I2 [(3, .int v3), (0, .ref b), (1, .ref (B + 0)), (2, .ref (B + 491))] [] 1245) : zX p l e room_1 s m #[Value.ref b] below meth c (lw_Z below #[Value.ref b] s) D B cA 4 546 406967 S I [(3, .int v3), (0, .ref b), (1, .ref (B + 0)), (2, .ref (B + 491))] [] 1133 := by
  unfold w_lawc_37 at h
  refine zr_aload_n C dyL_law_1133 rfl 2 rfl ?_
  refine zr_aload_n C dyL_law_1134 rfl 1 rfl ?_
  refine zr_iload_n C dyL_law_1135 rfl 0 rfl ?_
  refine zr_iconst C dyL_law_1136 zc_i_1 ?_
  refine zr_iadd C dyL_law_1137 ?_
  refine zr_sld C hX hbl hbA h.1 dyL_law_1138 ?_
  replace h := h.2
  refine zr_aload_n C dyL_law_1139 rfl 1 rfl ?_
  refine zr_iload_n C dyL_law_1140 rfl 0 rfl ?_
  refine zr_iconst C dyL_law_1141 zc_i_2 ?_
  refine zr_iadd C dyL_law_1142 ?_
  refine zr_sld C hX hbl hbA h.1 dyL_law_1143 ?_
  replace h := h.2
  refine zv_L_166t C hS.x (st := []) h ⟨Nat.le_of_ble_eq_true rfl, Nat.le_of_ble_eq_true rfl⟩ (Nat.le_of_ble_eq_true rfl) dyL_law_1144 ⟨Nat.le_of_ble_eq_true rfl, Nat.le_of_ble_eq_true rfl⟩ (fun r_1 I_2 h => ?_)
  refine zr_pop C dyL_law_1147 rfl ?_
  refine zr_aload_n C dyL_law_1148 rfl 3 rfl ?_
  refine zr_aload_n C dyL_law_1149 rfl 1 rfl ?_
  refine zr_iload_n C dyL_law_1150 rfl 0 rfl ?_
  refine zr_iconst C dyL_law_1151 zc_i_1 ?_
  refine zr_iadd C dyL_law_1152 ?_
  refine zr_sld C hX hbl hbA h.1 dyL_law_1153 ?_
  replace h := h.2
  refine zr_aload_n C dyL_law_1154 rfl 1 rfl ?_
  refine zr_iload_n C dyL_law_1155 rfl 0 rfl ?_
  refine zr_iconst C dyL_law_1156 zc_i_2 ?_
  refine zr_iadd C dyL_law_1157 ?_
  refine zr_sld C hX hbl hbA h.1 dyL_law_1158 ?_
  replace h := h.2
  refine zv_L_169t C hS (st := []) h ⟨Nat.le_of_ble_eq_true rfl, Nat.le_of_ble_eq_true rfl⟩ (Nat.le_of_ble_eq_true rfl) dyL_law_1159 ⟨Nat.le_of_ble_eq_true rfl, Nat.le_of_ble_eq_true rfl⟩ (fun r_3 I_4 h => ?_)
  refine zr_pop C dyL_law_1162 rfl ?_
  refine zr_goto C dyL_law_1163 (tgt := 1245) (by decide) ?_
  exact kk _ h
theorem zv_L_170t {p : Program} {l : Launch} {e : Env} {R : Room} {s : State} {m : MethodId} {args : Array Value} {below : List Frame} {meth : Method} {c : Code} {Q : State → Prop} {D : va_G} {B : Nat} {cA : Nat → ClassId} {ad : Nat → Nat} {cc : ByteArray} {nL : Nat} {ret : Option FieldType} {S : List zC} {I : zI} {lv : List (Nat × Value)} {st : List Value} {pc cells slots : Nat} (C : zCx p s m args meth c cc nL RL ret D B cA ad) {K : Int32 → Prop} {xa1 : Int32} {xa2 : Int32} (hS : zOkX S)  (h : w_Desk_path xa1 xa2 I K) (hR : 4 + 1 ≤ R.frames ∧ 8 + (4 + 11) + (89) ≤ R.locals) (hw : (st.map fun v => v.category).sum ≤ 8) (hd : decode cc pc = .ok (.invokevirtual 170, 3)) (hf : cells ≤ R.cells ∧ slots ≤ R.slots) (kk : ∀ v, K v → zX p l e R s m args below meth c Q D B cA nL cells slots S I lv (.int v :: st) (pc + 3)) : zX p l e R s m args below meth c Q D B cA nL cells slots S I lv (.int xa2 :: .int xa1 :: .ref (B + 0) :: st) pc :=
  zc_VpI C (ci := 11) (q := (RX11, TX11, 19)) (k := 0) (fs := [some (some 1), none, some (some 3), some (some 4), none, none, none, none, some (some 22), some (some 24), some (some 43), some (some 64), some (some 69), some (some 88), some (some 97), some (some 100), some (some 109), some (some 111), none]) (As := [.int xa1, .int xa2]) (st := st) rfl (hS _ _ zs_0) (c_Desk_path hS h) (zgV zk_ml_L_170 zk_im_yX11_path zk_se_yX11_path zk_in_11 zk_cd_yX11_path) zsg_yX11_path hR rfl rfl hw hd hf kk
theorem zv_L_173t {p : Program} {l : Launch} {e : Env} {R : Room} {s : State} {m : MethodId} {args : Array Value} {below : List Frame} {meth : Method} {c : Code} {Q : State → Prop} {D : va_G} {B : Nat} {cA : Nat → ClassId} {ad : Nat → Nat} {cc : ByteArray} {nL : Nat} {ret : Option FieldType} {S : List zC} {I : zI} {lv : List (Nat × Value)} {st : List Value} {pc cells slots : Nat} (C : zCx p s m args meth c cc nL RL ret D B cA ad) {K : Int32 → Prop} {xa1 : Int32} {xa2 : Int32} (hS : zOkM S)  (h : w_M_path xa1 xa2 I K) (hR : 2 + 1 ≤ R.frames ∧ 8 + (6 + 11) + (43) ≤ R.locals) (hw : (st.map fun v => v.category).sum ≤ 8) (hd : decode cc pc = .ok (.invokevirtual 173, 3)) (hf : cells ≤ R.cells ∧ slots ≤ R.slots) (kk : ∀ v, K v → zX p l e R s m args below meth c Q D B cA nL cells slots S I lv (.int v :: st) (pc + 3)) : zX p l e R s m args below meth c Q D B cA nL cells slots S I lv (.int xa2 :: .int xa1 :: .ref (B + 491) :: st) pc :=
  zc_VpI C (ci := 12) (q := (RX12, TX12, 82)) (k := 491) (fs := [none, some (some 492), some (some 493), none, some (some 494), none, some (some 495), none, none, none, some (some 496), some (some 497), some (some 498), some (some 499), some (some 500), none, some (some 501), some (some 502), some (some 503), none, some (some 504), some (some 505), some (some 506), some (some 507), some (some 508), none, some (some 509), some (some 510), some (some 511), some (some 512), some (some 513), some (some 514), some (some 515), some (some 516), some (some 517), some (some 518), none, none, some (some 519), none, some (some 520), none, none, none, some (some 521), some (some 522), some (some 523), some (some 524), some (some 525), some (some 526), some (some 527), none, some (some 528), none, some (some 529), none, some (some 530), some (some 531), some (some 532), none, some (some 533), some (some 534), some (some 535), some (some 536), some (some 537), none, none, none, some (some 538), some (some 539), some (some 540), none, none, none, some (some 541), none, none, some (some 542), some (some 543), some (some 544), none, some (some 545)]) (As := [.int xa1, .int xa2]) (st := st) rfl (hS _ _ zs_491) (c_M_path hS h) (zgV zk_ml_L_173 zk_im_yX12_path zk_se_yX12_path zk_in_12 zk_cd_yX12_path) zsg_yX12_path hR rfl rfl hw hd hf kk
def w_lawc_38 (L : Nat) (xs : Nat → Int32) (v3 : Int32) (I : zI) (J : zI → Prop) : Prop :=
  vp_in (v3 + 1) L ∧ (vp_in (v3 + 2) L ∧ (w_Desk_path (xs (Int32.toNatClampNeg (v3 + 1))) (xs (Int32.toNatClampNeg (v3 + 2))) I (fun r_1 => vp_in (v3 + 1) L ∧ (vp_in (v3 + 2) L ∧ (w_M_path (xs (Int32.toNatClampNeg (v3 + 1))) (xs (Int32.toNatClampNeg (v3 + 2))) I (fun r_2 => J I))))))
set_option maxHeartbeats 4000000 in
set_option maxRecDepth 20000 in
theorem zl_c38 {p : Program} {l : Launch} {e : Env} {s : State} {m : MethodId} {below : List Frame} {meth : Method} {c : Code} {D : va_G} {B : Nat} {cA : Nat → ClassId} {ad : Nat → Nat} {b L : Nat} {xs : Nat → Int32} {S : List zC} (C : zCx p s m #[Value.ref b] meth c cL_law 4 RL ret D B cA ad) (hX : va_X b L xs s s.heap) (hbl : b < s.heap.size) (hbA : ¬ B ≤ b) (hS : zOkM S) (hB : B = s.heap.size) {v3 : Int32} {I : zI} {J : zI → Prop} (h : w_lawc_38 L xs v3 I J) (kk : ∀ I2, J I2 → zX p l e room_1 s m #[Value.ref b] below meth c (lw_Z below #[Value.ref b] s) D B cA 4 546 406967 S I2 [(3, .int v3), (0, .ref b), (1, .ref (B + 0)), (2, .ref (B + 491))] [] 1245) : zX p l e room_1 s m #[Value.ref b] below meth c (lw_Z below #[Value.ref b] s) D B cA 4 546 406967 S I [(3, .int v3), (0, .ref b), (1, .ref (B + 0)), (2, .ref (B + 491))] [] 1166 := by
  unfold w_lawc_38 at h
  refine zr_aload_n C dyL_law_1166 rfl 2 rfl ?_
  refine zr_aload_n C dyL_law_1167 rfl 1 rfl ?_
  refine zr_iload_n C dyL_law_1168 rfl 0 rfl ?_
  refine zr_iconst C dyL_law_1169 zc_i_1 ?_
  refine zr_iadd C dyL_law_1170 ?_
  refine zr_sld C hX hbl hbA h.1 dyL_law_1171 ?_
  replace h := h.2
  refine zr_aload_n C dyL_law_1172 rfl 1 rfl ?_
  refine zr_iload_n C dyL_law_1173 rfl 0 rfl ?_
  refine zr_iconst C dyL_law_1174 zc_i_2 ?_
  refine zr_iadd C dyL_law_1175 ?_
  refine zr_sld C hX hbl hbA h.1 dyL_law_1176 ?_
  replace h := h.2
  refine zv_L_170t C hS.x (st := []) h ⟨Nat.le_of_ble_eq_true rfl, Nat.le_of_ble_eq_true rfl⟩ (Nat.le_of_ble_eq_true rfl) dyL_law_1177 ⟨Nat.le_of_ble_eq_true rfl, Nat.le_of_ble_eq_true rfl⟩ (fun r_1 h => ?_)
  refine zr_pop C dyL_law_1180 rfl ?_
  refine zr_aload_n C dyL_law_1181 rfl 3 rfl ?_
  refine zr_aload_n C dyL_law_1182 rfl 1 rfl ?_
  refine zr_iload_n C dyL_law_1183 rfl 0 rfl ?_
  refine zr_iconst C dyL_law_1184 zc_i_1 ?_
  refine zr_iadd C dyL_law_1185 ?_
  refine zr_sld C hX hbl hbA h.1 dyL_law_1186 ?_
  replace h := h.2
  refine zr_aload_n C dyL_law_1187 rfl 1 rfl ?_
  refine zr_iload_n C dyL_law_1188 rfl 0 rfl ?_
  refine zr_iconst C dyL_law_1189 zc_i_2 ?_
  refine zr_iadd C dyL_law_1190 ?_
  refine zr_sld C hX hbl hbA h.1 dyL_law_1191 ?_
  replace h := h.2
  refine zv_L_173t C hS (st := []) h ⟨Nat.le_of_ble_eq_true rfl, Nat.le_of_ble_eq_true rfl⟩ (Nat.le_of_ble_eq_true rfl) dyL_law_1192 ⟨Nat.le_of_ble_eq_true rfl, Nat.le_of_ble_eq_true rfl⟩ (fun r_2 h => ?_)
  refine zr_pop C dyL_law_1195 rfl ?_
  refine zr_goto C dyL_law_1196 (tgt := 1245) (by decide) ?_
  exact kk _ h
theorem zv_L_174t {p : Program} {l : Launch} {e : Env} {R : Room} {s : State} {m : MethodId} {args : Array Value} {below : List Frame} {meth : Method} {c : Code} {Q : State → Prop} {D : va_G} {B : Nat} {cA : Nat → ClassId} {ad : Nat → Nat} {cc : ByteArray} {nL : Nat} {ret : Option FieldType} {S : List zC} {I : zI} {lv : List (Nat × Value)} {st : List Value} {pc cells slots : Nat} (C : zCx p s m args meth c cc nL RL ret D B cA ad) {K : Int32 → Prop} {xa1 : Int32} (hS : zOkX S)  (h : w_Desk_sets xa1 I K) (hR : 2 + 1 ≤ R.frames ∧ 8 + (2 + 11) + (43) ≤ R.locals) (hw : (st.map fun v => v.category).sum ≤ 8) (hd : decode cc pc = .ok (.invokevirtual 174, 3)) (hf : cells ≤ R.cells ∧ slots ≤ R.slots) (kk : ∀ v, K v → zX p l e R s m args below meth c Q D B cA nL cells slots S I lv (.int v :: st) (pc + 3)) : zX p l e R s m args below meth c Q D B cA nL cells slots S I lv (.int xa1 :: .ref (B + 0) :: st) pc :=
  zc_VpI C (ci := 11) (q := (RX11, TX11, 19)) (k := 0) (fs := [some (some 1), none, some (some 3), some (some 4), none, none, none, none, some (some 22), some (some 24), some (some 43), some (some 64), some (some 69), some (some 88), some (some 97), some (some 100), some (some 109), some (some 111), none]) (As := [.int xa1]) (st := st) rfl (hS _ _ zs_0) (c_Desk_sets hS h) (zgV zk_ml_L_174 zk_im_yX11_sets zk_se_yX11_sets zk_in_11 zk_cd_yX11_sets) zsg_yX11_sets hR rfl rfl hw hd hf kk
theorem zv_L_177t {p : Program} {l : Launch} {e : Env} {R : Room} {s : State} {m : MethodId} {args : Array Value} {below : List Frame} {meth : Method} {c : Code} {Q : State → Prop} {D : va_G} {B : Nat} {cA : Nat → ClassId} {ad : Nat → Nat} {cc : ByteArray} {nL : Nat} {ret : Option FieldType} {S : List zC} {I : zI} {lv : List (Nat × Value)} {st : List Value} {pc cells slots : Nat} (C : zCx p s m args meth c cc nL RL ret D B cA ad) {K : Int32 → Prop} {xa1 : Int32} (hS : zOkM S)  (h : w_M_sets xa1 I K) (hR : 2 + 1 ≤ R.frames ∧ 8 + (4 + 11) + (43) ≤ R.locals) (hw : (st.map fun v => v.category).sum ≤ 8) (hd : decode cc pc = .ok (.invokevirtual 177, 3)) (hf : cells ≤ R.cells ∧ slots ≤ R.slots) (kk : ∀ v, K v → zX p l e R s m args below meth c Q D B cA nL cells slots S I lv (.int v :: st) (pc + 3)) : zX p l e R s m args below meth c Q D B cA nL cells slots S I lv (.int xa1 :: .ref (B + 491) :: st) pc :=
  zc_VpI C (ci := 12) (q := (RX12, TX12, 82)) (k := 491) (fs := [none, some (some 492), some (some 493), none, some (some 494), none, some (some 495), none, none, none, some (some 496), some (some 497), some (some 498), some (some 499), some (some 500), none, some (some 501), some (some 502), some (some 503), none, some (some 504), some (some 505), some (some 506), some (some 507), some (some 508), none, some (some 509), some (some 510), some (some 511), some (some 512), some (some 513), some (some 514), some (some 515), some (some 516), some (some 517), some (some 518), none, none, some (some 519), none, some (some 520), none, none, none, some (some 521), some (some 522), some (some 523), some (some 524), some (some 525), some (some 526), some (some 527), none, some (some 528), none, some (some 529), none, some (some 530), some (some 531), some (some 532), none, some (some 533), some (some 534), some (some 535), some (some 536), some (some 537), none, none, none, some (some 538), some (some 539), some (some 540), none, none, none, some (some 541), none, none, some (some 542), some (some 543), some (some 544), none, some (some 545)]) (As := [.int xa1]) (st := st) rfl (hS _ _ zs_491) (c_M_sets hS h) (zgV zk_ml_L_177 zk_im_yX12_sets zk_se_yX12_sets zk_in_12 zk_cd_yX12_sets) zsg_yX12_sets hR rfl rfl hw hd hf kk
def w_lawc_39 (L : Nat) (xs : Nat → Int32) (v3 : Int32) (I : zI) (J : zI → Prop) : Prop :=
  vp_in (v3 + 1) L ∧ (w_Desk_sets (xs (Int32.toNatClampNeg (v3 + 1))) I (fun r_1 => vp_in (v3 + 1) L ∧ (w_M_sets (xs (Int32.toNatClampNeg (v3 + 1))) I (fun r_2 => J I))))
set_option maxHeartbeats 4000000 in
set_option maxRecDepth 20000 in
theorem zl_c39 {p : Program} {l : Launch} {e : Env} {s : State} {m : MethodId} {below : List Frame} {meth : Method} {c : Code} {D : va_G} {B : Nat} {cA : Nat → ClassId} {ad : Nat → Nat} {b L : Nat} {xs : Nat → Int32} {S : List zC} (C : zCx p s m #[Value.ref b] meth c cL_law 4 RL ret D B cA ad) (hX : va_X b L xs s s.heap) (hbl : b < s.heap.size) (hbA : ¬ B ≤ b) (hS : zOkM S) (hB : B = s.heap.size) {v3 : Int32} {I : zI} {J : zI → Prop} (h : w_lawc_39 L xs v3 I J) (kk : ∀ I2, J I2 → zX p l e room_1 s m #[Value.ref b] below meth c (lw_Z below #[Value.ref b] s) D B cA 4 546 406967 S I2 [(3, .int v3), (0, .ref b), (1, .ref (B + 0)), (2, .ref (B + 491))] [] 1245) : zX p l e room_1 s m #[Value.ref b] below meth c (lw_Z below #[Value.ref b] s) D B cA 4 546 406967 S I [(3, .int v3), (0, .ref b), (1, .ref (B + 0)), (2, .ref (B + 491))] [] 1199 := by
  unfold w_lawc_39 at h
  refine zr_aload_n C dyL_law_1199 rfl 2 rfl ?_
  refine zr_aload_n C dyL_law_1200 rfl 1 rfl ?_
  refine zr_iload_n C dyL_law_1201 rfl 0 rfl ?_
  refine zr_iconst C dyL_law_1202 zc_i_1 ?_
  refine zr_iadd C dyL_law_1203 ?_
  refine zr_sld C hX hbl hbA h.1 dyL_law_1204 ?_
  replace h := h.2
  refine zv_L_174t C hS.x (st := []) h ⟨Nat.le_of_ble_eq_true rfl, Nat.le_of_ble_eq_true rfl⟩ (Nat.le_of_ble_eq_true rfl) dyL_law_1205 ⟨Nat.le_of_ble_eq_true rfl, Nat.le_of_ble_eq_true rfl⟩ (fun r_1 h => ?_)
  refine zr_pop C dyL_law_1208 rfl ?_
  refine zr_aload_n C dyL_law_1209 rfl 3 rfl ?_
  refine zr_aload_n C dyL_law_1210 rfl 1 rfl ?_
  refine zr_iload_n C dyL_law_1211 rfl 0 rfl ?_
  refine zr_iconst C dyL_law_1212 zc_i_1 ?_
  refine zr_iadd C dyL_law_1213 ?_
  refine zr_sld C hX hbl hbA h.1 dyL_law_1214 ?_
  replace h := h.2
  refine zv_L_177t C hS (st := []) h ⟨Nat.le_of_ble_eq_true rfl, Nat.le_of_ble_eq_true rfl⟩ (Nat.le_of_ble_eq_true rfl) dyL_law_1215 ⟨Nat.le_of_ble_eq_true rfl, Nat.le_of_ble_eq_true rfl⟩ (fun r_2 h => ?_)
  refine zr_pop C dyL_law_1218 rfl ?_
  refine zr_goto C dyL_law_1219 (tgt := 1245) (by decide) ?_
  exact kk _ h
theorem zv_L_178t {p : Program} {l : Launch} {e : Env} {R : Room} {s : State} {m : MethodId} {args : Array Value} {below : List Frame} {meth : Method} {c : Code} {Q : State → Prop} {D : va_G} {B : Nat} {cA : Nat → ClassId} {ad : Nat → Nat} {cc : ByteArray} {nL : Nat} {ret : Option FieldType} {S : List zC} {I : zI} {lv : List (Nat × Value)} {st : List Value} {pc cells slots : Nat} (C : zCx p s m args meth c cc nL RL ret D B cA ad) {K : Int32 → Prop} {xa1 : Int32} (hS : zOkX S)  (h : w_Desk_count xa1 I K) (hR : 4 + 1 ≤ R.frames ∧ 8 + (3 + 11) + (89) ≤ R.locals) (hw : (st.map fun v => v.category).sum ≤ 8) (hd : decode cc pc = .ok (.invokevirtual 178, 3)) (hf : cells ≤ R.cells ∧ slots ≤ R.slots) (kk : ∀ v, K v → zX p l e R s m args below meth c Q D B cA nL cells slots S I lv (.int v :: st) (pc + 3)) : zX p l e R s m args below meth c Q D B cA nL cells slots S I lv (.int xa1 :: .ref (B + 0) :: st) pc :=
  zc_VpI C (ci := 11) (q := (RX11, TX11, 19)) (k := 0) (fs := [some (some 1), none, some (some 3), some (some 4), none, none, none, none, some (some 22), some (some 24), some (some 43), some (some 64), some (some 69), some (some 88), some (some 97), some (some 100), some (some 109), some (some 111), none]) (As := [.int xa1]) (st := st) rfl (hS _ _ zs_0) (c_Desk_count hS h) (zgV zk_ml_L_178 zk_im_yX11_count zk_se_yX11_count zk_in_11 zk_cd_yX11_count) zsg_yX11_count hR rfl rfl hw hd hf kk
theorem zv_L_181t {p : Program} {l : Launch} {e : Env} {R : Room} {s : State} {m : MethodId} {args : Array Value} {below : List Frame} {meth : Method} {c : Code} {Q : State → Prop} {D : va_G} {B : Nat} {cA : Nat → ClassId} {ad : Nat → Nat} {cc : ByteArray} {nL : Nat} {ret : Option FieldType} {S : List zC} {I : zI} {lv : List (Nat × Value)} {st : List Value} {pc cells slots : Nat} (C : zCx p s m args meth c cc nL RL ret D B cA ad) {K : Int32 → zI → Prop} {xa1 : Int32} (hS : zOkM S)  (h : w_M_count xa1 I K) (hR : 3 + 1 ≤ R.frames ∧ 8 + (4 + 11) + (70) ≤ R.locals) (hw : (st.map fun v => v.category).sum ≤ 8) (hd : decode cc pc = .ok (.invokevirtual 181, 3)) (hf : cells ≤ R.cells ∧ slots ≤ R.slots) (kk : ∀ v I2, K v I2 → zX p l e R s m args below meth c Q D B cA nL cells slots S I2 lv (.int v :: st) (pc + 3)) : zX p l e R s m args below meth c Q D B cA nL cells slots S I lv (.int xa1 :: .ref (B + 491) :: st) pc :=
  zc_VqI C (ci := 12) (q := (RX12, TX12, 82)) (k := 491) (fs := [none, some (some 492), some (some 493), none, some (some 494), none, some (some 495), none, none, none, some (some 496), some (some 497), some (some 498), some (some 499), some (some 500), none, some (some 501), some (some 502), some (some 503), none, some (some 504), some (some 505), some (some 506), some (some 507), some (some 508), none, some (some 509), some (some 510), some (some 511), some (some 512), some (some 513), some (some 514), some (some 515), some (some 516), some (some 517), some (some 518), none, none, some (some 519), none, some (some 520), none, none, none, some (some 521), some (some 522), some (some 523), some (some 524), some (some 525), some (some 526), some (some 527), none, some (some 528), none, some (some 529), none, some (some 530), some (some 531), some (some 532), none, some (some 533), some (some 534), some (some 535), some (some 536), some (some 537), none, none, none, some (some 538), some (some 539), some (some 540), none, none, none, some (some 541), none, none, some (some 542), some (some 543), some (some 544), none, some (some 545)]) (As := [.int xa1]) (st := st) rfl (hS _ _ zs_491) (c_M_count hS h) (zgV zk_ml_L_181 zk_im_yX12_count zk_se_yX12_count zk_in_12 zk_cd_yX12_count) zsg_yX12_count hR rfl rfl hw hd hf kk
def w_lawc_40 (L : Nat) (xs : Nat → Int32) (v3 : Int32) (I : zI) (J : zI → Prop) : Prop :=
  vp_in (v3 + 1) L ∧ (w_Desk_count (xs (Int32.toNatClampNeg (v3 + 1))) I (fun r_1 => vp_in (v3 + 1) L ∧ (w_M_count (xs (Int32.toNatClampNeg (v3 + 1))) I (fun r_2 I_3 => J I_3))))
set_option maxHeartbeats 4000000 in
set_option maxRecDepth 20000 in
theorem zl_c40 {p : Program} {l : Launch} {e : Env} {s : State} {m : MethodId} {below : List Frame} {meth : Method} {c : Code} {D : va_G} {B : Nat} {cA : Nat → ClassId} {ad : Nat → Nat} {b L : Nat} {xs : Nat → Int32} {S : List zC} (C : zCx p s m #[Value.ref b] meth c cL_law 4 RL ret D B cA ad) (hX : va_X b L xs s s.heap) (hbl : b < s.heap.size) (hbA : ¬ B ≤ b) (hS : zOkM S) (hB : B = s.heap.size) {v3 : Int32} {I : zI} {J : zI → Prop} (h : w_lawc_40 L xs v3 I J) (kk : ∀ I2, J I2 → zX p l e room_1 s m #[Value.ref b] below meth c (lw_Z below #[Value.ref b] s) D B cA 4 546 406967 S I2 [(3, .int v3), (0, .ref b), (1, .ref (B + 0)), (2, .ref (B + 491))] [] 1245) : zX p l e room_1 s m #[Value.ref b] below meth c (lw_Z below #[Value.ref b] s) D B cA 4 546 406967 S I [(3, .int v3), (0, .ref b), (1, .ref (B + 0)), (2, .ref (B + 491))] [] 1222 := by
  unfold w_lawc_40 at h
  refine zr_aload_n C dyL_law_1222 rfl 2 rfl ?_
  refine zr_aload_n C dyL_law_1223 rfl 1 rfl ?_
  refine zr_iload_n C dyL_law_1224 rfl 0 rfl ?_
  refine zr_iconst C dyL_law_1225 zc_i_1 ?_
  refine zr_iadd C dyL_law_1226 ?_
  refine zr_sld C hX hbl hbA h.1 dyL_law_1227 ?_
  replace h := h.2
  refine zv_L_178t C hS.x (st := []) h ⟨Nat.le_of_ble_eq_true rfl, Nat.le_of_ble_eq_true rfl⟩ (Nat.le_of_ble_eq_true rfl) dyL_law_1228 ⟨Nat.le_of_ble_eq_true rfl, Nat.le_of_ble_eq_true rfl⟩ (fun r_1 h => ?_)
  refine zr_pop C dyL_law_1231 rfl ?_
  refine zr_aload_n C dyL_law_1232 rfl 3 rfl ?_
  refine zr_aload_n C dyL_law_1233 rfl 1 rfl ?_
  refine zr_iload_n C dyL_law_1234 rfl 0 rfl ?_
  refine zr_iconst C dyL_law_1235 zc_i_1 ?_
  refine zr_iadd C dyL_law_1236 ?_
  refine zr_sld C hX hbl hbA h.1 dyL_law_1237 ?_
  replace h := h.2
  refine zv_L_181t C hS (st := []) h ⟨Nat.le_of_ble_eq_true rfl, Nat.le_of_ble_eq_true rfl⟩ (Nat.le_of_ble_eq_true rfl) dyL_law_1238 ⟨Nat.le_of_ble_eq_true rfl, Nat.le_of_ble_eq_true rfl⟩ (fun r_2 I_3 h => ?_)
  refine zr_pop C dyL_law_1241 rfl ?_
  refine zr_goto C dyL_law_1242 (tgt := 1245) (by decide) ?_
  exact kk _ h
