def w_lawc_20 (L : Nat) (xs : Nat → Int32) (v3 : Int32) (I : zI) (J : zI → Prop) : Prop :=
  vp_in (v3 + 1) L ∧ (w_Desk_ruled (xs (Int32.toNatClampNeg (v3 + 1))) I (fun r_1 => vp_in (v3 + 1) L ∧ (w_M_ruled (xs (Int32.toNatClampNeg (v3 + 1))) I (fun r_2 => J I))))
set_option maxHeartbeats 4000000 in
set_option maxRecDepth 20000 in
theorem zl_c20 {p : Program} {l : Launch} {e : Env} {s : State} {m : MethodId} {below : List Frame} {meth : Method} {c : Code} {D : va_G} {B : Nat} {cA : Nat → ClassId} {ad : Nat → Nat} {b L : Nat} {xs : Nat → Int32} {S : List zC} (C : zCx p s m #[Value.ref b] meth c cL_law 4 RL ret D B cA ad) (hX : va_X b L xs s s.heap) (hbl : b < s.heap.size) (hbA : ¬ B ≤ b) (hS : zOkM S) (hB : B = s.heap.size) {v3 : Int32} {I : zI} {J : zI → Prop} (h : w_lawc_20 L xs v3 I J) (kk : ∀ I2, J I2 → zX p l e room_1 s m #[Value.ref b] below meth c (lw_Z below #[Value.ref b] s) D B cA 4 546 406967 S I2 [(3, .int v3), (0, .ref b), (1, .ref (B + 0)), (2, .ref (B + 491))] [] 1245) : zX p l e room_1 s m #[Value.ref b] below meth c (lw_Z below #[Value.ref b] s) D B cA 4 546 406967 S I [(3, .int v3), (0, .ref b), (1, .ref (B + 0)), (2, .ref (B + 491))] [] 712 := by
  unfold w_lawc_20 at h
  refine zr_aload_n C dyL_law_712 rfl 2 rfl ?_
  refine zr_aload_n C dyL_law_713 rfl 1 rfl ?_
  refine zr_iload_n C dyL_law_714 rfl 0 rfl ?_
  refine zr_iconst C dyL_law_715 zc_i_1 ?_
  refine zr_iadd C dyL_law_716 ?_
  refine zr_sld C hX hbl hbA h.1 dyL_law_717 ?_
  replace h := h.2
  refine zv_L_98t C hS.x (st := []) h ⟨Nat.le_of_ble_eq_true rfl, Nat.le_of_ble_eq_true rfl⟩ (Nat.le_of_ble_eq_true rfl) dyL_law_718 ⟨Nat.le_of_ble_eq_true rfl, Nat.le_of_ble_eq_true rfl⟩ (fun r_1 h => ?_)
  refine zr_pop C dyL_law_721 rfl ?_
  refine zr_aload_n C dyL_law_722 rfl 3 rfl ?_
  refine zr_aload_n C dyL_law_723 rfl 1 rfl ?_
  refine zr_iload_n C dyL_law_724 rfl 0 rfl ?_
  refine zr_iconst C dyL_law_725 zc_i_1 ?_
  refine zr_iadd C dyL_law_726 ?_
  refine zr_sld C hX hbl hbA h.1 dyL_law_727 ?_
  replace h := h.2
  refine zv_L_101t C hS (st := []) h ⟨Nat.le_of_ble_eq_true rfl, Nat.le_of_ble_eq_true rfl⟩ (Nat.le_of_ble_eq_true rfl) dyL_law_728 ⟨Nat.le_of_ble_eq_true rfl, Nat.le_of_ble_eq_true rfl⟩ (fun r_2 h => ?_)
  refine zr_pop C dyL_law_731 rfl ?_
  refine zr_goto C dyL_law_732 (tgt := 1245) (by decide) ?_
  exact kk _ h
theorem zv_L_102t {p : Program} {l : Launch} {e : Env} {R : Room} {s : State} {m : MethodId} {args : Array Value} {below : List Frame} {meth : Method} {c : Code} {Q : State → Prop} {D : va_G} {B : Nat} {cA : Nat → ClassId} {ad : Nat → Nat} {cc : ByteArray} {nL : Nat} {ret : Option FieldType} {S : List zC} {I : zI} {lv : List (Nat × Value)} {st : List Value} {pc cells slots : Nat} (C : zCx p s m args meth c cc nL RL ret D B cA ad) {K : Int32 → Prop} {xa1 : Int32} (hS : zOkX S)  (h : w_Desk_row xa1 I K) (hR : 1 + 1 ≤ R.frames ∧ 8 + (2 + 11) + (21) ≤ R.locals) (hw : (st.map fun v => v.category).sum ≤ 8) (hd : decode cc pc = .ok (.invokevirtual 102, 3)) (hf : cells ≤ R.cells ∧ slots ≤ R.slots) (kk : ∀ v, K v → zX p l e R s m args below meth c Q D B cA nL cells slots S I lv (.int v :: st) (pc + 3)) : zX p l e R s m args below meth c Q D B cA nL cells slots S I lv (.int xa1 :: .ref (B + 0) :: st) pc :=
  zc_VpI C (ci := 11) (q := (RX11, TX11, 19)) (k := 0) (fs := [some (some 1), none, some (some 3), some (some 4), none, none, none, none, some (some 22), some (some 24), some (some 43), some (some 64), some (some 69), some (some 88), some (some 97), some (some 100), some (some 109), some (some 111), none]) (As := [.int xa1]) (st := st) rfl (hS _ _ zs_0) (c_Desk_row hS h) (zgV zk_ml_L_102 zk_im_yX11_row zk_se_yX11_row zk_in_11 zk_cd_yX11_row) zsg_yX11_row hR rfl rfl hw hd hf kk
theorem zv_L_105t {p : Program} {l : Launch} {e : Env} {R : Room} {s : State} {m : MethodId} {args : Array Value} {below : List Frame} {meth : Method} {c : Code} {Q : State → Prop} {D : va_G} {B : Nat} {cA : Nat → ClassId} {ad : Nat → Nat} {cc : ByteArray} {nL : Nat} {ret : Option FieldType} {S : List zC} {I : zI} {lv : List (Nat × Value)} {st : List Value} {pc cells slots : Nat} (C : zCx p s m args meth c cc nL RL ret D B cA ad) {K : Int32 → zI → Prop} {xa1 : Int32} (hS : zOkM S)  (h : w_M_row xa1 I K) (hR : 2 + 1 ≤ R.frames ∧ 8 + (3 + 11) + (49) ≤ R.locals) (hw : (st.map fun v => v.category).sum ≤ 8) (hd : decode cc pc = .ok (.invokevirtual 105, 3)) (hf : cells ≤ R.cells ∧ slots ≤ R.slots) (kk : ∀ v I2, K v I2 → zX p l e R s m args below meth c Q D B cA nL cells slots S I2 lv (.int v :: st) (pc + 3)) : zX p l e R s m args below meth c Q D B cA nL cells slots S I lv (.int xa1 :: .ref (B + 491) :: st) pc :=
  zc_VqI C (ci := 12) (q := (RX12, TX12, 82)) (k := 491) (fs := [none, some (some 492), some (some 493), none, some (some 494), none, some (some 495), none, none, none, some (some 496), some (some 497), some (some 498), some (some 499), some (some 500), none, some (some 501), some (some 502), some (some 503), none, some (some 504), some (some 505), some (some 506), some (some 507), some (some 508), none, some (some 509), some (some 510), some (some 511), some (some 512), some (some 513), some (some 514), some (some 515), some (some 516), some (some 517), some (some 518), none, none, some (some 519), none, some (some 520), none, none, none, some (some 521), some (some 522), some (some 523), some (some 524), some (some 525), some (some 526), some (some 527), none, some (some 528), none, some (some 529), none, some (some 530), some (some 531), some (some 532), none, some (some 533), some (some 534), some (some 535), some (some 536), some (some 537), none, none, none, some (some 538), some (some 539), some (some 540), none, none, none, some (some 541), none, none, some (some 542), some (some 543), some (some 544), none, some (some 545)]) (As := [.int xa1]) (st := st) rfl (hS _ _ zs_491) (c_M_row hS h) (zgV zk_ml_L_105 zk_im_yX12_row zk_se_yX12_row zk_in_12 zk_cd_yX12_row) zsg_yX12_row hR rfl rfl hw hd hf kk
def w_lawc_21 (L : Nat) (xs : Nat → Int32) (v3 : Int32) (I : zI) (J : zI → Prop) : Prop :=
  vp_in (v3 + 1) L ∧ (w_Desk_row (xs (Int32.toNatClampNeg (v3 + 1))) I (fun r_1 => vp_in (v3 + 1) L ∧ (w_M_row (xs (Int32.toNatClampNeg (v3 + 1))) I (fun r_2 I_3 => J I_3))))
set_option maxHeartbeats 4000000 in
set_option maxRecDepth 20000 in
theorem zl_c21 {p : Program} {l : Launch} {e : Env} {s : State} {m : MethodId} {below : List Frame} {meth : Method} {c : Code} {D : va_G} {B : Nat} {cA : Nat → ClassId} {ad : Nat → Nat} {b L : Nat} {xs : Nat → Int32} {S : List zC} (C : zCx p s m #[Value.ref b] meth c cL_law 4 RL ret D B cA ad) (hX : va_X b L xs s s.heap) (hbl : b < s.heap.size) (hbA : ¬ B ≤ b) (hS : zOkM S) (hB : B = s.heap.size) {v3 : Int32} {I : zI} {J : zI → Prop} (h : w_lawc_21 L xs v3 I J) (kk : ∀ I2, J I2 → zX p l e room_1 s m #[Value.ref b] below meth c (lw_Z below #[Value.ref b] s) D B cA 4 546 406967 S I2 [(3, .int v3), (0, .ref b), (1, .ref (B + 0)), (2, .ref (B + 491))] [] 1245) : zX p l e room_1 s m #[Value.ref b] below meth c (lw_Z below #[Value.ref b] s) D B cA 4 546 406967 S I [(3, .int v3), (0, .ref b), (1, .ref (B + 0)), (2, .ref (B + 491))] [] 735 := by
  unfold w_lawc_21 at h
  refine zr_aload_n C dyL_law_735 rfl 2 rfl ?_
  refine zr_aload_n C dyL_law_736 rfl 1 rfl ?_
  refine zr_iload_n C dyL_law_737 rfl 0 rfl ?_
  refine zr_iconst C dyL_law_738 zc_i_1 ?_
  refine zr_iadd C dyL_law_739 ?_
  refine zr_sld C hX hbl hbA h.1 dyL_law_740 ?_
  replace h := h.2
  refine zv_L_102t C hS.x (st := []) h ⟨Nat.le_of_ble_eq_true rfl, Nat.le_of_ble_eq_true rfl⟩ (Nat.le_of_ble_eq_true rfl) dyL_law_741 ⟨Nat.le_of_ble_eq_true rfl, Nat.le_of_ble_eq_true rfl⟩ (fun r_1 h => ?_)
  refine zr_pop C dyL_law_744 rfl ?_
  refine zr_aload_n C dyL_law_745 rfl 3 rfl ?_
  refine zr_aload_n C dyL_law_746 rfl 1 rfl ?_
  refine zr_iload_n C dyL_law_747 rfl 0 rfl ?_
  refine zr_iconst C dyL_law_748 zc_i_1 ?_
  refine zr_iadd C dyL_law_749 ?_
  refine zr_sld C hX hbl hbA h.1 dyL_law_750 ?_
  replace h := h.2
  refine zv_L_105t C hS (st := []) h ⟨Nat.le_of_ble_eq_true rfl, Nat.le_of_ble_eq_true rfl⟩ (Nat.le_of_ble_eq_true rfl) dyL_law_751 ⟨Nat.le_of_ble_eq_true rfl, Nat.le_of_ble_eq_true rfl⟩ (fun r_2 I_3 h => ?_)
  refine zr_pop C dyL_law_754 rfl ?_
  refine zr_goto C dyL_law_755 (tgt := 1245) (by decide) ?_
  exact kk _ h
theorem zv_L_106t {p : Program} {l : Launch} {e : Env} {R : Room} {s : State} {m : MethodId} {args : Array Value} {below : List Frame} {meth : Method} {c : Code} {Q : State → Prop} {D : va_G} {B : Nat} {cA : Nat → ClassId} {ad : Nat → Nat} {cc : ByteArray} {nL : Nat} {ret : Option FieldType} {S : List zC} {I : zI} {lv : List (Nat × Value)} {st : List Value} {pc cells slots : Nat} (C : zCx p s m args meth c cc nL RL ret D B cA ad) {K : Int32 → Prop} {xa1 : Int32} {xa2 : Int32} (hS : zOkX S)  (h : w_Desk_pair xa1 xa2 I K) (hR : 1 + 1 ≤ R.frames ∧ 8 + (3 + 11) + (21) ≤ R.locals) (hw : (st.map fun v => v.category).sum ≤ 8) (hd : decode cc pc = .ok (.invokevirtual 106, 3)) (hf : cells ≤ R.cells ∧ slots ≤ R.slots) (kk : ∀ v, K v → zX p l e R s m args below meth c Q D B cA nL cells slots S I lv (.int v :: st) (pc + 3)) : zX p l e R s m args below meth c Q D B cA nL cells slots S I lv (.int xa2 :: .int xa1 :: .ref (B + 0) :: st) pc :=
  zc_VpI C (ci := 11) (q := (RX11, TX11, 19)) (k := 0) (fs := [some (some 1), none, some (some 3), some (some 4), none, none, none, none, some (some 22), some (some 24), some (some 43), some (some 64), some (some 69), some (some 88), some (some 97), some (some 100), some (some 109), some (some 111), none]) (As := [.int xa1, .int xa2]) (st := st) rfl (hS _ _ zs_0) (c_Desk_pair hS h) (zgV zk_ml_L_106 zk_im_yX11_pair zk_se_yX11_pair zk_in_11 zk_cd_yX11_pair) zsg_yX11_pair hR rfl rfl hw hd hf kk
theorem zv_L_109t {p : Program} {l : Launch} {e : Env} {R : Room} {s : State} {m : MethodId} {args : Array Value} {below : List Frame} {meth : Method} {c : Code} {Q : State → Prop} {D : va_G} {B : Nat} {cA : Nat → ClassId} {ad : Nat → Nat} {cc : ByteArray} {nL : Nat} {ret : Option FieldType} {S : List zC} {I : zI} {lv : List (Nat × Value)} {st : List Value} {pc cells slots : Nat} (C : zCx p s m args meth c cc nL RL ret D B cA ad) {K : Int32 → Prop} {xa1 : Int32} {xa2 : Int32} (hS : zOkM S)  (h : w_M_pair xa1 xa2 I K) (hR : 1 + 1 ≤ R.frames ∧ 8 + (3 + 11) + (22) ≤ R.locals) (hw : (st.map fun v => v.category).sum ≤ 8) (hd : decode cc pc = .ok (.invokevirtual 109, 3)) (hf : cells ≤ R.cells ∧ slots ≤ R.slots) (kk : ∀ v, K v → zX p l e R s m args below meth c Q D B cA nL cells slots S I lv (.int v :: st) (pc + 3)) : zX p l e R s m args below meth c Q D B cA nL cells slots S I lv (.int xa2 :: .int xa1 :: .ref (B + 491) :: st) pc :=
  zc_VpI C (ci := 12) (q := (RX12, TX12, 82)) (k := 491) (fs := [none, some (some 492), some (some 493), none, some (some 494), none, some (some 495), none, none, none, some (some 496), some (some 497), some (some 498), some (some 499), some (some 500), none, some (some 501), some (some 502), some (some 503), none, some (some 504), some (some 505), some (some 506), some (some 507), some (some 508), none, some (some 509), some (some 510), some (some 511), some (some 512), some (some 513), some (some 514), some (some 515), some (some 516), some (some 517), some (some 518), none, none, some (some 519), none, some (some 520), none, none, none, some (some 521), some (some 522), some (some 523), some (some 524), some (some 525), some (some 526), some (some 527), none, some (some 528), none, some (some 529), none, some (some 530), some (some 531), some (some 532), none, some (some 533), some (some 534), some (some 535), some (some 536), some (some 537), none, none, none, some (some 538), some (some 539), some (some 540), none, none, none, some (some 541), none, none, some (some 542), some (some 543), some (some 544), none, some (some 545)]) (As := [.int xa1, .int xa2]) (st := st) rfl (hS _ _ zs_491) (c_M_pair hS h) (zgV zk_ml_L_109 zk_im_yX12_pair zk_se_yX12_pair zk_in_12 zk_cd_yX12_pair) zsg_yX12_pair hR rfl rfl hw hd hf kk
def w_lawc_22 (L : Nat) (xs : Nat → Int32) (v3 : Int32) (I : zI) (J : zI → Prop) : Prop :=
  vp_in (v3 + 1) L ∧ (vp_in (v3 + 2) L ∧ (w_Desk_pair (xs (Int32.toNatClampNeg (v3 + 1))) (xs (Int32.toNatClampNeg (v3 + 2))) I (fun r_1 => vp_in (v3 + 1) L ∧ (vp_in (v3 + 2) L ∧ (w_M_pair (xs (Int32.toNatClampNeg (v3 + 1))) (xs (Int32.toNatClampNeg (v3 + 2))) I (fun r_2 => J I))))))
set_option maxHeartbeats 4000000 in
set_option maxRecDepth 20000 in
theorem zl_c22 {p : Program} {l : Launch} {e : Env} {s : State} {m : MethodId} {below : List Frame} {meth : Method} {c : Code} {D : va_G} {B : Nat} {cA : Nat → ClassId} {ad : Nat → Nat} {b L : Nat} {xs : Nat → Int32} {S : List zC} (C : zCx p s m #[Value.ref b] meth c cL_law 4 RL ret D B cA ad) (hX : va_X b L xs s s.heap) (hbl : b < s.heap.size) (hbA : ¬ B ≤ b) (hS : zOkM S) (hB : B = s.heap.size) {v3 : Int32} {I : zI} {J : zI → Prop} (h : w_lawc_22 L xs v3 I J) (kk : ∀ I2, J I2 → zX p l e room_1 s m #[Value.ref b] below meth c (lw_Z below #[Value.ref b] s) D B cA 4 546 406967 S I2 [(3, .int v3), (0, .ref b), (1, .ref (B + 0)), (2, .ref (B + 491))] [] 1245) : zX p l e room_1 s m #[Value.ref b] below meth c (lw_Z below #[Value.ref b] s) D B cA 4 546 406967 S I [(3, .int v3), (0, .ref b), (1, .ref (B + 0)), (2, .ref (B + 491))] [] 758 := by
  unfold w_lawc_22 at h
  refine zr_aload_n C dyL_law_758 rfl 2 rfl ?_
  refine zr_aload_n C dyL_law_759 rfl 1 rfl ?_
  refine zr_iload_n C dyL_law_760 rfl 0 rfl ?_
  refine zr_iconst C dyL_law_761 zc_i_1 ?_
  refine zr_iadd C dyL_law_762 ?_
  refine zr_sld C hX hbl hbA h.1 dyL_law_763 ?_
  replace h := h.2
  refine zr_aload_n C dyL_law_764 rfl 1 rfl ?_
  refine zr_iload_n C dyL_law_765 rfl 0 rfl ?_
  refine zr_iconst C dyL_law_766 zc_i_2 ?_
  refine zr_iadd C dyL_law_767 ?_
  refine zr_sld C hX hbl hbA h.1 dyL_law_768 ?_
  replace h := h.2
  refine zv_L_106t C hS.x (st := []) h ⟨Nat.le_of_ble_eq_true rfl, Nat.le_of_ble_eq_true rfl⟩ (Nat.le_of_ble_eq_true rfl) dyL_law_769 ⟨Nat.le_of_ble_eq_true rfl, Nat.le_of_ble_eq_true rfl⟩ (fun r_1 h => ?_)
  refine zr_pop C dyL_law_772 rfl ?_
  refine zr_aload_n C dyL_law_773 rfl 3 rfl ?_
  refine zr_aload_n C dyL_law_774 rfl 1 rfl ?_
  refine zr_iload_n C dyL_law_775 rfl 0 rfl ?_
  refine zr_iconst C dyL_law_776 zc_i_1 ?_
  refine zr_iadd C dyL_law_777 ?_
  refine zr_sld C hX hbl hbA h.1 dyL_law_778 ?_
  replace h := h.2
  refine zr_aload_n C dyL_law_779 rfl 1 rfl ?_
  refine zr_iload_n C dyL_law_780 rfl 0 rfl ?_
  refine zr_iconst C dyL_law_781 zc_i_2 ?_
  refine zr_iadd C dyL_law_782 ?_
  refine zr_sld C hX hbl hbA h.1 dyL_law_783 ?_
  replace h := h.2
  refine zv_L_109t C hS (st := []) h ⟨Nat.le_of_ble_eq_true rfl, Nat.le_of_ble_eq_true rfl⟩ (Nat.le_of_ble_eq_true rfl) dyL_law_784 ⟨Nat.le_of_ble_eq_true rfl, Nat.le_of_ble_eq_true rfl⟩ (fun r_2 h => ?_)
  refine zr_pop C dyL_law_787 rfl ?_
  refine zr_goto C dyL_law_788 (tgt := 1245) (by decide) ?_
  exact kk _ h
theorem zv_L_110t {p : Program} {l : Launch} {e : Env} {R : Room} {s : State} {m : MethodId} {args : Array Value} {below : List Frame} {meth : Method} {c : Code} {Q : State → Prop} {D : va_G} {B : Nat} {cA : Nat → ClassId} {ad : Nat → Nat} {cc : ByteArray} {nL : Nat} {ret : Option FieldType} {S : List zC} {I : zI} {lv : List (Nat × Value)} {st : List Value} {pc cells slots : Nat} (C : zCx p s m args meth c cc nL RL ret D B cA ad) {K : Int32 → Prop} {xa1 : Int32} (hS : zOkX S)  (h : w_Desk_young xa1 I K) (hR : 3 + 1 ≤ R.frames ∧ 8 + (2 + 11) + (68) ≤ R.locals) (hw : (st.map fun v => v.category).sum ≤ 8) (hd : decode cc pc = .ok (.invokevirtual 110, 3)) (hf : cells ≤ R.cells ∧ slots ≤ R.slots) (kk : ∀ v, K v → zX p l e R s m args below meth c Q D B cA nL cells slots S I lv (.int v :: st) (pc + 3)) : zX p l e R s m args below meth c Q D B cA nL cells slots S I lv (.int xa1 :: .ref (B + 0) :: st) pc :=
  zc_VpI C (ci := 11) (q := (RX11, TX11, 19)) (k := 0) (fs := [some (some 1), none, some (some 3), some (some 4), none, none, none, none, some (some 22), some (some 24), some (some 43), some (some 64), some (some 69), some (some 88), some (some 97), some (some 100), some (some 109), some (some 111), none]) (As := [.int xa1]) (st := st) rfl (hS _ _ zs_0) (c_Desk_young hS h) (zgV zk_ml_L_110 zk_im_yX11_young zk_se_yX11_young zk_in_11 zk_cd_yX11_young) zsg_yX11_young hR rfl rfl hw hd hf kk
theorem zv_L_113t {p : Program} {l : Launch} {e : Env} {R : Room} {s : State} {m : MethodId} {args : Array Value} {below : List Frame} {meth : Method} {c : Code} {Q : State → Prop} {D : va_G} {B : Nat} {cA : Nat → ClassId} {ad : Nat → Nat} {cc : ByteArray} {nL : Nat} {ret : Option FieldType} {S : List zC} {I : zI} {lv : List (Nat × Value)} {st : List Value} {pc cells slots : Nat} (C : zCx p s m args meth c cc nL RL ret D B cA ad) {K : Int32 → Prop} {xa1 : Int32} (hS : zOkM S)  (h : w_M_young xa1 I K) (hR : 2 + 1 ≤ R.frames ∧ 8 + (2 + 11) + (43) ≤ R.locals) (hw : (st.map fun v => v.category).sum ≤ 8) (hd : decode cc pc = .ok (.invokevirtual 113, 3)) (hf : cells ≤ R.cells ∧ slots ≤ R.slots) (kk : ∀ v, K v → zX p l e R s m args below meth c Q D B cA nL cells slots S I lv (.int v :: st) (pc + 3)) : zX p l e R s m args below meth c Q D B cA nL cells slots S I lv (.int xa1 :: .ref (B + 491) :: st) pc :=
  zc_VpI C (ci := 12) (q := (RX12, TX12, 82)) (k := 491) (fs := [none, some (some 492), some (some 493), none, some (some 494), none, some (some 495), none, none, none, some (some 496), some (some 497), some (some 498), some (some 499), some (some 500), none, some (some 501), some (some 502), some (some 503), none, some (some 504), some (some 505), some (some 506), some (some 507), some (some 508), none, some (some 509), some (some 510), some (some 511), some (some 512), some (some 513), some (some 514), some (some 515), some (some 516), some (some 517), some (some 518), none, none, some (some 519), none, some (some 520), none, none, none, some (some 521), some (some 522), some (some 523), some (some 524), some (some 525), some (some 526), some (some 527), none, some (some 528), none, some (some 529), none, some (some 530), some (some 531), some (some 532), none, some (some 533), some (some 534), some (some 535), some (some 536), some (some 537), none, none, none, some (some 538), some (some 539), some (some 540), none, none, none, some (some 541), none, none, some (some 542), some (some 543), some (some 544), none, some (some 545)]) (As := [.int xa1]) (st := st) rfl (hS _ _ zs_491) (c_M_young hS h) (zgV zk_ml_L_113 zk_im_yX12_young zk_se_yX12_young zk_in_12 zk_cd_yX12_young) zsg_yX12_young hR rfl rfl hw hd hf kk
def w_lawc_23 (L : Nat) (xs : Nat → Int32) (v3 : Int32) (I : zI) (J : zI → Prop) : Prop :=
  vp_in (v3 + 1) L ∧ (w_Desk_young (xs (Int32.toNatClampNeg (v3 + 1))) I (fun r_1 => vp_in (v3 + 1) L ∧ (w_M_young (xs (Int32.toNatClampNeg (v3 + 1))) I (fun r_2 => J I))))
set_option maxHeartbeats 4000000 in
set_option maxRecDepth 20000 in
theorem zl_c23 {p : Program} {l : Launch} {e : Env} {s : State} {m : MethodId} {below : List Frame} {meth : Method} {c : Code} {D : va_G} {B : Nat} {cA : Nat → ClassId} {ad : Nat → Nat} {b L : Nat} {xs : Nat → Int32} {S : List zC} (C : zCx p s m #[Value.ref b] meth c cL_law 4 RL ret D B cA ad) (hX : va_X b L xs s s.heap) (hbl : b < s.heap.size) (hbA : ¬ B ≤ b) (hS : zOkM S) (hB : B = s.heap.size) {v3 : Int32} {I : zI} {J : zI → Prop} (h : w_lawc_23 L xs v3 I J) (kk : ∀ I2, J I2 → zX p l e room_1 s m #[Value.ref b] below meth c (lw_Z below #[Value.ref b] s) D B cA 4 546 406967 S I2 [(3, .int v3), (0, .ref b), (1, .ref (B + 0)), (2, .ref (B + 491))] [] 1245) : zX p l e room_1 s m #[Value.ref b] below meth c (lw_Z below #[Value.ref b] s) D B cA 4 546 406967 S I [(3, .int v3), (0, .ref b), (1, .ref (B + 0)), (2, .ref (B + 491))] [] 791 := by
  unfold w_lawc_23 at h
  refine zr_aload_n C dyL_law_791 rfl 2 rfl ?_
  refine zr_aload_n C dyL_law_792 rfl 1 rfl ?_
  refine zr_iload_n C dyL_law_793 rfl 0 rfl ?_
  refine zr_iconst C dyL_law_794 zc_i_1 ?_
  refine zr_iadd C dyL_law_795 ?_
  refine zr_sld C hX hbl hbA h.1 dyL_law_796 ?_
  replace h := h.2
  refine zv_L_110t C hS.x (st := []) h ⟨Nat.le_of_ble_eq_true rfl, Nat.le_of_ble_eq_true rfl⟩ (Nat.le_of_ble_eq_true rfl) dyL_law_797 ⟨Nat.le_of_ble_eq_true rfl, Nat.le_of_ble_eq_true rfl⟩ (fun r_1 h => ?_)
  refine zr_pop C dyL_law_800 rfl ?_
  refine zr_aload_n C dyL_law_801 rfl 3 rfl ?_
  refine zr_aload_n C dyL_law_802 rfl 1 rfl ?_
  refine zr_iload_n C dyL_law_803 rfl 0 rfl ?_
  refine zr_iconst C dyL_law_804 zc_i_1 ?_
  refine zr_iadd C dyL_law_805 ?_
  refine zr_sld C hX hbl hbA h.1 dyL_law_806 ?_
  replace h := h.2
  refine zv_L_113t C hS (st := []) h ⟨Nat.le_of_ble_eq_true rfl, Nat.le_of_ble_eq_true rfl⟩ (Nat.le_of_ble_eq_true rfl) dyL_law_807 ⟨Nat.le_of_ble_eq_true rfl, Nat.le_of_ble_eq_true rfl⟩ (fun r_2 h => ?_)
  refine zr_pop C dyL_law_810 rfl ?_
  refine zr_goto C dyL_law_811 (tgt := 1245) (by decide) ?_
  exact kk _ h
theorem zv_L_114t {p : Program} {l : Launch} {e : Env} {R : Room} {s : State} {m : MethodId} {args : Array Value} {below : List Frame} {meth : Method} {c : Code} {Q : State → Prop} {D : va_G} {B : Nat} {cA : Nat → ClassId} {ad : Nat → Nat} {cc : ByteArray} {nL : Nat} {ret : Option FieldType} {S : List zC} {I : zI} {lv : List (Nat × Value)} {st : List Value} {pc cells slots : Nat} (C : zCx p s m args meth c cc nL RL ret D B cA ad) {K : Int32 → Prop} {xa1 : Int32} (hS : zOkX S)  (h : w_Desk_beside xa1 I K) (hR : 4 + 1 ≤ R.frames ∧ 8 + (2 + 11) + (90) ≤ R.locals) (hw : (st.map fun v => v.category).sum ≤ 8) (hd : decode cc pc = .ok (.invokevirtual 114, 3)) (hf : cells ≤ R.cells ∧ slots ≤ R.slots) (kk : ∀ v, K v → zX p l e R s m args below meth c Q D B cA nL cells slots S I lv (.int v :: st) (pc + 3)) : zX p l e R s m args below meth c Q D B cA nL cells slots S I lv (.int xa1 :: .ref (B + 0) :: st) pc :=
  zc_VpI C (ci := 11) (q := (RX11, TX11, 19)) (k := 0) (fs := [some (some 1), none, some (some 3), some (some 4), none, none, none, none, some (some 22), some (some 24), some (some 43), some (some 64), some (some 69), some (some 88), some (some 97), some (some 100), some (some 109), some (some 111), none]) (As := [.int xa1]) (st := st) rfl (hS _ _ zs_0) (c_Desk_beside hS h) (zgV zk_ml_L_114 zk_im_yX11_beside zk_se_yX11_beside zk_in_11 zk_cd_yX11_beside) zsg_yX11_beside hR rfl rfl hw hd hf kk
theorem zv_L_117t {p : Program} {l : Launch} {e : Env} {R : Room} {s : State} {m : MethodId} {args : Array Value} {below : List Frame} {meth : Method} {c : Code} {Q : State → Prop} {D : va_G} {B : Nat} {cA : Nat → ClassId} {ad : Nat → Nat} {cc : ByteArray} {nL : Nat} {ret : Option FieldType} {S : List zC} {I : zI} {lv : List (Nat × Value)} {st : List Value} {pc cells slots : Nat} (C : zCx p s m args meth c cc nL RL ret D B cA ad) {K : Int32 → Prop} {xa1 : Int32} (hS : zOkM S)  (h : w_M_beside xa1 I K) (hR : 3 + 1 ≤ R.frames ∧ 8 + (2 + 11) + (66) ≤ R.locals) (hw : (st.map fun v => v.category).sum ≤ 8) (hd : decode cc pc = .ok (.invokevirtual 117, 3)) (hf : cells ≤ R.cells ∧ slots ≤ R.slots) (kk : ∀ v, K v → zX p l e R s m args below meth c Q D B cA nL cells slots S I lv (.int v :: st) (pc + 3)) : zX p l e R s m args below meth c Q D B cA nL cells slots S I lv (.int xa1 :: .ref (B + 491) :: st) pc :=
  zc_VpI C (ci := 12) (q := (RX12, TX12, 82)) (k := 491) (fs := [none, some (some 492), some (some 493), none, some (some 494), none, some (some 495), none, none, none, some (some 496), some (some 497), some (some 498), some (some 499), some (some 500), none, some (some 501), some (some 502), some (some 503), none, some (some 504), some (some 505), some (some 506), some (some 507), some (some 508), none, some (some 509), some (some 510), some (some 511), some (some 512), some (some 513), some (some 514), some (some 515), some (some 516), some (some 517), some (some 518), none, none, some (some 519), none, some (some 520), none, none, none, some (some 521), some (some 522), some (some 523), some (some 524), some (some 525), some (some 526), some (some 527), none, some (some 528), none, some (some 529), none, some (some 530), some (some 531), some (some 532), none, some (some 533), some (some 534), some (some 535), some (some 536), some (some 537), none, none, none, some (some 538), some (some 539), some (some 540), none, none, none, some (some 541), none, none, some (some 542), some (some 543), some (some 544), none, some (some 545)]) (As := [.int xa1]) (st := st) rfl (hS _ _ zs_491) (c_M_beside hS h) (zgV zk_ml_L_117 zk_im_yX12_beside zk_se_yX12_beside zk_in_12 zk_cd_yX12_beside) zsg_yX12_beside hR rfl rfl hw hd hf kk
def w_lawc_24 (L : Nat) (xs : Nat → Int32) (v3 : Int32) (I : zI) (J : zI → Prop) : Prop :=
  vp_in (v3 + 1) L ∧ (w_Desk_beside (xs (Int32.toNatClampNeg (v3 + 1))) I (fun r_1 => vp_in (v3 + 1) L ∧ (w_M_beside (xs (Int32.toNatClampNeg (v3 + 1))) I (fun r_2 => J I))))
set_option maxHeartbeats 4000000 in
set_option maxRecDepth 20000 in
theorem zl_c24 {p : Program} {l : Launch} {e : Env} {s : State} {m : MethodId} {below : List Frame} {meth : Method} {c : Code} {D : va_G} {B : Nat} {cA : Nat → ClassId} {ad : Nat → Nat} {b L : Nat} {xs : Nat → Int32} {S : List zC} (C : zCx p s m #[Value.ref b] meth c cL_law 4 RL ret D B cA ad) (hX : va_X b L xs s s.heap) (hbl : b < s.heap.size) (hbA : ¬ B ≤ b) (hS : zOkM S) (hB : B = s.heap.size) {v3 : Int32} {I : zI} {J : zI → Prop} (h : w_lawc_24 L xs v3 I J) (kk : ∀ I2, J I2 → zX p l e room_1 s m #[Value.ref b] below meth c (lw_Z below #[Value.ref b] s) D B cA 4 546 406967 S I2 [(3, .int v3), (0, .ref b), (1, .ref (B + 0)), (2, .ref (B + 491))] [] 1245) : zX p l e room_1 s m #[Value.ref b] below meth c (lw_Z below #[Value.ref b] s) D B cA 4 546 406967 S I [(3, .int v3), (0, .ref b), (1, .ref (B + 0)), (2, .ref (B + 491))] [] 814 := by
  unfold w_lawc_24 at h
  refine zr_aload_n C dyL_law_814 rfl 2 rfl ?_
  refine zr_aload_n C dyL_law_815 rfl 1 rfl ?_
  refine zr_iload_n C dyL_law_816 rfl 0 rfl ?_
  refine zr_iconst C dyL_law_817 zc_i_1 ?_
  refine zr_iadd C dyL_law_818 ?_
  refine zr_sld C hX hbl hbA h.1 dyL_law_819 ?_
  replace h := h.2
  refine zv_L_114t C hS.x (st := []) h ⟨Nat.le_of_ble_eq_true rfl, Nat.le_of_ble_eq_true rfl⟩ (Nat.le_of_ble_eq_true rfl) dyL_law_820 ⟨Nat.le_of_ble_eq_true rfl, Nat.le_of_ble_eq_true rfl⟩ (fun r_1 h => ?_)
  refine zr_pop C dyL_law_823 rfl ?_
  refine zr_aload_n C dyL_law_824 rfl 3 rfl ?_
  refine zr_aload_n C dyL_law_825 rfl 1 rfl ?_
  refine zr_iload_n C dyL_law_826 rfl 0 rfl ?_
  refine zr_iconst C dyL_law_827 zc_i_1 ?_
  refine zr_iadd C dyL_law_828 ?_
  refine zr_sld C hX hbl hbA h.1 dyL_law_829 ?_
  replace h := h.2
  refine zv_L_117t C hS (st := []) h ⟨Nat.le_of_ble_eq_true rfl, Nat.le_of_ble_eq_true rfl⟩ (Nat.le_of_ble_eq_true rfl) dyL_law_830 ⟨Nat.le_of_ble_eq_true rfl, Nat.le_of_ble_eq_true rfl⟩ (fun r_2 h => ?_)
  refine zr_pop C dyL_law_833 rfl ?_
  refine zr_goto C dyL_law_834 (tgt := 1245) (by decide) ?_
  exact kk _ h
theorem zv_L_118t {p : Program} {l : Launch} {e : Env} {R : Room} {s : State} {m : MethodId} {args : Array Value} {below : List Frame} {meth : Method} {c : Code} {Q : State → Prop} {D : va_G} {B : Nat} {cA : Nat → ClassId} {ad : Nat → Nat} {cc : ByteArray} {nL : Nat} {ret : Option FieldType} {S : List zC} {I : zI} {lv : List (Nat × Value)} {st : List Value} {pc cells slots : Nat} (C : zCx p s m args meth c cc nL RL ret D B cA ad) {K : Int32 → Prop} {xa1 : Int32} {xa2 : Int32} (hS : zOkX S)  (h : w_Desk_span xa1 xa2 I K) (hR : 4 + 1 ≤ R.frames ∧ 8 + (3 + 11) + (87) ≤ R.locals) (hw : (st.map fun v => v.category).sum ≤ 8) (hd : decode cc pc = .ok (.invokevirtual 118, 3)) (hf : cells ≤ R.cells ∧ slots ≤ R.slots) (kk : ∀ v, K v → zX p l e R s m args below meth c Q D B cA nL cells slots S I lv (.int v :: st) (pc + 3)) : zX p l e R s m args below meth c Q D B cA nL cells slots S I lv (.int xa2 :: .int xa1 :: .ref (B + 0) :: st) pc :=
  zc_VpI C (ci := 11) (q := (RX11, TX11, 19)) (k := 0) (fs := [some (some 1), none, some (some 3), some (some 4), none, none, none, none, some (some 22), some (some 24), some (some 43), some (some 64), some (some 69), some (some 88), some (some 97), some (some 100), some (some 109), some (some 111), none]) (As := [.int xa1, .int xa2]) (st := st) rfl (hS _ _ zs_0) (c_Desk_span hS h) (zgV zk_ml_L_118 zk_im_yX11_span zk_se_yX11_span zk_in_11 zk_cd_yX11_span) zsg_yX11_span hR rfl rfl hw hd hf kk
theorem zv_L_121t {p : Program} {l : Launch} {e : Env} {R : Room} {s : State} {m : MethodId} {args : Array Value} {below : List Frame} {meth : Method} {c : Code} {Q : State → Prop} {D : va_G} {B : Nat} {cA : Nat → ClassId} {ad : Nat → Nat} {cc : ByteArray} {nL : Nat} {ret : Option FieldType} {S : List zC} {I : zI} {lv : List (Nat × Value)} {st : List Value} {pc cells slots : Nat} (C : zCx p s m args meth c cc nL RL ret D B cA ad) {K : Int32 → Prop} {xa1 : Int32} {xa2 : Int32} (hS : zOkM S)  (h : w_M_span xa1 xa2 I K) (hR : 2 + 1 ≤ R.frames ∧ 8 + (3 + 11) + (43) ≤ R.locals) (hw : (st.map fun v => v.category).sum ≤ 8) (hd : decode cc pc = .ok (.invokevirtual 121, 3)) (hf : cells ≤ R.cells ∧ slots ≤ R.slots) (kk : ∀ v, K v → zX p l e R s m args below meth c Q D B cA nL cells slots S I lv (.int v :: st) (pc + 3)) : zX p l e R s m args below meth c Q D B cA nL cells slots S I lv (.int xa2 :: .int xa1 :: .ref (B + 491) :: st) pc :=
  zc_VpI C (ci := 12) (q := (RX12, TX12, 82)) (k := 491) (fs := [none, some (some 492), some (some 493), none, some (some 494), none, some (some 495), none, none, none, some (some 496), some (some 497), some (some 498), some (some 499), some (some 500), none, some (some 501), some (some 502), some (some 503), none, some (some 504), some (some 505), some (some 506), some (some 507), some (some 508), none, some (some 509), some (some 510), some (some 511), some (some 512), some (some 513), some (some 514), some (some 515), some (some 516), some (some 517), some (some 518), none, none, some (some 519), none, some (some 520), none, none, none, some (some 521), some (some 522), some (some 523), some (some 524), some (some 525), some (some 526), some (some 527), none, some (some 528), none, some (some 529), none, some (some 530), some (some 531), some (some 532), none, some (some 533), some (some 534), some (some 535), some (some 536), some (some 537), none, none, none, some (some 538), some (some 539), some (some 540), none, none, none, some (some 541), none, none, some (some 542), some (some 543), some (some 544), none, some (some 545)]) (As := [.int xa1, .int xa2]) (st := st) rfl (hS _ _ zs_491) (c_M_span hS h) (zgV zk_ml_L_121 zk_im_yX12_span zk_se_yX12_span zk_in_12 zk_cd_yX12_span) zsg_yX12_span hR rfl rfl hw hd hf kk
def w_lawc_25 (L : Nat) (xs : Nat → Int32) (v3 : Int32) (I : zI) (J : zI → Prop) : Prop :=
  vp_in (v3 + 1) L ∧ (vp_in (v3 + 2) L ∧ (w_Desk_span (xs (Int32.toNatClampNeg (v3 + 1))) (xs (Int32.toNatClampNeg (v3 + 2))) I (fun r_1 => vp_in (v3 + 1) L ∧ (vp_in (v3 + 2) L ∧ (w_M_span (xs (Int32.toNatClampNeg (v3 + 1))) (xs (Int32.toNatClampNeg (v3 + 2))) I (fun r_2 => J I))))))
set_option maxHeartbeats 4000000 in
set_option maxRecDepth 20000 in
theorem zl_c25 {p : Program} {l : Launch} {e : Env} {s : State} {m : MethodId} {below : List Frame} {meth : Method} {c : Code} {D : va_G} {B : Nat} {cA : Nat → ClassId} {ad : Nat → Nat} {b L : Nat} {xs : Nat → Int32} {S : List zC} (C : zCx p s m #[Value.ref b] meth c cL_law 4 RL ret D B cA ad) (hX : va_X b L xs s s.heap) (hbl : b < s.heap.size) (hbA : ¬ B ≤ b) (hS : zOkM S) (hB : B = s.heap.size) {v3 : Int32} {I : zI} {J : zI → Prop} (h : w_lawc_25 L xs v3 I J) (kk : ∀ I2, J I2 → zX p l e room_1 s m #[Value.ref b] below meth c (lw_Z below #[Value.ref b] s) D B cA 4 546 406967 S I2 [(3, .int v3), (0, .ref b), (1, .ref (B + 0)), (2, .ref (B + 491))] [] 1245) : zX p l e room_1 s m #[Value.ref b] below meth c (lw_Z below #[Value.ref b] s) D B cA 4 546 406967 S I [(3, .int v3), (0, .ref b), (1, .ref (B + 0)), (2, .ref (B + 491))] [] 837 := by
  unfold w_lawc_25 at h
  refine zr_aload_n C dyL_law_837 rfl 2 rfl ?_
  refine zr_aload_n C dyL_law_838 rfl 1 rfl ?_
  refine zr_iload_n C dyL_law_839 rfl 0 rfl ?_
  refine zr_iconst C dyL_law_840 zc_i_1 ?_
  refine zr_iadd C dyL_law_841 ?_
  refine zr_sld C hX hbl hbA h.1 dyL_law_842 ?_
  replace h := h.2
  refine zr_aload_n C dyL_law_843 rfl 1 rfl ?_
  refine zr_iload_n C dyL_law_844 rfl 0 rfl ?_
  refine zr_iconst C dyL_law_845 zc_i_2 ?_
  refine zr_iadd C dyL_law_846 ?_
  refine zr_sld C hX hbl hbA h.1 dyL_law_847 ?_
  replace h := h.2
  refine zv_L_118t C hS.x (st := []) h ⟨Nat.le_of_ble_eq_true rfl, Nat.le_of_ble_eq_true rfl⟩ (Nat.le_of_ble_eq_true rfl) dyL_law_848 ⟨Nat.le_of_ble_eq_true rfl, Nat.le_of_ble_eq_true rfl⟩ (fun r_1 h => ?_)
  refine zr_pop C dyL_law_851 rfl ?_
  refine zr_aload_n C dyL_law_852 rfl 3 rfl ?_
  refine zr_aload_n C dyL_law_853 rfl 1 rfl ?_
  refine zr_iload_n C dyL_law_854 rfl 0 rfl ?_
  refine zr_iconst C dyL_law_855 zc_i_1 ?_
  refine zr_iadd C dyL_law_856 ?_
  refine zr_sld C hX hbl hbA h.1 dyL_law_857 ?_
  replace h := h.2
  refine zr_aload_n C dyL_law_858 rfl 1 rfl ?_
  refine zr_iload_n C dyL_law_859 rfl 0 rfl ?_
  refine zr_iconst C dyL_law_860 zc_i_2 ?_
  refine zr_iadd C dyL_law_861 ?_
  refine zr_sld C hX hbl hbA h.1 dyL_law_862 ?_
  replace h := h.2
  refine zv_L_121t C hS (st := []) h ⟨Nat.le_of_ble_eq_true rfl, Nat.le_of_ble_eq_true rfl⟩ (Nat.le_of_ble_eq_true rfl) dyL_law_863 ⟨Nat.le_of_ble_eq_true rfl, Nat.le_of_ble_eq_true rfl⟩ (fun r_2 h => ?_)
  refine zr_pop C dyL_law_866 rfl ?_
  refine zr_goto C dyL_law_867 (tgt := 1245) (by decide) ?_
  exact kk _ h
theorem zv_L_122t {p : Program} {l : Launch} {e : Env} {R : Room} {s : State} {m : MethodId} {args : Array Value} {below : List Frame} {meth : Method} {c : Code} {Q : State → Prop} {D : va_G} {B : Nat} {cA : Nat → ClassId} {ad : Nat → Nat} {cc : ByteArray} {nL : Nat} {ret : Option FieldType} {S : List zC} {I : zI} {lv : List (Nat × Value)} {st : List Value} {pc cells slots : Nat} (C : zCx p s m args meth c cc nL RL ret D B cA ad) {K : Int32 → Prop} {xa1 : Int32} (hS : zOkX S)  (h : w_Desk_under xa1 I K) (hR : 2 + 1 ≤ R.frames ∧ 8 + (3 + 11) + (43) ≤ R.locals) (hw : (st.map fun v => v.category).sum ≤ 8) (hd : decode cc pc = .ok (.invokevirtual 122, 3)) (hf : cells ≤ R.cells ∧ slots ≤ R.slots) (kk : ∀ v, K v → zX p l e R s m args below meth c Q D B cA nL cells slots S I lv (.int v :: st) (pc + 3)) : zX p l e R s m args below meth c Q D B cA nL cells slots S I lv (.int xa1 :: .ref (B + 0) :: st) pc :=
  zc_VpI C (ci := 11) (q := (RX11, TX11, 19)) (k := 0) (fs := [some (some 1), none, some (some 3), some (some 4), none, none, none, none, some (some 22), some (some 24), some (some 43), some (some 64), some (some 69), some (some 88), some (some 97), some (some 100), some (some 109), some (some 111), none]) (As := [.int xa1]) (st := st) rfl (hS _ _ zs_0) (c_Desk_under hS h) (zgV zk_ml_L_122 zk_im_yX11_under zk_se_yX11_under zk_in_11 zk_cd_yX11_under) zsg_yX11_under hR rfl rfl hw hd hf kk
theorem zv_L_125t {p : Program} {l : Launch} {e : Env} {R : Room} {s : State} {m : MethodId} {args : Array Value} {below : List Frame} {meth : Method} {c : Code} {Q : State → Prop} {D : va_G} {B : Nat} {cA : Nat → ClassId} {ad : Nat → Nat} {cc : ByteArray} {nL : Nat} {ret : Option FieldType} {S : List zC} {I : zI} {lv : List (Nat × Value)} {st : List Value} {pc cells slots : Nat} (C : zCx p s m args meth c cc nL RL ret D B cA ad) {K : Int32 → Prop} {xa1 : Int32} (hS : zOkM S)  (h : w_M_under xa1 I K) (hR : 1 + 1 ≤ R.frames ∧ 8 + (3 + 11) + (22) ≤ R.locals) (hw : (st.map fun v => v.category).sum ≤ 8) (hd : decode cc pc = .ok (.invokevirtual 125, 3)) (hf : cells ≤ R.cells ∧ slots ≤ R.slots) (kk : ∀ v, K v → zX p l e R s m args below meth c Q D B cA nL cells slots S I lv (.int v :: st) (pc + 3)) : zX p l e R s m args below meth c Q D B cA nL cells slots S I lv (.int xa1 :: .ref (B + 491) :: st) pc :=
  zc_VpI C (ci := 12) (q := (RX12, TX12, 82)) (k := 491) (fs := [none, some (some 492), some (some 493), none, some (some 494), none, some (some 495), none, none, none, some (some 496), some (some 497), some (some 498), some (some 499), some (some 500), none, some (some 501), some (some 502), some (some 503), none, some (some 504), some (some 505), some (some 506), some (some 507), some (some 508), none, some (some 509), some (some 510), some (some 511), some (some 512), some (some 513), some (some 514), some (some 515), some (some 516), some (some 517), some (some 518), none, none, some (some 519), none, some (some 520), none, none, none, some (some 521), some (some 522), some (some 523), some (some 524), some (some 525), some (some 526), some (some 527), none, some (some 528), none, some (some 529), none, some (some 530), some (some 531), some (some 532), none, some (some 533), some (some 534), some (some 535), some (some 536), some (some 537), none, none, none, some (some 538), some (some 539), some (some 540), none, none, none, some (some 541), none, none, some (some 542), some (some 543), some (some 544), none, some (some 545)]) (As := [.int xa1]) (st := st) rfl (hS _ _ zs_491) (c_M_under hS h) (zgV zk_ml_L_125 zk_im_yX12_under zk_se_yX12_under zk_in_12 zk_cd_yX12_under) zsg_yX12_under hR rfl rfl hw hd hf kk
def w_lawc_26 (L : Nat) (xs : Nat → Int32) (v3 : Int32) (I : zI) (J : zI → Prop) : Prop :=
  vp_in (v3 + 1) L ∧ (w_Desk_under (xs (Int32.toNatClampNeg (v3 + 1))) I (fun r_1 => vp_in (v3 + 1) L ∧ (w_M_under (xs (Int32.toNatClampNeg (v3 + 1))) I (fun r_2 => J I))))
set_option maxHeartbeats 4000000 in
set_option maxRecDepth 20000 in
theorem zl_c26 {p : Program} {l : Launch} {e : Env} {s : State} {m : MethodId} {below : List Frame} {meth : Method} {c : Code} {D : va_G} {B : Nat} {cA : Nat → ClassId} {ad : Nat → Nat} {b L : Nat} {xs : Nat → Int32} {S : List zC} (C : zCx p s m #[Value.ref b] meth c cL_law 4 RL ret D B cA ad) (hX : va_X b L xs s s.heap) (hbl : b < s.heap.size) (hbA : ¬ B ≤ b) (hS : zOkM S) (hB : B = s.heap.size) {v3 : Int32} {I : zI} {J : zI → Prop} (h : w_lawc_26 L xs v3 I J) (kk : ∀ I2, J I2 → zX p l e room_1 s m #[Value.ref b] below meth c (lw_Z below #[Value.ref b] s) D B cA 4 546 406967 S I2 [(3, .int v3), (0, .ref b), (1, .ref (B + 0)), (2, .ref (B + 491))] [] 1245) : zX p l e room_1 s m #[Value.ref b] below meth c (lw_Z below #[Value.ref b] s) D B cA 4 546 406967 S I [(3, .int v3), (0, .ref b), (1, .ref (B + 0)), (2, .ref (B + 491))] [] 870 := by
  unfold w_lawc_26 at h
  refine zr_aload_n C dyL_law_870 rfl 2 rfl ?_
  refine zr_aload_n C dyL_law_871 rfl 1 rfl ?_
  refine zr_iload_n C dyL_law_872 rfl 0 rfl ?_
  refine zr_iconst C dyL_law_873 zc_i_1 ?_
  refine zr_iadd C dyL_law_874 ?_
  refine zr_sld C hX hbl hbA h.1 dyL_law_875 ?_
  replace h := h.2
  refine zv_L_122t C hS.x (st := []) h ⟨Nat.le_of_ble_eq_true rfl, Nat.le_of_ble_eq_true rfl⟩ (Nat.le_of_ble_eq_true rfl) dyL_law_876 ⟨Nat.le_of_ble_eq_true rfl, Nat.le_of_ble_eq_true rfl⟩ (fun r_1 h => ?_)
  refine zr_pop C dyL_law_879 rfl ?_
  refine zr_aload_n C dyL_law_880 rfl 3 rfl ?_
  refine zr_aload_n C dyL_law_881 rfl 1 rfl ?_
  refine zr_iload_n C dyL_law_882 rfl 0 rfl ?_
  refine zr_iconst C dyL_law_883 zc_i_1 ?_
  refine zr_iadd C dyL_law_884 ?_
  refine zr_sld C hX hbl hbA h.1 dyL_law_885 ?_
  replace h := h.2
  refine zv_L_125t C hS (st := []) h ⟨Nat.le_of_ble_eq_true rfl, Nat.le_of_ble_eq_true rfl⟩ (Nat.le_of_ble_eq_true rfl) dyL_law_886 ⟨Nat.le_of_ble_eq_true rfl, Nat.le_of_ble_eq_true rfl⟩ (fun r_2 h => ?_)
  refine zr_pop C dyL_law_889 rfl ?_
  refine zr_goto C dyL_law_890 (tgt := 1245) (by decide) ?_
  exact kk _ h
theorem zv_L_126t {p : Program} {l : Launch} {e : Env} {R : Room} {s : State} {m : MethodId} {args : Array Value} {below : List Frame} {meth : Method} {c : Code} {Q : State → Prop} {D : va_G} {B : Nat} {cA : Nat → ClassId} {ad : Nat → Nat} {cc : ByteArray} {nL : Nat} {ret : Option FieldType} {S : List zC} {I : zI} {lv : List (Nat × Value)} {st : List Value} {pc cells slots : Nat} (C : zCx p s m args meth c cc nL RL ret D B cA ad) {K : Int32 → Prop} {xa1 : Int32} (hS : zOkX S)  (h : w_Desk_before xa1 I K) (hR : 4 + 1 ≤ R.frames ∧ 8 + (2 + 11) + (90) ≤ R.locals) (hw : (st.map fun v => v.category).sum ≤ 8) (hd : decode cc pc = .ok (.invokevirtual 126, 3)) (hf : cells ≤ R.cells ∧ slots ≤ R.slots) (kk : ∀ v, K v → zX p l e R s m args below meth c Q D B cA nL cells slots S I lv (.int v :: st) (pc + 3)) : zX p l e R s m args below meth c Q D B cA nL cells slots S I lv (.int xa1 :: .ref (B + 0) :: st) pc :=
  zc_VpI C (ci := 11) (q := (RX11, TX11, 19)) (k := 0) (fs := [some (some 1), none, some (some 3), some (some 4), none, none, none, none, some (some 22), some (some 24), some (some 43), some (some 64), some (some 69), some (some 88), some (some 97), some (some 100), some (some 109), some (some 111), none]) (As := [.int xa1]) (st := st) rfl (hS _ _ zs_0) (c_Desk_before hS h) (zgV zk_ml_L_126 zk_im_yX11_before zk_se_yX11_before zk_in_11 zk_cd_yX11_before) zsg_yX11_before hR rfl rfl hw hd hf kk
theorem zv_L_129t {p : Program} {l : Launch} {e : Env} {R : Room} {s : State} {m : MethodId} {args : Array Value} {below : List Frame} {meth : Method} {c : Code} {Q : State → Prop} {D : va_G} {B : Nat} {cA : Nat → ClassId} {ad : Nat → Nat} {cc : ByteArray} {nL : Nat} {ret : Option FieldType} {S : List zC} {I : zI} {lv : List (Nat × Value)} {st : List Value} {pc cells slots : Nat} (C : zCx p s m args meth c cc nL RL ret D B cA ad) {K : Int32 → Prop} {xa1 : Int32} (hS : zOkM S)  (h : w_M_before xa1 I K) (hR : 3 + 1 ≤ R.frames ∧ 8 + (2 + 11) + (66) ≤ R.locals) (hw : (st.map fun v => v.category).sum ≤ 8) (hd : decode cc pc = .ok (.invokevirtual 129, 3)) (hf : cells ≤ R.cells ∧ slots ≤ R.slots) (kk : ∀ v, K v → zX p l e R s m args below meth c Q D B cA nL cells slots S I lv (.int v :: st) (pc + 3)) : zX p l e R s m args below meth c Q D B cA nL cells slots S I lv (.int xa1 :: .ref (B + 491) :: st) pc :=
  zc_VpI C (ci := 12) (q := (RX12, TX12, 82)) (k := 491) (fs := [none, some (some 492), some (some 493), none, some (some 494), none, some (some 495), none, none, none, some (some 496), some (some 497), some (some 498), some (some 499), some (some 500), none, some (some 501), some (some 502), some (some 503), none, some (some 504), some (some 505), some (some 506), some (some 507), some (some 508), none, some (some 509), some (some 510), some (some 511), some (some 512), some (some 513), some (some 514), some (some 515), some (some 516), some (some 517), some (some 518), none, none, some (some 519), none, some (some 520), none, none, none, some (some 521), some (some 522), some (some 523), some (some 524), some (some 525), some (some 526), some (some 527), none, some (some 528), none, some (some 529), none, some (some 530), some (some 531), some (some 532), none, some (some 533), some (some 534), some (some 535), some (some 536), some (some 537), none, none, none, some (some 538), some (some 539), some (some 540), none, none, none, some (some 541), none, none, some (some 542), some (some 543), some (some 544), none, some (some 545)]) (As := [.int xa1]) (st := st) rfl (hS _ _ zs_491) (c_M_before hS h) (zgV zk_ml_L_129 zk_im_yX12_before zk_se_yX12_before zk_in_12 zk_cd_yX12_before) zsg_yX12_before hR rfl rfl hw hd hf kk
def w_lawc_27 (L : Nat) (xs : Nat → Int32) (v3 : Int32) (I : zI) (J : zI → Prop) : Prop :=
  vp_in (v3 + 1) L ∧ (w_Desk_before (xs (Int32.toNatClampNeg (v3 + 1))) I (fun r_1 => vp_in (v3 + 1) L ∧ (w_M_before (xs (Int32.toNatClampNeg (v3 + 1))) I (fun r_2 => J I))))
set_option maxHeartbeats 4000000 in
set_option maxRecDepth 20000 in
theorem zl_c27 {p : Program} {l : Launch} {e : Env} {s : State} {m : MethodId} {below : List Frame} {meth : Method} {c : Code} {D : va_G} {B : Nat} {cA : Nat → ClassId} {ad : Nat → Nat} {b L : Nat} {xs : Nat → Int32} {S : List zC} (C : zCx p s m #[Value.ref b] meth c cL_law 4 RL ret D B cA ad) (hX : va_X b L xs s s.heap) (hbl : b < s.heap.size) (hbA : ¬ B ≤ b) (hS : zOkM S) (hB : B = s.heap.size) {v3 : Int32} {I : zI} {J : zI → Prop} (h : w_lawc_27 L xs v3 I J) (kk : ∀ I2, J I2 → zX p l e room_1 s m #[Value.ref b] below meth c (lw_Z below #[Value.ref b] s) D B cA 4 546 406967 S I2 [(3, .int v3), (0, .ref b), (1, .ref (B + 0)), (2, .ref (B + 491))] [] 1245) : zX p l e room_1 s m #[Value.ref b] below meth c (lw_Z below #[Value.ref b] s) D B cA 4 546 406967 S I [(3, .int v3), (0, .ref b), (1, .ref (B + 0)), (2, .ref (B + 491))] [] 893 := by
  unfold w_lawc_27 at h
  refine zr_aload_n C dyL_law_893 rfl 2 rfl ?_
  refine zr_aload_n C dyL_law_894 rfl 1 rfl ?_
  refine zr_iload_n C dyL_law_895 rfl 0 rfl ?_
  refine zr_iconst C dyL_law_896 zc_i_1 ?_
  refine zr_iadd C dyL_law_897 ?_
  refine zr_sld C hX hbl hbA h.1 dyL_law_898 ?_
  replace h := h.2
  refine zv_L_126t C hS.x (st := []) h ⟨Nat.le_of_ble_eq_true rfl, Nat.le_of_ble_eq_true rfl⟩ (Nat.le_of_ble_eq_true rfl) dyL_law_899 ⟨Nat.le_of_ble_eq_true rfl, Nat.le_of_ble_eq_true rfl⟩ (fun r_1 h => ?_)
  refine zr_pop C dyL_law_902 rfl ?_
  refine zr_aload_n C dyL_law_903 rfl 3 rfl ?_
  refine zr_aload_n C dyL_law_904 rfl 1 rfl ?_
  refine zr_iload_n C dyL_law_905 rfl 0 rfl ?_
  refine zr_iconst C dyL_law_906 zc_i_1 ?_
  refine zr_iadd C dyL_law_907 ?_
  refine zr_sld C hX hbl hbA h.1 dyL_law_908 ?_
  replace h := h.2
  refine zv_L_129t C hS (st := []) h ⟨Nat.le_of_ble_eq_true rfl, Nat.le_of_ble_eq_true rfl⟩ (Nat.le_of_ble_eq_true rfl) dyL_law_909 ⟨Nat.le_of_ble_eq_true rfl, Nat.le_of_ble_eq_true rfl⟩ (fun r_2 h => ?_)
  refine zr_pop C dyL_law_912 rfl ?_
  refine zr_goto C dyL_law_913 (tgt := 1245) (by decide) ?_
  exact kk _ h
theorem zv_L_130t {p : Program} {l : Launch} {e : Env} {R : Room} {s : State} {m : MethodId} {args : Array Value} {below : List Frame} {meth : Method} {c : Code} {Q : State → Prop} {D : va_G} {B : Nat} {cA : Nat → ClassId} {ad : Nat → Nat} {cc : ByteArray} {nL : Nat} {ret : Option FieldType} {S : List zC} {I : zI} {lv : List (Nat × Value)} {st : List Value} {pc cells slots : Nat} (C : zCx p s m args meth c cc nL RL ret D B cA ad) {K : Int32 → Prop}  (hS : zOkX S)  (h : w_Desk_runs I K) (hR : 0 + 1 ≤ R.frames ∧ 8 + (1 + 11) + (0) ≤ R.locals) (hw : (st.map fun v => v.category).sum ≤ 8) (hd : decode cc pc = .ok (.invokevirtual 130, 3)) (hf : cells ≤ R.cells ∧ slots ≤ R.slots) (kk : ∀ v, K v → zX p l e R s m args below meth c Q D B cA nL cells slots S I lv (.int v :: st) (pc + 3)) : zX p l e R s m args below meth c Q D B cA nL cells slots S I lv (.ref (B + 0) :: st) pc :=
  zc_VpI C (ci := 11) (q := (RX11, TX11, 19)) (k := 0) (fs := [some (some 1), none, some (some 3), some (some 4), none, none, none, none, some (some 22), some (some 24), some (some 43), some (some 64), some (some 69), some (some 88), some (some 97), some (some 100), some (some 109), some (some 111), none]) (As := []) (st := st) rfl (hS _ _ zs_0) (c_Desk_runs hS h) (zgV zk_ml_L_130 zk_im_yX11_runs zk_se_yX11_runs zk_in_11 zk_cd_yX11_runs) zsg_yX11_runs hR rfl rfl hw hd hf kk
theorem zv_L_133t {p : Program} {l : Launch} {e : Env} {R : Room} {s : State} {m : MethodId} {args : Array Value} {below : List Frame} {meth : Method} {c : Code} {Q : State → Prop} {D : va_G} {B : Nat} {cA : Nat → ClassId} {ad : Nat → Nat} {cc : ByteArray} {nL : Nat} {ret : Option FieldType} {S : List zC} {I : zI} {lv : List (Nat × Value)} {st : List Value} {pc cells slots : Nat} (C : zCx p s m args meth c cc nL RL ret D B cA ad) {K : Int32 → Prop}  (hS : zOkM S)  (h : w_M_runs I K) (hR : 0 + 1 ≤ R.frames ∧ 8 + (1 + 11) + (0) ≤ R.locals) (hw : (st.map fun v => v.category).sum ≤ 8) (hd : decode cc pc = .ok (.invokevirtual 133, 3)) (hf : cells ≤ R.cells ∧ slots ≤ R.slots) (kk : ∀ v, K v → zX p l e R s m args below meth c Q D B cA nL cells slots S I lv (.int v :: st) (pc + 3)) : zX p l e R s m args below meth c Q D B cA nL cells slots S I lv (.ref (B + 491) :: st) pc :=
  zc_VpI C (ci := 12) (q := (RX12, TX12, 82)) (k := 491) (fs := [none, some (some 492), some (some 493), none, some (some 494), none, some (some 495), none, none, none, some (some 496), some (some 497), some (some 498), some (some 499), some (some 500), none, some (some 501), some (some 502), some (some 503), none, some (some 504), some (some 505), some (some 506), some (some 507), some (some 508), none, some (some 509), some (some 510), some (some 511), some (some 512), some (some 513), some (some 514), some (some 515), some (some 516), some (some 517), some (some 518), none, none, some (some 519), none, some (some 520), none, none, none, some (some 521), some (some 522), some (some 523), some (some 524), some (some 525), some (some 526), some (some 527), none, some (some 528), none, some (some 529), none, some (some 530), some (some 531), some (some 532), none, some (some 533), some (some 534), some (some 535), some (some 536), some (some 537), none, none, none, some (some 538), some (some 539), some (some 540), none, none, none, some (some 541), none, none, some (some 542), some (some 543), some (some 544), none, some (some 545)]) (As := []) (st := st) rfl (hS _ _ zs_491) (c_M_runs hS h) (zgV zk_ml_L_133 zk_im_yX12_runs zk_se_yX12_runs zk_in_12 zk_cd_yX12_runs) zsg_yX12_runs hR rfl rfl hw hd hf kk
def w_lawc_28 (L : Nat) (xs : Nat → Int32) (v3 : Int32) (I : zI) (J : zI → Prop) : Prop :=
  w_Desk_runs I (fun r_1 => w_M_runs I (fun r_2 => J I))
set_option maxHeartbeats 4000000 in
set_option maxRecDepth 20000 in
theorem zl_c28 {p : Program} {l : Launch} {e : Env} {s : State} {m : MethodId} {below : List Frame} {meth : Method} {c : Code} {D : va_G} {B : Nat} {cA : Nat → ClassId} {ad : Nat → Nat} {b L : Nat} {xs : Nat → Int32} {S : List zC} (C : zCx p s m #[Value.ref b] meth c cL_law 4 RL ret D B cA ad) (hX : va_X b L xs s s.heap) (hbl : b < s.heap.size) (hbA : ¬ B ≤ b) (hS : zOkM S) (hB : B = s.heap.size) {v3 : Int32} {I : zI} {J : zI → Prop} (h : w_lawc_28 L xs v3 I J) (kk : ∀ I2, J I2 → zX p l e room_1 s m #[Value.ref b] below meth c (lw_Z below #[Value.ref b] s) D B cA 4 546 406967 S I2 [(3, .int v3), (0, .ref b), (1, .ref (B + 0)), (2, .ref (B + 491))] [] 1245) : zX p l e room_1 s m #[Value.ref b] below meth c (lw_Z below #[Value.ref b] s) D B cA 4 546 406967 S I [(3, .int v3), (0, .ref b), (1, .ref (B + 0)), (2, .ref (B + 491))] [] 916 := by
  unfold w_lawc_28 at h
  refine zr_aload_n C dyL_law_916 rfl 2 rfl ?_
  refine zv_L_130t C hS.x (st := []) h ⟨Nat.le_of_ble_eq_true rfl, Nat.le_of_ble_eq_true rfl⟩ (Nat.le_of_ble_eq_true rfl) dyL_law_917 ⟨Nat.le_of_ble_eq_true rfl, Nat.le_of_ble_eq_true rfl⟩ (fun r_1 h => ?_)
  refine zr_pop C dyL_law_920 rfl ?_
  refine zr_aload_n C dyL_law_921 rfl 3 rfl ?_
  refine zv_L_133t C hS (st := []) h ⟨Nat.le_of_ble_eq_true rfl, Nat.le_of_ble_eq_true rfl⟩ (Nat.le_of_ble_eq_true rfl) dyL_law_922 ⟨Nat.le_of_ble_eq_true rfl, Nat.le_of_ble_eq_true rfl⟩ (fun r_2 h => ?_)
  refine zr_pop C dyL_law_925 rfl ?_
  refine zr_goto C dyL_law_926 (tgt := 1245) (by decide) ?_
  exact kk _ h
theorem zv_L_134t {p : Program} {l : Launch} {e : Env} {R : Room} {s : State} {m : MethodId} {args : Array Value} {below : List Frame} {meth : Method} {c : Code} {Q : State → Prop} {D : va_G} {B : Nat} {cA : Nat → ClassId} {ad : Nat → Nat} {cc : ByteArray} {nL : Nat} {ret : Option FieldType} {S : List zC} {I : zI} {lv : List (Nat × Value)} {st : List Value} {pc cells slots : Nat} (C : zCx p s m args meth c cc nL RL ret D B cA ad) {K : Int32 → Prop} {xa1 : Int32} (hS : zOkX S)  (h : w_Desk_run xa1 I K) (hR : 1 + 1 ≤ R.frames ∧ 8 + (2 + 11) + (21) ≤ R.locals) (hw : (st.map fun v => v.category).sum ≤ 8) (hd : decode cc pc = .ok (.invokevirtual 134, 3)) (hf : cells ≤ R.cells ∧ slots ≤ R.slots) (kk : ∀ v, K v → zX p l e R s m args below meth c Q D B cA nL cells slots S I lv (.int v :: st) (pc + 3)) : zX p l e R s m args below meth c Q D B cA nL cells slots S I lv (.int xa1 :: .ref (B + 0) :: st) pc :=
  zc_VpI C (ci := 11) (q := (RX11, TX11, 19)) (k := 0) (fs := [some (some 1), none, some (some 3), some (some 4), none, none, none, none, some (some 22), some (some 24), some (some 43), some (some 64), some (some 69), some (some 88), some (some 97), some (some 100), some (some 109), some (some 111), none]) (As := [.int xa1]) (st := st) rfl (hS _ _ zs_0) (c_Desk_run hS h) (zgV zk_ml_L_134 zk_im_yX11_run zk_se_yX11_run zk_in_11 zk_cd_yX11_run) zsg_yX11_run hR rfl rfl hw hd hf kk
theorem zv_L_137t {p : Program} {l : Launch} {e : Env} {R : Room} {s : State} {m : MethodId} {args : Array Value} {below : List Frame} {meth : Method} {c : Code} {Q : State → Prop} {D : va_G} {B : Nat} {cA : Nat → ClassId} {ad : Nat → Nat} {cc : ByteArray} {nL : Nat} {ret : Option FieldType} {S : List zC} {I : zI} {lv : List (Nat × Value)} {st : List Value} {pc cells slots : Nat} (C : zCx p s m args meth c cc nL RL ret D B cA ad) {K : Int32 → Prop} {xa1 : Int32} (hS : zOkM S)  (h : w_M_run xa1 I K) (hR : 2 + 1 ≤ R.frames ∧ 8 + (2 + 11) + (43) ≤ R.locals) (hw : (st.map fun v => v.category).sum ≤ 8) (hd : decode cc pc = .ok (.invokevirtual 137, 3)) (hf : cells ≤ R.cells ∧ slots ≤ R.slots) (kk : ∀ v, K v → zX p l e R s m args below meth c Q D B cA nL cells slots S I lv (.int v :: st) (pc + 3)) : zX p l e R s m args below meth c Q D B cA nL cells slots S I lv (.int xa1 :: .ref (B + 491) :: st) pc :=
  zc_VpI C (ci := 12) (q := (RX12, TX12, 82)) (k := 491) (fs := [none, some (some 492), some (some 493), none, some (some 494), none, some (some 495), none, none, none, some (some 496), some (some 497), some (some 498), some (some 499), some (some 500), none, some (some 501), some (some 502), some (some 503), none, some (some 504), some (some 505), some (some 506), some (some 507), some (some 508), none, some (some 509), some (some 510), some (some 511), some (some 512), some (some 513), some (some 514), some (some 515), some (some 516), some (some 517), some (some 518), none, none, some (some 519), none, some (some 520), none, none, none, some (some 521), some (some 522), some (some 523), some (some 524), some (some 525), some (some 526), some (some 527), none, some (some 528), none, some (some 529), none, some (some 530), some (some 531), some (some 532), none, some (some 533), some (some 534), some (some 535), some (some 536), some (some 537), none, none, none, some (some 538), some (some 539), some (some 540), none, none, none, some (some 541), none, none, some (some 542), some (some 543), some (some 544), none, some (some 545)]) (As := [.int xa1]) (st := st) rfl (hS _ _ zs_491) (c_M_run hS h) (zgV zk_ml_L_137 zk_im_yX12_run zk_se_yX12_run zk_in_12 zk_cd_yX12_run) zsg_yX12_run hR rfl rfl hw hd hf kk
def w_lawc_29 (L : Nat) (xs : Nat → Int32) (v3 : Int32) (I : zI) (J : zI → Prop) : Prop :=
  vp_in (v3 + 1) L ∧ (w_Desk_run (xs (Int32.toNatClampNeg (v3 + 1))) I (fun r_1 => vp_in (v3 + 1) L ∧ (w_M_run (xs (Int32.toNatClampNeg (v3 + 1))) I (fun r_2 => (if r_1 = r_2 then J I else False)))))
set_option maxHeartbeats 4000000 in
set_option maxRecDepth 20000 in
theorem zl_c29 {p : Program} {l : Launch} {e : Env} {s : State} {m : MethodId} {below : List Frame} {meth : Method} {c : Code} {D : va_G} {B : Nat} {cA : Nat → ClassId} {ad : Nat → Nat} {b L : Nat} {xs : Nat → Int32} {S : List zC} (C : zCx p s m #[Value.ref b] meth c cL_law 4 RL ret D B cA ad) (hX : va_X b L xs s s.heap) (hbl : b < s.heap.size) (hbA : ¬ B ≤ b) (hS : zOkM S) (hB : B = s.heap.size) {v3 : Int32} {I : zI} {J : zI → Prop} (h : w_lawc_29 L xs v3 I J) (kk : ∀ I2, J I2 → zX p l e room_1 s m #[Value.ref b] below meth c (lw_Z below #[Value.ref b] s) D B cA 4 546 406967 S I2 [(3, .int v3), (0, .ref b), (1, .ref (B + 0)), (2, .ref (B + 491))] [] 1245) : zX p l e room_1 s m #[Value.ref b] below meth c (lw_Z below #[Value.ref b] s) D B cA 4 546 406967 S I [(3, .int v3), (0, .ref b), (1, .ref (B + 0)), (2, .ref (B + 491))] [] 929 := by
  unfold w_lawc_29 at h
  refine zr_aload_n C dyL_law_929 rfl 2 rfl ?_
  refine zr_aload_n C dyL_law_930 rfl 1 rfl ?_
  refine zr_iload_n C dyL_law_931 rfl 0 rfl ?_
  refine zr_iconst C dyL_law_932 zc_i_1 ?_
  refine zr_iadd C dyL_law_933 ?_
  refine zr_sld C hX hbl hbA h.1 dyL_law_934 ?_
  replace h := h.2
  refine zv_L_134t C hS.x (st := []) h ⟨Nat.le_of_ble_eq_true rfl, Nat.le_of_ble_eq_true rfl⟩ (Nat.le_of_ble_eq_true rfl) dyL_law_935 ⟨Nat.le_of_ble_eq_true rfl, Nat.le_of_ble_eq_true rfl⟩ (fun r_1 h => ?_)
  refine zr_aload_n C dyL_law_938 rfl 3 rfl ?_
  refine zr_aload_n C dyL_law_939 rfl 1 rfl ?_
  refine zr_iload_n C dyL_law_940 rfl 0 rfl ?_
  refine zr_iconst C dyL_law_941 zc_i_1 ?_
  refine zr_iadd C dyL_law_942 ?_
  refine zr_sld C hX hbl hbA h.1 dyL_law_943 ?_
  replace h := h.2
  refine zv_L_137t C hS (st := [.int r_1]) h ⟨Nat.le_of_ble_eq_true rfl, Nat.le_of_ble_eq_true rfl⟩ (Nat.le_of_ble_eq_true rfl) dyL_law_944 ⟨Nat.le_of_ble_eq_true rfl, Nat.le_of_ble_eq_true rfl⟩ (fun r_2 h => ?_)
  refine zr_icmp_eq C dyL_law_947 (tgt := 1245) (by decide) (fun hc_3 => ?_) (fun hc_3 => ?_)
  · replace h := zif_pos hc_3 h
    exact kk _ h
  · replace h := zif_neg hc_3 h
    refine zr_iconst C dyL_law_950 zc_i_0 ?_
    exact h.elim
theorem zv_L_138t {p : Program} {l : Launch} {e : Env} {R : Room} {s : State} {m : MethodId} {args : Array Value} {below : List Frame} {meth : Method} {c : Code} {Q : State → Prop} {D : va_G} {B : Nat} {cA : Nat → ClassId} {ad : Nat → Nat} {cc : ByteArray} {nL : Nat} {ret : Option FieldType} {S : List zC} {I : zI} {lv : List (Nat × Value)} {st : List Value} {pc cells slots : Nat} (C : zCx p s m args meth c cc nL RL ret D B cA ad) {K : Int32 → Prop} {xa1 : Int32} (hS : zOkX S)  (h : w_Desk_value xa1 I K) (hR : 2 + 1 ≤ R.frames ∧ 8 + (2 + 11) + (43) ≤ R.locals) (hw : (st.map fun v => v.category).sum ≤ 8) (hd : decode cc pc = .ok (.invokevirtual 138, 3)) (hf : cells ≤ R.cells ∧ slots ≤ R.slots) (kk : ∀ v, K v → zX p l e R s m args below meth c Q D B cA nL cells slots S I lv (.int v :: st) (pc + 3)) : zX p l e R s m args below meth c Q D B cA nL cells slots S I lv (.int xa1 :: .ref (B + 0) :: st) pc :=
  zc_VpI C (ci := 11) (q := (RX11, TX11, 19)) (k := 0) (fs := [some (some 1), none, some (some 3), some (some 4), none, none, none, none, some (some 22), some (some 24), some (some 43), some (some 64), some (some 69), some (some 88), some (some 97), some (some 100), some (some 109), some (some 111), none]) (As := [.int xa1]) (st := st) rfl (hS _ _ zs_0) (c_Desk_value hS h) (zgV zk_ml_L_138 zk_im_yX11_value zk_se_yX11_value zk_in_11 zk_cd_yX11_value) zsg_yX11_value hR rfl rfl hw hd hf kk
theorem zv_L_141t {p : Program} {l : Launch} {e : Env} {R : Room} {s : State} {m : MethodId} {args : Array Value} {below : List Frame} {meth : Method} {c : Code} {Q : State → Prop} {D : va_G} {B : Nat} {cA : Nat → ClassId} {ad : Nat → Nat} {cc : ByteArray} {nL : Nat} {ret : Option FieldType} {S : List zC} {I : zI} {lv : List (Nat × Value)} {st : List Value} {pc cells slots : Nat} (C : zCx p s m args meth c cc nL RL ret D B cA ad) {K : Int32 → zI → Prop} {xa1 : Int32} (hS : zOkM S)  (h : w_M_value xa1 I K) (hR : 3 + 1 ≤ R.frames ∧ 8 + (2 + 11) + (76) ≤ R.locals) (hw : (st.map fun v => v.category).sum ≤ 8) (hd : decode cc pc = .ok (.invokevirtual 141, 3)) (hf : cells ≤ R.cells ∧ slots ≤ R.slots) (kk : ∀ v I2, K v I2 → zX p l e R s m args below meth c Q D B cA nL cells slots S I2 lv (.int v :: st) (pc + 3)) : zX p l e R s m args below meth c Q D B cA nL cells slots S I lv (.int xa1 :: .ref (B + 491) :: st) pc :=
  zc_VqI C (ci := 12) (q := (RX12, TX12, 82)) (k := 491) (fs := [none, some (some 492), some (some 493), none, some (some 494), none, some (some 495), none, none, none, some (some 496), some (some 497), some (some 498), some (some 499), some (some 500), none, some (some 501), some (some 502), some (some 503), none, some (some 504), some (some 505), some (some 506), some (some 507), some (some 508), none, some (some 509), some (some 510), some (some 511), some (some 512), some (some 513), some (some 514), some (some 515), some (some 516), some (some 517), some (some 518), none, none, some (some 519), none, some (some 520), none, none, none, some (some 521), some (some 522), some (some 523), some (some 524), some (some 525), some (some 526), some (some 527), none, some (some 528), none, some (some 529), none, some (some 530), some (some 531), some (some 532), none, some (some 533), some (some 534), some (some 535), some (some 536), some (some 537), none, none, none, some (some 538), some (some 539), some (some 540), none, none, none, some (some 541), none, none, some (some 542), some (some 543), some (some 544), none, some (some 545)]) (As := [.int xa1]) (st := st) rfl (hS _ _ zs_491) (c_M_value hS h) (zgV zk_ml_L_141 zk_im_yX12_value zk_se_yX12_value zk_in_12 zk_cd_yX12_value) zsg_yX12_value hR rfl rfl hw hd hf kk
