def w_lawc_10 (L : Nat) (xs : Nat → Int32) (v3 : Int32) (I : zI) (J : zI → Prop) : Prop :=
  vp_in (v3 + 1) L ∧ (vp_in (v3 + 2) L ∧ (w_Desk_token (xs (Int32.toNatClampNeg (v3 + 1))) (xs (Int32.toNatClampNeg (v3 + 2))) I (fun r_1 => vp_in (v3 + 1) L ∧ (vp_in (v3 + 2) L ∧ (w_M_token (xs (Int32.toNatClampNeg (v3 + 1))) (xs (Int32.toNatClampNeg (v3 + 2))) I (fun r_2 => J I))))))
set_option maxHeartbeats 4000000 in
set_option maxRecDepth 20000 in
theorem zl_c10 {p : Program} {l : Launch} {e : Env} {s : State} {m : MethodId} {below : List Frame} {meth : Method} {c : Code} {D : va_G} {B : Nat} {cA : Nat → ClassId} {ad : Nat → Nat} {b L : Nat} {xs : Nat → Int32} {S : List zC} (C : zCx p s m #[Value.ref b] meth c cL_law 4 RL ret D B cA ad) (hX : va_X b L xs s s.heap) (hbl : b < s.heap.size) (hbA : ¬ B ≤ b) (hS : zOkM S) (hB : B = s.heap.size) {v3 : Int32} {I : zI} {J : zI → Prop} (h : w_lawc_10 L xs v3 I J) (kk : ∀ I2, J I2 → zX p l e room_1 s m #[Value.ref b] below meth c (lw_Z below #[Value.ref b] s) D B cA 4 546 406967 S I2 [(3, .int v3), (0, .ref b), (1, .ref (B + 0)), (2, .ref (B + 491))] [] 1245) : zX p l e room_1 s m #[Value.ref b] below meth c (lw_Z below #[Value.ref b] s) D B cA 4 546 406967 S I [(3, .int v3), (0, .ref b), (1, .ref (B + 0)), (2, .ref (B + 491))] [] 472 := by
  unfold w_lawc_10 at h
  refine zr_aload_n C dyL_law_472 rfl 2 rfl ?_
  refine zr_aload_n C dyL_law_473 rfl 1 rfl ?_
  refine zr_iload_n C dyL_law_474 rfl 0 rfl ?_
  refine zr_iconst C dyL_law_475 zc_i_1 ?_
  refine zr_iadd C dyL_law_476 ?_
  refine zr_sld C hX hbl hbA h.1 dyL_law_477 ?_
  replace h := h.2
  refine zr_aload_n C dyL_law_478 rfl 1 rfl ?_
  refine zr_iload_n C dyL_law_479 rfl 0 rfl ?_
  refine zr_iconst C dyL_law_480 zc_i_2 ?_
  refine zr_iadd C dyL_law_481 ?_
  refine zr_sld C hX hbl hbA h.1 dyL_law_482 ?_
  replace h := h.2
  refine zv_L_57t C hS.x (st := []) h ⟨Nat.le_of_ble_eq_true rfl, Nat.le_of_ble_eq_true rfl⟩ (Nat.le_of_ble_eq_true rfl) dyL_law_483 ⟨Nat.le_of_ble_eq_true rfl, Nat.le_of_ble_eq_true rfl⟩ (fun r_1 h => ?_)
  refine zr_pop C dyL_law_486 rfl ?_
  refine zr_aload_n C dyL_law_487 rfl 3 rfl ?_
  refine zr_aload_n C dyL_law_488 rfl 1 rfl ?_
  refine zr_iload_n C dyL_law_489 rfl 0 rfl ?_
  refine zr_iconst C dyL_law_490 zc_i_1 ?_
  refine zr_iadd C dyL_law_491 ?_
  refine zr_sld C hX hbl hbA h.1 dyL_law_492 ?_
  replace h := h.2
  refine zr_aload_n C dyL_law_493 rfl 1 rfl ?_
  refine zr_iload_n C dyL_law_494 rfl 0 rfl ?_
  refine zr_iconst C dyL_law_495 zc_i_2 ?_
  refine zr_iadd C dyL_law_496 ?_
  refine zr_sld C hX hbl hbA h.1 dyL_law_497 ?_
  replace h := h.2
  refine zv_L_60t C hS (st := []) h ⟨Nat.le_of_ble_eq_true rfl, Nat.le_of_ble_eq_true rfl⟩ (Nat.le_of_ble_eq_true rfl) dyL_law_498 ⟨Nat.le_of_ble_eq_true rfl, Nat.le_of_ble_eq_true rfl⟩ (fun r_2 h => ?_)
  refine zr_pop C dyL_law_501 rfl ?_
  refine zr_goto C dyL_law_502 (tgt := 1245) (by decide) ?_
  exact kk _ h
theorem zv_L_61t {p : Program} {l : Launch} {e : Env} {R : Room} {s : State} {m : MethodId} {args : Array Value} {below : List Frame} {meth : Method} {c : Code} {Q : State → Prop} {D : va_G} {B : Nat} {cA : Nat → ClassId} {ad : Nat → Nat} {cc : ByteArray} {nL : Nat} {ret : Option FieldType} {S : List zC} {I : zI} {lv : List (Nat × Value)} {st : List Value} {pc cells slots : Nat} (C : zCx p s m args meth c cc nL RL ret D B cA ad) {K : Int32 → Prop} {xa1 : Int32} (hS : zOkX S)  (h : w_Desk_good xa1 I K) (hR : 1 + 1 ≤ R.frames ∧ 8 + (3 + 11) + (21) ≤ R.locals) (hw : (st.map fun v => v.category).sum ≤ 8) (hd : decode cc pc = .ok (.invokevirtual 61, 3)) (hf : cells ≤ R.cells ∧ slots ≤ R.slots) (kk : ∀ v, K v → zX p l e R s m args below meth c Q D B cA nL cells slots S I lv (.int v :: st) (pc + 3)) : zX p l e R s m args below meth c Q D B cA nL cells slots S I lv (.int xa1 :: .ref (B + 0) :: st) pc :=
  zc_VpI C (ci := 11) (q := (RX11, TX11, 19)) (k := 0) (fs := [some (some 1), none, some (some 3), some (some 4), none, none, none, none, some (some 22), some (some 24), some (some 43), some (some 64), some (some 69), some (some 88), some (some 97), some (some 100), some (some 109), some (some 111), none]) (As := [.int xa1]) (st := st) rfl (hS _ _ zs_0) (c_Desk_good hS h) (zgV zk_ml_L_61 zk_im_yX11_good zk_se_yX11_good zk_in_11 zk_cd_yX11_good) zsg_yX11_good hR rfl rfl hw hd hf kk
theorem zv_L_64t {p : Program} {l : Launch} {e : Env} {R : Room} {s : State} {m : MethodId} {args : Array Value} {below : List Frame} {meth : Method} {c : Code} {Q : State → Prop} {D : va_G} {B : Nat} {cA : Nat → ClassId} {ad : Nat → Nat} {cc : ByteArray} {nL : Nat} {ret : Option FieldType} {S : List zC} {I : zI} {lv : List (Nat × Value)} {st : List Value} {pc cells slots : Nat} (C : zCx p s m args meth c cc nL RL ret D B cA ad) {K : Int32 → Prop} {xa1 : Int32} (hS : zOkM S)  (h : w_M_good xa1 I K) (hR : 2 + 1 ≤ R.frames ∧ 8 + (2 + 11) + (43) ≤ R.locals) (hw : (st.map fun v => v.category).sum ≤ 8) (hd : decode cc pc = .ok (.invokevirtual 64, 3)) (hf : cells ≤ R.cells ∧ slots ≤ R.slots) (kk : ∀ v, K v → zX p l e R s m args below meth c Q D B cA nL cells slots S I lv (.int v :: st) (pc + 3)) : zX p l e R s m args below meth c Q D B cA nL cells slots S I lv (.int xa1 :: .ref (B + 491) :: st) pc :=
  zc_VpI C (ci := 12) (q := (RX12, TX12, 82)) (k := 491) (fs := [none, some (some 492), some (some 493), none, some (some 494), none, some (some 495), none, none, none, some (some 496), some (some 497), some (some 498), some (some 499), some (some 500), none, some (some 501), some (some 502), some (some 503), none, some (some 504), some (some 505), some (some 506), some (some 507), some (some 508), none, some (some 509), some (some 510), some (some 511), some (some 512), some (some 513), some (some 514), some (some 515), some (some 516), some (some 517), some (some 518), none, none, some (some 519), none, some (some 520), none, none, none, some (some 521), some (some 522), some (some 523), some (some 524), some (some 525), some (some 526), some (some 527), none, some (some 528), none, some (some 529), none, some (some 530), some (some 531), some (some 532), none, some (some 533), some (some 534), some (some 535), some (some 536), some (some 537), none, none, none, some (some 538), some (some 539), some (some 540), none, none, none, some (some 541), none, none, some (some 542), some (some 543), some (some 544), none, some (some 545)]) (As := [.int xa1]) (st := st) rfl (hS _ _ zs_491) (c_M_good hS h) (zgV zk_ml_L_64 zk_im_yX12_good zk_se_yX12_good zk_in_12 zk_cd_yX12_good) zsg_yX12_good hR rfl rfl hw hd hf kk
def w_lawc_11 (L : Nat) (xs : Nat → Int32) (v3 : Int32) (I : zI) (J : zI → Prop) : Prop :=
  vp_in (v3 + 1) L ∧ (w_Desk_good (xs (Int32.toNatClampNeg (v3 + 1))) I (fun r_1 => vp_in (v3 + 1) L ∧ (w_M_good (xs (Int32.toNatClampNeg (v3 + 1))) I (fun r_2 => J I))))
set_option maxHeartbeats 4000000 in
set_option maxRecDepth 20000 in
theorem zl_c11 {p : Program} {l : Launch} {e : Env} {s : State} {m : MethodId} {below : List Frame} {meth : Method} {c : Code} {D : va_G} {B : Nat} {cA : Nat → ClassId} {ad : Nat → Nat} {b L : Nat} {xs : Nat → Int32} {S : List zC} (C : zCx p s m #[Value.ref b] meth c cL_law 4 RL ret D B cA ad) (hX : va_X b L xs s s.heap) (hbl : b < s.heap.size) (hbA : ¬ B ≤ b) (hS : zOkM S) (hB : B = s.heap.size) {v3 : Int32} {I : zI} {J : zI → Prop} (h : w_lawc_11 L xs v3 I J) (kk : ∀ I2, J I2 → zX p l e room_1 s m #[Value.ref b] below meth c (lw_Z below #[Value.ref b] s) D B cA 4 546 406967 S I2 [(3, .int v3), (0, .ref b), (1, .ref (B + 0)), (2, .ref (B + 491))] [] 1245) : zX p l e room_1 s m #[Value.ref b] below meth c (lw_Z below #[Value.ref b] s) D B cA 4 546 406967 S I [(3, .int v3), (0, .ref b), (1, .ref (B + 0)), (2, .ref (B + 491))] [] 505 := by
  unfold w_lawc_11 at h
  refine zr_aload_n C dyL_law_505 rfl 2 rfl ?_
  refine zr_aload_n C dyL_law_506 rfl 1 rfl ?_
  refine zr_iload_n C dyL_law_507 rfl 0 rfl ?_
  refine zr_iconst C dyL_law_508 zc_i_1 ?_
  refine zr_iadd C dyL_law_509 ?_
  refine zr_sld C hX hbl hbA h.1 dyL_law_510 ?_
  replace h := h.2
  refine zv_L_61t C hS.x (st := []) h ⟨Nat.le_of_ble_eq_true rfl, Nat.le_of_ble_eq_true rfl⟩ (Nat.le_of_ble_eq_true rfl) dyL_law_511 ⟨Nat.le_of_ble_eq_true rfl, Nat.le_of_ble_eq_true rfl⟩ (fun r_1 h => ?_)
  refine zr_pop C dyL_law_514 rfl ?_
  refine zr_aload_n C dyL_law_515 rfl 3 rfl ?_
  refine zr_aload_n C dyL_law_516 rfl 1 rfl ?_
  refine zr_iload_n C dyL_law_517 rfl 0 rfl ?_
  refine zr_iconst C dyL_law_518 zc_i_1 ?_
  refine zr_iadd C dyL_law_519 ?_
  refine zr_sld C hX hbl hbA h.1 dyL_law_520 ?_
  replace h := h.2
  refine zv_L_64t C hS (st := []) h ⟨Nat.le_of_ble_eq_true rfl, Nat.le_of_ble_eq_true rfl⟩ (Nat.le_of_ble_eq_true rfl) dyL_law_521 ⟨Nat.le_of_ble_eq_true rfl, Nat.le_of_ble_eq_true rfl⟩ (fun r_2 h => ?_)
  refine zr_pop C dyL_law_524 rfl ?_
  refine zr_goto C dyL_law_525 (tgt := 1245) (by decide) ?_
  exact kk _ h
theorem zv_L_65t {p : Program} {l : Launch} {e : Env} {R : Room} {s : State} {m : MethodId} {args : Array Value} {below : List Frame} {meth : Method} {c : Code} {Q : State → Prop} {D : va_G} {B : Nat} {cA : Nat → ClassId} {ad : Nat → Nat} {cc : ByteArray} {nL : Nat} {ret : Option FieldType} {S : List zC} {I : zI} {lv : List (Nat × Value)} {st : List Value} {pc cells slots : Nat} (C : zCx p s m args meth c cc nL RL ret D B cA ad) {K : Int32 → Prop} {xa1 : Int32} {xa2 : Int32} (hS : zOkX S)  (h : w_Desk_node xa1 xa2 I K) (hR : 3 + 1 ≤ R.frames ∧ 8 + (3 + 11) + (64) ≤ R.locals) (hw : (st.map fun v => v.category).sum ≤ 8) (hd : decode cc pc = .ok (.invokevirtual 65, 3)) (hf : cells ≤ R.cells ∧ slots ≤ R.slots) (kk : ∀ v, K v → zX p l e R s m args below meth c Q D B cA nL cells slots S I lv (.int v :: st) (pc + 3)) : zX p l e R s m args below meth c Q D B cA nL cells slots S I lv (.int xa2 :: .int xa1 :: .ref (B + 0) :: st) pc :=
  zc_VpI C (ci := 11) (q := (RX11, TX11, 19)) (k := 0) (fs := [some (some 1), none, some (some 3), some (some 4), none, none, none, none, some (some 22), some (some 24), some (some 43), some (some 64), some (some 69), some (some 88), some (some 97), some (some 100), some (some 109), some (some 111), none]) (As := [.int xa1, .int xa2]) (st := st) rfl (hS _ _ zs_0) (c_Desk_node hS h) (zgV zk_ml_L_65 zk_im_yX11_node zk_se_yX11_node zk_in_11 zk_cd_yX11_node) zsg_yX11_node hR rfl rfl hw hd hf kk
theorem zv_L_68t {p : Program} {l : Launch} {e : Env} {R : Room} {s : State} {m : MethodId} {args : Array Value} {below : List Frame} {meth : Method} {c : Code} {Q : State → Prop} {D : va_G} {B : Nat} {cA : Nat → ClassId} {ad : Nat → Nat} {cc : ByteArray} {nL : Nat} {ret : Option FieldType} {S : List zC} {I : zI} {lv : List (Nat × Value)} {st : List Value} {pc cells slots : Nat} (C : zCx p s m args meth c cc nL RL ret D B cA ad) {K : Int32 → Prop} {xa1 : Int32} {xa2 : Int32} (hS : zOkM S)  (h : w_M_node xa1 xa2 I K) (hR : 1 + 1 ≤ R.frames ∧ 8 + (4 + 11) + (22) ≤ R.locals) (hw : (st.map fun v => v.category).sum ≤ 8) (hd : decode cc pc = .ok (.invokevirtual 68, 3)) (hf : cells ≤ R.cells ∧ slots ≤ R.slots) (kk : ∀ v, K v → zX p l e R s m args below meth c Q D B cA nL cells slots S I lv (.int v :: st) (pc + 3)) : zX p l e R s m args below meth c Q D B cA nL cells slots S I lv (.int xa2 :: .int xa1 :: .ref (B + 491) :: st) pc :=
  zc_VpI C (ci := 12) (q := (RX12, TX12, 82)) (k := 491) (fs := [none, some (some 492), some (some 493), none, some (some 494), none, some (some 495), none, none, none, some (some 496), some (some 497), some (some 498), some (some 499), some (some 500), none, some (some 501), some (some 502), some (some 503), none, some (some 504), some (some 505), some (some 506), some (some 507), some (some 508), none, some (some 509), some (some 510), some (some 511), some (some 512), some (some 513), some (some 514), some (some 515), some (some 516), some (some 517), some (some 518), none, none, some (some 519), none, some (some 520), none, none, none, some (some 521), some (some 522), some (some 523), some (some 524), some (some 525), some (some 526), some (some 527), none, some (some 528), none, some (some 529), none, some (some 530), some (some 531), some (some 532), none, some (some 533), some (some 534), some (some 535), some (some 536), some (some 537), none, none, none, some (some 538), some (some 539), some (some 540), none, none, none, some (some 541), none, none, some (some 542), some (some 543), some (some 544), none, some (some 545)]) (As := [.int xa1, .int xa2]) (st := st) rfl (hS _ _ zs_491) (c_M_node hS h) (zgV zk_ml_L_68 zk_im_yX12_node zk_se_yX12_node zk_in_12 zk_cd_yX12_node) zsg_yX12_node hR rfl rfl hw hd hf kk
def w_lawc_12 (L : Nat) (xs : Nat → Int32) (v3 : Int32) (I : zI) (J : zI → Prop) : Prop :=
  vp_in (v3 + 1) L ∧ (vp_in (v3 + 2) L ∧ (w_Desk_node (xs (Int32.toNatClampNeg (v3 + 1))) (xs (Int32.toNatClampNeg (v3 + 2))) I (fun r_1 => vp_in (v3 + 1) L ∧ (vp_in (v3 + 2) L ∧ (w_M_node (xs (Int32.toNatClampNeg (v3 + 1))) (xs (Int32.toNatClampNeg (v3 + 2))) I (fun r_2 => J I))))))
set_option maxHeartbeats 4000000 in
set_option maxRecDepth 20000 in
theorem zl_c12 {p : Program} {l : Launch} {e : Env} {s : State} {m : MethodId} {below : List Frame} {meth : Method} {c : Code} {D : va_G} {B : Nat} {cA : Nat → ClassId} {ad : Nat → Nat} {b L : Nat} {xs : Nat → Int32} {S : List zC} (C : zCx p s m #[Value.ref b] meth c cL_law 4 RL ret D B cA ad) (hX : va_X b L xs s s.heap) (hbl : b < s.heap.size) (hbA : ¬ B ≤ b) (hS : zOkM S) (hB : B = s.heap.size) {v3 : Int32} {I : zI} {J : zI → Prop} (h : w_lawc_12 L xs v3 I J) (kk : ∀ I2, J I2 → zX p l e room_1 s m #[Value.ref b] below meth c (lw_Z below #[Value.ref b] s) D B cA 4 546 406967 S I2 [(3, .int v3), (0, .ref b), (1, .ref (B + 0)), (2, .ref (B + 491))] [] 1245) : zX p l e room_1 s m #[Value.ref b] below meth c (lw_Z below #[Value.ref b] s) D B cA 4 546 406967 S I [(3, .int v3), (0, .ref b), (1, .ref (B + 0)), (2, .ref (B + 491))] [] 528 := by
  unfold w_lawc_12 at h
  refine zr_aload_n C dyL_law_528 rfl 2 rfl ?_
  refine zr_aload_n C dyL_law_529 rfl 1 rfl ?_
  refine zr_iload_n C dyL_law_530 rfl 0 rfl ?_
  refine zr_iconst C dyL_law_531 zc_i_1 ?_
  refine zr_iadd C dyL_law_532 ?_
  refine zr_sld C hX hbl hbA h.1 dyL_law_533 ?_
  replace h := h.2
  refine zr_aload_n C dyL_law_534 rfl 1 rfl ?_
  refine zr_iload_n C dyL_law_535 rfl 0 rfl ?_
  refine zr_iconst C dyL_law_536 zc_i_2 ?_
  refine zr_iadd C dyL_law_537 ?_
  refine zr_sld C hX hbl hbA h.1 dyL_law_538 ?_
  replace h := h.2
  refine zv_L_65t C hS.x (st := []) h ⟨Nat.le_of_ble_eq_true rfl, Nat.le_of_ble_eq_true rfl⟩ (Nat.le_of_ble_eq_true rfl) dyL_law_539 ⟨Nat.le_of_ble_eq_true rfl, Nat.le_of_ble_eq_true rfl⟩ (fun r_1 h => ?_)
  refine zr_pop C dyL_law_542 rfl ?_
  refine zr_aload_n C dyL_law_543 rfl 3 rfl ?_
  refine zr_aload_n C dyL_law_544 rfl 1 rfl ?_
  refine zr_iload_n C dyL_law_545 rfl 0 rfl ?_
  refine zr_iconst C dyL_law_546 zc_i_1 ?_
  refine zr_iadd C dyL_law_547 ?_
  refine zr_sld C hX hbl hbA h.1 dyL_law_548 ?_
  replace h := h.2
  refine zr_aload_n C dyL_law_549 rfl 1 rfl ?_
  refine zr_iload_n C dyL_law_550 rfl 0 rfl ?_
  refine zr_iconst C dyL_law_551 zc_i_2 ?_
  refine zr_iadd C dyL_law_552 ?_
  refine zr_sld C hX hbl hbA h.1 dyL_law_553 ?_
  replace h := h.2
  refine zv_L_68t C hS (st := []) h ⟨Nat.le_of_ble_eq_true rfl, Nat.le_of_ble_eq_true rfl⟩ (Nat.le_of_ble_eq_true rfl) dyL_law_554 ⟨Nat.le_of_ble_eq_true rfl, Nat.le_of_ble_eq_true rfl⟩ (fun r_2 h => ?_)
  refine zr_pop C dyL_law_557 rfl ?_
  refine zr_goto C dyL_law_558 (tgt := 1245) (by decide) ?_
  exact kk _ h
theorem zv_L_69t {p : Program} {l : Launch} {e : Env} {R : Room} {s : State} {m : MethodId} {args : Array Value} {below : List Frame} {meth : Method} {c : Code} {Q : State → Prop} {D : va_G} {B : Nat} {cA : Nat → ClassId} {ad : Nat → Nat} {cc : ByteArray} {nL : Nat} {ret : Option FieldType} {S : List zC} {I : zI} {lv : List (Nat × Value)} {st : List Value} {pc cells slots : Nat} (C : zCx p s m args meth c cc nL RL ret D B cA ad) {K : Int32 → Prop} {xa1 : Int32} {xa2 : Int32} (hS : zOkX S)  (h : w_Desk_child xa1 xa2 I K) (hR : 2 + 1 ≤ R.frames ∧ 8 + (3 + 11) + (43) ≤ R.locals) (hw : (st.map fun v => v.category).sum ≤ 8) (hd : decode cc pc = .ok (.invokevirtual 69, 3)) (hf : cells ≤ R.cells ∧ slots ≤ R.slots) (kk : ∀ v, K v → zX p l e R s m args below meth c Q D B cA nL cells slots S I lv (.int v :: st) (pc + 3)) : zX p l e R s m args below meth c Q D B cA nL cells slots S I lv (.int xa2 :: .int xa1 :: .ref (B + 0) :: st) pc :=
  zc_VpI C (ci := 11) (q := (RX11, TX11, 19)) (k := 0) (fs := [some (some 1), none, some (some 3), some (some 4), none, none, none, none, some (some 22), some (some 24), some (some 43), some (some 64), some (some 69), some (some 88), some (some 97), some (some 100), some (some 109), some (some 111), none]) (As := [.int xa1, .int xa2]) (st := st) rfl (hS _ _ zs_0) (c_Desk_child hS h) (zgV zk_ml_L_69 zk_im_yX11_child zk_se_yX11_child zk_in_11 zk_cd_yX11_child) zsg_yX11_child hR rfl rfl hw hd hf kk
theorem zv_L_72t {p : Program} {l : Launch} {e : Env} {R : Room} {s : State} {m : MethodId} {args : Array Value} {below : List Frame} {meth : Method} {c : Code} {Q : State → Prop} {D : va_G} {B : Nat} {cA : Nat → ClassId} {ad : Nat → Nat} {cc : ByteArray} {nL : Nat} {ret : Option FieldType} {S : List zC} {I : zI} {lv : List (Nat × Value)} {st : List Value} {pc cells slots : Nat} (C : zCx p s m args meth c cc nL RL ret D B cA ad) {K : Int32 → Prop} {xa1 : Int32} {xa2 : Int32} (hS : zOkM S)  (h : w_M_child xa1 xa2 I K) (hR : 1 + 1 ≤ R.frames ∧ 8 + (3 + 11) + (22) ≤ R.locals) (hw : (st.map fun v => v.category).sum ≤ 8) (hd : decode cc pc = .ok (.invokevirtual 72, 3)) (hf : cells ≤ R.cells ∧ slots ≤ R.slots) (kk : ∀ v, K v → zX p l e R s m args below meth c Q D B cA nL cells slots S I lv (.int v :: st) (pc + 3)) : zX p l e R s m args below meth c Q D B cA nL cells slots S I lv (.int xa2 :: .int xa1 :: .ref (B + 491) :: st) pc :=
  zc_VpI C (ci := 12) (q := (RX12, TX12, 82)) (k := 491) (fs := [none, some (some 492), some (some 493), none, some (some 494), none, some (some 495), none, none, none, some (some 496), some (some 497), some (some 498), some (some 499), some (some 500), none, some (some 501), some (some 502), some (some 503), none, some (some 504), some (some 505), some (some 506), some (some 507), some (some 508), none, some (some 509), some (some 510), some (some 511), some (some 512), some (some 513), some (some 514), some (some 515), some (some 516), some (some 517), some (some 518), none, none, some (some 519), none, some (some 520), none, none, none, some (some 521), some (some 522), some (some 523), some (some 524), some (some 525), some (some 526), some (some 527), none, some (some 528), none, some (some 529), none, some (some 530), some (some 531), some (some 532), none, some (some 533), some (some 534), some (some 535), some (some 536), some (some 537), none, none, none, some (some 538), some (some 539), some (some 540), none, none, none, some (some 541), none, none, some (some 542), some (some 543), some (some 544), none, some (some 545)]) (As := [.int xa1, .int xa2]) (st := st) rfl (hS _ _ zs_491) (c_M_child hS h) (zgV zk_ml_L_72 zk_im_yX12_child zk_se_yX12_child zk_in_12 zk_cd_yX12_child) zsg_yX12_child hR rfl rfl hw hd hf kk
def w_lawc_13 (L : Nat) (xs : Nat → Int32) (v3 : Int32) (I : zI) (J : zI → Prop) : Prop :=
  vp_in (v3 + 1) L ∧ (vp_in (v3 + 2) L ∧ (w_Desk_child (xs (Int32.toNatClampNeg (v3 + 1))) (xs (Int32.toNatClampNeg (v3 + 2))) I (fun r_1 => vp_in (v3 + 1) L ∧ (vp_in (v3 + 2) L ∧ (w_M_child (xs (Int32.toNatClampNeg (v3 + 1))) (xs (Int32.toNatClampNeg (v3 + 2))) I (fun r_2 => J I))))))
set_option maxHeartbeats 4000000 in
set_option maxRecDepth 20000 in
theorem zl_c13 {p : Program} {l : Launch} {e : Env} {s : State} {m : MethodId} {below : List Frame} {meth : Method} {c : Code} {D : va_G} {B : Nat} {cA : Nat → ClassId} {ad : Nat → Nat} {b L : Nat} {xs : Nat → Int32} {S : List zC} (C : zCx p s m #[Value.ref b] meth c cL_law 4 RL ret D B cA ad) (hX : va_X b L xs s s.heap) (hbl : b < s.heap.size) (hbA : ¬ B ≤ b) (hS : zOkM S) (hB : B = s.heap.size) {v3 : Int32} {I : zI} {J : zI → Prop} (h : w_lawc_13 L xs v3 I J) (kk : ∀ I2, J I2 → zX p l e room_1 s m #[Value.ref b] below meth c (lw_Z below #[Value.ref b] s) D B cA 4 546 406967 S I2 [(3, .int v3), (0, .ref b), (1, .ref (B + 0)), (2, .ref (B + 491))] [] 1245) : zX p l e room_1 s m #[Value.ref b] below meth c (lw_Z below #[Value.ref b] s) D B cA 4 546 406967 S I [(3, .int v3), (0, .ref b), (1, .ref (B + 0)), (2, .ref (B + 491))] [] 561 := by
  unfold w_lawc_13 at h
  refine zr_aload_n C dyL_law_561 rfl 2 rfl ?_
  refine zr_aload_n C dyL_law_562 rfl 1 rfl ?_
  refine zr_iload_n C dyL_law_563 rfl 0 rfl ?_
  refine zr_iconst C dyL_law_564 zc_i_1 ?_
  refine zr_iadd C dyL_law_565 ?_
  refine zr_sld C hX hbl hbA h.1 dyL_law_566 ?_
  replace h := h.2
  refine zr_aload_n C dyL_law_567 rfl 1 rfl ?_
  refine zr_iload_n C dyL_law_568 rfl 0 rfl ?_
  refine zr_iconst C dyL_law_569 zc_i_2 ?_
  refine zr_iadd C dyL_law_570 ?_
  refine zr_sld C hX hbl hbA h.1 dyL_law_571 ?_
  replace h := h.2
  refine zv_L_69t C hS.x (st := []) h ⟨Nat.le_of_ble_eq_true rfl, Nat.le_of_ble_eq_true rfl⟩ (Nat.le_of_ble_eq_true rfl) dyL_law_572 ⟨Nat.le_of_ble_eq_true rfl, Nat.le_of_ble_eq_true rfl⟩ (fun r_1 h => ?_)
  refine zr_pop C dyL_law_575 rfl ?_
  refine zr_aload_n C dyL_law_576 rfl 3 rfl ?_
  refine zr_aload_n C dyL_law_577 rfl 1 rfl ?_
  refine zr_iload_n C dyL_law_578 rfl 0 rfl ?_
  refine zr_iconst C dyL_law_579 zc_i_1 ?_
  refine zr_iadd C dyL_law_580 ?_
  refine zr_sld C hX hbl hbA h.1 dyL_law_581 ?_
  replace h := h.2
  refine zr_aload_n C dyL_law_582 rfl 1 rfl ?_
  refine zr_iload_n C dyL_law_583 rfl 0 rfl ?_
  refine zr_iconst C dyL_law_584 zc_i_2 ?_
  refine zr_iadd C dyL_law_585 ?_
  refine zr_sld C hX hbl hbA h.1 dyL_law_586 ?_
  replace h := h.2
  refine zv_L_72t C hS (st := []) h ⟨Nat.le_of_ble_eq_true rfl, Nat.le_of_ble_eq_true rfl⟩ (Nat.le_of_ble_eq_true rfl) dyL_law_587 ⟨Nat.le_of_ble_eq_true rfl, Nat.le_of_ble_eq_true rfl⟩ (fun r_2 h => ?_)
  refine zr_pop C dyL_law_590 rfl ?_
  refine zr_goto C dyL_law_591 (tgt := 1245) (by decide) ?_
  exact kk _ h
theorem zv_L_73t {p : Program} {l : Launch} {e : Env} {R : Room} {s : State} {m : MethodId} {args : Array Value} {below : List Frame} {meth : Method} {c : Code} {Q : State → Prop} {D : va_G} {B : Nat} {cA : Nat → ClassId} {ad : Nat → Nat} {cc : ByteArray} {nL : Nat} {ret : Option FieldType} {S : List zC} {I : zI} {lv : List (Nat × Value)} {st : List Value} {pc cells slots : Nat} (C : zCx p s m args meth c cc nL RL ret D B cA ad) {K : Int32 → Prop} {xa1 : Int32} (hS : zOkX S)  (h : w_Desk_last xa1 I K) (hR : 1 + 1 ≤ R.frames ∧ 8 + (2 + 11) + (21) ≤ R.locals) (hw : (st.map fun v => v.category).sum ≤ 8) (hd : decode cc pc = .ok (.invokevirtual 73, 3)) (hf : cells ≤ R.cells ∧ slots ≤ R.slots) (kk : ∀ v, K v → zX p l e R s m args below meth c Q D B cA nL cells slots S I lv (.int v :: st) (pc + 3)) : zX p l e R s m args below meth c Q D B cA nL cells slots S I lv (.int xa1 :: .ref (B + 0) :: st) pc :=
  zc_VpI C (ci := 11) (q := (RX11, TX11, 19)) (k := 0) (fs := [some (some 1), none, some (some 3), some (some 4), none, none, none, none, some (some 22), some (some 24), some (some 43), some (some 64), some (some 69), some (some 88), some (some 97), some (some 100), some (some 109), some (some 111), none]) (As := [.int xa1]) (st := st) rfl (hS _ _ zs_0) (c_Desk_last hS h) (zgV zk_ml_L_73 zk_im_yX11_last zk_se_yX11_last zk_in_11 zk_cd_yX11_last) zsg_yX11_last hR rfl rfl hw hd hf kk
theorem zv_L_76t {p : Program} {l : Launch} {e : Env} {R : Room} {s : State} {m : MethodId} {args : Array Value} {below : List Frame} {meth : Method} {c : Code} {Q : State → Prop} {D : va_G} {B : Nat} {cA : Nat → ClassId} {ad : Nat → Nat} {cc : ByteArray} {nL : Nat} {ret : Option FieldType} {S : List zC} {I : zI} {lv : List (Nat × Value)} {st : List Value} {pc cells slots : Nat} (C : zCx p s m args meth c cc nL RL ret D B cA ad) {K : Int32 → Prop} {xa1 : Int32} (hS : zOkM S)  (h : w_M_last xa1 I K) (hR : 1 + 1 ≤ R.frames ∧ 8 + (2 + 11) + (22) ≤ R.locals) (hw : (st.map fun v => v.category).sum ≤ 8) (hd : decode cc pc = .ok (.invokevirtual 76, 3)) (hf : cells ≤ R.cells ∧ slots ≤ R.slots) (kk : ∀ v, K v → zX p l e R s m args below meth c Q D B cA nL cells slots S I lv (.int v :: st) (pc + 3)) : zX p l e R s m args below meth c Q D B cA nL cells slots S I lv (.int xa1 :: .ref (B + 491) :: st) pc :=
  zc_VpI C (ci := 12) (q := (RX12, TX12, 82)) (k := 491) (fs := [none, some (some 492), some (some 493), none, some (some 494), none, some (some 495), none, none, none, some (some 496), some (some 497), some (some 498), some (some 499), some (some 500), none, some (some 501), some (some 502), some (some 503), none, some (some 504), some (some 505), some (some 506), some (some 507), some (some 508), none, some (some 509), some (some 510), some (some 511), some (some 512), some (some 513), some (some 514), some (some 515), some (some 516), some (some 517), some (some 518), none, none, some (some 519), none, some (some 520), none, none, none, some (some 521), some (some 522), some (some 523), some (some 524), some (some 525), some (some 526), some (some 527), none, some (some 528), none, some (some 529), none, some (some 530), some (some 531), some (some 532), none, some (some 533), some (some 534), some (some 535), some (some 536), some (some 537), none, none, none, some (some 538), some (some 539), some (some 540), none, none, none, some (some 541), none, none, some (some 542), some (some 543), some (some 544), none, some (some 545)]) (As := [.int xa1]) (st := st) rfl (hS _ _ zs_491) (c_M_last hS h) (zgV zk_ml_L_76 zk_im_yX12_last zk_se_yX12_last zk_in_12 zk_cd_yX12_last) zsg_yX12_last hR rfl rfl hw hd hf kk
def w_lawc_14 (L : Nat) (xs : Nat → Int32) (v3 : Int32) (I : zI) (J : zI → Prop) : Prop :=
  vp_in (v3 + 1) L ∧ (w_Desk_last (xs (Int32.toNatClampNeg (v3 + 1))) I (fun r_1 => vp_in (v3 + 1) L ∧ (w_M_last (xs (Int32.toNatClampNeg (v3 + 1))) I (fun r_2 => J I))))
set_option maxHeartbeats 4000000 in
set_option maxRecDepth 20000 in
theorem zl_c14 {p : Program} {l : Launch} {e : Env} {s : State} {m : MethodId} {below : List Frame} {meth : Method} {c : Code} {D : va_G} {B : Nat} {cA : Nat → ClassId} {ad : Nat → Nat} {b L : Nat} {xs : Nat → Int32} {S : List zC} (C : zCx p s m #[Value.ref b] meth c cL_law 4 RL ret D B cA ad) (hX : va_X b L xs s s.heap) (hbl : b < s.heap.size) (hbA : ¬ B ≤ b) (hS : zOkM S) (hB : B = s.heap.size) {v3 : Int32} {I : zI} {J : zI → Prop} (h : w_lawc_14 L xs v3 I J) (kk : ∀ I2, J I2 → zX p l e room_1 s m #[Value.ref b] below meth c (lw_Z below #[Value.ref b] s) D B cA 4 546 406967 S I2 [(3, .int v3), (0, .ref b), (1, .ref (B + 0)), (2, .ref (B + 491))] [] 1245) : zX p l e room_1 s m #[Value.ref b] below meth c (lw_Z below #[Value.ref b] s) D B cA 4 546 406967 S I [(3, .int v3), (0, .ref b), (1, .ref (B + 0)), (2, .ref (B + 491))] [] 594 := by
  unfold w_lawc_14 at h
  refine zr_aload_n C dyL_law_594 rfl 2 rfl ?_
  refine zr_aload_n C dyL_law_595 rfl 1 rfl ?_
  refine zr_iload_n C dyL_law_596 rfl 0 rfl ?_
  refine zr_iconst C dyL_law_597 zc_i_1 ?_
  refine zr_iadd C dyL_law_598 ?_
  refine zr_sld C hX hbl hbA h.1 dyL_law_599 ?_
  replace h := h.2
  refine zv_L_73t C hS.x (st := []) h ⟨Nat.le_of_ble_eq_true rfl, Nat.le_of_ble_eq_true rfl⟩ (Nat.le_of_ble_eq_true rfl) dyL_law_600 ⟨Nat.le_of_ble_eq_true rfl, Nat.le_of_ble_eq_true rfl⟩ (fun r_1 h => ?_)
  refine zr_pop C dyL_law_603 rfl ?_
  refine zr_aload_n C dyL_law_604 rfl 3 rfl ?_
  refine zr_aload_n C dyL_law_605 rfl 1 rfl ?_
  refine zr_iload_n C dyL_law_606 rfl 0 rfl ?_
  refine zr_iconst C dyL_law_607 zc_i_1 ?_
  refine zr_iadd C dyL_law_608 ?_
  refine zr_sld C hX hbl hbA h.1 dyL_law_609 ?_
  replace h := h.2
  refine zv_L_76t C hS (st := []) h ⟨Nat.le_of_ble_eq_true rfl, Nat.le_of_ble_eq_true rfl⟩ (Nat.le_of_ble_eq_true rfl) dyL_law_610 ⟨Nat.le_of_ble_eq_true rfl, Nat.le_of_ble_eq_true rfl⟩ (fun r_2 h => ?_)
  refine zr_pop C dyL_law_613 rfl ?_
  refine zr_goto C dyL_law_614 (tgt := 1245) (by decide) ?_
  exact kk _ h
theorem zv_L_77t {p : Program} {l : Launch} {e : Env} {R : Room} {s : State} {m : MethodId} {args : Array Value} {below : List Frame} {meth : Method} {c : Code} {Q : State → Prop} {D : va_G} {B : Nat} {cA : Nat → ClassId} {ad : Nat → Nat} {cc : ByteArray} {nL : Nat} {ret : Option FieldType} {S : List zC} {I : zI} {lv : List (Nat × Value)} {st : List Value} {pc cells slots : Nat} (C : zCx p s m args meth c cc nL RL ret D B cA ad) {K : Int32 → Prop}  (hS : zOkX S)  (h : w_Desk_fresh I K) (hR : 0 + 1 ≤ R.frames ∧ 8 + (1 + 11) + (0) ≤ R.locals) (hw : (st.map fun v => v.category).sum ≤ 8) (hd : decode cc pc = .ok (.invokevirtual 77, 3)) (hf : cells ≤ R.cells ∧ slots ≤ R.slots) (kk : ∀ v, K v → zX p l e R s m args below meth c Q D B cA nL cells slots S I lv (.int v :: st) (pc + 3)) : zX p l e R s m args below meth c Q D B cA nL cells slots S I lv (.ref (B + 0) :: st) pc :=
  zc_VpI C (ci := 11) (q := (RX11, TX11, 19)) (k := 0) (fs := [some (some 1), none, some (some 3), some (some 4), none, none, none, none, some (some 22), some (some 24), some (some 43), some (some 64), some (some 69), some (some 88), some (some 97), some (some 100), some (some 109), some (some 111), none]) (As := []) (st := st) rfl (hS _ _ zs_0) (c_Desk_fresh hS h) (zgV zk_ml_L_77 zk_im_yX11_fresh zk_se_yX11_fresh zk_in_11 zk_cd_yX11_fresh) zsg_yX11_fresh hR rfl rfl hw hd hf kk
theorem zv_L_81t {p : Program} {l : Launch} {e : Env} {R : Room} {s : State} {m : MethodId} {args : Array Value} {below : List Frame} {meth : Method} {c : Code} {Q : State → Prop} {D : va_G} {B : Nat} {cA : Nat → ClassId} {ad : Nat → Nat} {cc : ByteArray} {nL : Nat} {ret : Option FieldType} {S : List zC} {I : zI} {lv : List (Nat × Value)} {st : List Value} {pc cells slots : Nat} (C : zCx p s m args meth c cc nL RL ret D B cA ad) {K : Int32 → zI → Prop}  (hS : zOkM S)  (h : w_M_fresh I K) (hR : 3 + 1 ≤ R.frames ∧ 8 + (2 + 11) + (66) ≤ R.locals) (hw : (st.map fun v => v.category).sum ≤ 8) (hd : decode cc pc = .ok (.invokevirtual 81, 3)) (hf : cells ≤ R.cells ∧ slots ≤ R.slots) (kk : ∀ v I2, K v I2 → zX p l e R s m args below meth c Q D B cA nL cells slots S I2 lv (.int v :: st) (pc + 3)) : zX p l e R s m args below meth c Q D B cA nL cells slots S I lv (.ref (B + 491) :: st) pc :=
  zc_VqI C (ci := 12) (q := (RX12, TX12, 82)) (k := 491) (fs := [none, some (some 492), some (some 493), none, some (some 494), none, some (some 495), none, none, none, some (some 496), some (some 497), some (some 498), some (some 499), some (some 500), none, some (some 501), some (some 502), some (some 503), none, some (some 504), some (some 505), some (some 506), some (some 507), some (some 508), none, some (some 509), some (some 510), some (some 511), some (some 512), some (some 513), some (some 514), some (some 515), some (some 516), some (some 517), some (some 518), none, none, some (some 519), none, some (some 520), none, none, none, some (some 521), some (some 522), some (some 523), some (some 524), some (some 525), some (some 526), some (some 527), none, some (some 528), none, some (some 529), none, some (some 530), some (some 531), some (some 532), none, some (some 533), some (some 534), some (some 535), some (some 536), some (some 537), none, none, none, some (some 538), some (some 539), some (some 540), none, none, none, some (some 541), none, none, some (some 542), some (some 543), some (some 544), none, some (some 545)]) (As := []) (st := st) rfl (hS _ _ zs_491) (c_M_fresh hS h) (zgV zk_ml_L_81 zk_im_yX12_fresh zk_se_yX12_fresh zk_in_12 zk_cd_yX12_fresh) zsg_yX12_fresh hR rfl rfl hw hd hf kk
def w_lawc_15 (L : Nat) (xs : Nat → Int32) (v3 : Int32) (I : zI) (J : zI → Prop) : Prop :=
  w_Desk_fresh I (fun r_1 => w_M_fresh I (fun r_2 I_3 => J I_3))
set_option maxHeartbeats 4000000 in
set_option maxRecDepth 20000 in
theorem zl_c15 {p : Program} {l : Launch} {e : Env} {s : State} {m : MethodId} {below : List Frame} {meth : Method} {c : Code} {D : va_G} {B : Nat} {cA : Nat → ClassId} {ad : Nat → Nat} {b L : Nat} {xs : Nat → Int32} {S : List zC} (C : zCx p s m #[Value.ref b] meth c cL_law 4 RL ret D B cA ad) (hX : va_X b L xs s s.heap) (hbl : b < s.heap.size) (hbA : ¬ B ≤ b) (hS : zOkM S) (hB : B = s.heap.size) {v3 : Int32} {I : zI} {J : zI → Prop} (h : w_lawc_15 L xs v3 I J) (kk : ∀ I2, J I2 → zX p l e room_1 s m #[Value.ref b] below meth c (lw_Z below #[Value.ref b] s) D B cA 4 546 406967 S I2 [(3, .int v3), (0, .ref b), (1, .ref (B + 0)), (2, .ref (B + 491))] [] 1245) : zX p l e room_1 s m #[Value.ref b] below meth c (lw_Z below #[Value.ref b] s) D B cA 4 546 406967 S I [(3, .int v3), (0, .ref b), (1, .ref (B + 0)), (2, .ref (B + 491))] [] 617 := by
  unfold w_lawc_15 at h
  refine zr_aload_n C dyL_law_617 rfl 2 rfl ?_
  refine zv_L_77t C hS.x (st := []) h ⟨Nat.le_of_ble_eq_true rfl, Nat.le_of_ble_eq_true rfl⟩ (Nat.le_of_ble_eq_true rfl) dyL_law_618 ⟨Nat.le_of_ble_eq_true rfl, Nat.le_of_ble_eq_true rfl⟩ (fun r_1 h => ?_)
  refine zr_pop C dyL_law_621 rfl ?_
  refine zr_aload_n C dyL_law_622 rfl 3 rfl ?_
  refine zv_L_81t C hS (st := []) h ⟨Nat.le_of_ble_eq_true rfl, Nat.le_of_ble_eq_true rfl⟩ (Nat.le_of_ble_eq_true rfl) dyL_law_623 ⟨Nat.le_of_ble_eq_true rfl, Nat.le_of_ble_eq_true rfl⟩ (fun r_2 I_3 h => ?_)
  refine zr_pop C dyL_law_626 rfl ?_
  refine zr_goto C dyL_law_627 (tgt := 1245) (by decide) ?_
  exact kk _ h
theorem zv_L_82t {p : Program} {l : Launch} {e : Env} {R : Room} {s : State} {m : MethodId} {args : Array Value} {below : List Frame} {meth : Method} {c : Code} {Q : State → Prop} {D : va_G} {B : Nat} {cA : Nat → ClassId} {ad : Nat → Nat} {cc : ByteArray} {nL : Nat} {ret : Option FieldType} {S : List zC} {I : zI} {lv : List (Nat × Value)} {st : List Value} {pc cells slots : Nat} (C : zCx p s m args meth c cc nL RL ret D B cA ad) {K : Int32 → zI → Prop} {xa1 : Int32} (hS : zOkX S)  (h : w_Desk_inTheWay xa1 I K) (hR : 5 + 1 ≤ R.frames ∧ 8 + (3 + 11) + (129) ≤ R.locals) (hw : (st.map fun v => v.category).sum ≤ 8) (hd : decode cc pc = .ok (.invokevirtual 82, 3)) (hf : cells ≤ R.cells ∧ slots ≤ R.slots) (kk : ∀ v I2, K v I2 → zX p l e R s m args below meth c Q D B cA nL cells slots S I2 lv (.int v :: st) (pc + 3)) : zX p l e R s m args below meth c Q D B cA nL cells slots S I lv (.int xa1 :: .ref (B + 0) :: st) pc :=
  zc_VqI C (ci := 11) (q := (RX11, TX11, 19)) (k := 0) (fs := [some (some 1), none, some (some 3), some (some 4), none, none, none, none, some (some 22), some (some 24), some (some 43), some (some 64), some (some 69), some (some 88), some (some 97), some (some 100), some (some 109), some (some 111), none]) (As := [.int xa1]) (st := st) rfl (hS _ _ zs_0) (c_Desk_inTheWay hS h) (zgV zk_ml_L_82 zk_im_yX11_inTheWay zk_se_yX11_inTheWay zk_in_11 zk_cd_yX11_inTheWay) zsg_yX11_inTheWay hR rfl rfl hw hd hf kk
theorem zv_L_85t {p : Program} {l : Launch} {e : Env} {R : Room} {s : State} {m : MethodId} {args : Array Value} {below : List Frame} {meth : Method} {c : Code} {Q : State → Prop} {D : va_G} {B : Nat} {cA : Nat → ClassId} {ad : Nat → Nat} {cc : ByteArray} {nL : Nat} {ret : Option FieldType} {S : List zC} {I : zI} {lv : List (Nat × Value)} {st : List Value} {pc cells slots : Nat} (C : zCx p s m args meth c cc nL RL ret D B cA ad) {K : Int32 → zI → Prop} {xa1 : Int32} (hS : zOkM S)  (h : w_M_inTheWay xa1 I K) (hR : 3 + 1 ≤ R.frames ∧ 8 + (4 + 11) + (66) ≤ R.locals) (hw : (st.map fun v => v.category).sum ≤ 8) (hd : decode cc pc = .ok (.invokevirtual 85, 3)) (hf : cells ≤ R.cells ∧ slots ≤ R.slots) (kk : ∀ v I2, K v I2 → zX p l e R s m args below meth c Q D B cA nL cells slots S I2 lv (.int v :: st) (pc + 3)) : zX p l e R s m args below meth c Q D B cA nL cells slots S I lv (.int xa1 :: .ref (B + 491) :: st) pc :=
  zc_VqI C (ci := 12) (q := (RX12, TX12, 82)) (k := 491) (fs := [none, some (some 492), some (some 493), none, some (some 494), none, some (some 495), none, none, none, some (some 496), some (some 497), some (some 498), some (some 499), some (some 500), none, some (some 501), some (some 502), some (some 503), none, some (some 504), some (some 505), some (some 506), some (some 507), some (some 508), none, some (some 509), some (some 510), some (some 511), some (some 512), some (some 513), some (some 514), some (some 515), some (some 516), some (some 517), some (some 518), none, none, some (some 519), none, some (some 520), none, none, none, some (some 521), some (some 522), some (some 523), some (some 524), some (some 525), some (some 526), some (some 527), none, some (some 528), none, some (some 529), none, some (some 530), some (some 531), some (some 532), none, some (some 533), some (some 534), some (some 535), some (some 536), some (some 537), none, none, none, some (some 538), some (some 539), some (some 540), none, none, none, some (some 541), none, none, some (some 542), some (some 543), some (some 544), none, some (some 545)]) (As := [.int xa1]) (st := st) rfl (hS _ _ zs_491) (c_M_inTheWay hS h) (zgV zk_ml_L_85 zk_im_yX12_inTheWay zk_se_yX12_inTheWay zk_in_12 zk_cd_yX12_inTheWay) zsg_yX12_inTheWay hR rfl rfl hw hd hf kk
def w_lawc_16 (L : Nat) (xs : Nat → Int32) (v3 : Int32) (I : zI) (J : zI → Prop) : Prop :=
  vp_in (v3 + 1) L ∧ (w_Desk_inTheWay (xs (Int32.toNatClampNeg (v3 + 1))) I (fun r_1 I_2 => vp_in (v3 + 1) L ∧ (w_M_inTheWay (xs (Int32.toNatClampNeg (v3 + 1))) I_2 (fun r_3 I_4 => J I_4))))
set_option maxHeartbeats 4000000 in
set_option maxRecDepth 20000 in
theorem zl_c16 {p : Program} {l : Launch} {e : Env} {s : State} {m : MethodId} {below : List Frame} {meth : Method} {c : Code} {D : va_G} {B : Nat} {cA : Nat → ClassId} {ad : Nat → Nat} {b L : Nat} {xs : Nat → Int32} {S : List zC} (C : zCx p s m #[Value.ref b] meth c cL_law 4 RL ret D B cA ad) (hX : va_X b L xs s s.heap) (hbl : b < s.heap.size) (hbA : ¬ B ≤ b) (hS : zOkM S) (hB : B = s.heap.size) {v3 : Int32} {I : zI} {J : zI → Prop} (h : w_lawc_16 L xs v3 I J) (kk : ∀ I2, J I2 → zX p l e room_1 s m #[Value.ref b] below meth c (lw_Z below #[Value.ref b] s) D B cA 4 546 406967 S I2 [(3, .int v3), (0, .ref b), (1, .ref (B + 0)), (2, .ref (B + 491))] [] 1245) : zX p l e room_1 s m #[Value.ref b] below meth c (lw_Z below #[Value.ref b] s) D B cA 4 546 406967 S I [(3, .int v3), (0, .ref b), (1, .ref (B + 0)), (2, .ref (B + 491))] [] 630 := by
  unfold w_lawc_16 at h
  refine zr_aload_n C dyL_law_630 rfl 2 rfl ?_
  refine zr_aload_n C dyL_law_631 rfl 1 rfl ?_
  refine zr_iload_n C dyL_law_632 rfl 0 rfl ?_
  refine zr_iconst C dyL_law_633 zc_i_1 ?_
  refine zr_iadd C dyL_law_634 ?_
  refine zr_sld C hX hbl hbA h.1 dyL_law_635 ?_
  replace h := h.2
  refine zv_L_82t C hS.x (st := []) h ⟨Nat.le_of_ble_eq_true rfl, Nat.le_of_ble_eq_true rfl⟩ (Nat.le_of_ble_eq_true rfl) dyL_law_636 ⟨Nat.le_of_ble_eq_true rfl, Nat.le_of_ble_eq_true rfl⟩ (fun r_1 I_2 h => ?_)
  refine zr_pop C dyL_law_639 rfl ?_
  refine zr_aload_n C dyL_law_640 rfl 3 rfl ?_
  refine zr_aload_n C dyL_law_641 rfl 1 rfl ?_
  refine zr_iload_n C dyL_law_642 rfl 0 rfl ?_
  refine zr_iconst C dyL_law_643 zc_i_1 ?_
  refine zr_iadd C dyL_law_644 ?_
  refine zr_sld C hX hbl hbA h.1 dyL_law_645 ?_
  replace h := h.2
  refine zv_L_85t C hS (st := []) h ⟨Nat.le_of_ble_eq_true rfl, Nat.le_of_ble_eq_true rfl⟩ (Nat.le_of_ble_eq_true rfl) dyL_law_646 ⟨Nat.le_of_ble_eq_true rfl, Nat.le_of_ble_eq_true rfl⟩ (fun r_3 I_4 h => ?_)
  refine zr_pop C dyL_law_649 rfl ?_
  refine zr_goto C dyL_law_650 (tgt := 1245) (by decide) ?_
  exact kk _ h
theorem zv_L_86t {p : Program} {l : Launch} {e : Env} {R : Room} {s : State} {m : MethodId} {args : Array Value} {below : List Frame} {meth : Method} {c : Code} {Q : State → Prop} {D : va_G} {B : Nat} {cA : Nat → ClassId} {ad : Nat → Nat} {cc : ByteArray} {nL : Nat} {ret : Option FieldType} {S : List zC} {I : zI} {lv : List (Nat × Value)} {st : List Value} {pc cells slots : Nat} (C : zCx p s m args meth c cc nL RL ret D B cA ad) {K : Int32 → zI → Prop}  (hS : zOkX S)  (h : w_Desk_expected I K) (hR : 6 + 1 ≤ R.frames ∧ 8 + (2 + 11) + (149) ≤ R.locals) (hw : (st.map fun v => v.category).sum ≤ 8) (hd : decode cc pc = .ok (.invokevirtual 86, 3)) (hf : cells ≤ R.cells ∧ slots ≤ R.slots) (kk : ∀ v I2, K v I2 → zX p l e R s m args below meth c Q D B cA nL cells slots S I2 lv (.int v :: st) (pc + 3)) : zX p l e R s m args below meth c Q D B cA nL cells slots S I lv (.ref (B + 0) :: st) pc :=
  zc_VqI C (ci := 11) (q := (RX11, TX11, 19)) (k := 0) (fs := [some (some 1), none, some (some 3), some (some 4), none, none, none, none, some (some 22), some (some 24), some (some 43), some (some 64), some (some 69), some (some 88), some (some 97), some (some 100), some (some 109), some (some 111), none]) (As := []) (st := st) rfl (hS _ _ zs_0) (c_Desk_expected hS h) (zgV zk_ml_L_86 zk_im_yX11_expected zk_se_yX11_expected zk_in_11 zk_cd_yX11_expected) zsg_yX11_expected hR rfl rfl hw hd hf kk
theorem zv_L_89t {p : Program} {l : Launch} {e : Env} {R : Room} {s : State} {m : MethodId} {args : Array Value} {below : List Frame} {meth : Method} {c : Code} {Q : State → Prop} {D : va_G} {B : Nat} {cA : Nat → ClassId} {ad : Nat → Nat} {cc : ByteArray} {nL : Nat} {ret : Option FieldType} {S : List zC} {I : zI} {lv : List (Nat × Value)} {st : List Value} {pc cells slots : Nat} (C : zCx p s m args meth c cc nL RL ret D B cA ad) {K : Int32 → zI → Prop}  (hS : zOkM S)  (h : w_M_expected I K) (hR : 3 + 1 ≤ R.frames ∧ 8 + (5 + 11) + (66) ≤ R.locals) (hw : (st.map fun v => v.category).sum ≤ 8) (hd : decode cc pc = .ok (.invokevirtual 89, 3)) (hf : cells ≤ R.cells ∧ slots ≤ R.slots) (kk : ∀ v I2, K v I2 → zX p l e R s m args below meth c Q D B cA nL cells slots S I2 lv (.int v :: st) (pc + 3)) : zX p l e R s m args below meth c Q D B cA nL cells slots S I lv (.ref (B + 491) :: st) pc :=
  zc_VqI C (ci := 12) (q := (RX12, TX12, 82)) (k := 491) (fs := [none, some (some 492), some (some 493), none, some (some 494), none, some (some 495), none, none, none, some (some 496), some (some 497), some (some 498), some (some 499), some (some 500), none, some (some 501), some (some 502), some (some 503), none, some (some 504), some (some 505), some (some 506), some (some 507), some (some 508), none, some (some 509), some (some 510), some (some 511), some (some 512), some (some 513), some (some 514), some (some 515), some (some 516), some (some 517), some (some 518), none, none, some (some 519), none, some (some 520), none, none, none, some (some 521), some (some 522), some (some 523), some (some 524), some (some 525), some (some 526), some (some 527), none, some (some 528), none, some (some 529), none, some (some 530), some (some 531), some (some 532), none, some (some 533), some (some 534), some (some 535), some (some 536), some (some 537), none, none, none, some (some 538), some (some 539), some (some 540), none, none, none, some (some 541), none, none, some (some 542), some (some 543), some (some 544), none, some (some 545)]) (As := []) (st := st) rfl (hS _ _ zs_491) (c_M_expected hS h) (zgV zk_ml_L_89 zk_im_yX12_expected zk_se_yX12_expected zk_in_12 zk_cd_yX12_expected) zsg_yX12_expected hR rfl rfl hw hd hf kk
def w_lawc_17 (L : Nat) (xs : Nat → Int32) (v3 : Int32) (I : zI) (J : zI → Prop) : Prop :=
  w_Desk_expected I (fun r_1 I_2 => w_M_expected I_2 (fun r_3 I_4 => J I_4))
set_option maxHeartbeats 4000000 in
set_option maxRecDepth 20000 in
theorem zl_c17 {p : Program} {l : Launch} {e : Env} {s : State} {m : MethodId} {below : List Frame} {meth : Method} {c : Code} {D : va_G} {B : Nat} {cA : Nat → ClassId} {ad : Nat → Nat} {b L : Nat} {xs : Nat → Int32} {S : List zC} (C : zCx p s m #[Value.ref b] meth c cL_law 4 RL ret D B cA ad) (hX : va_X b L xs s s.heap) (hbl : b < s.heap.size) (hbA : ¬ B ≤ b) (hS : zOkM S) (hB : B = s.heap.size) {v3 : Int32} {I : zI} {J : zI → Prop} (h : w_lawc_17 L xs v3 I J) (kk : ∀ I2, J I2 → zX p l e room_1 s m #[Value.ref b] below meth c (lw_Z below #[Value.ref b] s) D B cA 4 546 406967 S I2 [(3, .int v3), (0, .ref b), (1, .ref (B + 0)), (2, .ref (B + 491))] [] 1245) : zX p l e room_1 s m #[Value.ref b] below meth c (lw_Z below #[Value.ref b] s) D B cA 4 546 406967 S I [(3, .int v3), (0, .ref b), (1, .ref (B + 0)), (2, .ref (B + 491))] [] 653 := by
  unfold w_lawc_17 at h
  refine zr_aload_n C dyL_law_653 rfl 2 rfl ?_
  refine zv_L_86t C hS.x (st := []) h ⟨Nat.le_of_ble_eq_true rfl, Nat.le_of_ble_eq_true rfl⟩ (Nat.le_of_ble_eq_true rfl) dyL_law_654 ⟨Nat.le_of_ble_eq_true rfl, Nat.le_of_ble_eq_true rfl⟩ (fun r_1 I_2 h => ?_)
  refine zr_pop C dyL_law_657 rfl ?_
  refine zr_aload_n C dyL_law_658 rfl 3 rfl ?_
  refine zv_L_89t C hS (st := []) h ⟨Nat.le_of_ble_eq_true rfl, Nat.le_of_ble_eq_true rfl⟩ (Nat.le_of_ble_eq_true rfl) dyL_law_659 ⟨Nat.le_of_ble_eq_true rfl, Nat.le_of_ble_eq_true rfl⟩ (fun r_3 I_4 h => ?_)
  refine zr_pop C dyL_law_662 rfl ?_
  refine zr_goto C dyL_law_663 (tgt := 1245) (by decide) ?_
  exact kk _ h
theorem zv_L_90t {p : Program} {l : Launch} {e : Env} {R : Room} {s : State} {m : MethodId} {args : Array Value} {below : List Frame} {meth : Method} {c : Code} {Q : State → Prop} {D : va_G} {B : Nat} {cA : Nat → ClassId} {ad : Nat → Nat} {cc : ByteArray} {nL : Nat} {ret : Option FieldType} {S : List zC} {I : zI} {lv : List (Nat × Value)} {st : List Value} {pc cells slots : Nat} (C : zCx p s m args meth c cc nL RL ret D B cA ad) {K : Int32 → zI → Prop} {xa1 : Int32} (hS : zOkX S)  (h : w_Desk_mend xa1 I K) (hR : 5 + 1 ≤ R.frames ∧ 8 + (3 + 11) + (128) ≤ R.locals) (hw : (st.map fun v => v.category).sum ≤ 8) (hd : decode cc pc = .ok (.invokevirtual 90, 3)) (hf : cells ≤ R.cells ∧ slots ≤ R.slots) (kk : ∀ v I2, K v I2 → zX p l e R s m args below meth c Q D B cA nL cells slots S I2 lv (.int v :: st) (pc + 3)) : zX p l e R s m args below meth c Q D B cA nL cells slots S I lv (.int xa1 :: .ref (B + 0) :: st) pc :=
  zc_VqI C (ci := 11) (q := (RX11, TX11, 19)) (k := 0) (fs := [some (some 1), none, some (some 3), some (some 4), none, none, none, none, some (some 22), some (some 24), some (some 43), some (some 64), some (some 69), some (some 88), some (some 97), some (some 100), some (some 109), some (some 111), none]) (As := [.int xa1]) (st := st) rfl (hS _ _ zs_0) (c_Desk_mend hS h) (zgV zk_ml_L_90 zk_im_yX11_mend zk_se_yX11_mend zk_in_11 zk_cd_yX11_mend) zsg_yX11_mend hR rfl rfl hw hd hf kk
theorem zv_L_93t {p : Program} {l : Launch} {e : Env} {R : Room} {s : State} {m : MethodId} {args : Array Value} {below : List Frame} {meth : Method} {c : Code} {Q : State → Prop} {D : va_G} {B : Nat} {cA : Nat → ClassId} {ad : Nat → Nat} {cc : ByteArray} {nL : Nat} {ret : Option FieldType} {S : List zC} {I : zI} {lv : List (Nat × Value)} {st : List Value} {pc cells slots : Nat} (C : zCx p s m args meth c cc nL RL ret D B cA ad) {K : Int32 → zI → Prop} {xa1 : Int32} (hS : zOkM S)  (h : w_M_mend xa1 I K) (hR : 3 + 1 ≤ R.frames ∧ 8 + (4 + 11) + (66) ≤ R.locals) (hw : (st.map fun v => v.category).sum ≤ 8) (hd : decode cc pc = .ok (.invokevirtual 93, 3)) (hf : cells ≤ R.cells ∧ slots ≤ R.slots) (kk : ∀ v I2, K v I2 → zX p l e R s m args below meth c Q D B cA nL cells slots S I2 lv (.int v :: st) (pc + 3)) : zX p l e R s m args below meth c Q D B cA nL cells slots S I lv (.int xa1 :: .ref (B + 491) :: st) pc :=
  zc_VqI C (ci := 12) (q := (RX12, TX12, 82)) (k := 491) (fs := [none, some (some 492), some (some 493), none, some (some 494), none, some (some 495), none, none, none, some (some 496), some (some 497), some (some 498), some (some 499), some (some 500), none, some (some 501), some (some 502), some (some 503), none, some (some 504), some (some 505), some (some 506), some (some 507), some (some 508), none, some (some 509), some (some 510), some (some 511), some (some 512), some (some 513), some (some 514), some (some 515), some (some 516), some (some 517), some (some 518), none, none, some (some 519), none, some (some 520), none, none, none, some (some 521), some (some 522), some (some 523), some (some 524), some (some 525), some (some 526), some (some 527), none, some (some 528), none, some (some 529), none, some (some 530), some (some 531), some (some 532), none, some (some 533), some (some 534), some (some 535), some (some 536), some (some 537), none, none, none, some (some 538), some (some 539), some (some 540), none, none, none, some (some 541), none, none, some (some 542), some (some 543), some (some 544), none, some (some 545)]) (As := [.int xa1]) (st := st) rfl (hS _ _ zs_491) (c_M_mend hS h) (zgV zk_ml_L_93 zk_im_yX12_mend zk_se_yX12_mend zk_in_12 zk_cd_yX12_mend) zsg_yX12_mend hR rfl rfl hw hd hf kk
def w_lawc_18 (L : Nat) (xs : Nat → Int32) (v3 : Int32) (I : zI) (J : zI → Prop) : Prop :=
  vp_in (v3 + 1) L ∧ (w_Desk_mend (xs (Int32.toNatClampNeg (v3 + 1))) I (fun r_1 I_2 => vp_in (v3 + 1) L ∧ (w_M_mend (xs (Int32.toNatClampNeg (v3 + 1))) I_2 (fun r_3 I_4 => J I_4))))
set_option maxHeartbeats 4000000 in
set_option maxRecDepth 20000 in
theorem zl_c18 {p : Program} {l : Launch} {e : Env} {s : State} {m : MethodId} {below : List Frame} {meth : Method} {c : Code} {D : va_G} {B : Nat} {cA : Nat → ClassId} {ad : Nat → Nat} {b L : Nat} {xs : Nat → Int32} {S : List zC} (C : zCx p s m #[Value.ref b] meth c cL_law 4 RL ret D B cA ad) (hX : va_X b L xs s s.heap) (hbl : b < s.heap.size) (hbA : ¬ B ≤ b) (hS : zOkM S) (hB : B = s.heap.size) {v3 : Int32} {I : zI} {J : zI → Prop} (h : w_lawc_18 L xs v3 I J) (kk : ∀ I2, J I2 → zX p l e room_1 s m #[Value.ref b] below meth c (lw_Z below #[Value.ref b] s) D B cA 4 546 406967 S I2 [(3, .int v3), (0, .ref b), (1, .ref (B + 0)), (2, .ref (B + 491))] [] 1245) : zX p l e room_1 s m #[Value.ref b] below meth c (lw_Z below #[Value.ref b] s) D B cA 4 546 406967 S I [(3, .int v3), (0, .ref b), (1, .ref (B + 0)), (2, .ref (B + 491))] [] 666 := by
  unfold w_lawc_18 at h
  refine zr_aload_n C dyL_law_666 rfl 2 rfl ?_
  refine zr_aload_n C dyL_law_667 rfl 1 rfl ?_
  refine zr_iload_n C dyL_law_668 rfl 0 rfl ?_
  refine zr_iconst C dyL_law_669 zc_i_1 ?_
  refine zr_iadd C dyL_law_670 ?_
  refine zr_sld C hX hbl hbA h.1 dyL_law_671 ?_
  replace h := h.2
  refine zv_L_90t C hS.x (st := []) h ⟨Nat.le_of_ble_eq_true rfl, Nat.le_of_ble_eq_true rfl⟩ (Nat.le_of_ble_eq_true rfl) dyL_law_672 ⟨Nat.le_of_ble_eq_true rfl, Nat.le_of_ble_eq_true rfl⟩ (fun r_1 I_2 h => ?_)
  refine zr_pop C dyL_law_675 rfl ?_
  refine zr_aload_n C dyL_law_676 rfl 3 rfl ?_
  refine zr_aload_n C dyL_law_677 rfl 1 rfl ?_
  refine zr_iload_n C dyL_law_678 rfl 0 rfl ?_
  refine zr_iconst C dyL_law_679 zc_i_1 ?_
  refine zr_iadd C dyL_law_680 ?_
  refine zr_sld C hX hbl hbA h.1 dyL_law_681 ?_
  replace h := h.2
  refine zv_L_93t C hS (st := []) h ⟨Nat.le_of_ble_eq_true rfl, Nat.le_of_ble_eq_true rfl⟩ (Nat.le_of_ble_eq_true rfl) dyL_law_682 ⟨Nat.le_of_ble_eq_true rfl, Nat.le_of_ble_eq_true rfl⟩ (fun r_3 I_4 h => ?_)
  refine zr_pop C dyL_law_685 rfl ?_
  refine zr_goto C dyL_law_686 (tgt := 1245) (by decide) ?_
  exact kk _ h
theorem zv_L_94t {p : Program} {l : Launch} {e : Env} {R : Room} {s : State} {m : MethodId} {args : Array Value} {below : List Frame} {meth : Method} {c : Code} {Q : State → Prop} {D : va_G} {B : Nat} {cA : Nat → ClassId} {ad : Nat → Nat} {cc : ByteArray} {nL : Nat} {ret : Option FieldType} {S : List zC} {I : zI} {lv : List (Nat × Value)} {st : List Value} {pc cells slots : Nat} (C : zCx p s m args meth c cc nL RL ret D B cA ad) {K : Int32 → Prop} {xa1 : Int32} (hS : zOkX S)  (h : w_Desk_print xa1 I K) (hR : 1 + 1 ≤ R.frames ∧ 8 + (2 + 11) + (21) ≤ R.locals) (hw : (st.map fun v => v.category).sum ≤ 8) (hd : decode cc pc = .ok (.invokevirtual 94, 3)) (hf : cells ≤ R.cells ∧ slots ≤ R.slots) (kk : ∀ v, K v → zX p l e R s m args below meth c Q D B cA nL cells slots S I lv (.int v :: st) (pc + 3)) : zX p l e R s m args below meth c Q D B cA nL cells slots S I lv (.int xa1 :: .ref (B + 0) :: st) pc :=
  zc_VpI C (ci := 11) (q := (RX11, TX11, 19)) (k := 0) (fs := [some (some 1), none, some (some 3), some (some 4), none, none, none, none, some (some 22), some (some 24), some (some 43), some (some 64), some (some 69), some (some 88), some (some 97), some (some 100), some (some 109), some (some 111), none]) (As := [.int xa1]) (st := st) rfl (hS _ _ zs_0) (c_Desk_print hS h) (zgV zk_ml_L_94 zk_im_yX11_print zk_se_yX11_print zk_in_11 zk_cd_yX11_print) zsg_yX11_print hR rfl rfl hw hd hf kk
theorem zv_L_97t {p : Program} {l : Launch} {e : Env} {R : Room} {s : State} {m : MethodId} {args : Array Value} {below : List Frame} {meth : Method} {c : Code} {Q : State → Prop} {D : va_G} {B : Nat} {cA : Nat → ClassId} {ad : Nat → Nat} {cc : ByteArray} {nL : Nat} {ret : Option FieldType} {S : List zC} {I : zI} {lv : List (Nat × Value)} {st : List Value} {pc cells slots : Nat} (C : zCx p s m args meth c cc nL RL ret D B cA ad) {K : Int32 → zI → Prop} {xa1 : Int32} (hS : zOkM S)  (h : w_M_print xa1 I K) (hR : 3 + 1 ≤ R.frames ∧ 8 + (2 + 11) + (70) ≤ R.locals) (hw : (st.map fun v => v.category).sum ≤ 8) (hd : decode cc pc = .ok (.invokevirtual 97, 3)) (hf : cells ≤ R.cells ∧ slots ≤ R.slots) (kk : ∀ v I2, K v I2 → zX p l e R s m args below meth c Q D B cA nL cells slots S I2 lv (.int v :: st) (pc + 3)) : zX p l e R s m args below meth c Q D B cA nL cells slots S I lv (.int xa1 :: .ref (B + 491) :: st) pc :=
  zc_VqI C (ci := 12) (q := (RX12, TX12, 82)) (k := 491) (fs := [none, some (some 492), some (some 493), none, some (some 494), none, some (some 495), none, none, none, some (some 496), some (some 497), some (some 498), some (some 499), some (some 500), none, some (some 501), some (some 502), some (some 503), none, some (some 504), some (some 505), some (some 506), some (some 507), some (some 508), none, some (some 509), some (some 510), some (some 511), some (some 512), some (some 513), some (some 514), some (some 515), some (some 516), some (some 517), some (some 518), none, none, some (some 519), none, some (some 520), none, none, none, some (some 521), some (some 522), some (some 523), some (some 524), some (some 525), some (some 526), some (some 527), none, some (some 528), none, some (some 529), none, some (some 530), some (some 531), some (some 532), none, some (some 533), some (some 534), some (some 535), some (some 536), some (some 537), none, none, none, some (some 538), some (some 539), some (some 540), none, none, none, some (some 541), none, none, some (some 542), some (some 543), some (some 544), none, some (some 545)]) (As := [.int xa1]) (st := st) rfl (hS _ _ zs_491) (c_M_print hS h) (zgV zk_ml_L_97 zk_im_yX12_print zk_se_yX12_print zk_in_12 zk_cd_yX12_print) zsg_yX12_print hR rfl rfl hw hd hf kk
def w_lawc_19 (L : Nat) (xs : Nat → Int32) (v3 : Int32) (I : zI) (J : zI → Prop) : Prop :=
  vp_in (v3 + 1) L ∧ (w_Desk_print (xs (Int32.toNatClampNeg (v3 + 1))) I (fun r_1 => vp_in (v3 + 1) L ∧ (w_M_print (xs (Int32.toNatClampNeg (v3 + 1))) I (fun r_2 I_3 => J I_3))))
set_option maxHeartbeats 4000000 in
set_option maxRecDepth 20000 in
theorem zl_c19 {p : Program} {l : Launch} {e : Env} {s : State} {m : MethodId} {below : List Frame} {meth : Method} {c : Code} {D : va_G} {B : Nat} {cA : Nat → ClassId} {ad : Nat → Nat} {b L : Nat} {xs : Nat → Int32} {S : List zC} (C : zCx p s m #[Value.ref b] meth c cL_law 4 RL ret D B cA ad) (hX : va_X b L xs s s.heap) (hbl : b < s.heap.size) (hbA : ¬ B ≤ b) (hS : zOkM S) (hB : B = s.heap.size) {v3 : Int32} {I : zI} {J : zI → Prop} (h : w_lawc_19 L xs v3 I J) (kk : ∀ I2, J I2 → zX p l e room_1 s m #[Value.ref b] below meth c (lw_Z below #[Value.ref b] s) D B cA 4 546 406967 S I2 [(3, .int v3), (0, .ref b), (1, .ref (B + 0)), (2, .ref (B + 491))] [] 1245) : zX p l e room_1 s m #[Value.ref b] below meth c (lw_Z below #[Value.ref b] s) D B cA 4 546 406967 S I [(3, .int v3), (0, .ref b), (1, .ref (B + 0)), (2, .ref (B + 491))] [] 689 := by
  unfold w_lawc_19 at h
  refine zr_aload_n C dyL_law_689 rfl 2 rfl ?_
  refine zr_aload_n C dyL_law_690 rfl 1 rfl ?_
  refine zr_iload_n C dyL_law_691 rfl 0 rfl ?_
  refine zr_iconst C dyL_law_692 zc_i_1 ?_
  refine zr_iadd C dyL_law_693 ?_
  refine zr_sld C hX hbl hbA h.1 dyL_law_694 ?_
  replace h := h.2
  refine zv_L_94t C hS.x (st := []) h ⟨Nat.le_of_ble_eq_true rfl, Nat.le_of_ble_eq_true rfl⟩ (Nat.le_of_ble_eq_true rfl) dyL_law_695 ⟨Nat.le_of_ble_eq_true rfl, Nat.le_of_ble_eq_true rfl⟩ (fun r_1 h => ?_)
  refine zr_pop C dyL_law_698 rfl ?_
  refine zr_aload_n C dyL_law_699 rfl 3 rfl ?_
  refine zr_aload_n C dyL_law_700 rfl 1 rfl ?_
  refine zr_iload_n C dyL_law_701 rfl 0 rfl ?_
  refine zr_iconst C dyL_law_702 zc_i_1 ?_
  refine zr_iadd C dyL_law_703 ?_
  refine zr_sld C hX hbl hbA h.1 dyL_law_704 ?_
  replace h := h.2
  refine zv_L_97t C hS (st := []) h ⟨Nat.le_of_ble_eq_true rfl, Nat.le_of_ble_eq_true rfl⟩ (Nat.le_of_ble_eq_true rfl) dyL_law_705 ⟨Nat.le_of_ble_eq_true rfl, Nat.le_of_ble_eq_true rfl⟩ (fun r_2 I_3 h => ?_)
  refine zr_pop C dyL_law_708 rfl ?_
  refine zr_goto C dyL_law_709 (tgt := 1245) (by decide) ?_
  exact kk _ h
theorem zv_L_98t {p : Program} {l : Launch} {e : Env} {R : Room} {s : State} {m : MethodId} {args : Array Value} {below : List Frame} {meth : Method} {c : Code} {Q : State → Prop} {D : va_G} {B : Nat} {cA : Nat → ClassId} {ad : Nat → Nat} {cc : ByteArray} {nL : Nat} {ret : Option FieldType} {S : List zC} {I : zI} {lv : List (Nat × Value)} {st : List Value} {pc cells slots : Nat} (C : zCx p s m args meth c cc nL RL ret D B cA ad) {K : Int32 → Prop} {xa1 : Int32} (hS : zOkX S)  (h : w_Desk_ruled xa1 I K) (hR : 1 + 1 ≤ R.frames ∧ 8 + (2 + 11) + (21) ≤ R.locals) (hw : (st.map fun v => v.category).sum ≤ 8) (hd : decode cc pc = .ok (.invokevirtual 98, 3)) (hf : cells ≤ R.cells ∧ slots ≤ R.slots) (kk : ∀ v, K v → zX p l e R s m args below meth c Q D B cA nL cells slots S I lv (.int v :: st) (pc + 3)) : zX p l e R s m args below meth c Q D B cA nL cells slots S I lv (.int xa1 :: .ref (B + 0) :: st) pc :=
  zc_VpI C (ci := 11) (q := (RX11, TX11, 19)) (k := 0) (fs := [some (some 1), none, some (some 3), some (some 4), none, none, none, none, some (some 22), some (some 24), some (some 43), some (some 64), some (some 69), some (some 88), some (some 97), some (some 100), some (some 109), some (some 111), none]) (As := [.int xa1]) (st := st) rfl (hS _ _ zs_0) (c_Desk_ruled hS h) (zgV zk_ml_L_98 zk_im_yX11_ruled zk_se_yX11_ruled zk_in_11 zk_cd_yX11_ruled) zsg_yX11_ruled hR rfl rfl hw hd hf kk
theorem zv_L_101t {p : Program} {l : Launch} {e : Env} {R : Room} {s : State} {m : MethodId} {args : Array Value} {below : List Frame} {meth : Method} {c : Code} {Q : State → Prop} {D : va_G} {B : Nat} {cA : Nat → ClassId} {ad : Nat → Nat} {cc : ByteArray} {nL : Nat} {ret : Option FieldType} {S : List zC} {I : zI} {lv : List (Nat × Value)} {st : List Value} {pc cells slots : Nat} (C : zCx p s m args meth c cc nL RL ret D B cA ad) {K : Int32 → Prop} {xa1 : Int32} (hS : zOkM S)  (h : w_M_ruled xa1 I K) (hR : 1 + 1 ≤ R.frames ∧ 8 + (4 + 11) + (22) ≤ R.locals) (hw : (st.map fun v => v.category).sum ≤ 8) (hd : decode cc pc = .ok (.invokevirtual 101, 3)) (hf : cells ≤ R.cells ∧ slots ≤ R.slots) (kk : ∀ v, K v → zX p l e R s m args below meth c Q D B cA nL cells slots S I lv (.int v :: st) (pc + 3)) : zX p l e R s m args below meth c Q D B cA nL cells slots S I lv (.int xa1 :: .ref (B + 491) :: st) pc :=
  zc_VpI C (ci := 12) (q := (RX12, TX12, 82)) (k := 491) (fs := [none, some (some 492), some (some 493), none, some (some 494), none, some (some 495), none, none, none, some (some 496), some (some 497), some (some 498), some (some 499), some (some 500), none, some (some 501), some (some 502), some (some 503), none, some (some 504), some (some 505), some (some 506), some (some 507), some (some 508), none, some (some 509), some (some 510), some (some 511), some (some 512), some (some 513), some (some 514), some (some 515), some (some 516), some (some 517), some (some 518), none, none, some (some 519), none, some (some 520), none, none, none, some (some 521), some (some 522), some (some 523), some (some 524), some (some 525), some (some 526), some (some 527), none, some (some 528), none, some (some 529), none, some (some 530), some (some 531), some (some 532), none, some (some 533), some (some 534), some (some 535), some (some 536), some (some 537), none, none, none, some (some 538), some (some 539), some (some 540), none, none, none, some (some 541), none, none, some (some 542), some (some 543), some (some 544), none, some (some 545)]) (As := [.int xa1]) (st := st) rfl (hS _ _ zs_491) (c_M_ruled hS h) (zgV zk_ml_L_101 zk_im_yX12_ruled zk_se_yX12_ruled zk_in_12 zk_cd_yX12_ruled) zsg_yX12_ruled hR rfl rfl hw hd hf kk
