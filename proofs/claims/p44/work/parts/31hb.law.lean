def w_law_382 (v4 : Int32) (v5 : Int32) (v6 : Int32) (v7 : Int32) (v8 : Int32) (v10 : Int32) (v11 : Int32) (v15 : Int32) (P1422 : Int32 → Int32 → (List zC) → Nat → Nat → zI → Prop) (c0 u0 : Nat) (S : List zC) (I : zI) : Prop :=
  w_Desk_redo I (fun r_381 I_382 => ∀ (P400 : Int32 → Prop), (∀ (t_383 : Int32), (∀ (P430 : Int32 → Prop), (∀ (t_384 : Int32), (P1422 t_384 v15 S c0 u0 I_382) → P430 t_384) → ∀ (P429 : Prop), ((P430 0) → P429) → (if r_381 = t_383 then (w_Desk_count 9 I_382 (fun r_385 => ∀ (P421 : Int32 → Prop), (∀ (t_386 : Int32), ((if r_385 = (v8 - t_386) then P430 1 else P429)) → P421 t_386) → (if r_381 = 0 then P421 0 else P421 1))) else P429)) → P400 t_383) → (if v8 ≤ 0 then P400 0 else P400 1))
set_option maxHeartbeats 8000000 in
set_option maxRecDepth 20000 in
theorem zl_law_382 {p : Program} {l : Launch} {e : Env} {s : State} {m : MethodId} {below : List Frame} {meth : Method} {c : Code} {D : va_G} {B : Nat} {cA : Nat → ClassId} {ad : Nat → Nat} {b : Nat} {S0 S : List zC} {I : zI} {c0 u0 : Nat} (C : zCx p s m #[Value.ref b] meth c cL_law 25 RL ret D B cA ad) (hB : B = s.heap.size + 1) {v4 : Int32} {v5 : Int32} {v6 : Int32} {v7 : Int32} {v8 : Int32} {v10 : Int32} {v11 : Int32} {v15 : Int32} {P1422 : Int32 → Int32 → (List zC) → Nat → Nat → zI → Prop}  (hg : zGo S0 600000 7302250 S c0 u0) (h : w_law_382 v4 v5 v6 v7 v8 v10 v11 v15 P1422 c0 u0 S I) (kP1422 : ∀ (v3_280 : Int32) (v15_281 : Int32) (S_282 : List zC) (c_283 : Nat) (u_284 : Nat) (I_286 : zI), P1422 v3_280 v15_281 S_282 c_283 u_284 I_286 → zGo S0 600000 7302250 S_282 c_283 u_284 → zX p l e room_1 s m #[Value.ref b] below meth c (lw_Z below #[Value.ref b] s) D B cA 25 c_283 u_284 S_282 I_286 [(15, .int v15_281), (11, .int v11), (10, .int v10), (7, .int v7), (6, .int v6), (5, .int v5), (1, .ref s.heap.size), (2, .ref (B + 0)), (4, .int v4), (3, .int v3_280)] [] 1422) : zX p l e room_1 s m #[Value.ref b] below meth c (lw_Z below #[Value.ref b] s) D B cA 25 c0 u0 S I [(1, .ref s.heap.size), (2, .ref (B + 0)), (4, .int v4), (5, .int v5), (6, .int v6), (7, .int v7), (8, .int v8), (10, .int v10), (11, .int v11), (15, .int v15)] [] 382 := by
  unfold w_law_382 at h
  refine zr_aload_n C dyL_law_382 rfl 1 rfl ?_
  refine zv_L_93t C hg.1 (st := []) h ⟨Nat.le_of_ble_eq_true rfl, Nat.le_of_ble_eq_true rfl⟩ (Nat.le_of_ble_eq_true rfl) dyL_law_383 ⟨hg.2.2.1, hg.2.2.2⟩ (fun r_381 I_382 h => ?_)
  refine zr_istore C dyL_law_386 (Nat.le_of_ble_eq_true rfl) (lv2 := [(16, .int r_381), (1, .ref s.heap.size), (2, .ref (B + 0)), (4, .int v4), (5, .int v5), (6, .int v6), (7, .int v7), (8, .int v8), (10, .int v10), (11, .int v11), (15, .int v15)]) rfl ?_
  refine zr_iload C dyL_law_388 0 rfl ?_
  refine zr_iload C dyL_law_390 7 rfl ?_
  refine zjn (h (fun (t_383 : Int32) => zX p l e room_1 s m #[Value.ref b] below meth c (lw_Z below #[Value.ref b] s) D B cA 25 c0 u0 S I_382 [(16, .int r_381), (1, .ref s.heap.size), (2, .ref (B + 0)), (4, .int v4), (5, .int v5), (6, .int v6), (7, .int v7), (8, .int v8), (10, .int v10), (11, .int v11), (15, .int v15)] [.int t_383, .int r_381] 400) (fun t_383 h => ?_)) (fun h => ?_)
  · refine zjn (h (fun (t_384 : Int32) => zX p l e room_1 s m #[Value.ref b] below meth c (lw_Z below #[Value.ref b] s) D B cA 25 c0 u0 S I_382 [(1, .ref s.heap.size), (2, .ref (B + 0)), (4, .int v4), (5, .int v5), (6, .int v6), (7, .int v7), (10, .int v10), (11, .int v11), (15, .int v15)] [.int t_384] 430) (fun t_384 h => ?_)) (fun h => ?_)
    · refine zr_istore_n C dyL_law_430 rfl (Nat.le_of_ble_eq_true rfl) (lv2 := [(3, .int t_384), (1, .ref s.heap.size), (2, .ref (B + 0)), (4, .int v4), (5, .int v5), (6, .int v6), (7, .int v7), (10, .int v10), (11, .int v11), (15, .int v15)]) rfl ?_
      refine zr_goto C dyL_law_431 (tgt := 1422) (by decide) ?_
      refine zr_sub (lv2 := [(15, .int v15), (11, .int v11), (10, .int v10), (7, .int v7), (6, .int v6), (5, .int v5), (1, .ref s.heap.size), (2, .ref (B + 0)), (4, .int v4), (3, .int t_384)]) [9, 8, 7, 6, 5, 4, 1, 2, 3, 0] rfl ?_
      exact kP1422 _ _ _ _ _ _ h hg
    refine zjn (h (zX p l e room_1 s m #[Value.ref b] below meth c (lw_Z below #[Value.ref b] s) D B cA 25 c0 u0 S I_382 [(1, .ref s.heap.size), (2, .ref (B + 0)), (4, .int v4), (5, .int v5), (6, .int v6), (7, .int v7), (10, .int v10), (11, .int v11), (15, .int v15)] [] 429) (fun  h => ?_)) (fun h => ?_)
    · refine zr_iconst C dyL_law_429 zc_i_0 ?_
      exact h
    refine zr_icmp_ne C dyL_law_400 (tgt := 429) (by decide) (fun hc_389 => ?_) (fun hc_389 => ?_)
    · replace h := zif_neg hc_389 h
      refine zr_sub (lv2 := [(1, .ref s.heap.size), (2, .ref (B + 0)), (4, .int v4), (5, .int v5), (6, .int v6), (7, .int v7), (10, .int v10), (11, .int v11), (15, .int v15)]) [1, 2, 3, 4, 5, 6, 8, 9, 10] rfl ?_
      exact h
    · replace h := zif_pos hc_389 h
      refine zr_aload_n C dyL_law_403 rfl 2 rfl ?_
      refine zr_bipush C dyL_law_404 zc_b_9 ?_
      refine zv_L_36t C hg.1 (st := []) h ⟨Nat.le_of_ble_eq_true rfl, Nat.le_of_ble_eq_true rfl⟩ (Nat.le_of_ble_eq_true rfl) dyL_law_406 ⟨hg.2.2.1, hg.2.2.2⟩ (fun r_385 h => ?_)
      refine zr_iload C dyL_law_409 7 rfl ?_
      refine zr_iload C dyL_law_411 0 rfl ?_
      refine zjn (h (fun (t_386 : Int32) => zX p l e room_1 s m #[Value.ref b] below meth c (lw_Z below #[Value.ref b] s) D B cA 25 c0 u0 S I_382 [(1, .ref s.heap.size), (2, .ref (B + 0)), (4, .int v4), (5, .int v5), (6, .int v6), (7, .int v7), (10, .int v10), (11, .int v11), (15, .int v15)] [.int t_386, .int v8, .int r_385] 421) (fun t_386 h => ?_)) (fun h => ?_)
      · refine zr_isub C dyL_law_421 ?_
        refine zr_icmp_ne C dyL_law_422 (tgt := 429) (by decide) (fun hc_387 => ?_) (fun hc_387 => ?_)
        · replace h := zif_neg hc_387 h
          exact h
        · replace h := zif_pos hc_387 h
          refine zr_iconst C dyL_law_425 zc_i_1 ?_
          refine zr_goto C dyL_law_426 (tgt := 430) (by decide) ?_
          exact h
      refine zr_if_eq C dyL_law_413 (tgt := 420) (by decide) (fun hc_388 => ?_) (fun hc_388 => ?_)
      · replace h := zif_pos hc_388 h
        refine zr_iconst C dyL_law_420 zc_i_0 ?_
        refine zr_sub (lv2 := [(1, .ref s.heap.size), (2, .ref (B + 0)), (4, .int v4), (5, .int v5), (6, .int v6), (7, .int v7), (10, .int v10), (11, .int v11), (15, .int v15)]) [1, 2, 3, 4, 5, 6, 8, 9, 10] rfl ?_
        exact h
      · replace h := zif_neg hc_388 h
        refine zr_iconst C dyL_law_416 zc_i_1 ?_
        refine zr_goto C dyL_law_417 (tgt := 421) (by decide) ?_
        refine zr_sub (lv2 := [(1, .ref s.heap.size), (2, .ref (B + 0)), (4, .int v4), (5, .int v5), (6, .int v6), (7, .int v7), (10, .int v10), (11, .int v11), (15, .int v15)]) [1, 2, 3, 4, 5, 6, 8, 9, 10] rfl ?_
        exact h
  refine zr_if_le C dyL_law_392 (tgt := 399) (by decide) (fun hc_390 => ?_) (fun hc_390 => ?_)
  · replace h := zif_pos hc_390 h
    refine zr_iconst C dyL_law_399 zc_i_0 ?_
    exact h
  · replace h := zif_neg hc_390 h
    refine zr_iconst C dyL_law_395 zc_i_1 ?_
    refine zr_goto C dyL_law_396 (tgt := 400) (by decide) ?_
    exact h
def w_law_434 (v4 : Int32) (v5 : Int32) (v6 : Int32) (v7 : Int32) (v9 : Int32) (v10 : Int32) (v11 : Int32) (v12 : Int32) (v13 : Int32) (P1422 : Int32 → Int32 → (List zC) → Nat → Nat → zI → Prop) (c0 u0 : Nat) (S : List zC) (I : zI) : Prop :=
  ∀ (P454 : Int32 → Prop), (∀ (t_392 : Int32), (w_Desk_cut v13 I (fun r_393 I_394 => ∀ (P474 : Int32 → Prop), (∀ (t_395 : Int32), (∀ (P499 : Int32 → Prop), (∀ (t_396 : Int32), (∀ (P536 : Int32 → Prop), (∀ (t_397 : Int32), (P1422 t_397 r_393 S c0 u0 I_394) → P536 t_397) → ∀ (P535 : Prop), ((P536 0) → P535) → (if t_395 = t_396 then (∀ (P531 : Prop), ((P536 1) → P531) → (if r_393 < 0 then P531 else (w_Desk_count 0 I_394 (fun r_398 => (if r_398 = (v5 - t_392) then (w_Desk_runs I_394 (fun r_399 => (if r_399 = (v12 - (1 : Int32)) then P531 else P535))) else P535))))) else P535)) → P499 t_396) → ∀ (P498 : Prop), ((P499 0) → P498) → (if v9 = 0 then P498 else (if v12 ≤ v13 then P498 else (if 3000 ≤ v11 then P498 else P499 1)))) → P474 t_395) → (if r_393 = 0 then P474 1 else P474 0))) → P454 t_392) → (if v9 = 0 then P454 0 else (w_Desk_run v13 I (fun r_408 => w_Desk_span r_408 1 I (fun r_409 => P454 r_409))))
set_option maxHeartbeats 8000000 in
set_option maxRecDepth 20000 in
theorem zl_law_434 {p : Program} {l : Launch} {e : Env} {s : State} {m : MethodId} {below : List Frame} {meth : Method} {c : Code} {D : va_G} {B : Nat} {cA : Nat → ClassId} {ad : Nat → Nat} {b : Nat} {S0 S : List zC} {I : zI} {c0 u0 : Nat} (C : zCx p s m #[Value.ref b] meth c cL_law 25 RL ret D B cA ad) (hB : B = s.heap.size + 1) {v4 : Int32} {v5 : Int32} {v6 : Int32} {v7 : Int32} {v9 : Int32} {v10 : Int32} {v11 : Int32} {v12 : Int32} {v13 : Int32} {P1422 : Int32 → Int32 → (List zC) → Nat → Nat → zI → Prop}  (hg : zGo S0 600000 7302250 S c0 u0) (h : w_law_434 v4 v5 v6 v7 v9 v10 v11 v12 v13 P1422 c0 u0 S I) (kP1422 : ∀ (v3_280 : Int32) (v15_281 : Int32) (S_282 : List zC) (c_283 : Nat) (u_284 : Nat) (I_286 : zI), P1422 v3_280 v15_281 S_282 c_283 u_284 I_286 → zGo S0 600000 7302250 S_282 c_283 u_284 → zX p l e room_1 s m #[Value.ref b] below meth c (lw_Z below #[Value.ref b] s) D B cA 25 c_283 u_284 S_282 I_286 [(15, .int v15_281), (11, .int v11), (10, .int v10), (7, .int v7), (6, .int v6), (5, .int v5), (1, .ref s.heap.size), (2, .ref (B + 0)), (4, .int v4), (3, .int v3_280)] [] 1422) : zX p l e room_1 s m #[Value.ref b] below meth c (lw_Z below #[Value.ref b] s) D B cA 25 c0 u0 S I [(1, .ref s.heap.size), (2, .ref (B + 0)), (4, .int v4), (5, .int v5), (6, .int v6), (7, .int v7), (9, .int v9), (10, .int v10), (11, .int v11), (12, .int v12), (13, .int v13)] [] 434 := by
  unfold w_law_434 at h
  refine zr_iload C dyL_law_434 6 rfl ?_
  refine zjn (h (fun (t_392 : Int32) => zX p l e room_1 s m #[Value.ref b] below meth c (lw_Z below #[Value.ref b] s) D B cA 25 c0 u0 S I [(1, .ref s.heap.size), (2, .ref (B + 0)), (4, .int v4), (5, .int v5), (6, .int v6), (7, .int v7), (9, .int v9), (10, .int v10), (11, .int v11), (12, .int v12), (13, .int v13)] [.int t_392] 454) (fun t_392 h => ?_)) (fun h => ?_)
  · refine zr_istore C dyL_law_454 (Nat.le_of_ble_eq_true rfl) (lv2 := [(16, .int t_392), (1, .ref s.heap.size), (2, .ref (B + 0)), (4, .int v4), (5, .int v5), (6, .int v6), (7, .int v7), (9, .int v9), (10, .int v10), (11, .int v11), (12, .int v12), (13, .int v13)]) rfl ?_
    refine zr_aload_n C dyL_law_456 rfl 2 rfl ?_
    refine zr_iload C dyL_law_457 11 rfl ?_
    refine zv_L_99t C hg.1 (st := []) h ⟨Nat.le_of_ble_eq_true rfl, Nat.le_of_ble_eq_true rfl⟩ (Nat.le_of_ble_eq_true rfl) dyL_law_459 ⟨hg.2.2.1, hg.2.2.2⟩ (fun r_393 I_394 h => ?_)
    refine zr_istore C dyL_law_462 (Nat.le_of_ble_eq_true rfl) (lv2 := [(15, .int r_393), (16, .int t_392), (1, .ref s.heap.size), (2, .ref (B + 0)), (4, .int v4), (5, .int v5), (6, .int v6), (7, .int v7), (9, .int v9), (10, .int v10), (11, .int v11), (12, .int v12), (13, .int v13)]) rfl ?_
    refine zr_iload C dyL_law_464 0 rfl ?_
    refine zjn (h (fun (t_395 : Int32) => zX p l e room_1 s m #[Value.ref b] below meth c (lw_Z below #[Value.ref b] s) D B cA 25 c0 u0 S I_394 [(15, .int r_393), (16, .int t_392), (1, .ref s.heap.size), (2, .ref (B + 0)), (4, .int v4), (5, .int v5), (6, .int v6), (7, .int v7), (9, .int v9), (10, .int v10), (11, .int v11), (12, .int v12), (13, .int v13)] [.int t_395] 474) (fun t_395 h => ?_)) (fun h => ?_)
    · refine zr_iload C dyL_law_474 8 rfl ?_
      refine zjn (h (fun (t_396 : Int32) => zX p l e room_1 s m #[Value.ref b] below meth c (lw_Z below #[Value.ref b] s) D B cA 25 c0 u0 S I_394 [(15, .int r_393), (16, .int t_392), (1, .ref s.heap.size), (2, .ref (B + 0)), (4, .int v4), (5, .int v5), (6, .int v6), (7, .int v7), (10, .int v10), (11, .int v11), (12, .int v12)] [.int t_396, .int t_395] 499) (fun t_396 h => ?_)) (fun h => ?_)
      · refine zjn (h (fun (t_397 : Int32) => zX p l e room_1 s m #[Value.ref b] below meth c (lw_Z below #[Value.ref b] s) D B cA 25 c0 u0 S I_394 [(15, .int r_393), (1, .ref s.heap.size), (2, .ref (B + 0)), (4, .int v4), (5, .int v5), (6, .int v6), (7, .int v7), (10, .int v10), (11, .int v11)] [.int t_397] 536) (fun t_397 h => ?_)) (fun h => ?_)
        · refine zr_istore_n C dyL_law_536 rfl (Nat.le_of_ble_eq_true rfl) (lv2 := [(3, .int t_397), (15, .int r_393), (1, .ref s.heap.size), (2, .ref (B + 0)), (4, .int v4), (5, .int v5), (6, .int v6), (7, .int v7), (10, .int v10), (11, .int v11)]) rfl ?_
          refine zr_goto C dyL_law_537 (tgt := 1422) (by decide) ?_
          refine zr_sub (lv2 := [(15, .int r_393), (11, .int v11), (10, .int v10), (7, .int v7), (6, .int v6), (5, .int v5), (1, .ref s.heap.size), (2, .ref (B + 0)), (4, .int v4), (3, .int t_397)]) [1, 9, 8, 7, 6, 5, 2, 3, 4, 0] rfl ?_
          exact kP1422 _ _ _ _ _ _ h hg
        refine zjn (h (zX p l e room_1 s m #[Value.ref b] below meth c (lw_Z below #[Value.ref b] s) D B cA 25 c0 u0 S I_394 [(15, .int r_393), (1, .ref s.heap.size), (2, .ref (B + 0)), (4, .int v4), (5, .int v5), (6, .int v6), (7, .int v7), (10, .int v10), (11, .int v11)] [] 535) (fun  h => ?_)) (fun h => ?_)
        · refine zr_iconst C dyL_law_535 zc_i_0 ?_
          exact h
        refine zr_icmp_ne C dyL_law_499 (tgt := 535) (by decide) (fun hc_403 => ?_) (fun hc_403 => ?_)
        · replace h := zif_neg hc_403 h
          refine zr_sub (lv2 := [(15, .int r_393), (1, .ref s.heap.size), (2, .ref (B + 0)), (4, .int v4), (5, .int v5), (6, .int v6), (7, .int v7), (10, .int v10), (11, .int v11)]) [0, 2, 3, 4, 5, 6, 7, 8, 9] rfl ?_
          exact h
        · replace h := zif_pos hc_403 h
          refine zr_iload C dyL_law_502 0 rfl ?_
          refine zjn (h (zX p l e room_1 s m #[Value.ref b] below meth c (lw_Z below #[Value.ref b] s) D B cA 25 c0 u0 S I_394 [(15, .int r_393), (1, .ref s.heap.size), (2, .ref (B + 0)), (4, .int v4), (5, .int v5), (6, .int v6), (7, .int v7), (10, .int v10), (11, .int v11)] [] 531) (fun  h => ?_)) (fun h => ?_)
          · refine zr_iconst C dyL_law_531 zc_i_1 ?_
            refine zr_goto C dyL_law_532 (tgt := 536) (by decide) ?_
            exact h
          refine zr_if_lt C dyL_law_504 (tgt := 531) (by decide) (fun hc_402 => ?_) (fun hc_402 => ?_)
          · replace h := zif_pos hc_402 h
            refine zr_sub (lv2 := [(15, .int r_393), (1, .ref s.heap.size), (2, .ref (B + 0)), (4, .int v4), (5, .int v5), (6, .int v6), (7, .int v7), (10, .int v10), (11, .int v11)]) [0, 2, 3, 4, 5, 6, 7, 8, 9] rfl ?_
            exact h
          · replace h := zif_neg hc_402 h
            refine zr_aload_n C dyL_law_507 rfl 3 rfl ?_
            refine zr_iconst C dyL_law_508 zc_i_0 ?_
            refine zv_L_36t C hg.1 (st := []) h ⟨Nat.le_of_ble_eq_true rfl, Nat.le_of_ble_eq_true rfl⟩ (Nat.le_of_ble_eq_true rfl) dyL_law_509 ⟨hg.2.2.1, hg.2.2.2⟩ (fun r_398 h => ?_)
            refine zr_iload C dyL_law_512 5 rfl ?_
            refine zr_iload C dyL_law_514 1 rfl ?_
            refine zr_isub C dyL_law_516 ?_
            refine zr_icmp_ne C dyL_law_517 (tgt := 535) (by decide) (fun hc_401 => ?_) (fun hc_401 => ?_)
            · replace h := zif_neg hc_401 h
              refine zr_sub (lv2 := [(15, .int r_393), (1, .ref s.heap.size), (2, .ref (B + 0)), (4, .int v4), (5, .int v5), (6, .int v6), (7, .int v7), (10, .int v10), (11, .int v11)]) [0, 2, 3, 4, 5, 6, 7, 8, 9] rfl ?_
              exact h
            · replace h := zif_pos hc_401 h
              refine zr_aload_n C dyL_law_520 rfl 3 rfl ?_
              refine zv_L_82t C hg.1 (st := []) h ⟨Nat.le_of_ble_eq_true rfl, Nat.le_of_ble_eq_true rfl⟩ (Nat.le_of_ble_eq_true rfl) dyL_law_521 ⟨hg.2.2.1, hg.2.2.2⟩ (fun r_399 h => ?_)
              refine zr_iload C dyL_law_524 10 rfl ?_
              refine zr_iconst C dyL_law_526 zc_i_1 ?_
              refine zr_isub C dyL_law_527 ?_
              refine zr_icmp_ne C dyL_law_528 (tgt := 535) (by decide) (fun hc_400 => ?_) (fun hc_400 => ?_)
              · replace h := zif_neg hc_400 h
                refine zr_sub (lv2 := [(15, .int r_393), (1, .ref s.heap.size), (2, .ref (B + 0)), (4, .int v4), (5, .int v5), (6, .int v6), (7, .int v7), (10, .int v10), (11, .int v11)]) [0, 2, 3, 4, 5, 6, 7, 8, 9] rfl ?_
                exact h
              · replace h := zif_pos hc_400 h
                refine zr_sub (lv2 := [(15, .int r_393), (1, .ref s.heap.size), (2, .ref (B + 0)), (4, .int v4), (5, .int v5), (6, .int v6), (7, .int v7), (10, .int v10), (11, .int v11)]) [0, 2, 3, 4, 5, 6, 7, 8, 9] rfl ?_
                exact h
      refine zjn (h (zX p l e room_1 s m #[Value.ref b] below meth c (lw_Z below #[Value.ref b] s) D B cA 25 c0 u0 S I_394 [(15, .int r_393), (16, .int t_392), (1, .ref s.heap.size), (2, .ref (B + 0)), (4, .int v4), (5, .int v5), (6, .int v6), (7, .int v7), (10, .int v10), (11, .int v11), (12, .int v12)] [.int t_395] 498) (fun  h => ?_)) (fun h => ?_)
      · refine zr_iconst C dyL_law_498 zc_i_0 ?_
        exact h
      refine zr_if_eq C dyL_law_476 (tgt := 498) (by decide) (fun hc_406 => ?_) (fun hc_406 => ?_)
      · replace h := zif_pos hc_406 h
        refine zr_sub (lv2 := [(15, .int r_393), (16, .int t_392), (1, .ref s.heap.size), (2, .ref (B + 0)), (4, .int v4), (5, .int v5), (6, .int v6), (7, .int v7), (10, .int v10), (11, .int v11), (12, .int v12)]) [0, 1, 2, 3, 4, 5, 6, 7, 9, 10, 11] rfl ?_
        exact h
      · replace h := zif_neg hc_406 h
        refine zr_iload C dyL_law_479 12 rfl ?_
        refine zr_iload C dyL_law_481 11 rfl ?_
        refine zr_icmp_ge C dyL_law_483 (tgt := 498) (by decide) (fun hc_405 => ?_) (fun hc_405 => ?_)
        · replace h := zif_pos hc_405 h
          refine zr_sub (lv2 := [(15, .int r_393), (16, .int t_392), (1, .ref s.heap.size), (2, .ref (B + 0)), (4, .int v4), (5, .int v5), (6, .int v6), (7, .int v7), (10, .int v10), (11, .int v11), (12, .int v12)]) [0, 1, 2, 3, 4, 5, 6, 7, 9, 10, 11] rfl ?_
          exact h
        · replace h := zif_neg hc_405 h
          refine zr_iload C dyL_law_486 10 rfl ?_
          refine zr_sipush C dyL_law_488 zc_s_3000 ?_
          refine zr_icmp_ge C dyL_law_491 (tgt := 498) (by decide) (fun hc_404 => ?_) (fun hc_404 => ?_)
          · replace h := zif_pos hc_404 h
            refine zr_sub (lv2 := [(15, .int r_393), (16, .int t_392), (1, .ref s.heap.size), (2, .ref (B + 0)), (4, .int v4), (5, .int v5), (6, .int v6), (7, .int v7), (10, .int v10), (11, .int v11), (12, .int v12)]) [0, 1, 2, 3, 4, 5, 6, 7, 9, 10, 11] rfl ?_
            exact h
          · replace h := zif_neg hc_404 h
            refine zr_iconst C dyL_law_494 zc_i_1 ?_
            refine zr_goto C dyL_law_495 (tgt := 499) (by decide) ?_
            refine zr_sub (lv2 := [(15, .int r_393), (16, .int t_392), (1, .ref s.heap.size), (2, .ref (B + 0)), (4, .int v4), (5, .int v5), (6, .int v6), (7, .int v7), (10, .int v10), (11, .int v11), (12, .int v12)]) [0, 1, 2, 3, 4, 5, 6, 7, 9, 10, 11] rfl ?_
            exact h
    refine zr_if_ne C dyL_law_466 (tgt := 473) (by decide) (fun hc_407 => ?_) (fun hc_407 => ?_)
    · replace h := zif_neg hc_407 h
      refine zr_iconst C dyL_law_473 zc_i_0 ?_
      exact h
    · replace h := zif_pos hc_407 h
      refine zr_iconst C dyL_law_469 zc_i_1 ?_
      refine zr_goto C dyL_law_470 (tgt := 474) (by decide) ?_
      exact h
  refine zr_if_eq C dyL_law_436 (tgt := 453) (by decide) (fun hc_410 => ?_) (fun hc_410 => ?_)
  · replace h := zif_pos hc_410 h
    refine zr_iconst C dyL_law_453 zc_i_0 ?_
    exact h
  · replace h := zif_neg hc_410 h
    refine zr_aload_n C dyL_law_439 rfl 1 rfl ?_
    refine zr_aload_n C dyL_law_440 rfl 1 rfl ?_
    refine zr_iload C dyL_law_441 10 rfl ?_
    refine zv_L_96t C hg.1 (st := [.ref (B + 0)]) h ⟨Nat.le_of_ble_eq_true rfl, Nat.le_of_ble_eq_true rfl⟩ (Nat.le_of_ble_eq_true rfl) dyL_law_443 ⟨hg.2.2.1, hg.2.2.2⟩ (fun r_408 h => ?_)
    refine zr_iconst C dyL_law_446 zc_i_1 ?_
    refine zv_L_46t C hg.1 (st := []) h ⟨Nat.le_of_ble_eq_true rfl, Nat.le_of_ble_eq_true rfl⟩ (Nat.le_of_ble_eq_true rfl) dyL_law_447 ⟨hg.2.2.1, hg.2.2.2⟩ (fun r_409 h => ?_)
    refine zr_goto C dyL_law_450 (tgt := 454) (by decide) ?_
    exact h
def w_law_540 (v4 : Int32) (v5 : Int32) (v6 : Int32) (v7 : Int32) (v9 : Int32) (v10 : Int32) (v11 : Int32) (v12 : Int32) (v13 : Int32) (P1422 : Int32 → Int32 → (List zC) → Nat → Nat → zI → Prop) (c0 u0 : Nat) (S : List zC) (I : zI) : Prop :=
  ∀ (P560 : Int32 → Prop), (∀ (t_412 : Int32), (w_Desk_twin v13 I (fun r_413 I_414 => ∀ (P662 : Int32 → Prop), (∀ (t_415 : Int32), (P1422 t_415 r_413 S c0 u0 I_414) → P662 t_415) → ∀ (P661 : Prop), ((P662 0) → P661) → ∀ (P611 : Prop), ((∀ (P657 : Prop), ((P662 1) → P657) → (if 0 ≤ r_413 then P657 else (if v9 = 0 then P657 else (if v13 = v12 then P657 else (if 300 < (v5 + t_412) then P657 else (if 3000 ≤ v11 then P657 else (w_Desk_count 1 I_414 (fun r_416 => (if r_416 ≤ 50 then P661 else P657))))))))) → P611) → (if r_413 < 0 then P611 else (if v9 = 0 then P661 else (if v12 ≤ v13 then P661 else (w_Desk_count 0 I_414 (fun r_423 => (if r_423 = (v5 + t_412) then (w_Desk_runs I_414 (fun r_424 => (if r_424 = (v12 + (1 : Int32)) then P611 else P661))) else P661)))))))) → P560 t_412) → (if v9 = 0 then P560 0 else (w_Desk_run v13 I (fun r_430 => w_Desk_span r_430 1 I (fun r_431 => P560 r_431))))
set_option maxHeartbeats 8000000 in
set_option maxRecDepth 20000 in
theorem zl_law_540 {p : Program} {l : Launch} {e : Env} {s : State} {m : MethodId} {below : List Frame} {meth : Method} {c : Code} {D : va_G} {B : Nat} {cA : Nat → ClassId} {ad : Nat → Nat} {b : Nat} {S0 S : List zC} {I : zI} {c0 u0 : Nat} (C : zCx p s m #[Value.ref b] meth c cL_law 25 RL ret D B cA ad) (hB : B = s.heap.size + 1) {v4 : Int32} {v5 : Int32} {v6 : Int32} {v7 : Int32} {v9 : Int32} {v10 : Int32} {v11 : Int32} {v12 : Int32} {v13 : Int32} {P1422 : Int32 → Int32 → (List zC) → Nat → Nat → zI → Prop}  (hg : zGo S0 600000 7302250 S c0 u0) (h : w_law_540 v4 v5 v6 v7 v9 v10 v11 v12 v13 P1422 c0 u0 S I) (kP1422 : ∀ (v3_280 : Int32) (v15_281 : Int32) (S_282 : List zC) (c_283 : Nat) (u_284 : Nat) (I_286 : zI), P1422 v3_280 v15_281 S_282 c_283 u_284 I_286 → zGo S0 600000 7302250 S_282 c_283 u_284 → zX p l e room_1 s m #[Value.ref b] below meth c (lw_Z below #[Value.ref b] s) D B cA 25 c_283 u_284 S_282 I_286 [(15, .int v15_281), (11, .int v11), (10, .int v10), (7, .int v7), (6, .int v6), (5, .int v5), (1, .ref s.heap.size), (2, .ref (B + 0)), (4, .int v4), (3, .int v3_280)] [] 1422) : zX p l e room_1 s m #[Value.ref b] below meth c (lw_Z below #[Value.ref b] s) D B cA 25 c0 u0 S I [(1, .ref s.heap.size), (2, .ref (B + 0)), (4, .int v4), (5, .int v5), (6, .int v6), (7, .int v7), (9, .int v9), (10, .int v10), (11, .int v11), (12, .int v12), (13, .int v13)] [] 540 := by
  unfold w_law_540 at h
  refine zr_iload C dyL_law_540 6 rfl ?_
  refine zjn (h (fun (t_412 : Int32) => zX p l e room_1 s m #[Value.ref b] below meth c (lw_Z below #[Value.ref b] s) D B cA 25 c0 u0 S I [(1, .ref s.heap.size), (2, .ref (B + 0)), (4, .int v4), (5, .int v5), (6, .int v6), (7, .int v7), (9, .int v9), (10, .int v10), (11, .int v11), (12, .int v12), (13, .int v13)] [.int t_412] 560) (fun t_412 h => ?_)) (fun h => ?_)
  · refine zr_istore C dyL_law_560 (Nat.le_of_ble_eq_true rfl) (lv2 := [(16, .int t_412), (1, .ref s.heap.size), (2, .ref (B + 0)), (4, .int v4), (5, .int v5), (6, .int v6), (7, .int v7), (9, .int v9), (10, .int v10), (11, .int v11), (12, .int v12), (13, .int v13)]) rfl ?_
    refine zr_aload_n C dyL_law_562 rfl 2 rfl ?_
    refine zr_iload C dyL_law_563 11 rfl ?_
    refine zv_L_102t C hg.1 (st := []) h ⟨Nat.le_of_ble_eq_true rfl, Nat.le_of_ble_eq_true rfl⟩ (Nat.le_of_ble_eq_true rfl) dyL_law_565 ⟨hg.2.2.1, hg.2.2.2⟩ (fun r_413 I_414 h => ?_)
    refine zr_istore C dyL_law_568 (Nat.le_of_ble_eq_true rfl) (lv2 := [(15, .int r_413), (16, .int t_412), (1, .ref s.heap.size), (2, .ref (B + 0)), (4, .int v4), (5, .int v5), (6, .int v6), (7, .int v7), (9, .int v9), (10, .int v10), (11, .int v11), (12, .int v12), (13, .int v13)]) rfl ?_
    refine zr_iload C dyL_law_570 0 rfl ?_
    refine zjn (h (fun (t_415 : Int32) => zX p l e room_1 s m #[Value.ref b] below meth c (lw_Z below #[Value.ref b] s) D B cA 25 c0 u0 S I_414 [(15, .int r_413), (1, .ref s.heap.size), (2, .ref (B + 0)), (4, .int v4), (5, .int v5), (6, .int v6), (7, .int v7), (10, .int v10), (11, .int v11)] [.int t_415] 662) (fun t_415 h => ?_)) (fun h => ?_)
    · refine zr_istore_n C dyL_law_662 rfl (Nat.le_of_ble_eq_true rfl) (lv2 := [(3, .int t_415), (15, .int r_413), (1, .ref s.heap.size), (2, .ref (B + 0)), (4, .int v4), (5, .int v5), (6, .int v6), (7, .int v7), (10, .int v10), (11, .int v11)]) rfl ?_
      refine zr_goto C dyL_law_663 (tgt := 1422) (by decide) ?_
      refine zr_sub (lv2 := [(15, .int r_413), (11, .int v11), (10, .int v10), (7, .int v7), (6, .int v6), (5, .int v5), (1, .ref s.heap.size), (2, .ref (B + 0)), (4, .int v4), (3, .int t_415)]) [1, 9, 8, 7, 6, 5, 2, 3, 4, 0] rfl ?_
      exact kP1422 _ _ _ _ _ _ h hg
    refine zjn (h (zX p l e room_1 s m #[Value.ref b] below meth c (lw_Z below #[Value.ref b] s) D B cA 25 c0 u0 S I_414 [(15, .int r_413), (1, .ref s.heap.size), (2, .ref (B + 0)), (4, .int v4), (5, .int v5), (6, .int v6), (7, .int v7), (10, .int v10), (11, .int v11)] [] 661) (fun  h => ?_)) (fun h => ?_)
    · refine zr_iconst C dyL_law_661 zc_i_0 ?_
      exact h
    refine zjn (h (zX p l e room_1 s m #[Value.ref b] below meth c (lw_Z below #[Value.ref b] s) D B cA 25 c0 u0 S I_414 [(15, .int r_413), (16, .int t_412), (1, .ref s.heap.size), (2, .ref (B + 0)), (4, .int v4), (5, .int v5), (6, .int v6), (7, .int v7), (9, .int v9), (10, .int v10), (11, .int v11), (12, .int v12), (13, .int v13)] [] 611) (fun  h => ?_)) (fun h => ?_)
    · refine zr_iload C dyL_law_611 0 rfl ?_
      refine zjn (h (zX p l e room_1 s m #[Value.ref b] below meth c (lw_Z below #[Value.ref b] s) D B cA 25 c0 u0 S I_414 [(15, .int r_413), (1, .ref s.heap.size), (2, .ref (B + 0)), (4, .int v4), (5, .int v5), (6, .int v6), (7, .int v7), (10, .int v10), (11, .int v11)] [] 657) (fun  h => ?_)) (fun h => ?_)
      · refine zr_iconst C dyL_law_657 zc_i_1 ?_
        refine zr_goto C dyL_law_658 (tgt := 662) (by decide) ?_
        exact h
      refine zr_if_ge C dyL_law_613 (tgt := 657) (by decide) (fun hc_422 => ?_) (fun hc_422 => ?_)
      · replace h := zif_pos hc_422 h
        refine zr_sub (lv2 := [(15, .int r_413), (1, .ref s.heap.size), (2, .ref (B + 0)), (4, .int v4), (5, .int v5), (6, .int v6), (7, .int v7), (10, .int v10), (11, .int v11)]) [0, 2, 3, 4, 5, 6, 7, 9, 10] rfl ?_
        exact h
      · replace h := zif_neg hc_422 h
        refine zr_iload C dyL_law_616 8 rfl ?_
        refine zr_if_eq C dyL_law_618 (tgt := 657) (by decide) (fun hc_421 => ?_) (fun hc_421 => ?_)
        · replace h := zif_pos hc_421 h
          refine zr_sub (lv2 := [(15, .int r_413), (1, .ref s.heap.size), (2, .ref (B + 0)), (4, .int v4), (5, .int v5), (6, .int v6), (7, .int v7), (10, .int v10), (11, .int v11)]) [0, 2, 3, 4, 5, 6, 7, 9, 10] rfl ?_
          exact h
        · replace h := zif_neg hc_421 h
          refine zr_iload C dyL_law_621 12 rfl ?_
          refine zr_iload C dyL_law_623 11 rfl ?_
          refine zr_icmp_eq C dyL_law_625 (tgt := 657) (by decide) (fun hc_420 => ?_) (fun hc_420 => ?_)
          · replace h := zif_pos hc_420 h
            refine zr_sub (lv2 := [(15, .int r_413), (1, .ref s.heap.size), (2, .ref (B + 0)), (4, .int v4), (5, .int v5), (6, .int v6), (7, .int v7), (10, .int v10), (11, .int v11)]) [0, 2, 3, 4, 5, 6, 7, 9, 10] rfl ?_
            exact h
          · replace h := zif_neg hc_420 h
            refine zr_iload C dyL_law_628 5 rfl ?_
            refine zr_iload C dyL_law_630 1 rfl ?_
            refine zr_iadd C dyL_law_632 ?_
            refine zr_sipush C dyL_law_633 zc_s_300 ?_
            refine zr_icmp_gt C dyL_law_636 (tgt := 657) (by decide) (fun hc_419 => ?_) (fun hc_419 => ?_)
            · replace h := zif_pos hc_419 h
              refine zr_sub (lv2 := [(15, .int r_413), (1, .ref s.heap.size), (2, .ref (B + 0)), (4, .int v4), (5, .int v5), (6, .int v6), (7, .int v7), (10, .int v10), (11, .int v11)]) [0, 2, 3, 4, 5, 6, 7, 9, 10] rfl ?_
              exact h
            · replace h := zif_neg hc_419 h
              refine zr_iload C dyL_law_639 10 rfl ?_
              refine zr_sipush C dyL_law_641 zc_s_3000 ?_
              refine zr_icmp_ge C dyL_law_644 (tgt := 657) (by decide) (fun hc_418 => ?_) (fun hc_418 => ?_)
              · replace h := zif_pos hc_418 h
                refine zr_sub (lv2 := [(15, .int r_413), (1, .ref s.heap.size), (2, .ref (B + 0)), (4, .int v4), (5, .int v5), (6, .int v6), (7, .int v7), (10, .int v10), (11, .int v11)]) [0, 2, 3, 4, 5, 6, 7, 9, 10] rfl ?_
                exact h
              · replace h := zif_neg hc_418 h
                refine zr_aload_n C dyL_law_647 rfl 3 rfl ?_
                refine zr_iconst C dyL_law_648 zc_i_1 ?_
                refine zv_L_36t C hg.1 (st := []) h ⟨Nat.le_of_ble_eq_true rfl, Nat.le_of_ble_eq_true rfl⟩ (Nat.le_of_ble_eq_true rfl) dyL_law_649 ⟨hg.2.2.1, hg.2.2.2⟩ (fun r_416 h => ?_)
                refine zr_bipush C dyL_law_652 zc_b_50 ?_
                refine zr_icmp_le C dyL_law_654 (tgt := 661) (by decide) (fun hc_417 => ?_) (fun hc_417 => ?_)
                · replace h := zif_pos hc_417 h
                  refine zr_sub (lv2 := [(15, .int r_413), (1, .ref s.heap.size), (2, .ref (B + 0)), (4, .int v4), (5, .int v5), (6, .int v6), (7, .int v7), (10, .int v10), (11, .int v11)]) [0, 2, 3, 4, 5, 6, 7, 9, 10] rfl ?_
                  exact h
                · replace h := zif_neg hc_417 h
                  refine zr_sub (lv2 := [(15, .int r_413), (1, .ref s.heap.size), (2, .ref (B + 0)), (4, .int v4), (5, .int v5), (6, .int v6), (7, .int v7), (10, .int v10), (11, .int v11)]) [0, 2, 3, 4, 5, 6, 7, 9, 10] rfl ?_
                  exact h
    refine zr_if_lt C dyL_law_572 (tgt := 611) (by decide) (fun hc_429 => ?_) (fun hc_429 => ?_)
    · replace h := zif_pos hc_429 h
      exact h
    · replace h := zif_neg hc_429 h
      refine zr_iload C dyL_law_575 8 rfl ?_
      refine zr_if_eq C dyL_law_577 (tgt := 661) (by decide) (fun hc_428 => ?_) (fun hc_428 => ?_)
      · replace h := zif_pos hc_428 h
        refine zr_sub (lv2 := [(15, .int r_413), (1, .ref s.heap.size), (2, .ref (B + 0)), (4, .int v4), (5, .int v5), (6, .int v6), (7, .int v7), (10, .int v10), (11, .int v11)]) [0, 2, 3, 4, 5, 6, 7, 9, 10] rfl ?_
        exact h
      · replace h := zif_neg hc_428 h
        refine zr_iload C dyL_law_580 12 rfl ?_
        refine zr_iload C dyL_law_582 11 rfl ?_
        refine zr_icmp_ge C dyL_law_584 (tgt := 661) (by decide) (fun hc_427 => ?_) (fun hc_427 => ?_)
        · replace h := zif_pos hc_427 h
          refine zr_sub (lv2 := [(15, .int r_413), (1, .ref s.heap.size), (2, .ref (B + 0)), (4, .int v4), (5, .int v5), (6, .int v6), (7, .int v7), (10, .int v10), (11, .int v11)]) [0, 2, 3, 4, 5, 6, 7, 9, 10] rfl ?_
          exact h
        · replace h := zif_neg hc_427 h
          refine zr_aload_n C dyL_law_587 rfl 3 rfl ?_
          refine zr_iconst C dyL_law_588 zc_i_0 ?_
          refine zv_L_36t C hg.1 (st := []) h ⟨Nat.le_of_ble_eq_true rfl, Nat.le_of_ble_eq_true rfl⟩ (Nat.le_of_ble_eq_true rfl) dyL_law_589 ⟨hg.2.2.1, hg.2.2.2⟩ (fun r_423 h => ?_)
          refine zr_iload C dyL_law_592 5 rfl ?_
          refine zr_iload C dyL_law_594 1 rfl ?_
          refine zr_iadd C dyL_law_596 ?_
          refine zr_icmp_ne C dyL_law_597 (tgt := 661) (by decide) (fun hc_426 => ?_) (fun hc_426 => ?_)
          · replace h := zif_neg hc_426 h
            refine zr_sub (lv2 := [(15, .int r_413), (1, .ref s.heap.size), (2, .ref (B + 0)), (4, .int v4), (5, .int v5), (6, .int v6), (7, .int v7), (10, .int v10), (11, .int v11)]) [0, 2, 3, 4, 5, 6, 7, 9, 10] rfl ?_
            exact h
          · replace h := zif_pos hc_426 h
            refine zr_aload_n C dyL_law_600 rfl 3 rfl ?_
            refine zv_L_82t C hg.1 (st := []) h ⟨Nat.le_of_ble_eq_true rfl, Nat.le_of_ble_eq_true rfl⟩ (Nat.le_of_ble_eq_true rfl) dyL_law_601 ⟨hg.2.2.1, hg.2.2.2⟩ (fun r_424 h => ?_)
            refine zr_iload C dyL_law_604 11 rfl ?_
            refine zr_iconst C dyL_law_606 zc_i_1 ?_
            refine zr_iadd C dyL_law_607 ?_
            refine zr_icmp_ne C dyL_law_608 (tgt := 661) (by decide) (fun hc_425 => ?_) (fun hc_425 => ?_)
            · replace h := zif_neg hc_425 h
              refine zr_sub (lv2 := [(15, .int r_413), (1, .ref s.heap.size), (2, .ref (B + 0)), (4, .int v4), (5, .int v5), (6, .int v6), (7, .int v7), (10, .int v10), (11, .int v11)]) [0, 2, 3, 4, 5, 6, 7, 9, 10] rfl ?_
              exact h
            · replace h := zif_pos hc_425 h
              exact h
  refine zr_if_eq C dyL_law_542 (tgt := 559) (by decide) (fun hc_432 => ?_) (fun hc_432 => ?_)
  · replace h := zif_pos hc_432 h
    refine zr_iconst C dyL_law_559 zc_i_0 ?_
    exact h
  · replace h := zif_neg hc_432 h
    refine zr_aload_n C dyL_law_545 rfl 1 rfl ?_
    refine zr_aload_n C dyL_law_546 rfl 1 rfl ?_
    refine zr_iload C dyL_law_547 10 rfl ?_
    refine zv_L_96t C hg.1 (st := [.ref (B + 0)]) h ⟨Nat.le_of_ble_eq_true rfl, Nat.le_of_ble_eq_true rfl⟩ (Nat.le_of_ble_eq_true rfl) dyL_law_549 ⟨hg.2.2.1, hg.2.2.2⟩ (fun r_430 h => ?_)
    refine zr_iconst C dyL_law_552 zc_i_1 ?_
    refine zv_L_46t C hg.1 (st := []) h ⟨Nat.le_of_ble_eq_true rfl, Nat.le_of_ble_eq_true rfl⟩ (Nat.le_of_ble_eq_true rfl) dyL_law_553 ⟨hg.2.2.1, hg.2.2.2⟩ (fun r_431 h => ?_)
    refine zr_goto C dyL_law_556 (tgt := 560) (by decide) ?_
    exact h
def w_law_666 (v4 : Int32) (v5 : Int32) (v6 : Int32) (v7 : Int32) (v9 : Int32) (v10 : Int32) (v11 : Int32) (v12 : Int32) (v13 : Int32) (P1422 : Int32 → Int32 → (List zC) → Nat → Nat → zI → Prop) (c0 u0 : Nat) (S : List zC) (I : zI) : Prop :=
  w_Desk_swap v13 I (fun r_434 I_435 => ∀ (P684 : Int32 → Prop), (∀ (t_436 : Int32), (∀ (P711 : Int32 → Prop), (∀ (t_437 : Int32), (∀ (P743 : Int32 → Prop), (∀ (t_438 : Int32), (P1422 t_438 r_434 S c0 u0 I_435) → P743 t_438) → ∀ (P742 : Prop), ((P743 0) → P742) → (if t_436 = t_437 then (∀ (P738 : Prop), ((P743 1) → P738) → (if r_434 < 0 then P738 else (w_Desk_count 0 I_435 (fun r_439 => (if r_439 = v5 then (w_Desk_runs I_435 (fun r_440 => (if r_440 = v12 then P738 else P742))) else P742))))) else P742)) → P711 t_437) → ∀ (P710 : Prop), ((P711 0) → P710) → (if v9 = 0 then P710 else (if v12 ≤ (v13 + (1 : Int32)) then P710 else (if 3000 ≤ v11 then P710 else P711 1)))) → P684 t_436) → (if r_434 = 0 then P684 1 else P684 0))
set_option maxHeartbeats 8000000 in
set_option maxRecDepth 20000 in
theorem zl_law_666 {p : Program} {l : Launch} {e : Env} {s : State} {m : MethodId} {below : List Frame} {meth : Method} {c : Code} {D : va_G} {B : Nat} {cA : Nat → ClassId} {ad : Nat → Nat} {b : Nat} {S0 S : List zC} {I : zI} {c0 u0 : Nat} (C : zCx p s m #[Value.ref b] meth c cL_law 25 RL ret D B cA ad) (hB : B = s.heap.size + 1) {v4 : Int32} {v5 : Int32} {v6 : Int32} {v7 : Int32} {v9 : Int32} {v10 : Int32} {v11 : Int32} {v12 : Int32} {v13 : Int32} {P1422 : Int32 → Int32 → (List zC) → Nat → Nat → zI → Prop}  (hg : zGo S0 600000 7302250 S c0 u0) (h : w_law_666 v4 v5 v6 v7 v9 v10 v11 v12 v13 P1422 c0 u0 S I) (kP1422 : ∀ (v3_280 : Int32) (v15_281 : Int32) (S_282 : List zC) (c_283 : Nat) (u_284 : Nat) (I_286 : zI), P1422 v3_280 v15_281 S_282 c_283 u_284 I_286 → zGo S0 600000 7302250 S_282 c_283 u_284 → zX p l e room_1 s m #[Value.ref b] below meth c (lw_Z below #[Value.ref b] s) D B cA 25 c_283 u_284 S_282 I_286 [(15, .int v15_281), (11, .int v11), (10, .int v10), (7, .int v7), (6, .int v6), (5, .int v5), (1, .ref s.heap.size), (2, .ref (B + 0)), (4, .int v4), (3, .int v3_280)] [] 1422) : zX p l e room_1 s m #[Value.ref b] below meth c (lw_Z below #[Value.ref b] s) D B cA 25 c0 u0 S I [(1, .ref s.heap.size), (2, .ref (B + 0)), (4, .int v4), (5, .int v5), (6, .int v6), (7, .int v7), (9, .int v9), (10, .int v10), (11, .int v11), (12, .int v12), (13, .int v13)] [] 666 := by
  unfold w_law_666 at h
  refine zr_aload_n C dyL_law_666 rfl 1 rfl ?_
  refine zr_iload C dyL_law_667 10 rfl ?_
  refine zv_L_105t C hg.1 (st := []) h ⟨Nat.le_of_ble_eq_true rfl, Nat.le_of_ble_eq_true rfl⟩ (Nat.le_of_ble_eq_true rfl) dyL_law_669 ⟨hg.2.2.1, hg.2.2.2⟩ (fun r_434 I_435 h => ?_)
  refine zr_istore C dyL_law_672 (Nat.le_of_ble_eq_true rfl) (lv2 := [(15, .int r_434), (1, .ref s.heap.size), (2, .ref (B + 0)), (4, .int v4), (5, .int v5), (6, .int v6), (7, .int v7), (9, .int v9), (10, .int v10), (11, .int v11), (12, .int v12), (13, .int v13)]) rfl ?_
  refine zr_iload C dyL_law_674 0 rfl ?_
  refine zjn (h (fun (t_436 : Int32) => zX p l e room_1 s m #[Value.ref b] below meth c (lw_Z below #[Value.ref b] s) D B cA 25 c0 u0 S I_435 [(15, .int r_434), (1, .ref s.heap.size), (2, .ref (B + 0)), (4, .int v4), (5, .int v5), (6, .int v6), (7, .int v7), (9, .int v9), (10, .int v10), (11, .int v11), (12, .int v12), (13, .int v13)] [.int t_436] 684) (fun t_436 h => ?_)) (fun h => ?_)
  · refine zr_iload C dyL_law_684 7 rfl ?_
    refine zjn (h (fun (t_437 : Int32) => zX p l e room_1 s m #[Value.ref b] below meth c (lw_Z below #[Value.ref b] s) D B cA 25 c0 u0 S I_435 [(15, .int r_434), (1, .ref s.heap.size), (2, .ref (B + 0)), (4, .int v4), (5, .int v5), (6, .int v6), (7, .int v7), (10, .int v10), (11, .int v11), (12, .int v12)] [.int t_437, .int t_436] 711) (fun t_437 h => ?_)) (fun h => ?_)
    · refine zjn (h (fun (t_438 : Int32) => zX p l e room_1 s m #[Value.ref b] below meth c (lw_Z below #[Value.ref b] s) D B cA 25 c0 u0 S I_435 [(15, .int r_434), (1, .ref s.heap.size), (2, .ref (B + 0)), (4, .int v4), (5, .int v5), (6, .int v6), (7, .int v7), (10, .int v10), (11, .int v11)] [.int t_438] 743) (fun t_438 h => ?_)) (fun h => ?_)
      · refine zr_istore_n C dyL_law_743 rfl (Nat.le_of_ble_eq_true rfl) (lv2 := [(3, .int t_438), (15, .int r_434), (1, .ref s.heap.size), (2, .ref (B + 0)), (4, .int v4), (5, .int v5), (6, .int v6), (7, .int v7), (10, .int v10), (11, .int v11)]) rfl ?_
        refine zr_goto C dyL_law_744 (tgt := 1422) (by decide) ?_
        refine zr_sub (lv2 := [(15, .int r_434), (11, .int v11), (10, .int v10), (7, .int v7), (6, .int v6), (5, .int v5), (1, .ref s.heap.size), (2, .ref (B + 0)), (4, .int v4), (3, .int t_438)]) [1, 9, 8, 7, 6, 5, 2, 3, 4, 0] rfl ?_
        exact kP1422 _ _ _ _ _ _ h hg
      refine zjn (h (zX p l e room_1 s m #[Value.ref b] below meth c (lw_Z below #[Value.ref b] s) D B cA 25 c0 u0 S I_435 [(15, .int r_434), (1, .ref s.heap.size), (2, .ref (B + 0)), (4, .int v4), (5, .int v5), (6, .int v6), (7, .int v7), (10, .int v10), (11, .int v11)] [] 742) (fun  h => ?_)) (fun h => ?_)
      · refine zr_iconst C dyL_law_742 zc_i_0 ?_
        exact h
      refine zr_icmp_ne C dyL_law_711 (tgt := 742) (by decide) (fun hc_444 => ?_) (fun hc_444 => ?_)
      · replace h := zif_neg hc_444 h
        refine zr_sub (lv2 := [(15, .int r_434), (1, .ref s.heap.size), (2, .ref (B + 0)), (4, .int v4), (5, .int v5), (6, .int v6), (7, .int v7), (10, .int v10), (11, .int v11)]) [0, 1, 2, 3, 4, 5, 6, 7, 8] rfl ?_
        exact h
      · replace h := zif_pos hc_444 h
        refine zr_iload C dyL_law_714 0 rfl ?_
        refine zjn (h (zX p l e room_1 s m #[Value.ref b] below meth c (lw_Z below #[Value.ref b] s) D B cA 25 c0 u0 S I_435 [(15, .int r_434), (1, .ref s.heap.size), (2, .ref (B + 0)), (4, .int v4), (5, .int v5), (6, .int v6), (7, .int v7), (10, .int v10), (11, .int v11)] [] 738) (fun  h => ?_)) (fun h => ?_)
        · refine zr_iconst C dyL_law_738 zc_i_1 ?_
          refine zr_goto C dyL_law_739 (tgt := 743) (by decide) ?_
          exact h
        refine zr_if_lt C dyL_law_716 (tgt := 738) (by decide) (fun hc_443 => ?_) (fun hc_443 => ?_)
        · replace h := zif_pos hc_443 h
          refine zr_sub (lv2 := [(15, .int r_434), (1, .ref s.heap.size), (2, .ref (B + 0)), (4, .int v4), (5, .int v5), (6, .int v6), (7, .int v7), (10, .int v10), (11, .int v11)]) [0, 1, 2, 3, 4, 5, 6, 7, 8] rfl ?_
          exact h
        · replace h := zif_neg hc_443 h
          refine zr_aload_n C dyL_law_719 rfl 2 rfl ?_
          refine zr_iconst C dyL_law_720 zc_i_0 ?_
          refine zv_L_36t C hg.1 (st := []) h ⟨Nat.le_of_ble_eq_true rfl, Nat.le_of_ble_eq_true rfl⟩ (Nat.le_of_ble_eq_true rfl) dyL_law_721 ⟨hg.2.2.1, hg.2.2.2⟩ (fun r_439 h => ?_)
          refine zr_iload C dyL_law_724 4 rfl ?_
          refine zr_icmp_ne C dyL_law_726 (tgt := 742) (by decide) (fun hc_442 => ?_) (fun hc_442 => ?_)
          · replace h := zif_neg hc_442 h
            refine zr_sub (lv2 := [(15, .int r_434), (1, .ref s.heap.size), (2, .ref (B + 0)), (4, .int v4), (5, .int v5), (6, .int v6), (7, .int v7), (10, .int v10), (11, .int v11)]) [0, 1, 2, 3, 4, 5, 6, 7, 8] rfl ?_
            exact h
          · replace h := zif_pos hc_442 h
            refine zr_aload_n C dyL_law_729 rfl 2 rfl ?_
            refine zv_L_82t C hg.1 (st := []) h ⟨Nat.le_of_ble_eq_true rfl, Nat.le_of_ble_eq_true rfl⟩ (Nat.le_of_ble_eq_true rfl) dyL_law_730 ⟨hg.2.2.1, hg.2.2.2⟩ (fun r_440 h => ?_)
            refine zr_iload C dyL_law_733 9 rfl ?_
            refine zr_icmp_ne C dyL_law_735 (tgt := 742) (by decide) (fun hc_441 => ?_) (fun hc_441 => ?_)
            · replace h := zif_neg hc_441 h
              refine zr_sub (lv2 := [(15, .int r_434), (1, .ref s.heap.size), (2, .ref (B + 0)), (4, .int v4), (5, .int v5), (6, .int v6), (7, .int v7), (10, .int v10), (11, .int v11)]) [0, 1, 2, 3, 4, 5, 6, 7, 8] rfl ?_
              exact h
            · replace h := zif_pos hc_441 h
              refine zr_sub (lv2 := [(15, .int r_434), (1, .ref s.heap.size), (2, .ref (B + 0)), (4, .int v4), (5, .int v5), (6, .int v6), (7, .int v7), (10, .int v10), (11, .int v11)]) [0, 1, 2, 3, 4, 5, 6, 7, 8] rfl ?_
              exact h
    refine zjn (h (zX p l e room_1 s m #[Value.ref b] below meth c (lw_Z below #[Value.ref b] s) D B cA 25 c0 u0 S I_435 [(15, .int r_434), (1, .ref s.heap.size), (2, .ref (B + 0)), (4, .int v4), (5, .int v5), (6, .int v6), (7, .int v7), (10, .int v10), (11, .int v11), (12, .int v12)] [.int t_436] 710) (fun  h => ?_)) (fun h => ?_)
    · refine zr_iconst C dyL_law_710 zc_i_0 ?_
      exact h
    refine zr_if_eq C dyL_law_686 (tgt := 710) (by decide) (fun hc_447 => ?_) (fun hc_447 => ?_)
    · replace h := zif_pos hc_447 h
      refine zr_sub (lv2 := [(15, .int r_434), (1, .ref s.heap.size), (2, .ref (B + 0)), (4, .int v4), (5, .int v5), (6, .int v6), (7, .int v7), (10, .int v10), (11, .int v11), (12, .int v12)]) [0, 1, 2, 3, 4, 5, 6, 8, 9, 10] rfl ?_
      exact h
    · replace h := zif_neg hc_447 h
      refine zr_iload C dyL_law_689 11 rfl ?_
      refine zr_iconst C dyL_law_691 zc_i_1 ?_
      refine zr_iadd C dyL_law_692 ?_
      refine zr_iload C dyL_law_693 10 rfl ?_
      refine zr_icmp_ge C dyL_law_695 (tgt := 710) (by decide) (fun hc_446 => ?_) (fun hc_446 => ?_)
      · replace h := zif_pos hc_446 h
        refine zr_sub (lv2 := [(15, .int r_434), (1, .ref s.heap.size), (2, .ref (B + 0)), (4, .int v4), (5, .int v5), (6, .int v6), (7, .int v7), (10, .int v10), (11, .int v11), (12, .int v12)]) [0, 1, 2, 3, 4, 5, 6, 8, 9, 10] rfl ?_
        exact h
      · replace h := zif_neg hc_446 h
        refine zr_iload C dyL_law_698 9 rfl ?_
        refine zr_sipush C dyL_law_700 zc_s_3000 ?_
        refine zr_icmp_ge C dyL_law_703 (tgt := 710) (by decide) (fun hc_445 => ?_) (fun hc_445 => ?_)
        · replace h := zif_pos hc_445 h
          refine zr_sub (lv2 := [(15, .int r_434), (1, .ref s.heap.size), (2, .ref (B + 0)), (4, .int v4), (5, .int v5), (6, .int v6), (7, .int v7), (10, .int v10), (11, .int v11), (12, .int v12)]) [0, 1, 2, 3, 4, 5, 6, 8, 9, 10] rfl ?_
          exact h
        · replace h := zif_neg hc_445 h
          refine zr_iconst C dyL_law_706 zc_i_1 ?_
          refine zr_goto C dyL_law_707 (tgt := 711) (by decide) ?_
          refine zr_sub (lv2 := [(15, .int r_434), (1, .ref s.heap.size), (2, .ref (B + 0)), (4, .int v4), (5, .int v5), (6, .int v6), (7, .int v7), (10, .int v10), (11, .int v11), (12, .int v12)]) [0, 1, 2, 3, 4, 5, 6, 8, 9, 10] rfl ?_
          exact h
  refine zr_if_ne C dyL_law_676 (tgt := 683) (by decide) (fun hc_448 => ?_) (fun hc_448 => ?_)
  · replace h := zif_neg hc_448 h
    refine zr_iconst C dyL_law_683 zc_i_0 ?_
    exact h
  · replace h := zif_pos hc_448 h
    refine zr_iconst C dyL_law_679 zc_i_1 ?_
    refine zr_goto C dyL_law_680 (tgt := 684) (by decide) ?_
    exact h
def w_law_846 (v4 : Int32) (v5 : Int32) (v6 : Int32) (v7 : Int32) (v10 : Int32) (v11 : Int32) (v12 : Int32) (k14 : Nat) (n14 : Nat) (v16 : Int32) (v17 : Int32) (v18 : Int32) (v19 : Int32) (v20 : Int32) (k21 : Nat) (n21 : Nat) (v22 : Int32) (v23 : Int32) (P1422 : Int32 → Int32 → (List zC) → Nat → Nat → zI → Prop) (P846 : Int32 → Int32 → Prop) (c0 u0 : Nat) (S : List zC) (I : zI) : Prop :=
  w_Desk_count 1 I (fun r_467 => (if r_467 ≤ v23 then (w_Law_tape k21 n21 S I (fun I_468 => w_Desk_rename v16 I_468 (fun r_469 I_470 => ∀ (P984 : Int32 → Prop), (∀ (t_471 : Int32), (∀ (P1086 : Int32 → zI → Prop), (∀ (t_472 : Int32) (I_473 : zI), (P1422 t_472 r_469 S c0 u0 I_473) → P1086 t_472 I_473) → ∀ (P1085 : zI → Prop), (∀ (I_474 : zI), (P1086 0 I_474) → P1085 I_474) → (if t_471 = 0 then P1085 I_470 else (∀ (P1081 : zI → Prop), (∀ (I_475 : zI), (P1086 1 I_475) → P1081 I_475) → (if 0 ≤ r_469 then (w_Desk_count 7 I_470 (fun r_476 => (if r_476 = 0 then (w_Desk_token v16 2 I_470 (fun r_477 => (if r_477 = 3 then (w_Desk_fresh I_470 (fun r_478 => (if r_478 = v20 then (w_Desk_runs I_470 (fun r_479 => (if r_479 = v12 then (w_Desk_sets v16 I_470 (fun r_480 => (if r_480 < v19 then P1085 I_470 else (if v22 = 0 then P1081 I_470 else (w_Desk_sets v16 I_470 (fun r_481 => (if r_481 = v19 then (w_Desk_value v16 I_470 (fun r_482 => (if r_482 = v18 then P1081 I_470 else P1085 I_470))) else P1085 I_470))))))) else P1085 I_470))) else P1085 I_470))) else P1085 I_470))) else P1085 I_470))) else (w_Desk_back 3 I_470 (fun r_491 I_492 => (if r_491 = 0 then P1081 I_492 else P1085 I_492))))))) → P984 t_471) → ∀ (P983 : Prop), ((P984 0) → P983) → (if 0 < r_469 then P983 else (∀ (P954 : Prop), ((∀ (P979 : Prop), ((P984 1) → P979) → (if r_469 = 0 then P979 else (if v17 = 0 then P979 else (if 90 < v5 then P979 else (if v11 < 3000 then P983 else P979))))) → P954) → (if r_469 < 0 then P954 else (if v17 = 0 then P983 else P954))))))) else (w_Desk_token v23 1 I (fun r_503 => w_Desk_token v23 2 I (fun r_504 => ∀ (P919 : Int32 → Prop), (∀ (v22_505 : Int32), (∀ v23_506, v23_506 = (v23 + 1) → P846 v22_505 v23_506) → P919 v22_505) → (if r_504 = 3 then ((zAt S k14 n14 ∧ vp_in r_503 n14) ∧ (zAt S k21 n21 ∧ vp_in 0 n21) ∧ (if (I.1 k14 (Int32.toNatClampNeg r_503)) = (I.1 k21 0) then ((zAt S k14 n14 ∧ vp_in (r_503 + (1 : Int32)) n14) ∧ (zAt S k21 n21 ∧ vp_in 1 n21) ∧ (if (I.1 k14 (Int32.toNatClampNeg (r_503 + (1 : Int32)))) = (I.1 k21 1) then ((zAt S k14 n14 ∧ vp_in (r_503 + (2 : Int32)) n14) ∧ (zAt S k21 n21 ∧ vp_in 2 n21) ∧ (if (I.1 k14 (Int32.toNatClampNeg (r_503 + (2 : Int32)))) = (I.1 k21 2) then P919 0 else P919 v22)) else P919 v22)) else P919 v22)) else P919 v22))))))
set_option maxHeartbeats 8000000 in
set_option maxRecDepth 20000 in
theorem zl_law_846 {p : Program} {l : Launch} {e : Env} {s : State} {m : MethodId} {below : List Frame} {meth : Method} {c : Code} {D : va_G} {B : Nat} {cA : Nat → ClassId} {ad : Nat → Nat} {b : Nat} {S0 S : List zC} {I : zI} {c0 u0 : Nat} (C : zCx p s m #[Value.ref b] meth c cL_law 25 RL ret D B cA ad) (hB : B = s.heap.size + 1) {v4 : Int32} {v5 : Int32} {v6 : Int32} {v7 : Int32} {v10 : Int32} {v11 : Int32} {v12 : Int32} {k14 : Nat} {n14 : Nat} {v16 : Int32} {v17 : Int32} {v18 : Int32} {v19 : Int32} {v20 : Int32} {k21 : Nat} {n21 : Nat} {v22 : Int32} {v23 : Int32} {P1422 : Int32 → Int32 → (List zC) → Nat → Nat → zI → Prop} {P846 : Int32 → Int32 → Prop}  (hg : zGo S0 600000 7302250 S c0 u0) (h : w_law_846 v4 v5 v6 v7 v10 v11 v12 k14 n14 v16 v17 v18 v19 v20 k21 n21 v22 v23 P1422 P846 c0 u0 S I) (kP1422 : ∀ (v3_280 : Int32) (v15_281 : Int32) (S_282 : List zC) (c_283 : Nat) (u_284 : Nat) (I_286 : zI), P1422 v3_280 v15_281 S_282 c_283 u_284 I_286 → zGo S0 600000 7302250 S_282 c_283 u_284 → zX p l e room_1 s m #[Value.ref b] below meth c (lw_Z below #[Value.ref b] s) D B cA 25 c_283 u_284 S_282 I_286 [(15, .int v15_281), (11, .int v11), (10, .int v10), (7, .int v7), (6, .int v6), (5, .int v5), (1, .ref s.heap.size), (2, .ref (B + 0)), (4, .int v4), (3, .int v3_280)] [] 1422) (kP846 : ∀ (v22_465 : Int32) (v23_466 : Int32), P846 v22_465 v23_466 → zX p l e room_1 s m #[Value.ref b] below meth c (lw_Z below #[Value.ref b] s) D B cA 25 c0 u0 S I [(23, .int v23_466), (22, .int v22_465), (21, .ref (B + k21)), (20, .int v20), (19, .int v19), (18, .int v18), (17, .int v17), (16, .int v16), (1, .ref s.heap.size), (2, .ref (B + 0)), (4, .int v4), (5, .int v5), (6, .int v6), (7, .int v7), (10, .int v10), (11, .int v11), (12, .int v12), (14, .ref (B + k14))] [] 846) : zX p l e room_1 s m #[Value.ref b] below meth c (lw_Z below #[Value.ref b] s) D B cA 25 c0 u0 S I [(1, .ref s.heap.size), (2, .ref (B + 0)), (4, .int v4), (5, .int v5), (6, .int v6), (7, .int v7), (10, .int v10), (11, .int v11), (12, .int v12), (14, .ref (B + k14)), (16, .int v16), (17, .int v17), (18, .int v18), (19, .int v19), (20, .int v20), (21, .ref (B + k21)), (22, .int v22), (23, .int v23)] [] 846 := by
  unfold w_law_846 at h
  refine zr_iload C dyL_law_846 17 rfl ?_
  refine zr_aload_n C dyL_law_848 rfl 1 rfl ?_
  refine zr_iconst C dyL_law_849 zc_i_1 ?_
  refine zv_L_36t C hg.1 (st := [.int v23]) h ⟨Nat.le_of_ble_eq_true rfl, Nat.le_of_ble_eq_true rfl⟩ (Nat.le_of_ble_eq_true rfl) dyL_law_850 ⟨hg.2.2.1, hg.2.2.2⟩ (fun r_467 h => ?_)
  refine zr_icmp_ge C dyL_law_853 (tgt := 925) (by decide) (fun hc_511 => ?_) (fun hc_511 => ?_)
  · replace h := zif_pos hc_511 h
    refine zr_aload_n C dyL_law_925 rfl 1 rfl ?_
    refine zr_aload C dyL_law_926 15 rfl ?_
    refine zv_L_77t C hg.1 (st := []) h ⟨Nat.le_of_ble_eq_true rfl, Nat.le_of_ble_eq_true rfl⟩ (Nat.le_of_ble_eq_true rfl) dyL_law_928 ⟨hg.2.2.1, hg.2.2.2⟩ (fun I_468 h => ?_)
    refine zr_aload_n C dyL_law_931 rfl 1 rfl ?_
    refine zr_iload C dyL_law_932 10 rfl ?_
    refine zv_L_120t C hg.1 (st := []) h ⟨Nat.le_of_ble_eq_true rfl, Nat.le_of_ble_eq_true rfl⟩ (Nat.le_of_ble_eq_true rfl) dyL_law_934 ⟨hg.2.2.1, hg.2.2.2⟩ (fun r_469 I_470 h => ?_)
    refine zr_istore C dyL_law_937 (Nat.le_of_ble_eq_true rfl) (lv2 := [(15, .int r_469), (1, .ref s.heap.size), (2, .ref (B + 0)), (4, .int v4), (5, .int v5), (6, .int v6), (7, .int v7), (10, .int v10), (11, .int v11), (12, .int v12), (14, .ref (B + k14)), (16, .int v16), (17, .int v17), (18, .int v18), (19, .int v19), (20, .int v20), (21, .ref (B + k21)), (22, .int v22), (23, .int v23)]) rfl ?_
    refine zr_iload C dyL_law_939 0 rfl ?_
    refine zjn (h (fun (t_471 : Int32) => zX p l e room_1 s m #[Value.ref b] below meth c (lw_Z below #[Value.ref b] s) D B cA 25 c0 u0 S I_470 [(15, .int r_469), (1, .ref s.heap.size), (2, .ref (B + 0)), (4, .int v4), (5, .int v5), (6, .int v6), (7, .int v7), (10, .int v10), (11, .int v11), (12, .int v12), (16, .int v16), (18, .int v18), (19, .int v19), (20, .int v20), (22, .int v22)] [.int t_471] 984) (fun t_471 h => ?_)) (fun h => ?_)
    · refine zr_istore_n C dyL_law_984 rfl (Nat.le_of_ble_eq_true rfl) (lv2 := [(3, .int t_471), (15, .int r_469), (1, .ref s.heap.size), (2, .ref (B + 0)), (4, .int v4), (5, .int v5), (6, .int v6), (7, .int v7), (10, .int v10), (11, .int v11), (12, .int v12), (16, .int v16), (18, .int v18), (19, .int v19), (20, .int v20), (22, .int v22)]) rfl ?_
      refine zr_iload_n C dyL_law_985 rfl 0 rfl ?_
      refine zjn (h (fun (t_472 : Int32) (I_473 : zI) => zX p l e room_1 s m #[Value.ref b] below meth c (lw_Z below #[Value.ref b] s) D B cA 25 c0 u0 S I_473 [(15, .int r_469), (1, .ref s.heap.size), (2, .ref (B + 0)), (4, .int v4), (5, .int v5), (6, .int v6), (7, .int v7), (10, .int v10), (11, .int v11)] [.int t_472] 1086) (fun t_472 I_473 h => ?_)) (fun h => ?_)
      · refine zr_istore_n C dyL_law_1086 rfl (Nat.le_of_ble_eq_true rfl) (lv2 := [(3, .int t_472), (15, .int r_469), (1, .ref s.heap.size), (2, .ref (B + 0)), (4, .int v4), (5, .int v5), (6, .int v6), (7, .int v7), (10, .int v10), (11, .int v11)]) rfl ?_
        refine zr_goto C dyL_law_1087 (tgt := 1422) (by decide) ?_
        refine zr_sub (lv2 := [(15, .int r_469), (11, .int v11), (10, .int v10), (7, .int v7), (6, .int v6), (5, .int v5), (1, .ref s.heap.size), (2, .ref (B + 0)), (4, .int v4), (3, .int t_472)]) [1, 9, 8, 7, 6, 5, 2, 3, 4, 0] rfl ?_
        exact kP1422 _ _ _ _ _ _ h hg
      refine zjn (h (fun (I_474 : zI) => zX p l e room_1 s m #[Value.ref b] below meth c (lw_Z below #[Value.ref b] s) D B cA 25 c0 u0 S I_474 [(15, .int r_469), (1, .ref s.heap.size), (2, .ref (B + 0)), (4, .int v4), (5, .int v5), (6, .int v6), (7, .int v7), (10, .int v10), (11, .int v11)] [] 1085) (fun I_474 h => ?_)) (fun h => ?_)
      · refine zr_iconst C dyL_law_1085 zc_i_0 ?_
        exact h
      refine zr_if_eq C dyL_law_986 (tgt := 1085) (by decide) (fun hc_495 => ?_) (fun hc_495 => ?_)
      · replace h := zif_pos hc_495 h
        refine zr_sub (lv2 := [(15, .int r_469), (1, .ref s.heap.size), (2, .ref (B + 0)), (4, .int v4), (5, .int v5), (6, .int v6), (7, .int v7), (10, .int v10), (11, .int v11)]) [1, 2, 3, 4, 5, 6, 7, 8, 9] rfl ?_
        exact h
      · replace h := zif_neg hc_495 h
        refine zr_iload C dyL_law_989 1 rfl ?_
        refine zjn (h (fun (I_475 : zI) => zX p l e room_1 s m #[Value.ref b] below meth c (lw_Z below #[Value.ref b] s) D B cA 25 c0 u0 S I_475 [(15, .int r_469), (1, .ref s.heap.size), (2, .ref (B + 0)), (4, .int v4), (5, .int v5), (6, .int v6), (7, .int v7), (10, .int v10), (11, .int v11)] [] 1081) (fun I_475 h => ?_)) (fun h => ?_)
        · refine zr_iconst C dyL_law_1081 zc_i_1 ?_
          refine zr_goto C dyL_law_1082 (tgt := 1086) (by decide) ?_
          exact h
        refine zr_if_ge C dyL_law_991 (tgt := 1005) (by decide) (fun hc_494 => ?_) (fun hc_494 => ?_)
        · replace h := zif_pos hc_494 h
          refine zr_aload_n C dyL_law_1005 rfl 3 rfl ?_
          refine zr_bipush C dyL_law_1006 zc_b_7 ?_
          refine zv_L_36t C hg.1 (st := []) h ⟨Nat.le_of_ble_eq_true rfl, Nat.le_of_ble_eq_true rfl⟩ (Nat.le_of_ble_eq_true rfl) dyL_law_1008 ⟨hg.2.2.1, hg.2.2.2⟩ (fun r_476 h => ?_)
          refine zr_if_ne C dyL_law_1011 (tgt := 1085) (by decide) (fun hc_490 => ?_) (fun hc_490 => ?_)
          · replace h := zif_neg hc_490 h
            refine zr_sub (lv2 := [(15, .int r_469), (1, .ref s.heap.size), (2, .ref (B + 0)), (4, .int v4), (5, .int v5), (6, .int v6), (7, .int v7), (10, .int v10), (11, .int v11)]) [1, 2, 3, 4, 5, 6, 7, 8, 9] rfl ?_
            exact h
          · replace h := zif_pos hc_490 h
            refine zr_aload_n C dyL_law_1014 rfl 3 rfl ?_
            refine zr_iload C dyL_law_1015 11 rfl ?_
            refine zr_iconst C dyL_law_1017 zc_i_2 ?_
            refine zv_L_108t C hg.1 (st := []) h ⟨Nat.le_of_ble_eq_true rfl, Nat.le_of_ble_eq_true rfl⟩ (Nat.le_of_ble_eq_true rfl) dyL_law_1018 ⟨hg.2.2.1, hg.2.2.2⟩ (fun r_477 h => ?_)
            refine zr_iconst C dyL_law_1021 zc_i_3 ?_
            refine zr_icmp_ne C dyL_law_1022 (tgt := 1085) (by decide) (fun hc_489 => ?_) (fun hc_489 => ?_)
            · replace h := zif_neg hc_489 h
              refine zr_sub (lv2 := [(15, .int r_469), (1, .ref s.heap.size), (2, .ref (B + 0)), (4, .int v4), (5, .int v5), (6, .int v6), (7, .int v7), (10, .int v10), (11, .int v11)]) [1, 2, 3, 4, 5, 6, 7, 8, 9] rfl ?_
              exact h
            · replace h := zif_pos hc_489 h
              refine zr_aload_n C dyL_law_1025 rfl 3 rfl ?_
              refine zv_L_117t C hg.1 (st := []) h ⟨Nat.le_of_ble_eq_true rfl, Nat.le_of_ble_eq_true rfl⟩ (Nat.le_of_ble_eq_true rfl) dyL_law_1026 ⟨hg.2.2.1, hg.2.2.2⟩ (fun r_478 h => ?_)
              refine zr_iload C dyL_law_1029 14 rfl ?_
              refine zr_icmp_ne C dyL_law_1031 (tgt := 1085) (by decide) (fun hc_488 => ?_) (fun hc_488 => ?_)
              · replace h := zif_neg hc_488 h
                refine zr_sub (lv2 := [(15, .int r_469), (1, .ref s.heap.size), (2, .ref (B + 0)), (4, .int v4), (5, .int v5), (6, .int v6), (7, .int v7), (10, .int v10), (11, .int v11)]) [1, 2, 3, 4, 5, 6, 7, 8, 9] rfl ?_
                exact h
              · replace h := zif_pos hc_488 h
                refine zr_aload_n C dyL_law_1034 rfl 3 rfl ?_
                refine zv_L_82t C hg.1 (st := []) h ⟨Nat.le_of_ble_eq_true rfl, Nat.le_of_ble_eq_true rfl⟩ (Nat.le_of_ble_eq_true rfl) dyL_law_1035 ⟨hg.2.2.1, hg.2.2.2⟩ (fun r_479 h => ?_)
                refine zr_iload C dyL_law_1038 10 rfl ?_
                refine zr_icmp_ne C dyL_law_1040 (tgt := 1085) (by decide) (fun hc_487 => ?_) (fun hc_487 => ?_)
                · replace h := zif_neg hc_487 h
                  refine zr_sub (lv2 := [(15, .int r_469), (1, .ref s.heap.size), (2, .ref (B + 0)), (4, .int v4), (5, .int v5), (6, .int v6), (7, .int v7), (10, .int v10), (11, .int v11)]) [1, 2, 3, 4, 5, 6, 7, 8, 9] rfl ?_
                  exact h
                · replace h := zif_pos hc_487 h
                  refine zr_aload_n C dyL_law_1043 rfl 3 rfl ?_
                  refine zr_iload C dyL_law_1044 11 rfl ?_
                  refine zv_L_114t C hg.1 (st := []) h ⟨Nat.le_of_ble_eq_true rfl, Nat.le_of_ble_eq_true rfl⟩ (Nat.le_of_ble_eq_true rfl) dyL_law_1046 ⟨hg.2.2.1, hg.2.2.2⟩ (fun r_480 h => ?_)
                  refine zr_iload C dyL_law_1049 13 rfl ?_
                  refine zr_icmp_lt C dyL_law_1051 (tgt := 1085) (by decide) (fun hc_486 => ?_) (fun hc_486 => ?_)
                  · replace h := zif_pos hc_486 h
                    refine zr_sub (lv2 := [(15, .int r_469), (1, .ref s.heap.size), (2, .ref (B + 0)), (4, .int v4), (5, .int v5), (6, .int v6), (7, .int v7), (10, .int v10), (11, .int v11)]) [1, 2, 3, 4, 5, 6, 7, 8, 9] rfl ?_
                    exact h
                  · replace h := zif_neg hc_486 h
                    refine zr_iload C dyL_law_1054 15 rfl ?_
                    refine zr_if_eq C dyL_law_1056 (tgt := 1081) (by decide) (fun hc_485 => ?_) (fun hc_485 => ?_)
                    · replace h := zif_pos hc_485 h
                      refine zr_sub (lv2 := [(15, .int r_469), (1, .ref s.heap.size), (2, .ref (B + 0)), (4, .int v4), (5, .int v5), (6, .int v6), (7, .int v7), (10, .int v10), (11, .int v11)]) [1, 2, 3, 4, 5, 6, 7, 8, 9] rfl ?_
                      exact h
                    · replace h := zif_neg hc_485 h
                      refine zr_aload_n C dyL_law_1059 rfl 3 rfl ?_
                      refine zr_iload C dyL_law_1060 11 rfl ?_
                      refine zv_L_114t C hg.1 (st := []) h ⟨Nat.le_of_ble_eq_true rfl, Nat.le_of_ble_eq_true rfl⟩ (Nat.le_of_ble_eq_true rfl) dyL_law_1062 ⟨hg.2.2.1, hg.2.2.2⟩ (fun r_481 h => ?_)
                      refine zr_iload C dyL_law_1065 13 rfl ?_
                      refine zr_icmp_ne C dyL_law_1067 (tgt := 1085) (by decide) (fun hc_484 => ?_) (fun hc_484 => ?_)
                      · replace h := zif_neg hc_484 h
                        refine zr_sub (lv2 := [(15, .int r_469), (1, .ref s.heap.size), (2, .ref (B + 0)), (4, .int v4), (5, .int v5), (6, .int v6), (7, .int v7), (10, .int v10), (11, .int v11)]) [1, 2, 3, 4, 5, 6, 7, 8, 9] rfl ?_
                        exact h
                      · replace h := zif_pos hc_484 h
                        refine zr_aload_n C dyL_law_1070 rfl 3 rfl ?_
                        refine zr_iload C dyL_law_1071 11 rfl ?_
                        refine zv_L_111t C hg.1 (st := []) h ⟨Nat.le_of_ble_eq_true rfl, Nat.le_of_ble_eq_true rfl⟩ (Nat.le_of_ble_eq_true rfl) dyL_law_1073 ⟨hg.2.2.1, hg.2.2.2⟩ (fun r_482 h => ?_)
                        refine zr_iload C dyL_law_1076 12 rfl ?_
                        refine zr_icmp_ne C dyL_law_1078 (tgt := 1085) (by decide) (fun hc_483 => ?_) (fun hc_483 => ?_)
                        · replace h := zif_neg hc_483 h
                          refine zr_sub (lv2 := [(15, .int r_469), (1, .ref s.heap.size), (2, .ref (B + 0)), (4, .int v4), (5, .int v5), (6, .int v6), (7, .int v7), (10, .int v10), (11, .int v11)]) [1, 2, 3, 4, 5, 6, 7, 8, 9] rfl ?_
                          exact h
                        · replace h := zif_pos hc_483 h
                          refine zr_sub (lv2 := [(15, .int r_469), (1, .ref s.heap.size), (2, .ref (B + 0)), (4, .int v4), (5, .int v5), (6, .int v6), (7, .int v7), (10, .int v10), (11, .int v11)]) [1, 2, 3, 4, 5, 6, 7, 8, 9] rfl ?_
                          exact h
        · replace h := zif_neg hc_494 h
          refine zr_aload_n C dyL_law_994 rfl 3 rfl ?_
          refine zr_iconst C dyL_law_995 zc_i_3 ?_
          refine zv_L_13t C hg.1 (st := []) h ⟨Nat.le_of_ble_eq_true rfl, Nat.le_of_ble_eq_true rfl⟩ (Nat.le_of_ble_eq_true rfl) dyL_law_996 ⟨hg.2.2.1, hg.2.2.2⟩ (fun r_491 I_492 h => ?_)
          refine zr_if_ne C dyL_law_999 (tgt := 1085) (by decide) (fun hc_493 => ?_) (fun hc_493 => ?_)
          · replace h := zif_neg hc_493 h
            refine zr_sub (lv2 := [(15, .int r_469), (1, .ref s.heap.size), (2, .ref (B + 0)), (4, .int v4), (5, .int v5), (6, .int v6), (7, .int v7), (10, .int v10), (11, .int v11)]) [1, 2, 3, 4, 5, 6, 7, 8, 9] rfl ?_
            exact h
          · replace h := zif_pos hc_493 h
            refine zr_goto C dyL_law_1002 (tgt := 1081) (by decide) ?_
            refine zr_sub (lv2 := [(15, .int r_469), (1, .ref s.heap.size), (2, .ref (B + 0)), (4, .int v4), (5, .int v5), (6, .int v6), (7, .int v7), (10, .int v10), (11, .int v11)]) [1, 2, 3, 4, 5, 6, 7, 8, 9] rfl ?_
            exact h
    refine zjn (h (zX p l e room_1 s m #[Value.ref b] below meth c (lw_Z below #[Value.ref b] s) D B cA 25 c0 u0 S I_470 [(15, .int r_469), (1, .ref s.heap.size), (2, .ref (B + 0)), (4, .int v4), (5, .int v5), (6, .int v6), (7, .int v7), (10, .int v10), (11, .int v11), (12, .int v12), (16, .int v16), (18, .int v18), (19, .int v19), (20, .int v20), (22, .int v22)] [] 983) (fun  h => ?_)) (fun h => ?_)
    · refine zr_iconst C dyL_law_983 zc_i_0 ?_
      exact h
    refine zr_if_gt C dyL_law_941 (tgt := 983) (by decide) (fun hc_502 => ?_) (fun hc_502 => ?_)
    · replace h := zif_pos hc_502 h
      refine zr_sub (lv2 := [(15, .int r_469), (1, .ref s.heap.size), (2, .ref (B + 0)), (4, .int v4), (5, .int v5), (6, .int v6), (7, .int v7), (10, .int v10), (11, .int v11), (12, .int v12), (16, .int v16), (18, .int v18), (19, .int v19), (20, .int v20), (22, .int v22)]) [0, 1, 2, 3, 4, 5, 6, 7, 8, 9, 11, 13, 14, 15, 17] rfl ?_
      exact h
    · replace h := zif_neg hc_502 h
      refine zr_iload C dyL_law_944 0 rfl ?_
      refine zjn (h (zX p l e room_1 s m #[Value.ref b] below meth c (lw_Z below #[Value.ref b] s) D B cA 25 c0 u0 S I_470 [(15, .int r_469), (1, .ref s.heap.size), (2, .ref (B + 0)), (4, .int v4), (5, .int v5), (6, .int v6), (7, .int v7), (10, .int v10), (11, .int v11), (12, .int v12), (16, .int v16), (17, .int v17), (18, .int v18), (19, .int v19), (20, .int v20), (22, .int v22)] [] 954) (fun  h => ?_)) (fun h => ?_)
      · refine zr_iload C dyL_law_954 0 rfl ?_
        refine zjn (h (zX p l e room_1 s m #[Value.ref b] below meth c (lw_Z below #[Value.ref b] s) D B cA 25 c0 u0 S I_470 [(15, .int r_469), (1, .ref s.heap.size), (2, .ref (B + 0)), (4, .int v4), (5, .int v5), (6, .int v6), (7, .int v7), (10, .int v10), (11, .int v11), (12, .int v12), (16, .int v16), (18, .int v18), (19, .int v19), (20, .int v20), (22, .int v22)] [] 979) (fun  h => ?_)) (fun h => ?_)
        · refine zr_iconst C dyL_law_979 zc_i_1 ?_
          refine zr_goto C dyL_law_980 (tgt := 984) (by decide) ?_
          exact h
        refine zr_if_eq C dyL_law_956 (tgt := 979) (by decide) (fun hc_499 => ?_) (fun hc_499 => ?_)
        · replace h := zif_pos hc_499 h
          refine zr_sub (lv2 := [(15, .int r_469), (1, .ref s.heap.size), (2, .ref (B + 0)), (4, .int v4), (5, .int v5), (6, .int v6), (7, .int v7), (10, .int v10), (11, .int v11), (12, .int v12), (16, .int v16), (18, .int v18), (19, .int v19), (20, .int v20), (22, .int v22)]) [0, 1, 2, 3, 4, 5, 6, 7, 8, 9, 10, 12, 13, 14, 15] rfl ?_
          exact h
        · replace h := zif_neg hc_499 h
          refine zr_iload C dyL_law_959 11 rfl ?_
          refine zr_if_eq C dyL_law_961 (tgt := 979) (by decide) (fun hc_498 => ?_) (fun hc_498 => ?_)
          · replace h := zif_pos hc_498 h
            refine zr_sub (lv2 := [(15, .int r_469), (1, .ref s.heap.size), (2, .ref (B + 0)), (4, .int v4), (5, .int v5), (6, .int v6), (7, .int v7), (10, .int v10), (11, .int v11), (12, .int v12), (16, .int v16), (18, .int v18), (19, .int v19), (20, .int v20), (22, .int v22)]) [0, 1, 2, 3, 4, 5, 6, 7, 8, 9, 10, 12, 13, 14, 15] rfl ?_
            exact h
          · replace h := zif_neg hc_498 h
            refine zr_iload C dyL_law_964 4 rfl ?_
            refine zr_bipush C dyL_law_966 zc_b_90 ?_
            refine zr_icmp_gt C dyL_law_968 (tgt := 979) (by decide) (fun hc_497 => ?_) (fun hc_497 => ?_)
            · replace h := zif_pos hc_497 h
              refine zr_sub (lv2 := [(15, .int r_469), (1, .ref s.heap.size), (2, .ref (B + 0)), (4, .int v4), (5, .int v5), (6, .int v6), (7, .int v7), (10, .int v10), (11, .int v11), (12, .int v12), (16, .int v16), (18, .int v18), (19, .int v19), (20, .int v20), (22, .int v22)]) [0, 1, 2, 3, 4, 5, 6, 7, 8, 9, 10, 12, 13, 14, 15] rfl ?_
              exact h
            · replace h := zif_neg hc_497 h
              refine zr_iload C dyL_law_971 8 rfl ?_
              refine zr_sipush C dyL_law_973 zc_s_3000 ?_
              refine zr_icmp_lt C dyL_law_976 (tgt := 983) (by decide) (fun hc_496 => ?_) (fun hc_496 => ?_)
              · replace h := zif_pos hc_496 h
                refine zr_sub (lv2 := [(15, .int r_469), (1, .ref s.heap.size), (2, .ref (B + 0)), (4, .int v4), (5, .int v5), (6, .int v6), (7, .int v7), (10, .int v10), (11, .int v11), (12, .int v12), (16, .int v16), (18, .int v18), (19, .int v19), (20, .int v20), (22, .int v22)]) [0, 1, 2, 3, 4, 5, 6, 7, 8, 9, 10, 12, 13, 14, 15] rfl ?_
                exact h
              · replace h := zif_neg hc_496 h
                refine zr_sub (lv2 := [(15, .int r_469), (1, .ref s.heap.size), (2, .ref (B + 0)), (4, .int v4), (5, .int v5), (6, .int v6), (7, .int v7), (10, .int v10), (11, .int v11), (12, .int v12), (16, .int v16), (18, .int v18), (19, .int v19), (20, .int v20), (22, .int v22)]) [0, 1, 2, 3, 4, 5, 6, 7, 8, 9, 10, 12, 13, 14, 15] rfl ?_
                exact h
      refine zr_if_lt C dyL_law_946 (tgt := 954) (by decide) (fun hc_501 => ?_) (fun hc_501 => ?_)
      · replace h := zif_pos hc_501 h
        refine zr_sub (lv2 := [(15, .int r_469), (1, .ref s.heap.size), (2, .ref (B + 0)), (4, .int v4), (5, .int v5), (6, .int v6), (7, .int v7), (10, .int v10), (11, .int v11), (12, .int v12), (16, .int v16), (17, .int v17), (18, .int v18), (19, .int v19), (20, .int v20), (22, .int v22)]) [0, 1, 2, 3, 4, 5, 6, 7, 8, 9, 11, 12, 13, 14, 15, 17] rfl ?_
        exact h
      · replace h := zif_neg hc_501 h
        refine zr_iload C dyL_law_949 12 rfl ?_
        refine zr_if_eq C dyL_law_951 (tgt := 983) (by decide) (fun hc_500 => ?_) (fun hc_500 => ?_)
        · replace h := zif_pos hc_500 h
          refine zr_sub (lv2 := [(15, .int r_469), (1, .ref s.heap.size), (2, .ref (B + 0)), (4, .int v4), (5, .int v5), (6, .int v6), (7, .int v7), (10, .int v10), (11, .int v11), (12, .int v12), (16, .int v16), (18, .int v18), (19, .int v19), (20, .int v20), (22, .int v22)]) [0, 1, 2, 3, 4, 5, 6, 7, 8, 9, 11, 13, 14, 15, 17] rfl ?_
          exact h
        · replace h := zif_neg hc_500 h
          refine zr_sub (lv2 := [(15, .int r_469), (1, .ref s.heap.size), (2, .ref (B + 0)), (4, .int v4), (5, .int v5), (6, .int v6), (7, .int v7), (10, .int v10), (11, .int v11), (12, .int v12), (16, .int v16), (17, .int v17), (18, .int v18), (19, .int v19), (20, .int v20), (22, .int v22)]) [0, 1, 2, 3, 4, 5, 6, 7, 8, 9, 11, 12, 13, 14, 15, 17] rfl ?_
          exact h
  · replace h := zif_neg hc_511 h
    refine zr_aload_n C dyL_law_856 rfl 1 rfl ?_
    refine zr_iload C dyL_law_857 17 rfl ?_
    refine zr_iconst C dyL_law_859 zc_i_1 ?_
    refine zv_L_108t C hg.1 (st := []) h ⟨Nat.le_of_ble_eq_true rfl, Nat.le_of_ble_eq_true rfl⟩ (Nat.le_of_ble_eq_true rfl) dyL_law_860 ⟨hg.2.2.1, hg.2.2.2⟩ (fun r_503 h => ?_)
    refine zr_istore C dyL_law_863 (Nat.le_of_ble_eq_true rfl) (lv2 := [(24, .int r_503), (1, .ref s.heap.size), (2, .ref (B + 0)), (4, .int v4), (5, .int v5), (6, .int v6), (7, .int v7), (10, .int v10), (11, .int v11), (12, .int v12), (14, .ref (B + k14)), (16, .int v16), (17, .int v17), (18, .int v18), (19, .int v19), (20, .int v20), (21, .ref (B + k21)), (22, .int v22), (23, .int v23)]) rfl ?_
    refine zr_aload_n C dyL_law_865 rfl 2 rfl ?_
    refine zr_iload C dyL_law_866 18 rfl ?_
    refine zr_iconst C dyL_law_868 zc_i_2 ?_
    refine zv_L_108t C hg.1 (st := []) h ⟨Nat.le_of_ble_eq_true rfl, Nat.le_of_ble_eq_true rfl⟩ (Nat.le_of_ble_eq_true rfl) dyL_law_869 ⟨hg.2.2.1, hg.2.2.2⟩ (fun r_504 h => ?_)
    refine zr_iconst C dyL_law_872 zc_i_3 ?_
    refine zjn (h (fun (v22_505 : Int32) => zX p l e room_1 s m #[Value.ref b] below meth c (lw_Z below #[Value.ref b] s) D B cA 25 c0 u0 S I [(1, .ref s.heap.size), (2, .ref (B + 0)), (4, .int v4), (5, .int v5), (6, .int v6), (7, .int v7), (10, .int v10), (11, .int v11), (12, .int v12), (14, .ref (B + k14)), (16, .int v16), (17, .int v17), (18, .int v18), (19, .int v19), (20, .int v20), (21, .ref (B + k21)), (22, .int v22_505), (23, .int v23)] [] 919) (fun v22_505 h => ?_)) (fun h => ?_)
    · refine zn_iinc C (fun v23_506 => [(23, .int v23_506), (1, .ref s.heap.size), (2, .ref (B + 0)), (4, .int v4), (5, .int v5), (6, .int v6), (7, .int v7), (10, .int v10), (11, .int v11), (12, .int v12), (14, .ref (B + k14)), (16, .int v16), (17, .int v17), (18, .int v18), (19, .int v19), (20, .int v20), (21, .ref (B + k21)), (22, .int v22_505)]) dyL_law_919 17 rfl zc_i_1 (Nat.le_of_ble_eq_true rfl) (fun _ => rfl) (fun v23_506 ev23_506 => ?_)
      replace h := h v23_506 ev23_506
      refine zr_goto C dyL_law_922 (tgt := 846) (by decide) ?_
      refine zr_sub (lv2 := [(23, .int v23_506), (22, .int v22_505), (21, .ref (B + k21)), (20, .int v20), (19, .int v19), (18, .int v18), (17, .int v17), (16, .int v16), (1, .ref s.heap.size), (2, .ref (B + 0)), (4, .int v4), (5, .int v5), (6, .int v6), (7, .int v7), (10, .int v10), (11, .int v11), (12, .int v12), (14, .ref (B + k14))]) [0, 17, 16, 15, 14, 13, 12, 11, 1, 2, 3, 4, 5, 6, 7, 8, 9, 10] rfl ?_
      exact kP846 _ _ h
    refine zr_icmp_ne C dyL_law_873 (tgt := 919) (by decide) (fun hc_510 => ?_) (fun hc_510 => ?_)
    · replace h := zif_neg hc_510 h
      refine zr_sub (lv2 := [(1, .ref s.heap.size), (2, .ref (B + 0)), (4, .int v4), (5, .int v5), (6, .int v6), (7, .int v7), (10, .int v10), (11, .int v11), (12, .int v12), (14, .ref (B + k14)), (16, .int v16), (17, .int v17), (18, .int v18), (19, .int v19), (20, .int v20), (21, .ref (B + k21)), (22, .int v22), (23, .int v23)]) [1, 2, 3, 4, 5, 6, 7, 8, 9, 10, 11, 12, 13, 14, 15, 16, 17, 18] rfl ?_
      exact h
    · replace h := zif_pos hc_510 h
      refine zr_aload C dyL_law_876 10 rfl ?_
      refine zr_iload C dyL_law_878 0 rfl ?_
      refine zr_iald C h.1.1 h.1.2 dyL_law_880 ?_
      replace h := h.2
      refine zr_aload C dyL_law_881 16 rfl ?_
      refine zr_iconst C dyL_law_883 zc_i_0 ?_
      refine zr_iald C h.1.1 h.1.2 dyL_law_884 ?_
      replace h := h.2
      refine zr_icmp_ne C dyL_law_885 (tgt := 919) (by decide) (fun hc_509 => ?_) (fun hc_509 => ?_)
      · replace h := zif_neg hc_509 h
        refine zr_sub (lv2 := [(1, .ref s.heap.size), (2, .ref (B + 0)), (4, .int v4), (5, .int v5), (6, .int v6), (7, .int v7), (10, .int v10), (11, .int v11), (12, .int v12), (14, .ref (B + k14)), (16, .int v16), (17, .int v17), (18, .int v18), (19, .int v19), (20, .int v20), (21, .ref (B + k21)), (22, .int v22), (23, .int v23)]) [1, 2, 3, 4, 5, 6, 7, 8, 9, 10, 11, 12, 13, 14, 15, 16, 17, 18] rfl ?_
        exact h
      · replace h := zif_pos hc_509 h
        refine zr_aload C dyL_law_888 10 rfl ?_
        refine zr_iload C dyL_law_890 0 rfl ?_
        refine zr_iconst C dyL_law_892 zc_i_1 ?_
        refine zr_iadd C dyL_law_893 ?_
        refine zr_iald C h.1.1 h.1.2 dyL_law_894 ?_
        replace h := h.2
        refine zr_aload C dyL_law_895 16 rfl ?_
        refine zr_iconst C dyL_law_897 zc_i_1 ?_
        refine zr_iald C h.1.1 h.1.2 dyL_law_898 ?_
        replace h := h.2
        refine zr_icmp_ne C dyL_law_899 (tgt := 919) (by decide) (fun hc_508 => ?_) (fun hc_508 => ?_)
        · replace h := zif_neg hc_508 h
          refine zr_sub (lv2 := [(1, .ref s.heap.size), (2, .ref (B + 0)), (4, .int v4), (5, .int v5), (6, .int v6), (7, .int v7), (10, .int v10), (11, .int v11), (12, .int v12), (14, .ref (B + k14)), (16, .int v16), (17, .int v17), (18, .int v18), (19, .int v19), (20, .int v20), (21, .ref (B + k21)), (22, .int v22), (23, .int v23)]) [1, 2, 3, 4, 5, 6, 7, 8, 9, 10, 11, 12, 13, 14, 15, 16, 17, 18] rfl ?_
          exact h
        · replace h := zif_pos hc_508 h
          refine zr_aload C dyL_law_902 10 rfl ?_
          refine zr_iload C dyL_law_904 0 rfl ?_
          refine zr_iconst C dyL_law_906 zc_i_2 ?_
          refine zr_iadd C dyL_law_907 ?_
          refine zr_iald C h.1.1 h.1.2 dyL_law_908 ?_
          replace h := h.2
          refine zr_aload C dyL_law_909 16 rfl ?_
          refine zr_iconst C dyL_law_911 zc_i_2 ?_
          refine zr_iald C h.1.1 h.1.2 dyL_law_912 ?_
          replace h := h.2
          refine zr_icmp_ne C dyL_law_913 (tgt := 919) (by decide) (fun hc_507 => ?_) (fun hc_507 => ?_)
          · replace h := zif_neg hc_507 h
            refine zr_sub (lv2 := [(1, .ref s.heap.size), (2, .ref (B + 0)), (4, .int v4), (5, .int v5), (6, .int v6), (7, .int v7), (10, .int v10), (11, .int v11), (12, .int v12), (14, .ref (B + k14)), (16, .int v16), (17, .int v17), (18, .int v18), (19, .int v19), (20, .int v20), (21, .ref (B + k21)), (22, .int v22), (23, .int v23)]) [1, 2, 3, 4, 5, 6, 7, 8, 9, 10, 11, 12, 13, 14, 15, 16, 17, 18] rfl ?_
            exact h
          · replace h := zif_pos hc_507 h
            refine zr_iconst C dyL_law_916 zc_i_0 ?_
            refine zr_istore C dyL_law_917 (Nat.le_of_ble_eq_true rfl) (lv2 := [(22, .int 0), (24, .int r_503), (1, .ref s.heap.size), (2, .ref (B + 0)), (4, .int v4), (5, .int v5), (6, .int v6), (7, .int v7), (10, .int v10), (11, .int v11), (12, .int v12), (14, .ref (B + k14)), (16, .int v16), (17, .int v17), (18, .int v18), (19, .int v19), (20, .int v20), (21, .ref (B + k21)), (23, .int v23)]) rfl ?_
            refine zr_sub (lv2 := [(1, .ref s.heap.size), (2, .ref (B + 0)), (4, .int v4), (5, .int v5), (6, .int v6), (7, .int v7), (10, .int v10), (11, .int v11), (12, .int v12), (14, .ref (B + k14)), (16, .int v16), (17, .int v17), (18, .int v18), (19, .int v19), (20, .int v20), (21, .ref (B + k21)), (22, .int 0), (23, .int v23)]) [2, 3, 4, 5, 6, 7, 8, 9, 10, 11, 12, 13, 14, 15, 16, 17, 0, 18] rfl ?_
            exact h
def w_law_747 (v4 : Int32) (v5 : Int32) (v6 : Int32) (v7 : Int32) (v9 : Int32) (v10 : Int32) (v11 : Int32) (v12 : Int32) (k14 : Nat) (n14 : Nat) (P1422 : Int32 → Int32 → (List zC) → Nat → Nat → zI → Prop) (c0 u0 : Nat) (S : List zC) (I : zI) : Prop :=
  vp_in v4 44 ∧ ∀ (v_450 : Int32), w_Desk_count 3 I (fun r_451 => ¬ r_451 = 0 ∧ ∀ v16_452, v16_452 = (((v_450 >>> ((4 : Int32) &&& (31 : Int32))) &&& (255 : Int32)) - ((v_450 >>> ((4 : Int32) &&& (31 : Int32))) &&& (255 : Int32)) / r_451 * r_451) → ∀ (P785 : Int32 → Prop), (∀ (t_453 : Int32), (w_Desk_value v16_452 I (fun r_454 => w_Desk_sets v16_452 I (fun r_455 => w_Desk_fresh I (fun r_456 => (zZ I S.length ∧ (0 : Int32) ≤ 3 ∧ Int32.toNatClampNeg 3 ≤ 100000 ∧ c0 + 1 ≤ 600000 ∧ u0 + Int32.toNatClampNeg 3 ≤ 7302250) ∧ ∀ (S_457 : List zC) (k_458 n_459 : Nat), S_457 = S ++ [.inr (.inl (0, n_459))] → k_458 = S.length → n_459 = Int32.toNatClampNeg 3 → (zAt S_457 k_458 n_459 ∧ vp_in 0 n_459) ∧ ∀ I_461, I_461 = (zu I k_458 0 122) → (zAt S_457 k_458 n_459 ∧ vp_in 1 n_459) ∧ ∀ I_462, I_462 = (zu I_461 k_458 1 122) → vp_in v4 44 ∧ ∀ (v_463 : Int32), (zAt S_457 k_458 n_459 ∧ vp_in 2 n_459) ∧ ∀ I_464, I_464 = (zu I_462 k_458 2 ((97 : Int32) + ((v_463 >>> ((12 : Int32) &&& (31 : Int32))) &&& (7 : Int32)))) → ∀ (P846 : Int32 → Int32 → Prop), (∀ (v22_465 : Int32) (v23_466 : Int32), (w_law_846 v4 v5 v6 v7 v10 v11 v12 k14 n14 v16_452 t_453 r_454 r_455 r_456 k_458 n_459 v22_465 v23_466 P1422 P846 (c0 + 1) (u0 + n_459) S_457 I_464) → P846 v22_465 v23_466) → P846 1 0)))) → P785 t_453) → ∀ (P784 : Prop), ((P785 0) → P784) → (if v9 = 0 then P784 else (w_Desk_token v16_452 0 I (fun r_512 => (if r_512 = 0 then P785 1 else P784)))))
set_option maxHeartbeats 8000000 in
set_option maxRecDepth 20000 in
theorem zl_law_747 {p : Program} {l : Launch} {e : Env} {s : State} {m : MethodId} {below : List Frame} {meth : Method} {c : Code} {D : va_G} {B : Nat} {cA : Nat → ClassId} {ad : Nat → Nat} {b : Nat} {S0 S : List zC} {I : zI} {c0 u0 : Nat} (C : zCx p s m #[Value.ref b] meth c cL_law 25 RL ret D B cA ad) (hB : B = s.heap.size + 1) {v4 : Int32} {v5 : Int32} {v6 : Int32} {v7 : Int32} {v9 : Int32} {v10 : Int32} {v11 : Int32} {v12 : Int32} {k14 : Nat} {n14 : Nat} {P1422 : Int32 → Int32 → (List zC) → Nat → Nat → zI → Prop}  (hg : zGo S0 600000 7302250 S c0 u0) (h : w_law_747 v4 v5 v6 v7 v9 v10 v11 v12 k14 n14 P1422 c0 u0 S I) (kP1422 : ∀ (v3_280 : Int32) (v15_281 : Int32) (S_282 : List zC) (c_283 : Nat) (u_284 : Nat) (I_286 : zI), P1422 v3_280 v15_281 S_282 c_283 u_284 I_286 → zGo S0 600000 7302250 S_282 c_283 u_284 → zX p l e room_1 s m #[Value.ref b] below meth c (lw_Z below #[Value.ref b] s) D B cA 25 c_283 u_284 S_282 I_286 [(15, .int v15_281), (11, .int v11), (10, .int v10), (7, .int v7), (6, .int v6), (5, .int v5), (1, .ref s.heap.size), (2, .ref (B + 0)), (4, .int v4), (3, .int v3_280)] [] 1422) : zX p l e room_1 s m #[Value.ref b] below meth c (lw_Z below #[Value.ref b] s) D B cA 25 c0 u0 S I [(1, .ref s.heap.size), (2, .ref (B + 0)), (4, .int v4), (5, .int v5), (6, .int v6), (7, .int v7), (9, .int v9), (10, .int v10), (11, .int v11), (12, .int v12), (14, .ref (B + k14))] [] 747 := by
  unfold w_law_747 at h
  refine zr_aload_n C dyL_law_747 rfl 0 rfl ?_
  refine zr_iload C dyL_law_748 2 rfl ?_
  refine zr_gld C (by omega) h.1 dyL_law_750 (fun v_450 => ?_)
  replace h := h.2 v_450
  refine zr_iconst C dyL_law_751 zc_i_4 ?_
  refine zr_ishr C dyL_law_752 ?_
  refine zr_sipush C dyL_law_753 zc_s_255 ?_
  refine zr_iand C dyL_law_756 ?_
  refine zr_aload_n C dyL_law_757 rfl 1 rfl ?_
  refine zr_iconst C dyL_law_758 zc_i_3 ?_
  refine zv_L_36t C hg.1 (st := [.int ((v_450 >>> ((4 : Int32) &&& (31 : Int32))) &&& (255 : Int32))]) h ⟨Nat.le_of_ble_eq_true rfl, Nat.le_of_ble_eq_true rfl⟩ (Nat.le_of_ble_eq_true rfl) dyL_law_759 ⟨hg.2.2.1, hg.2.2.2⟩ (fun r_451 h => ?_)
  refine zr_irem C dyL_law_762 h.1 ?_
  replace h := h.2
  refine zn_istore C (fun v16_452 => [(16, .int v16_452), (1, .ref s.heap.size), (2, .ref (B + 0)), (4, .int v4), (5, .int v5), (6, .int v6), (7, .int v7), (9, .int v9), (10, .int v10), (11, .int v11), (12, .int v12), (14, .ref (B + k14))]) dyL_law_763 (Nat.le_of_ble_eq_true rfl) (fun _ => rfl) (fun v16_452 ev16_452 => ?_)
  replace h := h v16_452 ev16_452
  refine zr_iload C dyL_law_765 7 rfl ?_
  refine zjn (h (fun (t_453 : Int32) => zX p l e room_1 s m #[Value.ref b] below meth c (lw_Z below #[Value.ref b] s) D B cA 25 c0 u0 S I [(16, .int v16_452), (1, .ref s.heap.size), (2, .ref (B + 0)), (4, .int v4), (5, .int v5), (6, .int v6), (7, .int v7), (10, .int v10), (11, .int v11), (12, .int v12), (14, .ref (B + k14))] [.int t_453] 785) (fun t_453 h => ?_)) (fun h => ?_)
  · refine zr_istore C dyL_law_785 (Nat.le_of_ble_eq_true rfl) (lv2 := [(17, .int t_453), (16, .int v16_452), (1, .ref s.heap.size), (2, .ref (B + 0)), (4, .int v4), (5, .int v5), (6, .int v6), (7, .int v7), (10, .int v10), (11, .int v11), (12, .int v12), (14, .ref (B + k14))]) rfl ?_
    refine zr_aload_n C dyL_law_787 rfl 3 rfl ?_
    refine zr_iload C dyL_law_788 1 rfl ?_
    refine zv_L_111t C hg.1 (st := []) h ⟨Nat.le_of_ble_eq_true rfl, Nat.le_of_ble_eq_true rfl⟩ (Nat.le_of_ble_eq_true rfl) dyL_law_790 ⟨hg.2.2.1, hg.2.2.2⟩ (fun r_454 h => ?_)
    refine zr_istore C dyL_law_793 (Nat.le_of_ble_eq_true rfl) (lv2 := [(18, .int r_454), (17, .int t_453), (16, .int v16_452), (1, .ref s.heap.size), (2, .ref (B + 0)), (4, .int v4), (5, .int v5), (6, .int v6), (7, .int v7), (10, .int v10), (11, .int v11), (12, .int v12), (14, .ref (B + k14))]) rfl ?_
    refine zr_aload_n C dyL_law_795 rfl 4 rfl ?_
    refine zr_iload C dyL_law_796 2 rfl ?_
    refine zv_L_114t C hg.1 (st := []) h ⟨Nat.le_of_ble_eq_true rfl, Nat.le_of_ble_eq_true rfl⟩ (Nat.le_of_ble_eq_true rfl) dyL_law_798 ⟨hg.2.2.1, hg.2.2.2⟩ (fun r_455 h => ?_)
    refine zr_istore C dyL_law_801 (Nat.le_of_ble_eq_true rfl) (lv2 := [(19, .int r_455), (18, .int r_454), (17, .int t_453), (16, .int v16_452), (1, .ref s.heap.size), (2, .ref (B + 0)), (4, .int v4), (5, .int v5), (6, .int v6), (7, .int v7), (10, .int v10), (11, .int v11), (12, .int v12), (14, .ref (B + k14))]) rfl ?_
    refine zr_aload_n C dyL_law_803 rfl 5 rfl ?_
    refine zv_L_117t C hg.1 (st := []) h ⟨Nat.le_of_ble_eq_true rfl, Nat.le_of_ble_eq_true rfl⟩ (Nat.le_of_ble_eq_true rfl) dyL_law_804 ⟨hg.2.2.1, hg.2.2.2⟩ (fun r_456 h => ?_)
    refine zr_istore C dyL_law_807 (Nat.le_of_ble_eq_true rfl) (lv2 := [(20, .int r_456), (19, .int r_455), (18, .int r_454), (17, .int t_453), (16, .int v16_452), (1, .ref s.heap.size), (2, .ref (B + 0)), (4, .int v4), (5, .int v5), (6, .int v6), (7, .int v7), (10, .int v10), (11, .int v11), (12, .int v12), (14, .ref (B + k14))]) rfl ?_
    refine zr_iconst C dyL_law_809 zc_i_3 ?_
    refine za_nn C hg zk_ac_int rfl rfl h.1 dyL_law_810 (fun S_457 k_458 n_459 eS eK eN g_460 => ?_)
    replace h := h.2 S_457 k_458 n_459 eS eK eN
    refine zr_dup C dyL_law_812 rfl ?_
    refine zr_iconst C dyL_law_813 zc_i_0 ?_
    refine zr_bipush C dyL_law_814 zc_b_122 ?_
    refine zr_iast C h.1.1 h.1.2 dyL_law_816 ?_
    replace h := h.2
    refine zn_mem C (fun I_461 eI_461 => ?_)
    replace h := h I_461 eI_461
    refine zr_dup C dyL_law_817 rfl ?_
    refine zr_iconst C dyL_law_818 zc_i_1 ?_
    refine zr_bipush C dyL_law_819 zc_b_122 ?_
    refine zr_iast C h.1.1 h.1.2 dyL_law_821 ?_
    replace h := h.2
    refine zn_mem C (fun I_462 eI_462 => ?_)
    replace h := h I_462 eI_462
    refine zr_dup C dyL_law_822 rfl ?_
    refine zr_iconst C dyL_law_823 zc_i_2 ?_
    refine zr_bipush C dyL_law_824 zc_b_97 ?_
    refine zr_aload_n C dyL_law_826 rfl 5 rfl ?_
    refine zr_iload C dyL_law_827 7 rfl ?_
    refine zr_gld C (by omega) h.1 dyL_law_829 (fun v_463 => ?_)
    replace h := h.2 v_463
    refine zr_bipush C dyL_law_830 zc_b_12 ?_
    refine zr_ishr C dyL_law_832 ?_
    refine zr_bipush C dyL_law_833 zc_b_7 ?_
    refine zr_iand C dyL_law_835 ?_
    refine zr_iadd C dyL_law_836 ?_
    refine zr_iast C h.1.1 h.1.2 dyL_law_837 ?_
    replace h := h.2
    refine zn_mem C (fun I_464 eI_464 => ?_)
    replace h := h I_464 eI_464
    refine zr_astore C dyL_law_838 (Nat.le_of_ble_eq_true rfl) (lv2 := [(21, .ref (B + k_458)), (20, .int r_456), (19, .int r_455), (18, .int r_454), (17, .int t_453), (16, .int v16_452), (1, .ref s.heap.size), (2, .ref (B + 0)), (4, .int v4), (5, .int v5), (6, .int v6), (7, .int v7), (10, .int v10), (11, .int v11), (12, .int v12), (14, .ref (B + k14))]) rfl ?_
    refine zr_iconst C dyL_law_840 zc_i_1 ?_
    refine zr_istore C dyL_law_841 (Nat.le_of_ble_eq_true rfl) (lv2 := [(22, .int 1), (21, .ref (B + k_458)), (20, .int r_456), (19, .int r_455), (18, .int r_454), (17, .int t_453), (16, .int v16_452), (1, .ref s.heap.size), (2, .ref (B + 0)), (4, .int v4), (5, .int v5), (6, .int v6), (7, .int v7), (10, .int v10), (11, .int v11), (12, .int v12), (14, .ref (B + k14))]) rfl ?_
    refine zr_iconst C dyL_law_843 zc_i_0 ?_
    refine zr_istore C dyL_law_844 (Nat.le_of_ble_eq_true rfl) (lv2 := [(23, .int 0), (22, .int 1), (21, .ref (B + k_458)), (20, .int r_456), (19, .int r_455), (18, .int r_454), (17, .int t_453), (16, .int v16_452), (1, .ref s.heap.size), (2, .ref (B + 0)), (4, .int v4), (5, .int v5), (6, .int v6), (7, .int v7), (10, .int v10), (11, .int v11), (12, .int v12), (14, .ref (B + k14))]) rfl ?_
    refine zjn (h (fun (v22_465 : Int32) (v23_466 : Int32) => zX p l e room_1 s m #[Value.ref b] below meth c (lw_Z below #[Value.ref b] s) D B cA 25 (c0 + 1) (u0 + n_459) S_457 I_464 [(23, .int v23_466), (22, .int v22_465), (21, .ref (B + k_458)), (20, .int r_456), (19, .int r_455), (18, .int r_454), (17, .int t_453), (16, .int v16_452), (1, .ref s.heap.size), (2, .ref (B + 0)), (4, .int v4), (5, .int v5), (6, .int v6), (7, .int v7), (10, .int v10), (11, .int v11), (12, .int v12), (14, .ref (B + k14))] [] 846) (fun v22_465 v23_466 h => ?_)) (fun h => ?_)
    · refine zr_sub (lv2 := [(1, .ref s.heap.size), (2, .ref (B + 0)), (4, .int v4), (5, .int v5), (6, .int v6), (7, .int v7), (10, .int v10), (11, .int v11), (12, .int v12), (14, .ref (B + k14)), (16, .int v16_452), (17, .int t_453), (18, .int r_454), (19, .int r_455), (20, .int r_456), (21, .ref (B + k_458)), (22, .int v22_465), (23, .int v23_466)]) [8, 9, 10, 11, 12, 13, 14, 15, 16, 17, 7, 6, 5, 4, 3, 2, 1, 0] rfl ?_
      exact zl_law_846 C hB g_460 h kP1422 (fun _ _ h => h)
    exact h
  refine zjn (h (zX p l e room_1 s m #[Value.ref b] below meth c (lw_Z below #[Value.ref b] s) D B cA 25 c0 u0 S I [(16, .int v16_452), (1, .ref s.heap.size), (2, .ref (B + 0)), (4, .int v4), (5, .int v5), (6, .int v6), (7, .int v7), (10, .int v10), (11, .int v11), (12, .int v12), (14, .ref (B + k14))] [] 784) (fun  h => ?_)) (fun h => ?_)
  · refine zr_iconst C dyL_law_784 zc_i_0 ?_
    exact h
  refine zr_if_eq C dyL_law_767 (tgt := 784) (by decide) (fun hc_514 => ?_) (fun hc_514 => ?_)
  · replace h := zif_pos hc_514 h
    refine zr_sub (lv2 := [(16, .int v16_452), (1, .ref s.heap.size), (2, .ref (B + 0)), (4, .int v4), (5, .int v5), (6, .int v6), (7, .int v7), (10, .int v10), (11, .int v11), (12, .int v12), (14, .ref (B + k14))]) [0, 1, 2, 3, 4, 5, 6, 8, 9, 10, 11] rfl ?_
    exact h
  · replace h := zif_neg hc_514 h
    refine zr_aload_n C dyL_law_770 rfl 2 rfl ?_
    refine zr_iload C dyL_law_771 0 rfl ?_
    refine zr_iconst C dyL_law_773 zc_i_0 ?_
    refine zv_L_108t C hg.1 (st := []) h ⟨Nat.le_of_ble_eq_true rfl, Nat.le_of_ble_eq_true rfl⟩ (Nat.le_of_ble_eq_true rfl) dyL_law_774 ⟨hg.2.2.1, hg.2.2.2⟩ (fun r_512 h => ?_)
    refine zr_if_ne C dyL_law_777 (tgt := 784) (by decide) (fun hc_513 => ?_) (fun hc_513 => ?_)
    · replace h := zif_neg hc_513 h
      refine zr_sub (lv2 := [(16, .int v16_452), (1, .ref s.heap.size), (2, .ref (B + 0)), (4, .int v4), (5, .int v5), (6, .int v6), (7, .int v7), (10, .int v10), (11, .int v11), (12, .int v12), (14, .ref (B + k14))]) [0, 1, 2, 3, 4, 5, 6, 8, 9, 10, 11] rfl ?_
      exact h
    · replace h := zif_pos hc_513 h
      refine zr_iconst C dyL_law_780 zc_i_1 ?_
      refine zr_goto C dyL_law_781 (tgt := 785) (by decide) ?_
      refine zr_sub (lv2 := [(16, .int v16_452), (1, .ref s.heap.size), (2, .ref (B + 0)), (4, .int v4), (5, .int v5), (6, .int v6), (7, .int v7), (10, .int v10), (11, .int v11), (12, .int v12), (14, .ref (B + k14))]) [0, 1, 2, 3, 4, 5, 6, 8, 9, 10, 11] rfl ?_
      exact h
def w_law_1218 (v4 : Int32) (v5 : Int32) (v6 : Int32) (v7 : Int32) (v10 : Int32) (v11 : Int32) (k14 : Nat) (n14 : Nat) (k16 : Nat) (n16 : Nat) (v17 : Int32) (v18 : Int32) (P1422 : Int32 → Int32 → (List zC) → Nat → Nat → zI → Prop) (c0 u0 : Nat) (S : List zC) (I : zI) : Prop :=
  (c0 + 1 ≤ 600000 ∧ u0 + 1000 ≤ 7302250) ∧ w_Law_part k14 n14 0 v17 S I (fun k_536 n_537 S_538 I_539 => (c0 + 1 + 1 ≤ 600000 ∧ u0 + 1000 + 1000 ≤ 7302250) ∧ w_Law_with k_536 n_537 k16 n16 S_538 I_539 (fun k_541 n_542 S_543 I_544 => (c0 + 1 + 1 + 1 ≤ 600000 ∧ u0 + 1000 + 1000 + 1000 ≤ 7302250) ∧ w_Law_part k14 n14 (v17 + v18) v5 S_543 I_544 (fun k_546 n_547 S_548 I_549 => (c0 + 1 + 1 + 1 + 1 ≤ 600000 ∧ u0 + 1000 + 1000 + 1000 + 1000 ≤ 7302250) ∧ w_Law_with k_541 n_542 k_546 n_547 S_548 I_549 (fun k_551 n_552 S_553 I_554 => (c0 + 1 + 1 + 1 + 1 + 500 ≤ 600000 ∧ u0 + 1000 + 1000 + 1000 + 1000 + 3000 ≤ 7302250) ∧ w_Law_cut k_551 n_552 S_553 I_554 (fun k_556 n_557 S_558 I_559 => w_Law_tape k16 n16 S_558 I_559 (fun I_561 => w_Desk_edit v17 v18 I_561 (fun r_562 I_563 => zAt S_558 k_551 n_552 ∧ ∀ (P1301 : Int32 → Prop), (∀ (t_564 : Int32), (∀ (P1421 : Int32 → (List zC) → Nat → Nat → zI → Prop), (∀ (t_565 : Int32) (S_566 : List zC) (c_567 : Nat) (u_568 : Nat) (I_570 : zI), (P1422 t_565 r_562 S_566 c_567 u_568 I_570) → P1421 t_565 S_566 c_567 u_568 I_570) → (if t_564 = 0 then (∀ (P1420 : zI → Prop), (∀ (I_571 : zI), (P1421 0 S_558 (c0 + 1 + 1 + 1 + 1 + 500) (u0 + 1000 + 1000 + 1000 + 1000 + 3000) I_571) → P1420 I_571) → (if r_562 = (-1) then (w_Desk_count 7 I_563 (fun r_572 => w_Desk_back r_572 I_563 (fun r_573 I_574 => (if r_573 = 0 then (P1421 1 S_558 (c0 + 1 + 1 + 1 + 1 + 500) (u0 + 1000 + 1000 + 1000 + 1000 + 3000) I_574) else P1420 I_574)))) else P1420 I_563)) else ((c0 + 1 + 1 + 1 + 1 + 500 + 1 ≤ 600000 ∧ u0 + 1000 + 1000 + 1000 + 1000 + 3000 + 400 ≤ 7302250) ∧ w_Law_kinds k_556 n_557 S_558 I_563 (fun k_577 n_578 S_579 I_580 => w_Law_wrong k_577 n_578 S_579 I_580 (fun r_582 => ∀ (P1326 : Int32 → Prop), (∀ (t_583 : Int32), (∀ (P1393 : Prop), ((P1421 0 S_579 (c0 + 1 + 1 + 1 + 1 + 500 + 1) (u0 + 1000 + 1000 + 1000 + 1000 + 3000 + 400) I_580) → P1393) → (if r_562 = t_583 then (w_Desk_count 0 I_580 (fun r_584 => zAt S_579 k_551 n_552 ∧ (if r_584 = (Int32.ofNat n_552) then (w_Desk_last 0 I_580 (fun r_585 => w_Desk_last 1 I_580 (fun r_586 => w_Desk_last 7 I_580 (fun r_587 => zA2 S_579 k_556 n_557 ∧ (if ((r_585 + r_586) + r_587) = (Int32.ofNat n_557) then (∀ (P1389 : Prop), ((P1421 1 S_579 (c0 + 1 + 1 + 1 + 1 + 500 + 1) (u0 + 1000 + 1000 + 1000 + 1000 + 3000 + 400) I_580) → P1389) → (if r_562 = 0 then P1389 else (w_Desk_count 4 I_580 (fun r_588 => (if r_588 = v10 then (w_Desk_count 5 I_580 (fun r_589 => (if r_589 = v11 then P1389 else P1393))) else P1393))))) else P1393))))) else P1393))) else P1393)) → P1326 t_583) → (if 0 ≤ r_582 then P1326 1 else P1326 0)))))) → P1301 t_564) → ∀ (P1300 : Prop), ((P1301 0) → P1300) → (if 300 < (Int32.ofNat n_552) then P1300 else (zA2 S_558 k_556 n_557 ∧ (if 100 < (Int32.ofNat n_557) then P1300 else (if 3000 ≤ v11 then P1300 else P1301 1)))))))))))
set_option maxHeartbeats 8000000 in
set_option maxRecDepth 20000 in
theorem zl_law_1218 {p : Program} {l : Launch} {e : Env} {s : State} {m : MethodId} {below : List Frame} {meth : Method} {c : Code} {D : va_G} {B : Nat} {cA : Nat → ClassId} {ad : Nat → Nat} {b : Nat} {S0 S : List zC} {I : zI} {c0 u0 : Nat} (C : zCx p s m #[Value.ref b] meth c cL_law 25 RL ret D B cA ad) (hB : B = s.heap.size + 1) {v4 : Int32} {v5 : Int32} {v6 : Int32} {v7 : Int32} {v10 : Int32} {v11 : Int32} {k14 : Nat} {n14 : Nat} {k16 : Nat} {n16 : Nat} {v17 : Int32} {v18 : Int32} {P1422 : Int32 → Int32 → (List zC) → Nat → Nat → zI → Prop}  (hg : zGo S0 600000 7302250 S c0 u0) (h : w_law_1218 v4 v5 v6 v7 v10 v11 k14 n14 k16 n16 v17 v18 P1422 c0 u0 S I) (kP1422 : ∀ (v3_280 : Int32) (v15_281 : Int32) (S_282 : List zC) (c_283 : Nat) (u_284 : Nat) (I_286 : zI), P1422 v3_280 v15_281 S_282 c_283 u_284 I_286 → zGo S0 600000 7302250 S_282 c_283 u_284 → zX p l e room_1 s m #[Value.ref b] below meth c (lw_Z below #[Value.ref b] s) D B cA 25 c_283 u_284 S_282 I_286 [(15, .int v15_281), (11, .int v11), (10, .int v10), (7, .int v7), (6, .int v6), (5, .int v5), (1, .ref s.heap.size), (2, .ref (B + 0)), (4, .int v4), (3, .int v3_280)] [] 1422) : zX p l e room_1 s m #[Value.ref b] below meth c (lw_Z below #[Value.ref b] s) D B cA 25 c0 u0 S I [(1, .ref s.heap.size), (2, .ref (B + 0)), (4, .int v4), (5, .int v5), (6, .int v6), (7, .int v7), (10, .int v10), (11, .int v11), (14, .ref (B + k14)), (16, .ref (B + k16)), (17, .int v17), (18, .int v18)] [] 1218 := by
  unfold w_law_1218 at h
  refine zr_aload C dyL_law_1218 8 rfl ?_
  refine zr_iconst C dyL_law_1220 zc_i_0 ?_
  refine zr_iload C dyL_law_1221 10 rfl ?_
  refine zv_L_73t C hg (st := []) h.2 ⟨Nat.le_of_ble_eq_true rfl, Nat.le_of_ble_eq_true rfl⟩ (Nat.le_of_ble_eq_true rfl) dyL_law_1223 h.1 (fun k_536 n_537 S_538 I_539 g_540 h => ?_)
  refine zr_aload C dyL_law_1226 9 rfl ?_
  refine zv_L_17t C g_540 (st := []) h.2 ⟨Nat.le_of_ble_eq_true rfl, Nat.le_of_ble_eq_true rfl⟩ (Nat.le_of_ble_eq_true rfl) dyL_law_1228 h.1 (fun k_541 n_542 S_543 I_544 g_545 h => ?_)
  refine zr_aload C dyL_law_1231 8 rfl ?_
  refine zr_iload C dyL_law_1233 10 rfl ?_
  refine zr_iload C dyL_law_1235 11 rfl ?_
  refine zr_iadd C dyL_law_1237 ?_
  refine zr_iload C dyL_law_1238 3 rfl ?_
  refine zv_L_73t C g_545 (st := [.ref (B + k_541)]) h.2 ⟨Nat.le_of_ble_eq_true rfl, Nat.le_of_ble_eq_true rfl⟩ (Nat.le_of_ble_eq_true rfl) dyL_law_1240 h.1 (fun k_546 n_547 S_548 I_549 g_550 h => ?_)
  refine zv_L_17t C g_550 (st := []) h.2 ⟨Nat.le_of_ble_eq_true rfl, Nat.le_of_ble_eq_true rfl⟩ (Nat.le_of_ble_eq_true rfl) dyL_law_1243 h.1 (fun k_551 n_552 S_553 I_554 g_555 h => ?_)
  refine zr_astore C dyL_law_1246 (Nat.le_of_ble_eq_true rfl) (lv2 := [(19, .ref (B + k_551)), (1, .ref s.heap.size), (2, .ref (B + 0)), (4, .int v4), (5, .int v5), (6, .int v6), (7, .int v7), (10, .int v10), (11, .int v11), (14, .ref (B + k14)), (16, .ref (B + k16)), (17, .int v17), (18, .int v18)]) rfl ?_
  refine zr_aload C dyL_law_1248 0 rfl ?_
  refine zv_L_127t C g_555 (st := []) h.2 ⟨Nat.le_of_ble_eq_true rfl, Nat.le_of_ble_eq_true rfl⟩ (Nat.le_of_ble_eq_true rfl) dyL_law_1250 h.1 (fun k_556 n_557 S_558 I_559 g_560 h => ?_)
  refine zr_astore C dyL_law_1253 (Nat.le_of_ble_eq_true rfl) (lv2 := [(20, .ref (B + k_556)), (19, .ref (B + k_551)), (1, .ref s.heap.size), (2, .ref (B + 0)), (4, .int v4), (5, .int v5), (6, .int v6), (7, .int v7), (10, .int v10), (11, .int v11), (14, .ref (B + k14)), (16, .ref (B + k16)), (17, .int v17), (18, .int v18)]) rfl ?_
  refine zr_aload_n C dyL_law_1255 rfl 3 rfl ?_
  refine zr_aload C dyL_law_1256 11 rfl ?_
  refine zv_L_77t C g_560.1 (st := []) h ⟨Nat.le_of_ble_eq_true rfl, Nat.le_of_ble_eq_true rfl⟩ (Nat.le_of_ble_eq_true rfl) dyL_law_1258 ⟨g_560.2.2.1, g_560.2.2.2⟩ (fun I_561 h => ?_)
  refine zr_aload_n C dyL_law_1261 rfl 3 rfl ?_
  refine zr_iload C dyL_law_1262 12 rfl ?_
  refine zr_iload C dyL_law_1264 13 rfl ?_
  refine zv_L_65t C g_560.1 (st := []) h ⟨Nat.le_of_ble_eq_true rfl, Nat.le_of_ble_eq_true rfl⟩ (Nat.le_of_ble_eq_true rfl) dyL_law_1266 ⟨g_560.2.2.1, g_560.2.2.2⟩ (fun r_562 I_563 h => ?_)
  refine zr_istore C dyL_law_1269 (Nat.le_of_ble_eq_true rfl) (lv2 := [(15, .int r_562), (20, .ref (B + k_556)), (19, .ref (B + k_551)), (1, .ref s.heap.size), (2, .ref (B + 0)), (4, .int v4), (5, .int v5), (6, .int v6), (7, .int v7), (10, .int v10), (11, .int v11), (14, .ref (B + k14)), (16, .ref (B + k16)), (17, .int v17), (18, .int v18)]) rfl ?_
  refine zr_aload C dyL_law_1271 2 rfl ?_
  refine zr_alen C h.1 dyL_law_1273 ?_
  replace h := h.2
  refine zr_sipush C dyL_law_1274 zc_s_300 ?_
  refine zjn (h (fun (t_564 : Int32) => zX p l e room_1 s m #[Value.ref b] below meth c (lw_Z below #[Value.ref b] s) D B cA 25 (c0 + 1 + 1 + 1 + 1 + 500) (u0 + 1000 + 1000 + 1000 + 1000 + 3000) S_558 I_563 [(15, .int r_562), (20, .ref (B + k_556)), (19, .ref (B + k_551)), (1, .ref s.heap.size), (2, .ref (B + 0)), (4, .int v4), (5, .int v5), (6, .int v6), (7, .int v7), (10, .int v10), (11, .int v11)] [.int t_564] 1301) (fun t_564 h => ?_)) (fun h => ?_)
  · refine zr_istore C dyL_law_1301 (Nat.le_of_ble_eq_true rfl) (lv2 := [(21, .int t_564), (15, .int r_562), (20, .ref (B + k_556)), (19, .ref (B + k_551)), (1, .ref s.heap.size), (2, .ref (B + 0)), (4, .int v4), (5, .int v5), (6, .int v6), (7, .int v7), (10, .int v10), (11, .int v11)]) rfl ?_
    refine zr_iload C dyL_law_1303 0 rfl ?_
    refine zjn (h (fun (t_565 : Int32) (S_566 : List zC) (c_567 : Nat) (u_568 : Nat) (I_570 : zI) => zGo S0 600000 7302250 S_566 c_567 u_568 → zX p l e room_1 s m #[Value.ref b] below meth c (lw_Z below #[Value.ref b] s) D B cA 25 c_567 u_568 S_566 I_570 [(15, .int r_562), (1, .ref s.heap.size), (2, .ref (B + 0)), (4, .int v4), (5, .int v5), (6, .int v6), (7, .int v7), (10, .int v10), (11, .int v11)] [.int t_565] 1421) (fun t_565 S_566 c_567 u_568 I_570 h g_569 => ?_)) (fun h => ?_)
    · refine zr_istore_n C dyL_law_1421 rfl (Nat.le_of_ble_eq_true rfl) (lv2 := [(3, .int t_565), (15, .int r_562), (1, .ref s.heap.size), (2, .ref (B + 0)), (4, .int v4), (5, .int v5), (6, .int v6), (7, .int v7), (10, .int v10), (11, .int v11)]) rfl ?_
      refine zr_sub (lv2 := [(15, .int r_562), (11, .int v11), (10, .int v10), (7, .int v7), (6, .int v6), (5, .int v5), (1, .ref s.heap.size), (2, .ref (B + 0)), (4, .int v4), (3, .int t_565)]) [1, 9, 8, 7, 6, 5, 2, 3, 4, 0] rfl ?_
      exact kP1422 _ _ _ _ _ _ h g_569
    refine zr_if_eq C dyL_law_1305 (tgt := 1397) (by decide) (fun hc_597 => ?_) (fun hc_597 => ?_)
    · replace h := zif_pos hc_597 h
      refine zr_iload C dyL_law_1397 1 rfl ?_
      refine zr_iconst C dyL_law_1399 zc_i_m1 ?_
      refine zjn (h (fun (I_571 : zI) => zX p l e room_1 s m #[Value.ref b] below meth c (lw_Z below #[Value.ref b] s) D B cA 25 (c0 + 1 + 1 + 1 + 1 + 500) (u0 + 1000 + 1000 + 1000 + 1000 + 3000) S_558 I_571 [(15, .int r_562), (1, .ref s.heap.size), (2, .ref (B + 0)), (4, .int v4), (5, .int v5), (6, .int v6), (7, .int v7), (10, .int v10), (11, .int v11)] [] 1420) (fun I_571 h => ?_)) (fun h => ?_)
      · refine zr_iconst C dyL_law_1420 zc_i_0 ?_
        exact h g_560
      refine zr_icmp_ne C dyL_law_1400 (tgt := 1420) (by decide) (fun hc_576 => ?_) (fun hc_576 => ?_)
      · replace h := zif_neg hc_576 h
        refine zr_sub (lv2 := [(15, .int r_562), (1, .ref s.heap.size), (2, .ref (B + 0)), (4, .int v4), (5, .int v5), (6, .int v6), (7, .int v7), (10, .int v10), (11, .int v11)]) [1, 4, 5, 6, 7, 8, 9, 10, 11] rfl ?_
        exact h
      · replace h := zif_pos hc_576 h
        refine zr_aload_n C dyL_law_1403 rfl 5 rfl ?_
        refine zr_aload_n C dyL_law_1404 rfl 5 rfl ?_
        refine zr_bipush C dyL_law_1405 zc_b_7 ?_
        refine zv_L_36t C g_560.1 (st := [.ref (B + 0)]) h ⟨Nat.le_of_ble_eq_true rfl, Nat.le_of_ble_eq_true rfl⟩ (Nat.le_of_ble_eq_true rfl) dyL_law_1407 ⟨g_560.2.2.1, g_560.2.2.2⟩ (fun r_572 h => ?_)
        refine zv_L_13t C g_560.1 (st := []) h ⟨Nat.le_of_ble_eq_true rfl, Nat.le_of_ble_eq_true rfl⟩ (Nat.le_of_ble_eq_true rfl) dyL_law_1410 ⟨g_560.2.2.1, g_560.2.2.2⟩ (fun r_573 I_574 h => ?_)
        refine zr_if_ne C dyL_law_1413 (tgt := 1420) (by decide) (fun hc_575 => ?_) (fun hc_575 => ?_)
        · replace h := zif_neg hc_575 h
          refine zr_sub (lv2 := [(15, .int r_562), (1, .ref s.heap.size), (2, .ref (B + 0)), (4, .int v4), (5, .int v5), (6, .int v6), (7, .int v7), (10, .int v10), (11, .int v11)]) [1, 4, 5, 6, 7, 8, 9, 10, 11] rfl ?_
          exact h
        · replace h := zif_pos hc_575 h
          refine zr_iconst C dyL_law_1416 zc_i_1 ?_
          refine zr_goto C dyL_law_1417 (tgt := 1421) (by decide) ?_
          refine zr_sub (lv2 := [(15, .int r_562), (1, .ref s.heap.size), (2, .ref (B + 0)), (4, .int v4), (5, .int v5), (6, .int v6), (7, .int v7), (10, .int v10), (11, .int v11)]) [1, 4, 5, 6, 7, 8, 9, 10, 11] rfl ?_
          exact h g_560
    · replace h := zif_neg hc_597 h
      refine zr_iload C dyL_law_1308 1 rfl ?_
      refine zr_aload C dyL_law_1310 2 rfl ?_
      refine zv_L_130t C g_560 (st := [.int r_562]) h.2 ⟨Nat.le_of_ble_eq_true rfl, Nat.le_of_ble_eq_true rfl⟩ (Nat.le_of_ble_eq_true rfl) dyL_law_1312 h.1 (fun k_577 n_578 S_579 I_580 g_581 h => ?_)
      refine zv_L_134t C g_581.1 (st := [.int r_562]) h ⟨Nat.le_of_ble_eq_true rfl, Nat.le_of_ble_eq_true rfl⟩ (Nat.le_of_ble_eq_true rfl) dyL_law_1315 ⟨g_581.2.2.1, g_581.2.2.2⟩ (fun r_582 h => ?_)
      refine zjn (h (fun (t_583 : Int32) => zX p l e room_1 s m #[Value.ref b] below meth c (lw_Z below #[Value.ref b] s) D B cA 25 (c0 + 1 + 1 + 1 + 1 + 500 + 1) (u0 + 1000 + 1000 + 1000 + 1000 + 3000 + 400) S_579 I_580 [(15, .int r_562), (20, .ref (B + k_556)), (19, .ref (B + k_551)), (1, .ref s.heap.size), (2, .ref (B + 0)), (4, .int v4), (5, .int v5), (6, .int v6), (7, .int v7), (10, .int v10), (11, .int v11)] [.int t_583, .int r_562] 1326) (fun t_583 h => ?_)) (fun h => ?_)
      · refine zjn (h (zX p l e room_1 s m #[Value.ref b] below meth c (lw_Z below #[Value.ref b] s) D B cA 25 (c0 + 1 + 1 + 1 + 1 + 500 + 1) (u0 + 1000 + 1000 + 1000 + 1000 + 3000 + 400) S_579 I_580 [(15, .int r_562), (1, .ref s.heap.size), (2, .ref (B + 0)), (4, .int v4), (5, .int v5), (6, .int v6), (7, .int v7), (10, .int v10), (11, .int v11)] [] 1393) (fun  h => ?_)) (fun h => ?_)
        · refine zr_iconst C dyL_law_1393 zc_i_0 ?_
          refine zr_goto C dyL_law_1394 (tgt := 1421) (by decide) ?_
          exact h g_581
        refine zr_icmp_ne C dyL_law_1326 (tgt := 1393) (by decide) (fun hc_595 => ?_) (fun hc_595 => ?_)
        · replace h := zif_neg hc_595 h
          refine zr_sub (lv2 := [(15, .int r_562), (1, .ref s.heap.size), (2, .ref (B + 0)), (4, .int v4), (5, .int v5), (6, .int v6), (7, .int v7), (10, .int v10), (11, .int v11)]) [0, 3, 4, 5, 6, 7, 8, 9, 10] rfl ?_
          exact h
        · replace h := zif_pos hc_595 h
          refine zr_aload_n C dyL_law_1329 rfl 4 rfl ?_
          refine zr_iconst C dyL_law_1330 zc_i_0 ?_
          refine zv_L_36t C g_581.1 (st := []) h ⟨Nat.le_of_ble_eq_true rfl, Nat.le_of_ble_eq_true rfl⟩ (Nat.le_of_ble_eq_true rfl) dyL_law_1331 ⟨g_581.2.2.1, g_581.2.2.2⟩ (fun r_584 h => ?_)
          refine zr_aload C dyL_law_1334 2 rfl ?_
          refine zr_alen C h.1 dyL_law_1336 ?_
          replace h := h.2
          refine zr_icmp_ne C dyL_law_1337 (tgt := 1393) (by decide) (fun hc_594 => ?_) (fun hc_594 => ?_)
          · replace h := zif_neg hc_594 h
            refine zr_sub (lv2 := [(15, .int r_562), (1, .ref s.heap.size), (2, .ref (B + 0)), (4, .int v4), (5, .int v5), (6, .int v6), (7, .int v7), (10, .int v10), (11, .int v11)]) [0, 3, 4, 5, 6, 7, 8, 9, 10] rfl ?_
            exact h
          · replace h := zif_pos hc_594 h
            refine zr_aload_n C dyL_law_1340 rfl 4 rfl ?_
            refine zr_iconst C dyL_law_1341 zc_i_0 ?_
            refine zv_L_138t C g_581.1 (st := []) h ⟨Nat.le_of_ble_eq_true rfl, Nat.le_of_ble_eq_true rfl⟩ (Nat.le_of_ble_eq_true rfl) dyL_law_1342 ⟨g_581.2.2.1, g_581.2.2.2⟩ (fun r_585 h => ?_)
            refine zr_aload_n C dyL_law_1345 rfl 4 rfl ?_
            refine zr_iconst C dyL_law_1346 zc_i_1 ?_
            refine zv_L_138t C g_581.1 (st := [.int r_585]) h ⟨Nat.le_of_ble_eq_true rfl, Nat.le_of_ble_eq_true rfl⟩ (Nat.le_of_ble_eq_true rfl) dyL_law_1347 ⟨g_581.2.2.1, g_581.2.2.2⟩ (fun r_586 h => ?_)
            refine zr_iadd C dyL_law_1350 ?_
            refine zr_aload_n C dyL_law_1351 rfl 4 rfl ?_
            refine zr_bipush C dyL_law_1352 zc_b_7 ?_
            refine zv_L_138t C g_581.1 (st := [.int (r_585 + r_586)]) h ⟨Nat.le_of_ble_eq_true rfl, Nat.le_of_ble_eq_true rfl⟩ (Nat.le_of_ble_eq_true rfl) dyL_law_1354 ⟨g_581.2.2.1, g_581.2.2.2⟩ (fun r_587 h => ?_)
            refine zr_iadd C dyL_law_1357 ?_
            refine zr_aload C dyL_law_1358 1 rfl ?_
            refine zr_alenL C h.1 dyL_law_1360 ?_
            replace h := h.2
            refine zr_icmp_ne C dyL_law_1361 (tgt := 1393) (by decide) (fun hc_593 => ?_) (fun hc_593 => ?_)
            · replace h := zif_neg hc_593 h
              refine zr_sub (lv2 := [(15, .int r_562), (1, .ref s.heap.size), (2, .ref (B + 0)), (4, .int v4), (5, .int v5), (6, .int v6), (7, .int v7), (10, .int v10), (11, .int v11)]) [0, 3, 4, 5, 6, 7, 8, 9, 10] rfl ?_
              exact h
            · replace h := zif_pos hc_593 h
              refine zr_iload C dyL_law_1364 0 rfl ?_
              refine zjn (h (zX p l e room_1 s m #[Value.ref b] below meth c (lw_Z below #[Value.ref b] s) D B cA 25 (c0 + 1 + 1 + 1 + 1 + 500 + 1) (u0 + 1000 + 1000 + 1000 + 1000 + 3000 + 400) S_579 I_580 [(15, .int r_562), (1, .ref s.heap.size), (2, .ref (B + 0)), (4, .int v4), (5, .int v5), (6, .int v6), (7, .int v7), (10, .int v10), (11, .int v11)] [] 1389) (fun  h => ?_)) (fun h => ?_)
              · refine zr_iconst C dyL_law_1389 zc_i_1 ?_
                refine zr_goto C dyL_law_1390 (tgt := 1421) (by decide) ?_
                exact h g_581
              refine zr_if_eq C dyL_law_1366 (tgt := 1389) (by decide) (fun hc_592 => ?_) (fun hc_592 => ?_)
              · replace h := zif_pos hc_592 h
                refine zr_sub (lv2 := [(15, .int r_562), (1, .ref s.heap.size), (2, .ref (B + 0)), (4, .int v4), (5, .int v5), (6, .int v6), (7, .int v7), (10, .int v10), (11, .int v11)]) [0, 3, 4, 5, 6, 7, 8, 9, 10] rfl ?_
                exact h
              · replace h := zif_neg hc_592 h
                refine zr_aload_n C dyL_law_1369 rfl 4 rfl ?_
                refine zr_iconst C dyL_law_1370 zc_i_4 ?_
                refine zv_L_36t C g_581.1 (st := []) h ⟨Nat.le_of_ble_eq_true rfl, Nat.le_of_ble_eq_true rfl⟩ (Nat.le_of_ble_eq_true rfl) dyL_law_1371 ⟨g_581.2.2.1, g_581.2.2.2⟩ (fun r_588 h => ?_)
                refine zr_iload C dyL_law_1374 9 rfl ?_
                refine zr_icmp_ne C dyL_law_1376 (tgt := 1393) (by decide) (fun hc_591 => ?_) (fun hc_591 => ?_)
                · replace h := zif_neg hc_591 h
                  refine zr_sub (lv2 := [(15, .int r_562), (1, .ref s.heap.size), (2, .ref (B + 0)), (4, .int v4), (5, .int v5), (6, .int v6), (7, .int v7), (10, .int v10), (11, .int v11)]) [0, 3, 4, 5, 6, 7, 8, 9, 10] rfl ?_
                  exact h
                · replace h := zif_pos hc_591 h
                  refine zr_aload_n C dyL_law_1379 rfl 4 rfl ?_
                  refine zr_iconst C dyL_law_1380 zc_i_5 ?_
                  refine zv_L_36t C g_581.1 (st := []) h ⟨Nat.le_of_ble_eq_true rfl, Nat.le_of_ble_eq_true rfl⟩ (Nat.le_of_ble_eq_true rfl) dyL_law_1381 ⟨g_581.2.2.1, g_581.2.2.2⟩ (fun r_589 h => ?_)
                  refine zr_iload C dyL_law_1384 10 rfl ?_
                  refine zr_icmp_ne C dyL_law_1386 (tgt := 1393) (by decide) (fun hc_590 => ?_) (fun hc_590 => ?_)
                  · replace h := zif_neg hc_590 h
                    refine zr_sub (lv2 := [(15, .int r_562), (1, .ref s.heap.size), (2, .ref (B + 0)), (4, .int v4), (5, .int v5), (6, .int v6), (7, .int v7), (10, .int v10), (11, .int v11)]) [0, 3, 4, 5, 6, 7, 8, 9, 10] rfl ?_
                    exact h
                  · replace h := zif_pos hc_590 h
                    refine zr_sub (lv2 := [(15, .int r_562), (1, .ref s.heap.size), (2, .ref (B + 0)), (4, .int v4), (5, .int v5), (6, .int v6), (7, .int v7), (10, .int v10), (11, .int v11)]) [0, 3, 4, 5, 6, 7, 8, 9, 10] rfl ?_
                    exact h
      refine zr_if_ge C dyL_law_1318 (tgt := 1325) (by decide) (fun hc_596 => ?_) (fun hc_596 => ?_)
      · replace h := zif_pos hc_596 h
        refine zr_iconst C dyL_law_1325 zc_i_1 ?_
        refine zr_sub (lv2 := [(15, .int r_562), (20, .ref (B + k_556)), (19, .ref (B + k_551)), (1, .ref s.heap.size), (2, .ref (B + 0)), (4, .int v4), (5, .int v5), (6, .int v6), (7, .int v7), (10, .int v10), (11, .int v11)]) [1, 2, 3, 4, 5, 6, 7, 8, 9, 10, 11] rfl ?_
        exact h
      · replace h := zif_neg hc_596 h
        refine zr_iconst C dyL_law_1321 zc_i_0 ?_
        refine zr_goto C dyL_law_1322 (tgt := 1326) (by decide) ?_
        refine zr_sub (lv2 := [(15, .int r_562), (20, .ref (B + k_556)), (19, .ref (B + k_551)), (1, .ref s.heap.size), (2, .ref (B + 0)), (4, .int v4), (5, .int v5), (6, .int v6), (7, .int v7), (10, .int v10), (11, .int v11)]) [1, 2, 3, 4, 5, 6, 7, 8, 9, 10, 11] rfl ?_
        exact h
  refine zjn (h (zX p l e room_1 s m #[Value.ref b] below meth c (lw_Z below #[Value.ref b] s) D B cA 25 (c0 + 1 + 1 + 1 + 1 + 500) (u0 + 1000 + 1000 + 1000 + 1000 + 3000) S_558 I_563 [(15, .int r_562), (20, .ref (B + k_556)), (19, .ref (B + k_551)), (1, .ref s.heap.size), (2, .ref (B + 0)), (4, .int v4), (5, .int v5), (6, .int v6), (7, .int v7), (10, .int v10), (11, .int v11)] [] 1300) (fun  h => ?_)) (fun h => ?_)
  · refine zr_iconst C dyL_law_1300 zc_i_0 ?_
    exact h
  refine zr_icmp_gt C dyL_law_1277 (tgt := 1300) (by decide) (fun hc_600 => ?_) (fun hc_600 => ?_)
  · replace h := zif_pos hc_600 h
    refine zr_sub (lv2 := [(15, .int r_562), (20, .ref (B + k_556)), (19, .ref (B + k_551)), (1, .ref s.heap.size), (2, .ref (B + 0)), (4, .int v4), (5, .int v5), (6, .int v6), (7, .int v7), (10, .int v10), (11, .int v11)]) [0, 1, 2, 3, 4, 5, 6, 7, 8, 9, 10] rfl ?_
    exact h
  · replace h := zif_neg hc_600 h
    refine zr_aload C dyL_law_1280 1 rfl ?_
    refine zr_alenL C h.1 dyL_law_1282 ?_
    replace h := h.2
    refine zr_bipush C dyL_law_1283 zc_b_100 ?_
    refine zr_icmp_gt C dyL_law_1285 (tgt := 1300) (by decide) (fun hc_599 => ?_) (fun hc_599 => ?_)
    · replace h := zif_pos hc_599 h
      refine zr_sub (lv2 := [(15, .int r_562), (20, .ref (B + k_556)), (19, .ref (B + k_551)), (1, .ref s.heap.size), (2, .ref (B + 0)), (4, .int v4), (5, .int v5), (6, .int v6), (7, .int v7), (10, .int v10), (11, .int v11)]) [0, 1, 2, 3, 4, 5, 6, 7, 8, 9, 10] rfl ?_
      exact h
    · replace h := zif_neg hc_599 h
      refine zr_iload C dyL_law_1288 10 rfl ?_
      refine zr_sipush C dyL_law_1290 zc_s_3000 ?_
      refine zr_icmp_ge C dyL_law_1293 (tgt := 1300) (by decide) (fun hc_598 => ?_) (fun hc_598 => ?_)
      · replace h := zif_pos hc_598 h
        refine zr_sub (lv2 := [(15, .int r_562), (20, .ref (B + k_556)), (19, .ref (B + k_551)), (1, .ref s.heap.size), (2, .ref (B + 0)), (4, .int v4), (5, .int v5), (6, .int v6), (7, .int v7), (10, .int v10), (11, .int v11)]) [0, 1, 2, 3, 4, 5, 6, 7, 8, 9, 10] rfl ?_
        exact h
      · replace h := zif_neg hc_598 h
        refine zr_iconst C dyL_law_1296 zc_i_1 ?_
        refine zr_goto C dyL_law_1297 (tgt := 1301) (by decide) ?_
        refine zr_sub (lv2 := [(15, .int r_562), (20, .ref (B + k_556)), (19, .ref (B + k_551)), (1, .ref s.heap.size), (2, .ref (B + 0)), (4, .int v4), (5, .int v5), (6, .int v6), (7, .int v7), (10, .int v10), (11, .int v11)]) [0, 1, 2, 3, 4, 5, 6, 7, 8, 9, 10] rfl ?_
        exact h
def w_law_1127 (v4 : Int32) (v5 : Int32) (v6 : Int32) (v7 : Int32) (v10 : Int32) (v11 : Int32) (k14 : Nat) (n14 : Nat) (k16 : Nat) (n16 : Nat) (P1422 : Int32 → Int32 → (List zC) → Nat → Nat → zI → Prop) (c0 u0 : Nat) (S : List zC) (I : zI) : Prop :=
  vp_in v4 44 ∧ ∀ (v_528 : Int32), ¬ (v5 + (1 : Int32)) = 0 ∧ ∀ v17_529, v17_529 = (((v_528 >>> ((5 : Int32) &&& (31 : Int32))) &&& (511 : Int32)) - ((v_528 >>> ((5 : Int32) &&& (31 : Int32))) &&& (511 : Int32)) / (v5 + (1 : Int32)) * (v5 + (1 : Int32))) → vp_in v4 44 ∧ ∀ (v_530 : Int32), ∀ (P1175 : Int32 → Prop), (∀ (t_531 : Int32), (∀ v18_532, v18_532 = (if t_531 < (v5 - v17_529) then t_531 else (v5 - v17_529)) → vp_in v4 44 ∧ ∀ (v_533 : Int32), ∀ (P1218 : Int32 → Int32 → Prop), (∀ (v17_534 : Int32) (v18_535 : Int32), (w_law_1218 v4 v5 v6 v7 v10 v11 k14 n14 k16 n16 v17_534 v18_535 P1422 c0 u0 S I) → P1218 v17_534 v18_535) → (if ((v_533 >>> ((7 : Int32) &&& (31 : Int32))) &&& (1 : Int32)) = 0 then (vp_in v4 44 ∧ ∀ (v_601 : Int32), w_Desk_count 1 I (fun r_602 => ¬ r_602 = 0 ∧ w_Desk_token (((v_601 >>> ((5 : Int32) &&& (31 : Int32))) &&& (255 : Int32)) - ((v_601 >>> ((5 : Int32) &&& (31 : Int32))) &&& (255 : Int32)) / r_602 * r_602) 1 I (fun r_603 => P1218 r_603 0))) else P1218 v17_529 v18_532)) → P1175 t_531) → (if ((v_530 >>> ((8 : Int32) &&& (31 : Int32))) &&& (3 : Int32)) = 0 then (vp_in v4 44 ∧ ∀ (v_605 : Int32), P1175 ((v_605 >>> ((10 : Int32) &&& (31 : Int32))) &&& (15 : Int32))) else P1175 0)
set_option maxHeartbeats 8000000 in
set_option maxRecDepth 20000 in
theorem zl_law_1127 {p : Program} {l : Launch} {e : Env} {s : State} {m : MethodId} {below : List Frame} {meth : Method} {c : Code} {D : va_G} {B : Nat} {cA : Nat → ClassId} {ad : Nat → Nat} {b : Nat} {S0 S : List zC} {I : zI} {c0 u0 : Nat} (C : zCx p s m #[Value.ref b] meth c cL_law 25 RL ret D B cA ad) (hB : B = s.heap.size + 1) {v4 : Int32} {v5 : Int32} {v6 : Int32} {v7 : Int32} {v10 : Int32} {v11 : Int32} {k14 : Nat} {n14 : Nat} {k16 : Nat} {n16 : Nat} {P1422 : Int32 → Int32 → (List zC) → Nat → Nat → zI → Prop}  (hg : zGo S0 600000 7302250 S c0 u0) (h : w_law_1127 v4 v5 v6 v7 v10 v11 k14 n14 k16 n16 P1422 c0 u0 S I) (kP1422 : ∀ (v3_280 : Int32) (v15_281 : Int32) (S_282 : List zC) (c_283 : Nat) (u_284 : Nat) (I_286 : zI), P1422 v3_280 v15_281 S_282 c_283 u_284 I_286 → zGo S0 600000 7302250 S_282 c_283 u_284 → zX p l e room_1 s m #[Value.ref b] below meth c (lw_Z below #[Value.ref b] s) D B cA 25 c_283 u_284 S_282 I_286 [(15, .int v15_281), (11, .int v11), (10, .int v10), (7, .int v7), (6, .int v6), (5, .int v5), (1, .ref s.heap.size), (2, .ref (B + 0)), (4, .int v4), (3, .int v3_280)] [] 1422) : zX p l e room_1 s m #[Value.ref b] below meth c (lw_Z below #[Value.ref b] s) D B cA 25 c0 u0 S I [(1, .ref s.heap.size), (2, .ref (B + 0)), (4, .int v4), (5, .int v5), (6, .int v6), (7, .int v7), (10, .int v10), (11, .int v11), (14, .ref (B + k14)), (16, .ref (B + k16))] [] 1127 := by
  unfold w_law_1127 at h
  refine zr_aload_n C dyL_law_1127 rfl 0 rfl ?_
  refine zr_iload C dyL_law_1128 2 rfl ?_
  refine zr_gld C (by omega) h.1 dyL_law_1130 (fun v_528 => ?_)
  replace h := h.2 v_528
  refine zr_iconst C dyL_law_1131 zc_i_5 ?_
  refine zr_ishr C dyL_law_1132 ?_
  refine zr_sipush C dyL_law_1133 zc_s_511 ?_
  refine zr_iand C dyL_law_1136 ?_
  refine zr_iload C dyL_law_1137 3 rfl ?_
  refine zr_iconst C dyL_law_1139 zc_i_1 ?_
  refine zr_iadd C dyL_law_1140 ?_
  refine zr_irem C dyL_law_1141 h.1 ?_
  replace h := h.2
  refine zn_istore C (fun v17_529 => [(17, .int v17_529), (1, .ref s.heap.size), (2, .ref (B + 0)), (4, .int v4), (5, .int v5), (6, .int v6), (7, .int v7), (10, .int v10), (11, .int v11), (14, .ref (B + k14)), (16, .ref (B + k16))]) dyL_law_1142 (Nat.le_of_ble_eq_true rfl) (fun _ => rfl) (fun v17_529 ev17_529 => ?_)
  replace h := h v17_529 ev17_529
  refine zr_iload C dyL_law_1144 4 rfl ?_
  refine zr_iload C dyL_law_1146 0 rfl ?_
  refine zr_isub C dyL_law_1148 ?_
  refine zr_aload_n C dyL_law_1149 rfl 1 rfl ?_
  refine zr_iload C dyL_law_1150 3 rfl ?_
  refine zr_gld C (by omega) h.1 dyL_law_1152 (fun v_530 => ?_)
  replace h := h.2 v_530
  refine zr_bipush C dyL_law_1153 zc_b_8 ?_
  refine zr_ishr C dyL_law_1155 ?_
  refine zr_iconst C dyL_law_1156 zc_i_3 ?_
  refine zr_iand C dyL_law_1157 ?_
  refine zjn (h (fun (t_531 : Int32) => zX p l e room_1 s m #[Value.ref b] below meth c (lw_Z below #[Value.ref b] s) D B cA 25 c0 u0 S I [(17, .int v17_529), (1, .ref s.heap.size), (2, .ref (B + 0)), (4, .int v4), (5, .int v5), (6, .int v6), (7, .int v7), (10, .int v10), (11, .int v11), (14, .ref (B + k14)), (16, .ref (B + k16))] [.int t_531, .int (v5 - v17_529)] 1175) (fun t_531 h => ?_)) (fun h => ?_)
  · refine zr_mmin C zk_ml_L_68 zk_st_J_min zk_in_Math zk_cd_J_min (Nat.le_of_ble_eq_true rfl) (Nat.le_of_ble_eq_true rfl) (Nat.le_of_ble_eq_true rfl) hg.2.2.1 hg.2.2.2 dyL_law_1175 ?_
    refine zn_istore C (fun v18_532 => [(18, .int v18_532), (17, .int v17_529), (1, .ref s.heap.size), (2, .ref (B + 0)), (4, .int v4), (5, .int v5), (6, .int v6), (7, .int v7), (10, .int v10), (11, .int v11), (14, .ref (B + k14)), (16, .ref (B + k16))]) dyL_law_1178 (Nat.le_of_ble_eq_true rfl) (fun _ => rfl) (fun v18_532 ev18_532 => ?_)
    replace h := h v18_532 ev18_532
    refine zr_aload_n C dyL_law_1180 rfl 2 rfl ?_
    refine zr_iload C dyL_law_1181 4 rfl ?_
    refine zr_gld C (by omega) h.1 dyL_law_1183 (fun v_533 => ?_)
    replace h := h.2 v_533
    refine zr_bipush C dyL_law_1184 zc_b_7 ?_
    refine zr_ishr C dyL_law_1186 ?_
    refine zr_iconst C dyL_law_1187 zc_i_1 ?_
    refine zr_iand C dyL_law_1188 ?_
    refine zjn (h (fun (v17_534 : Int32) (v18_535 : Int32) => zX p l e room_1 s m #[Value.ref b] below meth c (lw_Z below #[Value.ref b] s) D B cA 25 c0 u0 S I [(18, .int v18_535), (17, .int v17_534), (1, .ref s.heap.size), (2, .ref (B + 0)), (4, .int v4), (5, .int v5), (6, .int v6), (7, .int v7), (10, .int v10), (11, .int v11), (14, .ref (B + k14)), (16, .ref (B + k16))] [] 1218) (fun v17_534 v18_535 h => ?_)) (fun h => ?_)
    · refine zr_sub (lv2 := [(1, .ref s.heap.size), (2, .ref (B + 0)), (4, .int v4), (5, .int v5), (6, .int v6), (7, .int v7), (10, .int v10), (11, .int v11), (14, .ref (B + k14)), (16, .ref (B + k16)), (17, .int v17_534), (18, .int v18_535)]) [2, 3, 4, 5, 6, 7, 8, 9, 10, 11, 1, 0] rfl ?_
      exact zl_law_1218 C hB hg h kP1422
    refine zr_if_ne C dyL_law_1189 (tgt := 1218) (by decide) (fun hc_604 => ?_) (fun hc_604 => ?_)
    · replace h := zif_neg hc_604 h
      exact h
    · replace h := zif_pos hc_604 h
      refine zr_aload_n C dyL_law_1192 rfl 3 rfl ?_
      refine zr_aload_n C dyL_law_1193 rfl 2 rfl ?_
      refine zr_iload C dyL_law_1194 4 rfl ?_
      refine zr_gld C (by omega) h.1 dyL_law_1196 (fun v_601 => ?_)
      replace h := h.2 v_601
      refine zr_iconst C dyL_law_1197 zc_i_5 ?_
      refine zr_ishr C dyL_law_1198 ?_
      refine zr_sipush C dyL_law_1199 zc_s_255 ?_
      refine zr_iand C dyL_law_1202 ?_
      refine zr_aload_n C dyL_law_1203 rfl 3 rfl ?_
      refine zr_iconst C dyL_law_1204 zc_i_1 ?_
      refine zv_L_36t C hg.1 (st := [.int ((v_601 >>> ((5 : Int32) &&& (31 : Int32))) &&& (255 : Int32)), .ref (B + 0)]) h ⟨Nat.le_of_ble_eq_true rfl, Nat.le_of_ble_eq_true rfl⟩ (Nat.le_of_ble_eq_true rfl) dyL_law_1205 ⟨hg.2.2.1, hg.2.2.2⟩ (fun r_602 h => ?_)
      refine zr_irem C dyL_law_1208 h.1 ?_
      replace h := h.2
      refine zr_iconst C dyL_law_1209 zc_i_1 ?_
      refine zv_L_108t C hg.1 (st := []) h ⟨Nat.le_of_ble_eq_true rfl, Nat.le_of_ble_eq_true rfl⟩ (Nat.le_of_ble_eq_true rfl) dyL_law_1210 ⟨hg.2.2.1, hg.2.2.2⟩ (fun r_603 h => ?_)
      refine zr_istore C dyL_law_1213 (Nat.le_of_ble_eq_true rfl) (lv2 := [(17, .int r_603), (18, .int v18_532), (1, .ref s.heap.size), (2, .ref (B + 0)), (4, .int v4), (5, .int v5), (6, .int v6), (7, .int v7), (10, .int v10), (11, .int v11), (14, .ref (B + k14)), (16, .ref (B + k16))]) rfl ?_
      refine zr_iconst C dyL_law_1215 zc_i_0 ?_
      refine zr_istore C dyL_law_1216 (Nat.le_of_ble_eq_true rfl) (lv2 := [(18, .int 0), (17, .int r_603), (1, .ref s.heap.size), (2, .ref (B + 0)), (4, .int v4), (5, .int v5), (6, .int v6), (7, .int v7), (10, .int v10), (11, .int v11), (14, .ref (B + k14)), (16, .ref (B + k16))]) rfl ?_
      exact h
  refine zr_if_ne C dyL_law_1158 (tgt := 1174) (by decide) (fun hc_606 => ?_) (fun hc_606 => ?_)
  · replace h := zif_neg hc_606 h
    refine zr_iconst C dyL_law_1174 zc_i_0 ?_
    exact h
  · replace h := zif_pos hc_606 h
    refine zr_aload_n C dyL_law_1161 rfl 1 rfl ?_
    refine zr_iload C dyL_law_1162 3 rfl ?_
    refine zr_gld C (by omega) h.1 dyL_law_1164 (fun v_605 => ?_)
    replace h := h.2 v_605
    refine zr_bipush C dyL_law_1165 zc_b_10 ?_
    refine zr_ishr C dyL_law_1167 ?_
    refine zr_bipush C dyL_law_1168 zc_b_15 ?_
    refine zr_iand C dyL_law_1170 ?_
    refine zr_goto C dyL_law_1171 (tgt := 1175) (by decide) ?_
    exact h
def w_law_1090 (v4 : Int32) (v5 : Int32) (v6 : Int32) (v7 : Int32) (v10 : Int32) (v11 : Int32) (k14 : Nat) (n14 : Nat) (P1422 : Int32 → Int32 → (List zC) → Nat → Nat → zI → Prop) (c0 u0 : Nat) (S : List zC) (I : zI) : Prop :=
  vp_in v4 44 ∧ ∀ (v_515 : Int32), vp_in v4 44 ∧ ∀ (v_516 : Int32), (c0 + 9 ≤ 600000 ∧ u0 + 4200 ≤ 7302250) ∧ w_Law_drawn v_515 ((1 : Int32) + ((v_516 >>> ((4 : Int32) &&& (31 : Int32))) &&& (3 : Int32))) S I (fun k_517 n_518 S_519 I_520 => zAt S_519 k_517 n_518 ∧ ∀ (P1127 : Nat → Nat → (List zC) → Nat → Nat → zI → Prop), (∀ (v16_522 : Nat) (v16_522n : Nat) (S_523 : List zC) (c_524 : Nat) (u_525 : Nat) (I_527 : zI), (w_law_1127 v4 v5 v6 v7 v10 v11 k14 n14 v16_522 v16_522n P1422 c_524 u_525 S_523 I_527) → P1127 v16_522 v16_522n S_523 c_524 u_525 I_527) → (if (Int32.ofNat n_518) ≤ 80 then (P1127 k_517 n_518 S_519 (c0 + 9) (u0 + 4200) I_520) else ((c0 + 9 + 1 ≤ 600000 ∧ u0 + 4200 + 1000 ≤ 7302250) ∧ w_Law_part k_517 n_518 0 80 S_519 I_520 (fun k_607 n_608 S_609 I_610 => P1127 k_607 n_608 S_609 (c0 + 9 + 1) (u0 + 4200 + 1000) I_610))))
set_option maxHeartbeats 8000000 in
set_option maxRecDepth 20000 in
theorem zl_law_1090 {p : Program} {l : Launch} {e : Env} {s : State} {m : MethodId} {below : List Frame} {meth : Method} {c : Code} {D : va_G} {B : Nat} {cA : Nat → ClassId} {ad : Nat → Nat} {b : Nat} {S0 S : List zC} {I : zI} {c0 u0 : Nat} (C : zCx p s m #[Value.ref b] meth c cL_law 25 RL ret D B cA ad) (hB : B = s.heap.size + 1) {v4 : Int32} {v5 : Int32} {v6 : Int32} {v7 : Int32} {v10 : Int32} {v11 : Int32} {k14 : Nat} {n14 : Nat} {P1422 : Int32 → Int32 → (List zC) → Nat → Nat → zI → Prop}  (hg : zGo S0 600000 7302250 S c0 u0) (h : w_law_1090 v4 v5 v6 v7 v10 v11 k14 n14 P1422 c0 u0 S I) (kP1422 : ∀ (v3_280 : Int32) (v15_281 : Int32) (S_282 : List zC) (c_283 : Nat) (u_284 : Nat) (I_286 : zI), P1422 v3_280 v15_281 S_282 c_283 u_284 I_286 → zGo S0 600000 7302250 S_282 c_283 u_284 → zX p l e room_1 s m #[Value.ref b] below meth c (lw_Z below #[Value.ref b] s) D B cA 25 c_283 u_284 S_282 I_286 [(15, .int v15_281), (11, .int v11), (10, .int v10), (7, .int v7), (6, .int v6), (5, .int v5), (1, .ref s.heap.size), (2, .ref (B + 0)), (4, .int v4), (3, .int v3_280)] [] 1422) : zX p l e room_1 s m #[Value.ref b] below meth c (lw_Z below #[Value.ref b] s) D B cA 25 c0 u0 S I [(1, .ref s.heap.size), (2, .ref (B + 0)), (4, .int v4), (5, .int v5), (6, .int v6), (7, .int v7), (10, .int v10), (11, .int v11), (14, .ref (B + k14))] [] 1090 := by
  unfold w_law_1090 at h
  refine zr_aload_n C dyL_law_1090 rfl 0 rfl ?_
  refine zr_iload C dyL_law_1091 2 rfl ?_
  refine zr_gld C (by omega) h.1 dyL_law_1093 (fun v_515 => ?_)
  replace h := h.2 v_515
  refine zr_iconst C dyL_law_1094 zc_i_1 ?_
  refine zr_aload_n C dyL_law_1095 rfl 0 rfl ?_
  refine zr_iload C dyL_law_1096 2 rfl ?_
  refine zr_gld C (by omega) h.1 dyL_law_1098 (fun v_516 => ?_)
  replace h := h.2 v_516
  refine zr_iconst C dyL_law_1099 zc_i_4 ?_
  refine zr_ishr C dyL_law_1100 ?_
  refine zr_iconst C dyL_law_1101 zc_i_3 ?_
  refine zr_iand C dyL_law_1102 ?_
  refine zr_iadd C dyL_law_1103 ?_
  refine zv_L_123t C hg (st := []) h.2 ⟨Nat.le_of_ble_eq_true rfl, Nat.le_of_ble_eq_true rfl⟩ (Nat.le_of_ble_eq_true rfl) dyL_law_1104 h.1 (fun k_517 n_518 S_519 I_520 g_521 h => ?_)
  refine zr_astore C dyL_law_1107 (Nat.le_of_ble_eq_true rfl) (lv2 := [(16, .ref (B + k_517)), (1, .ref s.heap.size), (2, .ref (B + 0)), (4, .int v4), (5, .int v5), (6, .int v6), (7, .int v7), (10, .int v10), (11, .int v11), (14, .ref (B + k14))]) rfl ?_
  refine zr_aload C dyL_law_1109 0 rfl ?_
  refine zr_alen C h.1 dyL_law_1111 ?_
  replace h := h.2
  refine zr_bipush C dyL_law_1112 zc_b_80 ?_
  refine zjn (h (fun (v16_522 : Nat) (v16_522n : Nat) (S_523 : List zC) (c_524 : Nat) (u_525 : Nat) (I_527 : zI) => zGo S0 600000 7302250 S_523 c_524 u_525 → zX p l e room_1 s m #[Value.ref b] below meth c (lw_Z below #[Value.ref b] s) D B cA 25 c_524 u_525 S_523 I_527 [(16, .ref (B + v16_522)), (1, .ref s.heap.size), (2, .ref (B + 0)), (4, .int v4), (5, .int v5), (6, .int v6), (7, .int v7), (10, .int v10), (11, .int v11), (14, .ref (B + k14))] [] 1127) (fun v16_522 v16_522n S_523 c_524 u_525 I_527 h g_526 => ?_)) (fun h => ?_)
  · refine zr_sub (lv2 := [(1, .ref s.heap.size), (2, .ref (B + 0)), (4, .int v4), (5, .int v5), (6, .int v6), (7, .int v7), (10, .int v10), (11, .int v11), (14, .ref (B + k14)), (16, .ref (B + v16_522))]) [1, 2, 3, 4, 5, 6, 7, 8, 9, 0] rfl ?_
    exact zl_law_1127 C hB g_526 h kP1422
  refine zr_icmp_le C dyL_law_1114 (tgt := 1127) (by decide) (fun hc_612 => ?_) (fun hc_612 => ?_)
  · replace h := zif_pos hc_612 h
    exact h g_521
  · replace h := zif_neg hc_612 h
    refine zr_aload C dyL_law_1117 0 rfl ?_
    refine zr_iconst C dyL_law_1119 zc_i_0 ?_
    refine zr_bipush C dyL_law_1120 zc_b_80 ?_
    refine zv_L_73t C g_521 (st := []) h.2 ⟨Nat.le_of_ble_eq_true rfl, Nat.le_of_ble_eq_true rfl⟩ (Nat.le_of_ble_eq_true rfl) dyL_law_1122 h.1 (fun k_607 n_608 S_609 I_610 g_611 h => ?_)
    refine zr_astore C dyL_law_1125 (Nat.le_of_ble_eq_true rfl) (lv2 := [(16, .ref (B + k_607)), (1, .ref s.heap.size), (2, .ref (B + 0)), (4, .int v4), (5, .int v5), (6, .int v6), (7, .int v7), (10, .int v10), (11, .int v11), (14, .ref (B + k14))]) rfl ?_
    exact h g_611
def w_law_55 (v4 : Int32) (P44 : Int32 → Int32 → (List zC) → Nat → Nat → zI → Prop) (c0 u0 : Nat) (S : List zC) (I : zI) : Prop :=
  w_Desk_count 0 I (fun r_262 => w_Desk_count 6 I (fun r_263 => w_Desk_count 8 I (fun r_264 => w_Desk_count 9 I (fun r_265 => w_Desk_count 2 I (fun r_266 => ∀ (P100 : Int32 → Prop), (∀ (t_267 : Int32), (w_Desk_count 4 I (fun r_268 => w_Desk_count 5 I (fun r_269 => w_Desk_runs I (fun r_270 => vp_in v4 44 ∧ ∀ (v_271 : Int32), ¬ (r_270 + (1 : Int32)) = 0 ∧ ∀ v13_272, v13_272 = (((v_271 >>> ((9 : Int32) &&& (31 : Int32))) &&& (255 : Int32)) - ((v_271 >>> ((9 : Int32) &&& (31 : Int32))) &&& (255 : Int32)) / (r_270 + (1 : Int32)) * (r_270 + (1 : Int32))) → (c0 + 1 ≤ 600000 ∧ u0 + 400 ≤ 7302250) ∧ w_Law_text S I (fun k_273 n_274 S_275 I_276 => vp_in v4 44 ∧ ∀ (v_278 : Int32), ∀ x_279, x_279 = (v_278 &&& (15 : Int32)) → ∀ (P1422 : Int32 → Int32 → (List zC) → Nat → Nat → zI → Prop), (∀ (v3_280 : Int32) (v15_281 : Int32) (S_282 : List zC) (c_283 : Nat) (u_284 : Nat) (I_286 : zI), (w_law_1422 v3_280 v4 r_262 r_263 r_264 r_268 r_269 v15_281 P44 c_283 u_284 S_282 I_286) → P1422 v3_280 v15_281 S_282 c_283 u_284 I_286) → (if x_279 = 0 then (w_law_196 v4 r_262 r_263 r_264 r_265 t_267 r_268 r_269 k_273 n_274 (-2) P1422 (c0 + 1) (u0 + 400) S_275 I_276) else (if x_279 = 1 then (w_law_382 v4 r_262 r_263 r_264 r_265 r_268 r_269 (-2) P1422 (c0 + 1) (u0 + 400) S_275 I_276) else (if x_279 = 2 then (w_law_434 v4 r_262 r_263 r_264 t_267 r_268 r_269 r_270 v13_272 P1422 (c0 + 1) (u0 + 400) S_275 I_276) else (if x_279 = 3 then (w_law_540 v4 r_262 r_263 r_264 t_267 r_268 r_269 r_270 v13_272 P1422 (c0 + 1) (u0 + 400) S_275 I_276) else (if x_279 = 4 then (w_law_666 v4 r_262 r_263 r_264 t_267 r_268 r_269 r_270 v13_272 P1422 (c0 + 1) (u0 + 400) S_275 I_276) else (if x_279 = 5 then (w_law_747 v4 r_262 r_263 r_264 t_267 r_268 r_269 r_270 k_273 n_274 P1422 (c0 + 1) (u0 + 400) S_275 I_276) else (w_law_1090 v4 r_262 r_263 r_264 r_268 r_269 k_273 n_274 P1422 (c0 + 1) (u0 + 400) S_275 I_276)))))))))))) → P100 t_267) → (if r_266 = 1 then P100 1 else P100 0))))))
set_option maxHeartbeats 8000000 in
set_option maxRecDepth 20000 in
theorem zl_law_55 {p : Program} {l : Launch} {e : Env} {s : State} {m : MethodId} {below : List Frame} {meth : Method} {c : Code} {D : va_G} {B : Nat} {cA : Nat → ClassId} {ad : Nat → Nat} {b : Nat} {S0 S : List zC} {I : zI} {c0 u0 : Nat} (C : zCx p s m #[Value.ref b] meth c cL_law 25 RL ret D B cA ad) (hB : B = s.heap.size + 1) {v4 : Int32} {P44 : Int32 → Int32 → (List zC) → Nat → Nat → zI → Prop}  (hg : zGo S0 600000 7302250 S c0 u0) (h : w_law_55 v4 P44 c0 u0 S I) (kP44 : ∀ (v3_1 : Int32) (v4_2 : Int32) (S_3 : List zC) (c_4 : Nat) (u_5 : Nat) (I_7 : zI), P44 v3_1 v4_2 S_3 c_4 u_5 I_7 → zGo S0 600000 7302250 S_3 c_4 u_5 → zX p l e room_1 s m #[Value.ref b] below meth c (lw_Z below #[Value.ref b] s) D B cA 25 c_4 u_5 S_3 I_7 [(4, .int v4_2), (3, .int v3_1), (2, .ref (B + 0)), (1, .ref s.heap.size)] [] 44) : zX p l e room_1 s m #[Value.ref b] below meth c (lw_Z below #[Value.ref b] s) D B cA 25 c0 u0 S I [(1, .ref s.heap.size), (2, .ref (B + 0)), (4, .int v4)] [] 55 := by
  unfold w_law_55 at h
  refine zr_aload_n C dyL_law_55 rfl 1 rfl ?_
  refine zr_iconst C dyL_law_56 zc_i_0 ?_
  refine zv_L_36t C hg.1 (st := []) h ⟨Nat.le_of_ble_eq_true rfl, Nat.le_of_ble_eq_true rfl⟩ (Nat.le_of_ble_eq_true rfl) dyL_law_57 ⟨hg.2.2.1, hg.2.2.2⟩ (fun r_262 h => ?_)
  refine zr_istore C dyL_law_60 (Nat.le_of_ble_eq_true rfl) (lv2 := [(5, .int r_262), (1, .ref s.heap.size), (2, .ref (B + 0)), (4, .int v4)]) rfl ?_
  refine zr_aload_n C dyL_law_62 rfl 2 rfl ?_
  refine zr_bipush C dyL_law_63 zc_b_6 ?_
  refine zv_L_36t C hg.1 (st := []) h ⟨Nat.le_of_ble_eq_true rfl, Nat.le_of_ble_eq_true rfl⟩ (Nat.le_of_ble_eq_true rfl) dyL_law_65 ⟨hg.2.2.1, hg.2.2.2⟩ (fun r_263 h => ?_)
  refine zr_istore C dyL_law_68 (Nat.le_of_ble_eq_true rfl) (lv2 := [(6, .int r_263), (5, .int r_262), (1, .ref s.heap.size), (2, .ref (B + 0)), (4, .int v4)]) rfl ?_
  refine zr_aload_n C dyL_law_70 rfl 3 rfl ?_
  refine zr_bipush C dyL_law_71 zc_b_8 ?_
  refine zv_L_36t C hg.1 (st := []) h ⟨Nat.le_of_ble_eq_true rfl, Nat.le_of_ble_eq_true rfl⟩ (Nat.le_of_ble_eq_true rfl) dyL_law_73 ⟨hg.2.2.1, hg.2.2.2⟩ (fun r_264 h => ?_)
  refine zr_istore C dyL_law_76 (Nat.le_of_ble_eq_true rfl) (lv2 := [(7, .int r_264), (6, .int r_263), (5, .int r_262), (1, .ref s.heap.size), (2, .ref (B + 0)), (4, .int v4)]) rfl ?_
  refine zr_aload_n C dyL_law_78 rfl 4 rfl ?_
  refine zr_bipush C dyL_law_79 zc_b_9 ?_
  refine zv_L_36t C hg.1 (st := []) h ⟨Nat.le_of_ble_eq_true rfl, Nat.le_of_ble_eq_true rfl⟩ (Nat.le_of_ble_eq_true rfl) dyL_law_81 ⟨hg.2.2.1, hg.2.2.2⟩ (fun r_265 h => ?_)
  refine zr_istore C dyL_law_84 (Nat.le_of_ble_eq_true rfl) (lv2 := [(8, .int r_265), (7, .int r_264), (6, .int r_263), (5, .int r_262), (1, .ref s.heap.size), (2, .ref (B + 0)), (4, .int v4)]) rfl ?_
  refine zr_aload_n C dyL_law_86 rfl 5 rfl ?_
  refine zr_iconst C dyL_law_87 zc_i_2 ?_
  refine zv_L_36t C hg.1 (st := []) h ⟨Nat.le_of_ble_eq_true rfl, Nat.le_of_ble_eq_true rfl⟩ (Nat.le_of_ble_eq_true rfl) dyL_law_88 ⟨hg.2.2.1, hg.2.2.2⟩ (fun r_266 h => ?_)
  refine zr_iconst C dyL_law_91 zc_i_1 ?_
  refine zjn (h (fun (t_267 : Int32) => zX p l e room_1 s m #[Value.ref b] below meth c (lw_Z below #[Value.ref b] s) D B cA 25 c0 u0 S I [(8, .int r_265), (7, .int r_264), (6, .int r_263), (5, .int r_262), (1, .ref s.heap.size), (2, .ref (B + 0)), (4, .int v4)] [.int t_267] 100) (fun t_267 h => ?_)) (fun h => ?_)
  · refine zr_istore C dyL_law_100 (Nat.le_of_ble_eq_true rfl) (lv2 := [(9, .int t_267), (8, .int r_265), (7, .int r_264), (6, .int r_263), (5, .int r_262), (1, .ref s.heap.size), (2, .ref (B + 0)), (4, .int v4)]) rfl ?_
    refine zr_aload_n C dyL_law_102 rfl 6 rfl ?_
    refine zr_iconst C dyL_law_103 zc_i_4 ?_
    refine zv_L_36t C hg.1 (st := []) h ⟨Nat.le_of_ble_eq_true rfl, Nat.le_of_ble_eq_true rfl⟩ (Nat.le_of_ble_eq_true rfl) dyL_law_104 ⟨hg.2.2.1, hg.2.2.2⟩ (fun r_268 h => ?_)
    refine zr_istore C dyL_law_107 (Nat.le_of_ble_eq_true rfl) (lv2 := [(10, .int r_268), (9, .int t_267), (8, .int r_265), (7, .int r_264), (6, .int r_263), (5, .int r_262), (1, .ref s.heap.size), (2, .ref (B + 0)), (4, .int v4)]) rfl ?_
    refine zr_aload_n C dyL_law_109 rfl 7 rfl ?_
    refine zr_iconst C dyL_law_110 zc_i_5 ?_
    refine zv_L_36t C hg.1 (st := []) h ⟨Nat.le_of_ble_eq_true rfl, Nat.le_of_ble_eq_true rfl⟩ (Nat.le_of_ble_eq_true rfl) dyL_law_111 ⟨hg.2.2.1, hg.2.2.2⟩ (fun r_269 h => ?_)
    refine zr_istore C dyL_law_114 (Nat.le_of_ble_eq_true rfl) (lv2 := [(11, .int r_269), (10, .int r_268), (9, .int t_267), (8, .int r_265), (7, .int r_264), (6, .int r_263), (5, .int r_262), (1, .ref s.heap.size), (2, .ref (B + 0)), (4, .int v4)]) rfl ?_
    refine zr_aload_n C dyL_law_116 rfl 8 rfl ?_
    refine zv_L_82t C hg.1 (st := []) h ⟨Nat.le_of_ble_eq_true rfl, Nat.le_of_ble_eq_true rfl⟩ (Nat.le_of_ble_eq_true rfl) dyL_law_117 ⟨hg.2.2.1, hg.2.2.2⟩ (fun r_270 h => ?_)
    refine zr_istore C dyL_law_120 (Nat.le_of_ble_eq_true rfl) (lv2 := [(12, .int r_270), (11, .int r_269), (10, .int r_268), (9, .int t_267), (8, .int r_265), (7, .int r_264), (6, .int r_263), (5, .int r_262), (1, .ref s.heap.size), (2, .ref (B + 0)), (4, .int v4)]) rfl ?_
    refine zr_aload_n C dyL_law_122 rfl 8 rfl ?_
    refine zr_iload C dyL_law_123 10 rfl ?_
    refine zr_gld C (by omega) h.1 dyL_law_125 (fun v_271 => ?_)
    replace h := h.2 v_271
    refine zr_bipush C dyL_law_126 zc_b_9 ?_
    refine zr_ishr C dyL_law_128 ?_
    refine zr_sipush C dyL_law_129 zc_s_255 ?_
    refine zr_iand C dyL_law_132 ?_
    refine zr_iload C dyL_law_133 0 rfl ?_
    refine zr_iconst C dyL_law_135 zc_i_1 ?_
    refine zr_iadd C dyL_law_136 ?_
    refine zr_irem C dyL_law_137 h.1 ?_
    replace h := h.2
    refine zn_istore C (fun v13_272 => [(13, .int v13_272), (12, .int r_270), (11, .int r_269), (10, .int r_268), (9, .int t_267), (8, .int r_265), (7, .int r_264), (6, .int r_263), (5, .int r_262), (1, .ref s.heap.size), (2, .ref (B + 0)), (4, .int v4)]) dyL_law_138 (Nat.le_of_ble_eq_true rfl) (fun _ => rfl) (fun v13_272 ev13_272 => ?_)
    replace h := h v13_272 ev13_272
    refine zr_aload_n C dyL_law_140 rfl 10 rfl ?_
    refine zv_L_86t C hg (st := []) h.2 ⟨Nat.le_of_ble_eq_true rfl, Nat.le_of_ble_eq_true rfl⟩ (Nat.le_of_ble_eq_true rfl) dyL_law_141 h.1 (fun k_273 n_274 S_275 I_276 g_277 h => ?_)
    refine zr_astore C dyL_law_144 (Nat.le_of_ble_eq_true rfl) (lv2 := [(14, .ref (B + k_273)), (13, .int v13_272), (12, .int r_270), (11, .int r_269), (10, .int r_268), (9, .int t_267), (8, .int r_265), (7, .int r_264), (6, .int r_263), (5, .int r_262), (1, .ref s.heap.size), (2, .ref (B + 0)), (4, .int v4)]) rfl ?_
    refine zr_bipush C dyL_law_146 zc_b_m2 ?_
    refine zr_istore C dyL_law_148 (Nat.le_of_ble_eq_true rfl) (lv2 := [(15, .int (-2)), (14, .ref (B + k_273)), (13, .int v13_272), (12, .int r_270), (11, .int r_269), (10, .int r_268), (9, .int t_267), (8, .int r_265), (7, .int r_264), (6, .int r_263), (5, .int r_262), (1, .ref s.heap.size), (2, .ref (B + 0)), (4, .int v4)]) rfl ?_
    refine zr_aload_n C dyL_law_150 rfl 11 rfl ?_
    refine zr_iload C dyL_law_151 13 rfl ?_
    refine zr_gld C (by omega) h.1 dyL_law_153 (fun v_278 => ?_)
    replace h := h.2 v_278
    refine zr_bipush C dyL_law_154 zc_b_15 ?_
    refine zr_iand C dyL_law_156 ?_
    refine zn_top C (fun x_279 ex_279 => ?_)
    replace h := h x_279 ex_279
    refine zjn (h (fun (v3_280 : Int32) (v15_281 : Int32) (S_282 : List zC) (c_283 : Nat) (u_284 : Nat) (I_286 : zI) => zGo S0 600000 7302250 S_282 c_283 u_284 → zX p l e room_1 s m #[Value.ref b] below meth c (lw_Z below #[Value.ref b] s) D B cA 25 c_283 u_284 S_282 I_286 [(15, .int v15_281), (11, .int r_269), (10, .int r_268), (7, .int r_264), (6, .int r_263), (5, .int r_262), (1, .ref s.heap.size), (2, .ref (B + 0)), (4, .int v4), (3, .int v3_280)] [] 1422) (fun v3_280 v15_281 S_282 c_283 u_284 I_286 h g_285 => ?_)) (fun h => ?_)
    · refine zr_sub (lv2 := [(1, .ref s.heap.size), (2, .ref (B + 0)), (3, .int v3_280), (4, .int v4), (5, .int r_262), (6, .int r_263), (7, .int r_264), (10, .int r_268), (11, .int r_269), (15, .int v15_281)]) [6, 7, 9, 8, 5, 4, 3, 2, 1, 0] rfl ?_
      exact zl_law_1422 C hB g_285 h kP44
    by_cases hc_339 : x_279 = 0
    · replace h := zif_pos hc_339 h
      refine zr_tableIn C dyL_law_157 (by rw [hc_339]; decide) (by rw [hc_339]; decide) (off := 39) (by rw [hc_339]; decide) (tgt := 196) (by decide) ?_
      refine zr_sub (lv2 := [(1, .ref s.heap.size), (2, .ref (B + 0)), (4, .int v4), (5, .int r_262), (6, .int r_263), (7, .int r_264), (8, .int r_265), (9, .int t_267), (10, .int r_268), (11, .int r_269), (14, .ref (B + k_273)), (15, .int (-2))]) [11, 12, 13, 10, 9, 8, 7, 6, 5, 4, 1, 0] rfl ?_
      exact zl_law_196 C hB g_277 h (fun _ _ _ _ _ _ h g => h g)
    replace h := zif_neg hc_339 h
    by_cases hc_380 : x_279 = 1
    · replace h := zif_pos hc_380 h
      refine zr_tableIn C dyL_law_157 (by rw [hc_380]; decide) (by rw [hc_380]; decide) (off := 225) (by rw [hc_380]; decide) (tgt := 382) (by decide) ?_
      refine zr_sub (lv2 := [(1, .ref s.heap.size), (2, .ref (B + 0)), (4, .int v4), (5, .int r_262), (6, .int r_263), (7, .int r_264), (8, .int r_265), (10, .int r_268), (11, .int r_269), (15, .int (-2))]) [11, 12, 13, 10, 9, 8, 7, 5, 4, 0] rfl ?_
      exact zl_law_382 C hB g_277 h (fun _ _ _ _ _ _ h g => h g)
    replace h := zif_neg hc_380 h
    by_cases hc_391 : x_279 = 2
    · replace h := zif_pos hc_391 h
      refine zr_tableIn C dyL_law_157 (by rw [hc_391]; decide) (by rw [hc_391]; decide) (off := 277) (by rw [hc_391]; decide) (tgt := 434) (by decide) ?_
      refine zr_sub (lv2 := [(1, .ref s.heap.size), (2, .ref (B + 0)), (4, .int v4), (5, .int r_262), (6, .int r_263), (7, .int r_264), (9, .int t_267), (10, .int r_268), (11, .int r_269), (12, .int r_270), (13, .int v13_272)]) [11, 12, 13, 10, 9, 8, 6, 5, 4, 3, 2] rfl ?_
      exact zl_law_434 C hB g_277 h (fun _ _ _ _ _ _ h g => h g)
    replace h := zif_neg hc_391 h
    by_cases hc_411 : x_279 = 3
    · replace h := zif_pos hc_411 h
      refine zr_tableIn C dyL_law_157 (by rw [hc_411]; decide) (by rw [hc_411]; decide) (off := 383) (by rw [hc_411]; decide) (tgt := 540) (by decide) ?_
      refine zr_sub (lv2 := [(1, .ref s.heap.size), (2, .ref (B + 0)), (4, .int v4), (5, .int r_262), (6, .int r_263), (7, .int r_264), (9, .int t_267), (10, .int r_268), (11, .int r_269), (12, .int r_270), (13, .int v13_272)]) [11, 12, 13, 10, 9, 8, 6, 5, 4, 3, 2] rfl ?_
      exact zl_law_540 C hB g_277 h (fun _ _ _ _ _ _ h g => h g)
    replace h := zif_neg hc_411 h
    by_cases hc_433 : x_279 = 4
    · replace h := zif_pos hc_433 h
      refine zr_tableIn C dyL_law_157 (by rw [hc_433]; decide) (by rw [hc_433]; decide) (off := 509) (by rw [hc_433]; decide) (tgt := 666) (by decide) ?_
      refine zr_sub (lv2 := [(1, .ref s.heap.size), (2, .ref (B + 0)), (4, .int v4), (5, .int r_262), (6, .int r_263), (7, .int r_264), (9, .int t_267), (10, .int r_268), (11, .int r_269), (12, .int r_270), (13, .int v13_272)]) [11, 12, 13, 10, 9, 8, 6, 5, 4, 3, 2] rfl ?_
      exact zl_law_666 C hB g_277 h (fun _ _ _ _ _ _ h g => h g)
    replace h := zif_neg hc_433 h
    by_cases hc_449 : x_279 = 5
    · replace h := zif_pos hc_449 h
      refine zr_tableIn C dyL_law_157 (by rw [hc_449]; decide) (by rw [hc_449]; decide) (off := 590) (by rw [hc_449]; decide) (tgt := 747) (by decide) ?_
      refine zr_sub (lv2 := [(1, .ref s.heap.size), (2, .ref (B + 0)), (4, .int v4), (5, .int r_262), (6, .int r_263), (7, .int r_264), (9, .int t_267), (10, .int r_268), (11, .int r_269), (12, .int r_270), (14, .ref (B + k_273))]) [11, 12, 13, 10, 9, 8, 6, 5, 4, 3, 1] rfl ?_
      exact zl_law_747 C hB g_277 h (fun _ _ _ _ _ _ h g => h g)
    replace h := zif_neg hc_449 h
    refine zr_tableOut C dyL_law_157 (ztab_out (fun i h1 h2 => ?_)) (tgt := 1090) (by decide) ?_
    · rcases (by omega : i = 0 ∨ i = 1 ∨ i = 2 ∨ i = 3 ∨ i = 4 ∨ i = 5) with rfl | rfl | rfl | rfl | rfl | rfl
      · exact hc_339
      · exact hc_380
      · exact hc_391
      · exact hc_411
      · exact hc_433
      · exact hc_449
    refine zr_sub (lv2 := [(1, .ref s.heap.size), (2, .ref (B + 0)), (4, .int v4), (5, .int r_262), (6, .int r_263), (7, .int r_264), (10, .int r_268), (11, .int r_269), (14, .ref (B + k_273))]) [11, 12, 13, 10, 9, 8, 5, 4, 1] rfl ?_
    exact zl_law_1090 C hB g_277 h (fun _ _ _ _ _ _ h g => h g)
  refine zr_icmp_ne C dyL_law_92 (tgt := 99) (by decide) (fun hc_613 => ?_) (fun hc_613 => ?_)
  · replace h := zif_neg hc_613 h
    refine zr_iconst C dyL_law_99 zc_i_0 ?_
    exact h
  · replace h := zif_pos hc_613 h
    refine zr_iconst C dyL_law_95 zc_i_1 ?_
    refine zr_goto C dyL_law_96 (tgt := 100) (by decide) ?_
    exact h
def w_law_39 (c0 u0 : Nat) (S : List zC) (I : zI) : Prop :=
  ∀ (P44 : Int32 → Int32 → (List zC) → Nat → Nat → zI → Prop), (∀ (v3_1 : Int32) (v4_2 : Int32) (S_3 : List zC) (c_4 : Nat) (u_5 : Nat) (I_7 : zI), (∀ (P1615 : Prop), ((w_law_1615 v3_1 c_4 u_5 S_3 I_7) → P1615) → (if 30 ≤ v4_2 then P1615 else (if v3_1 = 0 then P1615 else w_law_55 v4_2 P44 c_4 u_5 S_3 I_7))) → P44 v3_1 v4_2 S_3 c_4 u_5 I_7) → P44 1 0 S c0 u0 I
set_option maxHeartbeats 8000000 in
set_option maxRecDepth 20000 in
theorem zl_law_39 {p : Program} {l : Launch} {e : Env} {s : State} {m : MethodId} {below : List Frame} {meth : Method} {c : Code} {D : va_G} {B : Nat} {cA : Nat → ClassId} {ad : Nat → Nat} {b : Nat} {S0 S : List zC} {I : zI} {c0 u0 : Nat} (C : zCx p s m #[Value.ref b] meth c cL_law 25 RL ret D B cA ad) (hB : B = s.heap.size + 1)  (hg : zGo S0 600000 7302250 S c0 u0) (h : w_law_39 c0 u0 S I)  : zX p l e room_1 s m #[Value.ref b] below meth c (lw_Z below #[Value.ref b] s) D B cA 25 c0 u0 S I [(2, .ref (B + 0)), (1, .ref s.heap.size), (0, .ref b)] [] 39 := by
  unfold w_law_39 at h
  refine zr_iconst C dyL_law_39 zc_i_1 ?_
  refine zr_istore_n C dyL_law_40 rfl (Nat.le_of_ble_eq_true rfl) (lv2 := [(3, .int 1), (2, .ref (B + 0)), (1, .ref s.heap.size), (0, .ref b)]) rfl ?_
  refine zr_iconst C dyL_law_41 zc_i_0 ?_
  refine zr_istore C dyL_law_42 (Nat.le_of_ble_eq_true rfl) (lv2 := [(4, .int 0), (3, .int 1), (2, .ref (B + 0)), (1, .ref s.heap.size), (0, .ref b)]) rfl ?_
  refine zjn (h (fun (v3_1 : Int32) (v4_2 : Int32) (S_3 : List zC) (c_4 : Nat) (u_5 : Nat) (I_7 : zI) => zGo S0 600000 7302250 S_3 c_4 u_5 → zX p l e room_1 s m #[Value.ref b] below meth c (lw_Z below #[Value.ref b] s) D B cA 25 c_4 u_5 S_3 I_7 [(4, .int v4_2), (3, .int v3_1), (2, .ref (B + 0)), (1, .ref s.heap.size)] [] 44) (fun v3_1 v4_2 S_3 c_4 u_5 I_7 h g_6 => ?_)) (fun h => ?_)
  · refine zr_iload C dyL_law_44 0 rfl ?_
    refine zr_bipush C dyL_law_46 zc_b_30 ?_
    refine zjn (h (zX p l e room_1 s m #[Value.ref b] below meth c (lw_Z below #[Value.ref b] s) D B cA 25 c_4 u_5 S_3 I_7 [(3, .int v3_1), (2, .ref (B + 0))] [] 1615) (fun  h => ?_)) (fun h => ?_)
    · refine zr_sub (lv2 := [(2, .ref (B + 0)), (3, .int v3_1)]) [1, 0] rfl ?_
      exact zl_law_1615 C hB g_6 h
    refine zr_icmp_ge C dyL_law_48 (tgt := 1615) (by decide) (fun hc_615 => ?_) (fun hc_615 => ?_)
    · replace h := zif_pos hc_615 h
      refine zr_sub (lv2 := [(3, .int v3_1), (2, .ref (B + 0))]) [1, 2] rfl ?_
      exact h
    · replace h := zif_neg hc_615 h
      refine zr_iload_n C dyL_law_51 rfl 1 rfl ?_
      refine zr_if_eq C dyL_law_52 (tgt := 1615) (by decide) (fun hc_614 => ?_) (fun hc_614 => ?_)
      · replace h := zif_pos hc_614 h
        refine zr_sub (lv2 := [(3, .int v3_1), (2, .ref (B + 0))]) [1, 2] rfl ?_
        exact h
      · replace h := zif_neg hc_614 h
        refine zr_sub (lv2 := [(1, .ref s.heap.size), (2, .ref (B + 0)), (4, .int v4_2)]) [3, 2, 0] rfl ?_
        exact zl_law_55 C hB g_6 h (fun _ _ _ _ _ _ h g => h g)
  refine zr_sub (lv2 := [(4, .int 0), (3, .int 1), (2, .ref (B + 0)), (1, .ref s.heap.size)]) [0, 1, 2, 3] rfl ?_
  exact h hg
