def w_Tokens_sameBytes (k : Nat) (a1 : Int32) (a2 : Int32) (I : zI) (K : Int32 → Prop) : Prop :=
  w_Row_get (k + 1) 100 a1 I (fun r_1 => w_Row_get (k + 1) 100 a2 I (fun r_2 => (if r_1 = r_2 then (w_Row_get (k + 5) 100 a1 I (fun r_3 => w_Row_get (k + 5) 100 a2 I (fun r_4 => (if r_3 = r_4 then (w_Row_get (k + 7) 100 a1 I (fun r_5 => w_Row_get (k + 7) 100 a2 I (fun r_6 => (if r_5 = r_6 then (w_Row_get (k + 9) 100 a1 I (fun r_7 => w_Row_get (k + 9) 100 a2 I (fun r_8 => (if r_7 = r_8 then K 1 else K 0)))) else K 0)))) else K 0)))) else K 0)))
theorem dyX8_sameBytes_0 : decode cX8_sameBytes 0 = .ok (.aload_n 0, 1) := by decide +kernel
theorem dyX8_sameBytes_1 : decode cX8_sameBytes 1 = .ok (.getfield 14, 3) := by decide +kernel
theorem dyX8_sameBytes_4 : decode cX8_sameBytes 4 = .ok (.iload_n 1, 1) := by decide +kernel
theorem dyX8_sameBytes_5 : decode cX8_sameBytes 5 = .ok (.invokevirtual 36, 3) := by decide +kernel
theorem dyX8_sameBytes_8 : decode cX8_sameBytes 8 = .ok (.aload_n 0, 1) := by decide +kernel
theorem dyX8_sameBytes_9 : decode cX8_sameBytes 9 = .ok (.getfield 14, 3) := by decide +kernel
theorem dyX8_sameBytes_12 : decode cX8_sameBytes 12 = .ok (.iload_n 2, 1) := by decide +kernel
theorem dyX8_sameBytes_13 : decode cX8_sameBytes 13 = .ok (.invokevirtual 36, 3) := by decide +kernel
theorem dyX8_sameBytes_16 : decode cX8_sameBytes 16 = .ok (.if_icmp .ne 64, 3) := by decide +kernel
theorem dyX8_sameBytes_19 : decode cX8_sameBytes 19 = .ok (.aload_n 0, 1) := by decide +kernel
theorem dyX8_sameBytes_20 : decode cX8_sameBytes 20 = .ok (.getfield 23, 3) := by decide +kernel
theorem dyX8_sameBytes_23 : decode cX8_sameBytes 23 = .ok (.iload_n 1, 1) := by decide +kernel
theorem dyX8_sameBytes_24 : decode cX8_sameBytes 24 = .ok (.invokevirtual 36, 3) := by decide +kernel
theorem dyX8_sameBytes_27 : decode cX8_sameBytes 27 = .ok (.aload_n 0, 1) := by decide +kernel
theorem dyX8_sameBytes_28 : decode cX8_sameBytes 28 = .ok (.getfield 23, 3) := by decide +kernel
theorem dyX8_sameBytes_31 : decode cX8_sameBytes 31 = .ok (.iload_n 2, 1) := by decide +kernel
theorem dyX8_sameBytes_32 : decode cX8_sameBytes 32 = .ok (.invokevirtual 36, 3) := by decide +kernel
theorem dyX8_sameBytes_35 : decode cX8_sameBytes 35 = .ok (.if_icmp .ne 45, 3) := by decide +kernel
theorem dyX8_sameBytes_38 : decode cX8_sameBytes 38 = .ok (.aload_n 0, 1) := by decide +kernel
theorem dyX8_sameBytes_39 : decode cX8_sameBytes 39 = .ok (.getfield 26, 3) := by decide +kernel
theorem dyX8_sameBytes_42 : decode cX8_sameBytes 42 = .ok (.iload_n 1, 1) := by decide +kernel
theorem dyX8_sameBytes_43 : decode cX8_sameBytes 43 = .ok (.invokevirtual 36, 3) := by decide +kernel
theorem dyX8_sameBytes_46 : decode cX8_sameBytes 46 = .ok (.aload_n 0, 1) := by decide +kernel
theorem dyX8_sameBytes_47 : decode cX8_sameBytes 47 = .ok (.getfield 26, 3) := by decide +kernel
theorem dyX8_sameBytes_50 : decode cX8_sameBytes 50 = .ok (.iload_n 2, 1) := by decide +kernel
theorem dyX8_sameBytes_51 : decode cX8_sameBytes 51 = .ok (.invokevirtual 36, 3) := by decide +kernel
theorem dyX8_sameBytes_54 : decode cX8_sameBytes 54 = .ok (.if_icmp .ne 26, 3) := by decide +kernel
theorem dyX8_sameBytes_57 : decode cX8_sameBytes 57 = .ok (.aload_n 0, 1) := by decide +kernel
theorem dyX8_sameBytes_58 : decode cX8_sameBytes 58 = .ok (.getfield 29, 3) := by decide +kernel
theorem dyX8_sameBytes_61 : decode cX8_sameBytes 61 = .ok (.iload_n 1, 1) := by decide +kernel
theorem dyX8_sameBytes_62 : decode cX8_sameBytes 62 = .ok (.invokevirtual 36, 3) := by decide +kernel
theorem dyX8_sameBytes_65 : decode cX8_sameBytes 65 = .ok (.aload_n 0, 1) := by decide +kernel
theorem dyX8_sameBytes_66 : decode cX8_sameBytes 66 = .ok (.getfield 29, 3) := by decide +kernel
theorem dyX8_sameBytes_69 : decode cX8_sameBytes 69 = .ok (.iload_n 2, 1) := by decide +kernel
theorem dyX8_sameBytes_70 : decode cX8_sameBytes 70 = .ok (.invokevirtual 36, 3) := by decide +kernel
theorem dyX8_sameBytes_73 : decode cX8_sameBytes 73 = .ok (.if_icmp .ne 7, 3) := by decide +kernel
theorem dyX8_sameBytes_76 : decode cX8_sameBytes 76 = .ok (.iconst 1, 1) := by decide +kernel
theorem dyX8_sameBytes_77 : decode cX8_sameBytes 77 = .ok (.goto 4, 3) := by decide +kernel
theorem dyX8_sameBytes_80 : decode cX8_sameBytes 80 = .ok (.iconst 0, 1) := by decide +kernel
theorem dyX8_sameBytes_81 : decode cX8_sameBytes 81 = .ok (.ireturn, 1) := by decide +kernel
theorem zsg_yX8_sameBytes : yX8_sameBytes.cls = RX8 ∧ yX8_sameBytes.cls ≠ "java/lang/invoke/MethodHandle" ∧ yX8_sameBytes.cls ≠ "java/lang/invoke/VarHandle" ∧ (parseMethodDescriptor yX8_sameBytes.desc).map (fun d => d.parameters.length) = some 2 := by decide +kernel
set_option maxRecDepth 20000 in
theorem c_Tokens_sameBytes {l : Launch} {D : va_G} {B : Nat} {cA : Nat → ClassId} {ad : Nat → Nat} {S : List zC} (hS : zOkX S) {k : Nat} {a1 : Int32} {a2 : Int32} {I : zI} {K : Int32 → Prop} (hk : zIsTokens S k) (h : w_Tokens_sameBytes k a1 a2 I K) : Met l yX8_sameBytes (zws yX8_sameBytes cX8_sameBytes 3 (some .boolean)) (zrm 1 21) (zPc D B cA ad [.ref (B + k), .int a1, .int a2] S I) (zQc D B cA (zpI S I K)) 0 0 (fun q => B ≤ q) := by
  refine zm_of (cc := cX8_sameBytes) (maxL := 3) (ret := (some .boolean)) (by decide +kernel) rfl (Nat.le_of_ble_eq_true rfl) trivial ?_
  intro p e s m args below meth c C _
  unfold w_Tokens_sameBytes at h
  show zX p l e (zrm 1 21) s m args below meth c (MQ below (zQc D B cA (zpI S I K)) args s 0 0 (fun q => B ≤ q)) D B cA 3 0 0 S I [(0, .ref (B + k)), (1, .int a1), (2, .int a2)] [] 0
  refine zr_aload_n C dyX8_sameBytes_0 rfl 0 rfl ?_
  refine zg_8_14 C hk dyX8_sameBytes_1 ?_
  refine zr_iload_n C dyX8_sameBytes_4 rfl 1 rfl ?_
  refine zv_8_36 C hS hk.2.1 (st := []) h ⟨Nat.le_of_ble_eq_true rfl, Nat.le_of_ble_eq_true rfl⟩ (Nat.le_of_ble_eq_true rfl) dyX8_sameBytes_5 (fun r_1 h => ?_)
  refine zr_aload_n C dyX8_sameBytes_8 rfl 0 rfl ?_
  refine zg_8_14 C hk dyX8_sameBytes_9 ?_
  refine zr_iload_n C dyX8_sameBytes_12 rfl 2 rfl ?_
  refine zv_8_36 C hS hk.2.1 (st := [.int r_1]) h ⟨Nat.le_of_ble_eq_true rfl, Nat.le_of_ble_eq_true rfl⟩ (Nat.le_of_ble_eq_true rfl) dyX8_sameBytes_13 (fun r_2 h => ?_)
  refine zr_icmp_ne C dyX8_sameBytes_16 (tgt := 80) (by decide) (fun hc_12 => ?_) (fun hc_12 => ?_)
  · replace h := zif_neg hc_12 h
    refine zr_iconst C dyX8_sameBytes_80 zc_i_0 ?_
    exact zr_zret C rfl (zb.nar zb_0) dyX8_sameBytes_81 ⟨rfl, rfl, _, rfl, h⟩
  · replace h := zif_pos hc_12 h
    refine zr_aload_n C dyX8_sameBytes_19 rfl 0 rfl ?_
    refine zg_8_23 C hk dyX8_sameBytes_20 ?_
    refine zr_iload_n C dyX8_sameBytes_23 rfl 1 rfl ?_
    refine zv_8_36 C hS hk.2.2.2.1 (st := []) h ⟨Nat.le_of_ble_eq_true rfl, Nat.le_of_ble_eq_true rfl⟩ (Nat.le_of_ble_eq_true rfl) dyX8_sameBytes_24 (fun r_3 h => ?_)
    refine zr_aload_n C dyX8_sameBytes_27 rfl 0 rfl ?_
    refine zg_8_23 C hk dyX8_sameBytes_28 ?_
    refine zr_iload_n C dyX8_sameBytes_31 rfl 2 rfl ?_
    refine zv_8_36 C hS hk.2.2.2.1 (st := [.int r_3]) h ⟨Nat.le_of_ble_eq_true rfl, Nat.le_of_ble_eq_true rfl⟩ (Nat.le_of_ble_eq_true rfl) dyX8_sameBytes_32 (fun r_4 h => ?_)
    refine zr_icmp_ne C dyX8_sameBytes_35 (tgt := 80) (by decide) (fun hc_11 => ?_) (fun hc_11 => ?_)
    · replace h := zif_neg hc_11 h
      refine zr_iconst C dyX8_sameBytes_80 zc_i_0 ?_
      exact zr_zret C rfl (zb.nar zb_0) dyX8_sameBytes_81 ⟨rfl, rfl, _, rfl, h⟩
    · replace h := zif_pos hc_11 h
      refine zr_aload_n C dyX8_sameBytes_38 rfl 0 rfl ?_
      refine zg_8_26 C hk dyX8_sameBytes_39 ?_
      refine zr_iload_n C dyX8_sameBytes_42 rfl 1 rfl ?_
      refine zv_8_36 C hS hk.2.2.2.2.1 (st := []) h ⟨Nat.le_of_ble_eq_true rfl, Nat.le_of_ble_eq_true rfl⟩ (Nat.le_of_ble_eq_true rfl) dyX8_sameBytes_43 (fun r_5 h => ?_)
      refine zr_aload_n C dyX8_sameBytes_46 rfl 0 rfl ?_
      refine zg_8_26 C hk dyX8_sameBytes_47 ?_
      refine zr_iload_n C dyX8_sameBytes_50 rfl 2 rfl ?_
      refine zv_8_36 C hS hk.2.2.2.2.1 (st := [.int r_5]) h ⟨Nat.le_of_ble_eq_true rfl, Nat.le_of_ble_eq_true rfl⟩ (Nat.le_of_ble_eq_true rfl) dyX8_sameBytes_51 (fun r_6 h => ?_)
      refine zr_icmp_ne C dyX8_sameBytes_54 (tgt := 80) (by decide) (fun hc_10 => ?_) (fun hc_10 => ?_)
      · replace h := zif_neg hc_10 h
        refine zr_iconst C dyX8_sameBytes_80 zc_i_0 ?_
        exact zr_zret C rfl (zb.nar zb_0) dyX8_sameBytes_81 ⟨rfl, rfl, _, rfl, h⟩
      · replace h := zif_pos hc_10 h
        refine zr_aload_n C dyX8_sameBytes_57 rfl 0 rfl ?_
        refine zg_8_29 C hk dyX8_sameBytes_58 ?_
        refine zr_iload_n C dyX8_sameBytes_61 rfl 1 rfl ?_
        refine zv_8_36 C hS hk.2.2.2.2.2 (st := []) h ⟨Nat.le_of_ble_eq_true rfl, Nat.le_of_ble_eq_true rfl⟩ (Nat.le_of_ble_eq_true rfl) dyX8_sameBytes_62 (fun r_7 h => ?_)
        refine zr_aload_n C dyX8_sameBytes_65 rfl 0 rfl ?_
        refine zg_8_29 C hk dyX8_sameBytes_66 ?_
        refine zr_iload_n C dyX8_sameBytes_69 rfl 2 rfl ?_
        refine zv_8_36 C hS hk.2.2.2.2.2 (st := [.int r_7]) h ⟨Nat.le_of_ble_eq_true rfl, Nat.le_of_ble_eq_true rfl⟩ (Nat.le_of_ble_eq_true rfl) dyX8_sameBytes_70 (fun r_8 h => ?_)
        refine zr_icmp_ne C dyX8_sameBytes_73 (tgt := 80) (by decide) (fun hc_9 => ?_) (fun hc_9 => ?_)
        · replace h := zif_neg hc_9 h
          refine zr_iconst C dyX8_sameBytes_80 zc_i_0 ?_
          exact zr_zret C rfl (zb.nar zb_0) dyX8_sameBytes_81 ⟨rfl, rfl, _, rfl, h⟩
        · replace h := zif_pos hc_9 h
          refine zr_iconst C dyX8_sameBytes_76 zc_i_1 ?_
          refine zr_goto C dyX8_sameBytes_77 (tgt := 81) (by decide) ?_
          exact zr_zret C rfl (zb.nar zb_1) dyX8_sameBytes_81 ⟨rfl, rfl, _, rfl, h⟩
def w_Tokens_covering (k : Nat) (a1 : Int32) (I : zI) (K : Int32 → Prop) : Prop :=
  ∀ (P2 : Int32 → Prop), (∀ (v2_1 : Int32), ((if (I.1 k 5) ≤ v2_1 then (K (-2)) else (w_Row_get (k + 3) 100 v2_1 I (fun r_2 => ∀ (P45 : Prop), ((∀ v2_3, v2_3 = (v2_1 + 1) → P2 v2_3) → P45) → (if a1 < r_2 then P45 else (w_Row_get (k + 3) 100 v2_1 I (fun r_4 => w_Row_get (k + 5) 100 v2_1 I (fun r_5 => (if (r_4 + r_5) ≤ a1 then P45 else K v2_1))))))))) → P2 v2_1) → P2 0
theorem dyX8_covering_0 : decode cX8_covering 0 = .ok (.iconst 0, 1) := by decide +kernel
theorem dyX8_covering_1 : decode cX8_covering 1 = .ok (.istore_n 2, 1) := by decide +kernel
theorem dyX8_covering_2 : decode cX8_covering 2 = .ok (.iload_n 2, 1) := by decide +kernel
theorem dyX8_covering_3 : decode cX8_covering 3 = .ok (.aload_n 0, 1) := by decide +kernel
theorem dyX8_covering_4 : decode cX8_covering 4 = .ok (.getfield 32, 3) := by decide +kernel
theorem dyX8_covering_7 : decode cX8_covering 7 = .ok (.if_icmp .ge 44, 3) := by decide +kernel
theorem dyX8_covering_10 : decode cX8_covering 10 = .ok (.iload_n 1, 1) := by decide +kernel
theorem dyX8_covering_11 : decode cX8_covering 11 = .ok (.aload_n 0, 1) := by decide +kernel
theorem dyX8_covering_12 : decode cX8_covering 12 = .ok (.getfield 20, 3) := by decide +kernel
theorem dyX8_covering_15 : decode cX8_covering 15 = .ok (.iload_n 2, 1) := by decide +kernel
theorem dyX8_covering_16 : decode cX8_covering 16 = .ok (.invokevirtual 36, 3) := by decide +kernel
theorem dyX8_covering_19 : decode cX8_covering 19 = .ok (.if_icmp .lt 26, 3) := by decide +kernel
theorem dyX8_covering_22 : decode cX8_covering 22 = .ok (.iload_n 1, 1) := by decide +kernel
theorem dyX8_covering_23 : decode cX8_covering 23 = .ok (.aload_n 0, 1) := by decide +kernel
theorem dyX8_covering_24 : decode cX8_covering 24 = .ok (.getfield 20, 3) := by decide +kernel
theorem dyX8_covering_27 : decode cX8_covering 27 = .ok (.iload_n 2, 1) := by decide +kernel
theorem dyX8_covering_28 : decode cX8_covering 28 = .ok (.invokevirtual 36, 3) := by decide +kernel
theorem dyX8_covering_31 : decode cX8_covering 31 = .ok (.aload_n 0, 1) := by decide +kernel
theorem dyX8_covering_32 : decode cX8_covering 32 = .ok (.getfield 23, 3) := by decide +kernel
theorem dyX8_covering_35 : decode cX8_covering 35 = .ok (.iload_n 2, 1) := by decide +kernel
theorem dyX8_covering_36 : decode cX8_covering 36 = .ok (.invokevirtual 36, 3) := by decide +kernel
theorem dyX8_covering_39 : decode cX8_covering 39 = .ok (.iadd, 1) := by decide +kernel
theorem dyX8_covering_40 : decode cX8_covering 40 = .ok (.if_icmp .ge 5, 3) := by decide +kernel
theorem dyX8_covering_43 : decode cX8_covering 43 = .ok (.iload_n 2, 1) := by decide +kernel
theorem dyX8_covering_44 : decode cX8_covering 44 = .ok (.ireturn, 1) := by decide +kernel
theorem dyX8_covering_45 : decode cX8_covering 45 = .ok (.iinc 2 1, 3) := by decide +kernel
theorem dyX8_covering_48 : decode cX8_covering 48 = .ok (.goto (-46), 3) := by decide +kernel
theorem dyX8_covering_51 : decode cX8_covering 51 = .ok (.bipush (-2), 2) := by decide +kernel
theorem dyX8_covering_53 : decode cX8_covering 53 = .ok (.ireturn, 1) := by decide +kernel
theorem zsg_yX8_covering : yX8_covering.cls = RX8 ∧ yX8_covering.cls ≠ "java/lang/invoke/MethodHandle" ∧ yX8_covering.cls ≠ "java/lang/invoke/VarHandle" ∧ (parseMethodDescriptor yX8_covering.desc).map (fun d => d.parameters.length) = some 1 := by decide +kernel
set_option maxRecDepth 20000 in
theorem c_Tokens_covering {l : Launch} {D : va_G} {B : Nat} {cA : Nat → ClassId} {ad : Nat → Nat} {S : List zC} (hS : zOkX S) {k : Nat} {a1 : Int32} {I : zI} {K : Int32 → Prop} (hk : zIsTokens S k) (h : w_Tokens_covering k a1 I K) : Met l yX8_covering (zws yX8_covering cX8_covering 3 (some .int)) (zrm 1 21) (zPc D B cA ad [.ref (B + k), .int a1] S I) (zQc D B cA (zpI S I K)) 0 0 (fun q => B ≤ q) := by
  refine zm_of (cc := cX8_covering) (maxL := 3) (ret := (some .int)) (by decide +kernel) rfl (Nat.le_of_ble_eq_true rfl) trivial ?_
  intro p e s m args below meth c C _
  unfold w_Tokens_covering at h
  show zX p l e (zrm 1 21) s m args below meth c (MQ below (zQc D B cA (zpI S I K)) args s 0 0 (fun q => B ≤ q)) D B cA 3 0 0 S I [(0, .ref (B + k)), (1, .int a1)] [] 0
  refine zr_iconst C dyX8_covering_0 zc_i_0 ?_
  refine zr_istore_n C dyX8_covering_1 rfl (Nat.le_of_ble_eq_true rfl) (lv2 := [(2, .int 0), (0, .ref (B + k)), (1, .int a1)]) rfl ?_
  refine zjn (h (fun (v2_1 : Int32) => zX p l e (zrm 1 21) s m args below meth c (MQ below (zQc D B cA (zpI S I K)) args s 0 0 (fun q => B ≤ q)) D B cA 3 0 0 S I [(2, .int v2_1), (0, .ref (B + k)), (1, .int a1)] [] 2) (fun v2_1 h => ?_)) (fun h => ?_)
  · refine zr_iload_n C dyX8_covering_2 rfl 0 rfl ?_
    refine zr_aload_n C dyX8_covering_3 rfl 1 rfl ?_
    refine zg_8_32 C hk dyX8_covering_4 ?_
    refine zr_icmp_ge C dyX8_covering_7 (tgt := 51) (by decide) (fun hc_8 => ?_) (fun hc_8 => ?_)
    · replace h := zif_pos hc_8 h
      refine zr_bipush C dyX8_covering_51 zc_b_m2 ?_
      exact zr_iret C rfl dyX8_covering_53 ⟨rfl, rfl, _, rfl, h⟩
    · replace h := zif_neg hc_8 h
      refine zr_iload_n C dyX8_covering_10 rfl 2 rfl ?_
      refine zr_aload_n C dyX8_covering_11 rfl 1 rfl ?_
      refine zg_8_20 C hk dyX8_covering_12 ?_
      refine zr_iload_n C dyX8_covering_15 rfl 0 rfl ?_
      refine zv_8_36 C hS hk.2.2.1 (st := [.int a1]) h ⟨Nat.le_of_ble_eq_true rfl, Nat.le_of_ble_eq_true rfl⟩ (Nat.le_of_ble_eq_true rfl) dyX8_covering_16 (fun r_2 h => ?_)
      refine zjn (h (zX p l e (zrm 1 21) s m args below meth c (MQ below (zQc D B cA (zpI S I K)) args s 0 0 (fun q => B ≤ q)) D B cA 3 0 0 S I [(2, .int v2_1), (0, .ref (B + k)), (1, .int a1)] [] 45) (fun  h => ?_)) (fun h => ?_)
      · refine zn_iinc C (fun v2_3 => [(2, .int v2_3), (0, .ref (B + k)), (1, .int a1)]) dyX8_covering_45 0 rfl zc_i_1 (Nat.le_of_ble_eq_true rfl) (fun _ => rfl) (fun v2_3 ev2_3 => ?_)
        replace h := h v2_3 ev2_3
        refine zr_goto C dyX8_covering_48 (tgt := 2) (by decide) ?_
        exact h
      refine zr_icmp_lt C dyX8_covering_19 (tgt := 45) (by decide) (fun hc_7 => ?_) (fun hc_7 => ?_)
      · replace h := zif_pos hc_7 h
        exact h
      · replace h := zif_neg hc_7 h
        refine zr_iload_n C dyX8_covering_22 rfl 2 rfl ?_
        refine zr_aload_n C dyX8_covering_23 rfl 1 rfl ?_
        refine zg_8_20 C hk dyX8_covering_24 ?_
        refine zr_iload_n C dyX8_covering_27 rfl 0 rfl ?_
        refine zv_8_36 C hS hk.2.2.1 (st := [.int a1]) h ⟨Nat.le_of_ble_eq_true rfl, Nat.le_of_ble_eq_true rfl⟩ (Nat.le_of_ble_eq_true rfl) dyX8_covering_28 (fun r_4 h => ?_)
        refine zr_aload_n C dyX8_covering_31 rfl 1 rfl ?_
        refine zg_8_23 C hk dyX8_covering_32 ?_
        refine zr_iload_n C dyX8_covering_35 rfl 0 rfl ?_
        refine zv_8_36 C hS hk.2.2.2.1 (st := [.int r_4, .int a1]) h ⟨Nat.le_of_ble_eq_true rfl, Nat.le_of_ble_eq_true rfl⟩ (Nat.le_of_ble_eq_true rfl) dyX8_covering_36 (fun r_5 h => ?_)
        refine zr_iadd C dyX8_covering_39 ?_
        refine zr_icmp_ge C dyX8_covering_40 (tgt := 45) (by decide) (fun hc_6 => ?_) (fun hc_6 => ?_)
        · replace h := zif_pos hc_6 h
          exact h
        · replace h := zif_neg hc_6 h
          refine zr_iload_n C dyX8_covering_43 rfl 0 rfl ?_
          exact zr_iret C rfl dyX8_covering_44 ⟨rfl, rfl, _, rfl, h⟩
  exact h
theorem zv_9_70 {p : Program} {l : Launch} {e : Env} {R : Room} {s : State} {m : MethodId} {args : Array Value} {below : List Frame} {meth : Method} {c : Code} {Q : State → Prop} {D : va_G} {B : Nat} {cA : Nat → ClassId} {ad : Nat → Nat} {cc : ByteArray} {nL : Nat} {ret : Option FieldType} {S : List zC} {I : zI} {lv : List (Nat × Value)} {st : List Value} {pc : Nat} (C : zCx p s m args meth c cc nL RX9 ret D B cA ad) {K : zI → Prop} {xk : Nat} {xn : Nat} {xa1 : Int32} {xa2 : Int32} (hS : zOkX S) (xhk : zIsRow S xk xn) (h : w_Row_set xk xn xa1 xa2 I K) (hR : 0 + 1 ≤ R.frames ∧ 8 + (3 + 11) + (0) ≤ R.locals) (hw : (st.map fun v => v.category).sum ≤ 8) (hd : decode cc pc = .ok (.invokevirtual 70, 3)) (kk : ∀ I2, K I2 → zX p l e R s m args below meth c Q D B cA nL 0 0 S I2 lv st (pc + 3)) : zX p l e R s m args below meth c Q D B cA nL 0 0 S I lv (.int xa2 :: .int xa1 :: .ref (B + xk) :: st) pc :=
  have hf : 0 ≤ R.cells ∧ 0 ≤ R.slots := ⟨Nat.zero_le _, Nat.zero_le _⟩
  zc_VqV C (ci := 6) (q := (RX6, TX6, 1)) (k := xk) (fs := [some (some (xk + 1))]) (As := [.int xa1, .int xa2]) (st := st) rfl xhk.1 (c_Row_set hS xhk h) (zgV zk_ml_9_70 zk_im_yX6_set zk_se_yX6_set zk_in_6 zk_cd_yX6_set) zsg_yX6_set hR rfl rfl hw hd hf kk
theorem zg_9_95 {p : Program} {l : Launch} {e : Env} {R : Room} {s : State} {m : MethodId} {args : Array Value} {below : List Frame} {meth : Method} {c : Code} {Q : State → Prop} {D : va_G} {B : Nat} {cA : Nat → ClassId} {ad : Nat → Nat} {cc : ByteArray} {nL : Nat} {ret : Option FieldType} {S : List zC} {I : zI} {lv : List (Nat × Value)} {st : List Value} {pc : Nat} (C : zCx p s m args meth c cc nL RX9 ret D B cA ad) (hS : zOkX S) (hd : decode cc pc = .ok (.getfield 95, 3)) (kk : zX p l e R s m args below meth c Q D B cA nL 0 0 S I lv (.ref (B + 31) :: st) (pc + 3)) : zX p l e R s m args below meth c Q D B cA nL 0 0 S I lv (.ref (B + 24) :: st) pc :=
  zr_getr C (ci := 3) (Cn := RX3) (T := TX3) (N := 10) (k := 24) (j := 3) (fs := [some (some 25), some (some 27), some (some 29), some (some 31), some (some 33), some (some 35), some (some 37), some (some 39), some (some 41), none]) rfl zin_3 (Nat.le_of_ble_eq_true rfl) rfl (hS _ _ zs_24) rfl zk_fl_9_95 hd kk
theorem zg_9_29 {p : Program} {l : Launch} {e : Env} {R : Room} {s : State} {m : MethodId} {args : Array Value} {below : List Frame} {meth : Method} {c : Code} {Q : State → Prop} {D : va_G} {B : Nat} {cA : Nat → ClassId} {ad : Nat → Nat} {cc : ByteArray} {nL : Nat} {ret : Option FieldType} {S : List zC} {I : zI} {lv : List (Nat × Value)} {st : List Value} {pc : Nat} (C : zCx p s m args meth c cc nL RX9 ret D B cA ad) (hS : zOkX S) (hd : decode cc pc = .ok (.getfield 29, 3)) (kk : zX p l e R s m args below meth c Q D B cA nL 0 0 S I lv (.ref (B + 52) :: st) (pc + 3)) : zX p l e R s m args below meth c Q D B cA nL 0 0 S I lv (.ref (B + 43) :: st) pc :=
  zr_getr C (ci := 9) (Cn := RX9) (T := TX9) (N := 16) (k := 43) (j := 5) (fs := [some (some 24), some (some 44), some (some 46), some (some 48), some (some 50), some (some 52), some (some 54), some (some 56), some (some 58), some (some 60), some (some 62), none, none, none, none, none]) rfl zin_9 (Nat.le_of_ble_eq_true rfl) rfl (hS _ _ zs_43) rfl zk_fl_9_29 hd kk
theorem zg_9_32 {p : Program} {l : Launch} {e : Env} {R : Room} {s : State} {m : MethodId} {args : Array Value} {below : List Frame} {meth : Method} {c : Code} {Q : State → Prop} {D : va_G} {B : Nat} {cA : Nat → ClassId} {ad : Nat → Nat} {cc : ByteArray} {nL : Nat} {ret : Option FieldType} {S : List zC} {I : zI} {lv : List (Nat × Value)} {st : List Value} {pc : Nat} (C : zCx p s m args meth c cc nL RX9 ret D B cA ad) (hS : zOkX S) (hd : decode cc pc = .ok (.getfield 32, 3)) (kk : zX p l e R s m args below meth c Q D B cA nL 0 0 S I lv (.ref (B + 54) :: st) (pc + 3)) : zX p l e R s m args below meth c Q D B cA nL 0 0 S I lv (.ref (B + 43) :: st) pc :=
  zr_getr C (ci := 9) (Cn := RX9) (T := TX9) (N := 16) (k := 43) (j := 6) (fs := [some (some 24), some (some 44), some (some 46), some (some 48), some (some 50), some (some 52), some (some 54), some (some 56), some (some 58), some (some 60), some (some 62), none, none, none, none, none]) rfl zin_9 (Nat.le_of_ble_eq_true rfl) rfl (hS _ _ zs_43) rfl zk_fl_9_32 hd kk
theorem zp_9_67 {p : Program} {l : Launch} {e : Env} {R : Room} {s : State} {m : MethodId} {args : Array Value} {below : List Frame} {meth : Method} {c : Code} {Q : State → Prop} {D : va_G} {B : Nat} {cA : Nat → ClassId} {ad : Nat → Nat} {cc : ByteArray} {nL : Nat} {ret : Option FieldType} {S : List zC} {I : zI} {lv : List (Nat × Value)} {st : List Value} {pc : Nat} (C : zCx p s m args meth c cc nL RX9 ret D B cA ad) (hS : zOkX S) {v : Int32} (hd : decode cc pc = .ok (.putfield 67, 3)) (kk : zX p l e R s m args below meth c Q D B cA nL 0 0 S (zu I 43 12 v) lv st (pc + 3)) : zX p l e R s m args below meth c Q D B cA nL 0 0 S I lv (.int v :: .ref (B + 43) :: st) pc :=
  zr_puti C (ci := 9) (Cn := RX9) (T := TX9) (N := 16) (k := 43) (j := 12) (fs := [some (some 24), some (some 44), some (some 46), some (some 48), some (some 50), some (some 52), some (some 54), some (some 56), some (some 58), some (some 60), some (some 62), none, none, none, none, none]) rfl zin_9 (Nat.le_of_ble_eq_true rfl) rfl (hS _ _ zs_43) rfl tyX9 tyX9_ok nmX9 (ty := .int) zpd_I rfl rfl rfl zk_fl_9_67 hd kk
def w_TreeView_layNode (a1 : Int32) (a2 : Int32) (a3 : Int32) (I : zI) (K : zI → Prop) : Prop :=
  w_Row_set 44 400 (I.1 43 12) a1 I (fun I_1 => w_Row_set 46 3400 a1 (I_1.1 43 12) I_1 (fun I_2 => w_Row_set 48 400 (I_2.1 43 12) a2 I_2 (fun I_3 => w_Row_get 31 3400 a1 I_3 (fun r_4 => ∀ (P64 : Int32 → Prop), (∀ (t_5 : Int32), (w_Row_set 50 400 (I_3.1 43 12) t_5 I_3 (fun I_6 => ∀ (P93 : Int32 → Prop), (∀ (t_7 : Int32), (w_Row_set 52 400 (I_6.1 43 12) t_7 I_6 (fun I_8 => w_Row_set 54 400 (I_8.1 43 12) 1 I_8 (fun I_9 => ∀ I_10, I_10 = (zu I_9 43 12 ((I_9.1 43 12) + 1)) → K I_10))) → P93 t_7) → (if 0 ≤ a2 then (w_Row_get 52 400 a2 I_6 (fun r_11 => P93 (r_11 + 1))) else P93 1))) → P64 t_5) → (if r_4 ≤ 0 then (P64 (-2)) else P64 a3)))))
theorem dyX9_layNode_0 : decode cX9_layNode 0 = .ok (.aload_n 0, 1) := by decide +kernel
theorem dyX9_layNode_1 : decode cX9_layNode 1 = .ok (.getfield 14, 3) := by decide +kernel
theorem dyX9_layNode_4 : decode cX9_layNode 4 = .ok (.aload_n 0, 1) := by decide +kernel
theorem dyX9_layNode_5 : decode cX9_layNode 5 = .ok (.getfield 67, 3) := by decide +kernel
theorem dyX9_layNode_8 : decode cX9_layNode 8 = .ok (.iload_n 1, 1) := by decide +kernel
theorem dyX9_layNode_9 : decode cX9_layNode 9 = .ok (.invokevirtual 70, 3) := by decide +kernel
theorem dyX9_layNode_12 : decode cX9_layNode 12 = .ok (.aload_n 0, 1) := by decide +kernel
theorem dyX9_layNode_13 : decode cX9_layNode 13 = .ok (.getfield 20, 3) := by decide +kernel
theorem dyX9_layNode_16 : decode cX9_layNode 16 = .ok (.iload_n 1, 1) := by decide +kernel
theorem dyX9_layNode_17 : decode cX9_layNode 17 = .ok (.aload_n 0, 1) := by decide +kernel
theorem dyX9_layNode_18 : decode cX9_layNode 18 = .ok (.getfield 67, 3) := by decide +kernel
theorem dyX9_layNode_21 : decode cX9_layNode 21 = .ok (.invokevirtual 70, 3) := by decide +kernel
theorem dyX9_layNode_24 : decode cX9_layNode 24 = .ok (.aload_n 0, 1) := by decide +kernel
theorem dyX9_layNode_25 : decode cX9_layNode 25 = .ok (.getfield 23, 3) := by decide +kernel
theorem dyX9_layNode_28 : decode cX9_layNode 28 = .ok (.aload_n 0, 1) := by decide +kernel
theorem dyX9_layNode_29 : decode cX9_layNode 29 = .ok (.getfield 67, 3) := by decide +kernel
theorem dyX9_layNode_32 : decode cX9_layNode 32 = .ok (.iload_n 2, 1) := by decide +kernel
theorem dyX9_layNode_33 : decode cX9_layNode 33 = .ok (.invokevirtual 70, 3) := by decide +kernel
theorem dyX9_layNode_36 : decode cX9_layNode 36 = .ok (.aload_n 0, 1) := by decide +kernel
theorem dyX9_layNode_37 : decode cX9_layNode 37 = .ok (.getfield 26, 3) := by decide +kernel
theorem dyX9_layNode_40 : decode cX9_layNode 40 = .ok (.aload_n 0, 1) := by decide +kernel
theorem dyX9_layNode_41 : decode cX9_layNode 41 = .ok (.getfield 67, 3) := by decide +kernel
theorem dyX9_layNode_44 : decode cX9_layNode 44 = .ok (.aload_n 0, 1) := by decide +kernel
theorem dyX9_layNode_45 : decode cX9_layNode 45 = .ok (.getfield 47, 3) := by decide +kernel
theorem dyX9_layNode_48 : decode cX9_layNode 48 = .ok (.getfield 95, 3) := by decide +kernel
theorem dyX9_layNode_51 : decode cX9_layNode 51 = .ok (.iload_n 1, 1) := by decide +kernel
theorem dyX9_layNode_52 : decode cX9_layNode 52 = .ok (.invokevirtual 74, 3) := by decide +kernel
theorem dyX9_layNode_55 : decode cX9_layNode 55 = .ok (.ifCond .le 7, 3) := by decide +kernel
theorem dyX9_layNode_58 : decode cX9_layNode 58 = .ok (.iload_n 3, 1) := by decide +kernel
theorem dyX9_layNode_59 : decode cX9_layNode 59 = .ok (.goto 5, 3) := by decide +kernel
theorem dyX9_layNode_62 : decode cX9_layNode 62 = .ok (.bipush (-2), 2) := by decide +kernel
theorem dyX9_layNode_64 : decode cX9_layNode 64 = .ok (.invokevirtual 70, 3) := by decide +kernel
theorem dyX9_layNode_67 : decode cX9_layNode 67 = .ok (.aload_n 0, 1) := by decide +kernel
theorem dyX9_layNode_68 : decode cX9_layNode 68 = .ok (.getfield 29, 3) := by decide +kernel
theorem dyX9_layNode_71 : decode cX9_layNode 71 = .ok (.aload_n 0, 1) := by decide +kernel
theorem dyX9_layNode_72 : decode cX9_layNode 72 = .ok (.getfield 67, 3) := by decide +kernel
theorem dyX9_layNode_75 : decode cX9_layNode 75 = .ok (.iload_n 2, 1) := by decide +kernel
theorem dyX9_layNode_76 : decode cX9_layNode 76 = .ok (.ifCond .ge 7, 3) := by decide +kernel
theorem dyX9_layNode_79 : decode cX9_layNode 79 = .ok (.iconst 1, 1) := by decide +kernel
theorem dyX9_layNode_80 : decode cX9_layNode 80 = .ok (.goto 13, 3) := by decide +kernel
theorem dyX9_layNode_83 : decode cX9_layNode 83 = .ok (.aload_n 0, 1) := by decide +kernel
theorem dyX9_layNode_84 : decode cX9_layNode 84 = .ok (.getfield 29, 3) := by decide +kernel
theorem dyX9_layNode_87 : decode cX9_layNode 87 = .ok (.iload_n 2, 1) := by decide +kernel
theorem dyX9_layNode_88 : decode cX9_layNode 88 = .ok (.invokevirtual 74, 3) := by decide +kernel
theorem dyX9_layNode_91 : decode cX9_layNode 91 = .ok (.iconst 1, 1) := by decide +kernel
theorem dyX9_layNode_92 : decode cX9_layNode 92 = .ok (.iadd, 1) := by decide +kernel
theorem dyX9_layNode_93 : decode cX9_layNode 93 = .ok (.invokevirtual 70, 3) := by decide +kernel
theorem dyX9_layNode_96 : decode cX9_layNode 96 = .ok (.aload_n 0, 1) := by decide +kernel
theorem dyX9_layNode_97 : decode cX9_layNode 97 = .ok (.getfield 32, 3) := by decide +kernel
theorem dyX9_layNode_100 : decode cX9_layNode 100 = .ok (.aload_n 0, 1) := by decide +kernel
theorem dyX9_layNode_101 : decode cX9_layNode 101 = .ok (.getfield 67, 3) := by decide +kernel
theorem dyX9_layNode_104 : decode cX9_layNode 104 = .ok (.iconst 1, 1) := by decide +kernel
theorem dyX9_layNode_105 : decode cX9_layNode 105 = .ok (.invokevirtual 70, 3) := by decide +kernel
theorem dyX9_layNode_108 : decode cX9_layNode 108 = .ok (.aload_n 0, 1) := by decide +kernel
theorem dyX9_layNode_109 : decode cX9_layNode 109 = .ok (.dup, 1) := by decide +kernel
theorem dyX9_layNode_110 : decode cX9_layNode 110 = .ok (.getfield 67, 3) := by decide +kernel
theorem dyX9_layNode_113 : decode cX9_layNode 113 = .ok (.iconst 1, 1) := by decide +kernel
theorem dyX9_layNode_114 : decode cX9_layNode 114 = .ok (.iadd, 1) := by decide +kernel
theorem dyX9_layNode_115 : decode cX9_layNode 115 = .ok (.putfield 67, 3) := by decide +kernel
theorem dyX9_layNode_118 : decode cX9_layNode 118 = .ok (.return_, 1) := by decide +kernel
theorem zsg_yX9_layNode : yX9_layNode.cls = RX9 ∧ yX9_layNode.cls ≠ "java/lang/invoke/MethodHandle" ∧ yX9_layNode.cls ≠ "java/lang/invoke/VarHandle" ∧ (parseMethodDescriptor yX9_layNode.desc).map (fun d => d.parameters.length) = some 3 := by decide +kernel
set_option maxRecDepth 20000 in
theorem c_TreeView_layNode {l : Launch} {D : va_G} {B : Nat} {cA : Nat → ClassId} {ad : Nat → Nat} {S : List zC} (hS : zOkX S) {a1 : Int32} {a2 : Int32} {a3 : Int32} {I : zI} {K : zI → Prop}  (h : w_TreeView_layNode a1 a2 a3 I K) : Met l yX9_layNode (zws yX9_layNode cX9_layNode 4 none) (zrm 1 22) (zPc D B cA ad [.ref (B + 43), .int a1, .int a2, .int a3] S I) (zQc D B cA (zqV S K)) 0 0 (fun q => B ≤ q) := by
  refine zm_of (cc := cX9_layNode) (maxL := 4) (ret := none) (by decide +kernel) rfl (Nat.le_of_ble_eq_true rfl) trivial ?_
  intro p e s m args below meth c C _
  unfold w_TreeView_layNode at h
  show zX p l e (zrm 1 22) s m args below meth c (MQ below (zQc D B cA (zqV S K)) args s 0 0 (fun q => B ≤ q)) D B cA 4 0 0 S I [(0, .ref (B + 43)), (1, .int a1), (2, .int a2), (3, .int a3)] [] 0
  refine zr_aload_n C dyX9_layNode_0 rfl 0 rfl ?_
  refine zg_9_14 C hS dyX9_layNode_1 ?_
  refine zr_aload_n C dyX9_layNode_4 rfl 0 rfl ?_
  refine zg_9_67 C hS dyX9_layNode_5 ?_
  refine zr_iload_n C dyX9_layNode_8 rfl 1 rfl ?_
  refine zv_9_70 C hS (zIsRow.of hS zir_44) (st := []) h ⟨Nat.le_of_ble_eq_true rfl, Nat.le_of_ble_eq_true rfl⟩ (Nat.le_of_ble_eq_true rfl) dyX9_layNode_9 (fun I_1 h => ?_)
  refine zr_aload_n C dyX9_layNode_12 rfl 0 rfl ?_
  refine zg_9_20 C hS dyX9_layNode_13 ?_
  refine zr_iload_n C dyX9_layNode_16 rfl 1 rfl ?_
  refine zr_aload_n C dyX9_layNode_17 rfl 0 rfl ?_
  refine zg_9_67 C hS dyX9_layNode_18 ?_
  refine zv_9_70 C hS (zIsRow.of hS zir_46) (st := []) h ⟨Nat.le_of_ble_eq_true rfl, Nat.le_of_ble_eq_true rfl⟩ (Nat.le_of_ble_eq_true rfl) dyX9_layNode_21 (fun I_2 h => ?_)
  refine zr_aload_n C dyX9_layNode_24 rfl 0 rfl ?_
  refine zg_9_23 C hS dyX9_layNode_25 ?_
  refine zr_aload_n C dyX9_layNode_28 rfl 0 rfl ?_
  refine zg_9_67 C hS dyX9_layNode_29 ?_
  refine zr_iload_n C dyX9_layNode_32 rfl 2 rfl ?_
  refine zv_9_70 C hS (zIsRow.of hS zir_48) (st := []) h ⟨Nat.le_of_ble_eq_true rfl, Nat.le_of_ble_eq_true rfl⟩ (Nat.le_of_ble_eq_true rfl) dyX9_layNode_33 (fun I_3 h => ?_)
  refine zr_aload_n C dyX9_layNode_36 rfl 0 rfl ?_
  refine zg_9_26 C hS dyX9_layNode_37 ?_
  refine zr_aload_n C dyX9_layNode_40 rfl 0 rfl ?_
  refine zg_9_67 C hS dyX9_layNode_41 ?_
  refine zr_aload_n C dyX9_layNode_44 rfl 0 rfl ?_
  refine zg_9_47 C hS dyX9_layNode_45 ?_
  refine zg_9_95 C hS dyX9_layNode_48 ?_
  refine zr_iload_n C dyX9_layNode_51 rfl 1 rfl ?_
  refine zv_9_74 C hS (zIsRow.of hS zir_31) (st := [.int (I_3.1 43 12), .ref (B + 50)]) h ⟨Nat.le_of_ble_eq_true rfl, Nat.le_of_ble_eq_true rfl⟩ (Nat.le_of_ble_eq_true rfl) dyX9_layNode_52 (fun r_4 h => ?_)
  refine zjn (h (fun (t_5 : Int32) => zX p l e (zrm 1 22) s m args below meth c (MQ below (zQc D B cA (zqV S K)) args s 0 0 (fun q => B ≤ q)) D B cA 4 0 0 S I_3 [(0, .ref (B + 43)), (2, .int a2)] [.int t_5, .int (I_3.1 43 12), .ref (B + 50)] 64) (fun t_5 h => ?_)) (fun h => ?_)
  · refine zv_9_70 C hS (zIsRow.of hS zir_50) (st := []) h ⟨Nat.le_of_ble_eq_true rfl, Nat.le_of_ble_eq_true rfl⟩ (Nat.le_of_ble_eq_true rfl) dyX9_layNode_64 (fun I_6 h => ?_)
    refine zr_aload_n C dyX9_layNode_67 rfl 0 rfl ?_
    refine zg_9_29 C hS dyX9_layNode_68 ?_
    refine zr_aload_n C dyX9_layNode_71 rfl 0 rfl ?_
    refine zg_9_67 C hS dyX9_layNode_72 ?_
    refine zr_iload_n C dyX9_layNode_75 rfl 1 rfl ?_
    refine zjn (h (fun (t_7 : Int32) => zX p l e (zrm 1 22) s m args below meth c (MQ below (zQc D B cA (zqV S K)) args s 0 0 (fun q => B ≤ q)) D B cA 4 0 0 S I_6 [(0, .ref (B + 43))] [.int t_7, .int (I_6.1 43 12), .ref (B + 52)] 93) (fun t_7 h => ?_)) (fun h => ?_)
    · refine zv_9_70 C hS (zIsRow.of hS zir_52) (st := []) h ⟨Nat.le_of_ble_eq_true rfl, Nat.le_of_ble_eq_true rfl⟩ (Nat.le_of_ble_eq_true rfl) dyX9_layNode_93 (fun I_8 h => ?_)
      refine zr_aload_n C dyX9_layNode_96 rfl 0 rfl ?_
      refine zg_9_32 C hS dyX9_layNode_97 ?_
      refine zr_aload_n C dyX9_layNode_100 rfl 0 rfl ?_
      refine zg_9_67 C hS dyX9_layNode_101 ?_
      refine zr_iconst C dyX9_layNode_104 zc_i_1 ?_
      refine zv_9_70 C hS (zIsRow.of hS zir_54) (st := []) h ⟨Nat.le_of_ble_eq_true rfl, Nat.le_of_ble_eq_true rfl⟩ (Nat.le_of_ble_eq_true rfl) dyX9_layNode_105 (fun I_9 h => ?_)
      refine zr_aload_n C dyX9_layNode_108 rfl 0 rfl ?_
      refine zr_dup C dyX9_layNode_109 rfl ?_
      refine zg_9_67 C hS dyX9_layNode_110 ?_
      refine zr_iconst C dyX9_layNode_113 zc_i_1 ?_
      refine zr_iadd C dyX9_layNode_114 ?_
      refine zp_9_67 C hS dyX9_layNode_115 ?_
      refine zn_mem C (fun I_10 eI_10 => ?_)
      replace h := h I_10 eI_10
      exact zr_vret C rfl dyX9_layNode_118 ⟨rfl, rfl, h⟩
    refine zr_if_ge C dyX9_layNode_76 (tgt := 83) (by decide) (fun hc_12 => ?_) (fun hc_12 => ?_)
    · replace h := zif_pos hc_12 h
      refine zr_aload_n C dyX9_layNode_83 rfl 0 rfl ?_
      refine zg_9_29 C hS dyX9_layNode_84 ?_
      refine zr_iload_n C dyX9_layNode_87 rfl 1 rfl ?_
      refine zv_9_74 C hS (zIsRow.of hS zir_52) (st := [.int (I_6.1 43 12), .ref (B + 52)]) h ⟨Nat.le_of_ble_eq_true rfl, Nat.le_of_ble_eq_true rfl⟩ (Nat.le_of_ble_eq_true rfl) dyX9_layNode_88 (fun r_11 h => ?_)
      refine zr_iconst C dyX9_layNode_91 zc_i_1 ?_
      refine zr_iadd C dyX9_layNode_92 ?_
      refine zr_sub (lv2 := [(0, .ref (B + 43))]) [0] rfl ?_
      exact h
    · replace h := zif_neg hc_12 h
      refine zr_iconst C dyX9_layNode_79 zc_i_1 ?_
      refine zr_goto C dyX9_layNode_80 (tgt := 93) (by decide) ?_
      refine zr_sub (lv2 := [(0, .ref (B + 43))]) [0] rfl ?_
      exact h
  refine zr_if_le C dyX9_layNode_55 (tgt := 62) (by decide) (fun hc_13 => ?_) (fun hc_13 => ?_)
  · replace h := zif_pos hc_13 h
    refine zr_bipush C dyX9_layNode_62 zc_b_m2 ?_
    refine zr_sub (lv2 := [(0, .ref (B + 43)), (2, .int a2)]) [0, 2] rfl ?_
    exact h
  · replace h := zif_neg hc_13 h
    refine zr_iload_n C dyX9_layNode_58 rfl 3 rfl ?_
    refine zr_goto C dyX9_layNode_59 (tgt := 64) (by decide) ?_
    refine zr_sub (lv2 := [(0, .ref (B + 43)), (2, .int a2)]) [0, 2] rfl ?_
    exact h
theorem zg_9_35 {p : Program} {l : Launch} {e : Env} {R : Room} {s : State} {m : MethodId} {args : Array Value} {below : List Frame} {meth : Method} {c : Code} {Q : State → Prop} {D : va_G} {B : Nat} {cA : Nat → ClassId} {ad : Nat → Nat} {cc : ByteArray} {nL : Nat} {ret : Option FieldType} {S : List zC} {I : zI} {lv : List (Nat × Value)} {st : List Value} {pc : Nat} (C : zCx p s m args meth c cc nL RX9 ret D B cA ad) (hS : zOkX S) (hd : decode cc pc = .ok (.getfield 35, 3)) (kk : zX p l e R s m args below meth c Q D B cA nL 0 0 S I lv (.ref (B + 56) :: st) (pc + 3)) : zX p l e R s m args below meth c Q D B cA nL 0 0 S I lv (.ref (B + 43) :: st) pc :=
  zr_getr C (ci := 9) (Cn := RX9) (T := TX9) (N := 16) (k := 43) (j := 7) (fs := [some (some 24), some (some 44), some (some 46), some (some 48), some (some 50), some (some 52), some (some 54), some (some 56), some (some 58), some (some 60), some (some 62), none, none, none, none, none]) rfl zin_9 (Nat.le_of_ble_eq_true rfl) rfl (hS _ _ zs_43) rfl zk_fl_9_35 hd kk
theorem zg_9_38 {p : Program} {l : Launch} {e : Env} {R : Room} {s : State} {m : MethodId} {args : Array Value} {below : List Frame} {meth : Method} {c : Code} {Q : State → Prop} {D : va_G} {B : Nat} {cA : Nat → ClassId} {ad : Nat → Nat} {cc : ByteArray} {nL : Nat} {ret : Option FieldType} {S : List zC} {I : zI} {lv : List (Nat × Value)} {st : List Value} {pc : Nat} (C : zCx p s m args meth c cc nL RX9 ret D B cA ad) (hS : zOkX S) (hd : decode cc pc = .ok (.getfield 38, 3)) (kk : zX p l e R s m args below meth c Q D B cA nL 0 0 S I lv (.ref (B + 58) :: st) (pc + 3)) : zX p l e R s m args below meth c Q D B cA nL 0 0 S I lv (.ref (B + 43) :: st) pc :=
  zr_getr C (ci := 9) (Cn := RX9) (T := TX9) (N := 16) (k := 43) (j := 8) (fs := [some (some 24), some (some 44), some (some 46), some (some 48), some (some 50), some (some 52), some (some 54), some (some 56), some (some 58), some (some 60), some (some 62), none, none, none, none, none]) rfl zin_9 (Nat.le_of_ble_eq_true rfl) rfl (hS _ _ zs_43) rfl zk_fl_9_38 hd kk
theorem zv_9_78 {p : Program} {l : Launch} {e : Env} {R : Room} {s : State} {m : MethodId} {args : Array Value} {below : List Frame} {meth : Method} {c : Code} {Q : State → Prop} {D : va_G} {B : Nat} {cA : Nat → ClassId} {ad : Nat → Nat} {cc : ByteArray} {nL : Nat} {ret : Option FieldType} {S : List zC} {I : zI} {lv : List (Nat × Value)} {st : List Value} {pc : Nat} (C : zCx p s m args meth c cc nL RX9 ret D B cA ad) {K : zI → Prop} {xa1 : Int32} {xa2 : Int32} {xa3 : Int32} (hS : zOkX S)  (h : w_TreeView_layNode xa1 xa2 xa3 I K) (hR : 1 + 1 ≤ R.frames ∧ 8 + (4 + 11) + (22) ≤ R.locals) (hw : (st.map fun v => v.category).sum ≤ 8) (hd : decode cc pc = .ok (.invokevirtual 78, 3)) (kk : ∀ I2, K I2 → zX p l e R s m args below meth c Q D B cA nL 0 0 S I2 lv st (pc + 3)) : zX p l e R s m args below meth c Q D B cA nL 0 0 S I lv (.int xa3 :: .int xa2 :: .int xa1 :: .ref (B + 43) :: st) pc :=
  have hf : 0 ≤ R.cells ∧ 0 ≤ R.slots := ⟨Nat.zero_le _, Nat.zero_le _⟩
  zc_VqV C (ci := 9) (q := (RX9, TX9, 16)) (k := 43) (fs := [some (some 24), some (some 44), some (some 46), some (some 48), some (some 50), some (some 52), some (some 54), some (some 56), some (some 58), some (some 60), some (some 62), none, none, none, none, none]) (As := [.int xa1, .int xa2, .int xa3]) (st := st) rfl (hS _ _ zs_43) (c_TreeView_layNode hS h) (zgV zk_ml_9_78 zk_im_yX9_layNode zk_se_yX9_layNode zk_in_9 zk_cd_yX9_layNode) zsg_yX9_layNode hR rfl rfl hw hd hf kk
theorem zv_9_82 {p : Program} {l : Launch} {e : Env} {R : Room} {s : State} {m : MethodId} {args : Array Value} {below : List Frame} {meth : Method} {c : Code} {Q : State → Prop} {D : va_G} {B : Nat} {cA : Nat → ClassId} {ad : Nat → Nat} {cc : ByteArray} {nL : Nat} {ret : Option FieldType} {S : List zC} {I : zI} {lv : List (Nat × Value)} {st : List Value} {pc : Nat} (C : zCx p s m args meth c cc nL RX9 ret D B cA ad) {K : Int32 → Prop} {xa1 : Int32} (hS : zOkX S)  (h : w_Nodes_isToken xa1 I K) (hR : 1 + 1 ≤ R.frames ∧ 8 + (2 + 11) + (21) ≤ R.locals) (hw : (st.map fun v => v.category).sum ≤ 8) (hd : decode cc pc = .ok (.invokevirtual 82, 3)) (kk : ∀ v, K v → zX p l e R s m args below meth c Q D B cA nL 0 0 S I lv (.int v :: st) (pc + 3)) : zX p l e R s m args below meth c Q D B cA nL 0 0 S I lv (.int xa1 :: .ref (B + 24) :: st) pc :=
  have hf : 0 ≤ R.cells ∧ 0 ≤ R.slots := ⟨Nat.zero_le _, Nat.zero_le _⟩
  zc_VpI C (ci := 3) (q := (RX3, TX3, 10)) (k := 24) (fs := [some (some 25), some (some 27), some (some 29), some (some 31), some (some 33), some (some 35), some (some 37), some (some 39), some (some 41), none]) (As := [.int xa1]) (st := st) rfl (hS _ _ zs_24) (c_Nodes_isToken hS h) (zgV zk_ml_9_82 zk_im_yX3_isToken zk_se_yX3_isToken zk_in_3 zk_cd_yX3_isToken) zsg_yX3_isToken hR rfl rfl hw hd hf kk
theorem zv_9_88 {p : Program} {l : Launch} {e : Env} {R : Room} {s : State} {m : MethodId} {args : Array Value} {below : List Frame} {meth : Method} {c : Code} {Q : State → Prop} {D : va_G} {B : Nat} {cA : Nat → ClassId} {ad : Nat → Nat} {cc : ByteArray} {nL : Nat} {ret : Option FieldType} {S : List zC} {I : zI} {lv : List (Nat × Value)} {st : List Value} {pc : Nat} (C : zCx p s m args meth c cc nL RX9 ret D B cA ad) {K : Int32 → Prop} {xa1 : Int32} (hS : zOkX S)  (h : w_Nodes_childrenOf xa1 I K) (hR : 1 + 1 ≤ R.frames ∧ 8 + (2 + 11) + (21) ≤ R.locals) (hw : (st.map fun v => v.category).sum ≤ 8) (hd : decode cc pc = .ok (.invokevirtual 88, 3)) (kk : ∀ v, K v → zX p l e R s m args below meth c Q D B cA nL 0 0 S I lv (.int v :: st) (pc + 3)) : zX p l e R s m args below meth c Q D B cA nL 0 0 S I lv (.int xa1 :: .ref (B + 24) :: st) pc :=
  have hf : 0 ≤ R.cells ∧ 0 ≤ R.slots := ⟨Nat.zero_le _, Nat.zero_le _⟩
  zc_VpI C (ci := 3) (q := (RX3, TX3, 10)) (k := 24) (fs := [some (some 25), some (some 27), some (some 29), some (some 31), some (some 33), some (some 35), some (some 37), some (some 39), some (some 41), none]) (As := [.int xa1]) (st := st) rfl (hS _ _ zs_24) (c_Nodes_childrenOf hS h) (zgV zk_ml_9_88 zk_im_yX3_childrenOf zk_se_yX3_childrenOf zk_in_3 zk_cd_yX3_childrenOf) zsg_yX3_childrenOf hR rfl rfl hw hd hf kk
theorem zv_9_91 {p : Program} {l : Launch} {e : Env} {R : Room} {s : State} {m : MethodId} {args : Array Value} {below : List Frame} {meth : Method} {c : Code} {Q : State → Prop} {D : va_G} {B : Nat} {cA : Nat → ClassId} {ad : Nat → Nat} {cc : ByteArray} {nL : Nat} {ret : Option FieldType} {S : List zC} {I : zI} {lv : List (Nat × Value)} {st : List Value} {pc : Nat} (C : zCx p s m args meth c cc nL RX9 ret D B cA ad) {K : Int32 → Prop} {xa1 : Int32} {xa2 : Int32} (hS : zOkX S)  (h : w_Nodes_childOf xa1 xa2 I K) (hR : 1 + 1 ≤ R.frames ∧ 8 + (3 + 11) + (21) ≤ R.locals) (hw : (st.map fun v => v.category).sum ≤ 8) (hd : decode cc pc = .ok (.invokevirtual 91, 3)) (kk : ∀ v, K v → zX p l e R s m args below meth c Q D B cA nL 0 0 S I lv (.int v :: st) (pc + 3)) : zX p l e R s m args below meth c Q D B cA nL 0 0 S I lv (.int xa2 :: .int xa1 :: .ref (B + 24) :: st) pc :=
  have hf : 0 ≤ R.cells ∧ 0 ≤ R.slots := ⟨Nat.zero_le _, Nat.zero_le _⟩
  zc_VpI C (ci := 3) (q := (RX3, TX3, 10)) (k := 24) (fs := [some (some 25), some (some 27), some (some 29), some (some 31), some (some 33), some (some 35), some (some 37), some (some 39), some (some 41), none]) (As := [.int xa1, .int xa2]) (st := st) rfl (hS _ _ zs_24) (c_Nodes_childOf hS h) (zgV zk_ml_9_91 zk_im_yX3_childOf zk_se_yX3_childOf zk_in_3 zk_cd_yX3_childOf) zsg_yX3_childOf hR rfl rfl hw hd hf kk
def w_TreeView_layFlat  (I : zI) (K : zI → Prop) : Prop :=
  ∀ I_1, I_1 = (zu I 43 12 0) → w_Row_set 56 400 0 (I_1.1 43 13) I_1 (fun I_2 => w_Row_set 58 400 0 (-1) I_2 (fun I_3 => ∀ (P32 : Int32 → Int32 → Int32 → zI → Prop), (∀ (v1_4 : Int32) (v2_5 : Int32) (v3_6 : Int32) (I_7 : zI), ((if 400 ≤ v3_6 then K I_7 else (if v1_4 ≤ 0 then K I_7 else (∀ v1_8, v1_8 = (v1_4 + (-1)) → w_Row_get 56 400 v1_8 I_7 (fun r_9 => w_Row_get 58 400 v1_8 I_7 (fun r_10 => w_TreeView_layNode r_9 r_10 v2_5 I_7 (fun I_11 => w_Nodes_isToken r_9 I_11 (fun r_12 => ∀ (P89 : Int32 → Prop), (∀ (t_13 : Int32), (∀ v2_14, v2_14 = (v2_5 + t_13) → w_Nodes_childrenOf r_9 I_11 (fun r_15 => ∀ v5_16, v5_16 = (r_15 - 1) → ∀ (P104 : Int32 → Int32 → zI → Prop), (∀ (v1_17 : Int32) (v5_18 : Int32) (I_19 : zI), ((if v5_18 < 0 then (∀ v3_20, v3_20 = (v3_6 + 1) → P32 v1_17 v2_14 v3_20 I_19) else (w_Nodes_childOf r_9 v5_18 I_19 (fun r_21 => w_Row_set 56 400 v1_17 r_21 I_19 (fun I_22 => w_Row_set 58 400 v1_17 ((I_22.1 43 12) - 1) I_22 (fun I_23 => ∀ v1_24, v1_24 = (v1_17 + 1) → ∀ v5_25, v5_25 = (v5_18 + (-1)) → P104 v1_24 v5_25 I_23)))))) → P104 v1_17 v5_18 I_19) → P104 v1_8 v5_16 I_11)) → P89 t_13) → (if r_12 = 0 then P89 0 else P89 1))))))))) → P32 v1_4 v2_5 v3_6 I_7) → P32 1 0 0 I_3))
theorem dyX9_layFlat_0 : decode cX9_layFlat 0 = .ok (.aload_n 0, 1) := by decide +kernel
theorem dyX9_layFlat_1 : decode cX9_layFlat 1 = .ok (.iconst 0, 1) := by decide +kernel
theorem dyX9_layFlat_2 : decode cX9_layFlat 2 = .ok (.putfield 67, 3) := by decide +kernel
theorem dyX9_layFlat_5 : decode cX9_layFlat 5 = .ok (.aload_n 0, 1) := by decide +kernel
theorem dyX9_layFlat_6 : decode cX9_layFlat 6 = .ok (.getfield 35, 3) := by decide +kernel
theorem dyX9_layFlat_9 : decode cX9_layFlat 9 = .ok (.iconst 0, 1) := by decide +kernel
theorem dyX9_layFlat_10 : decode cX9_layFlat 10 = .ok (.aload_n 0, 1) := by decide +kernel
theorem dyX9_layFlat_11 : decode cX9_layFlat 11 = .ok (.getfield 57, 3) := by decide +kernel
theorem dyX9_layFlat_14 : decode cX9_layFlat 14 = .ok (.invokevirtual 70, 3) := by decide +kernel
theorem dyX9_layFlat_17 : decode cX9_layFlat 17 = .ok (.aload_n 0, 1) := by decide +kernel
theorem dyX9_layFlat_18 : decode cX9_layFlat 18 = .ok (.getfield 38, 3) := by decide +kernel
theorem dyX9_layFlat_21 : decode cX9_layFlat 21 = .ok (.iconst 0, 1) := by decide +kernel
theorem dyX9_layFlat_22 : decode cX9_layFlat 22 = .ok (.iconst (-1), 1) := by decide +kernel
theorem dyX9_layFlat_23 : decode cX9_layFlat 23 = .ok (.invokevirtual 70, 3) := by decide +kernel
theorem dyX9_layFlat_26 : decode cX9_layFlat 26 = .ok (.iconst 1, 1) := by decide +kernel
theorem dyX9_layFlat_27 : decode cX9_layFlat 27 = .ok (.istore_n 1, 1) := by decide +kernel
theorem dyX9_layFlat_28 : decode cX9_layFlat 28 = .ok (.iconst 0, 1) := by decide +kernel
theorem dyX9_layFlat_29 : decode cX9_layFlat 29 = .ok (.istore_n 2, 1) := by decide +kernel
theorem dyX9_layFlat_30 : decode cX9_layFlat 30 = .ok (.iconst 0, 1) := by decide +kernel
theorem dyX9_layFlat_31 : decode cX9_layFlat 31 = .ok (.istore_n 3, 1) := by decide +kernel
theorem dyX9_layFlat_32 : decode cX9_layFlat 32 = .ok (.iload_n 3, 1) := by decide +kernel
theorem dyX9_layFlat_33 : decode cX9_layFlat 33 = .ok (.sipush 400, 3) := by decide +kernel
theorem dyX9_layFlat_36 : decode cX9_layFlat 36 = .ok (.if_icmp .ge 121, 3) := by decide +kernel
theorem dyX9_layFlat_39 : decode cX9_layFlat 39 = .ok (.iload_n 1, 1) := by decide +kernel
theorem dyX9_layFlat_40 : decode cX9_layFlat 40 = .ok (.ifCond .le 117, 3) := by decide +kernel
theorem dyX9_layFlat_43 : decode cX9_layFlat 43 = .ok (.iinc 1 (-1), 3) := by decide +kernel
theorem dyX9_layFlat_46 : decode cX9_layFlat 46 = .ok (.aload_n 0, 1) := by decide +kernel
theorem dyX9_layFlat_47 : decode cX9_layFlat 47 = .ok (.getfield 35, 3) := by decide +kernel
theorem dyX9_layFlat_50 : decode cX9_layFlat 50 = .ok (.iload_n 1, 1) := by decide +kernel
theorem dyX9_layFlat_51 : decode cX9_layFlat 51 = .ok (.invokevirtual 74, 3) := by decide +kernel
theorem dyX9_layFlat_54 : decode cX9_layFlat 54 = .ok (.istore 4, 2) := by decide +kernel
theorem dyX9_layFlat_56 : decode cX9_layFlat 56 = .ok (.aload_n 0, 1) := by decide +kernel
theorem dyX9_layFlat_57 : decode cX9_layFlat 57 = .ok (.iload 4, 2) := by decide +kernel
theorem dyX9_layFlat_59 : decode cX9_layFlat 59 = .ok (.aload_n 0, 1) := by decide +kernel
theorem dyX9_layFlat_60 : decode cX9_layFlat 60 = .ok (.getfield 38, 3) := by decide +kernel
theorem dyX9_layFlat_63 : decode cX9_layFlat 63 = .ok (.iload_n 1, 1) := by decide +kernel
theorem dyX9_layFlat_64 : decode cX9_layFlat 64 = .ok (.invokevirtual 74, 3) := by decide +kernel
theorem dyX9_layFlat_67 : decode cX9_layFlat 67 = .ok (.iload_n 2, 1) := by decide +kernel
theorem dyX9_layFlat_68 : decode cX9_layFlat 68 = .ok (.invokevirtual 78, 3) := by decide +kernel
theorem dyX9_layFlat_71 : decode cX9_layFlat 71 = .ok (.iload_n 2, 1) := by decide +kernel
theorem dyX9_layFlat_72 : decode cX9_layFlat 72 = .ok (.aload_n 0, 1) := by decide +kernel
theorem dyX9_layFlat_73 : decode cX9_layFlat 73 = .ok (.getfield 47, 3) := by decide +kernel
theorem dyX9_layFlat_76 : decode cX9_layFlat 76 = .ok (.iload 4, 2) := by decide +kernel
theorem dyX9_layFlat_78 : decode cX9_layFlat 78 = .ok (.invokevirtual 82, 3) := by decide +kernel
theorem dyX9_layFlat_81 : decode cX9_layFlat 81 = .ok (.ifCond .eq 7, 3) := by decide +kernel
theorem dyX9_layFlat_84 : decode cX9_layFlat 84 = .ok (.iconst 1, 1) := by decide +kernel
theorem dyX9_layFlat_85 : decode cX9_layFlat 85 = .ok (.goto 4, 3) := by decide +kernel
theorem dyX9_layFlat_88 : decode cX9_layFlat 88 = .ok (.iconst 0, 1) := by decide +kernel
theorem dyX9_layFlat_89 : decode cX9_layFlat 89 = .ok (.iadd, 1) := by decide +kernel
theorem dyX9_layFlat_90 : decode cX9_layFlat 90 = .ok (.istore_n 2, 1) := by decide +kernel
theorem dyX9_layFlat_91 : decode cX9_layFlat 91 = .ok (.aload_n 0, 1) := by decide +kernel
theorem dyX9_layFlat_92 : decode cX9_layFlat 92 = .ok (.getfield 47, 3) := by decide +kernel
theorem dyX9_layFlat_95 : decode cX9_layFlat 95 = .ok (.iload 4, 2) := by decide +kernel
theorem dyX9_layFlat_97 : decode cX9_layFlat 97 = .ok (.invokevirtual 88, 3) := by decide +kernel
theorem dyX9_layFlat_100 : decode cX9_layFlat 100 = .ok (.iconst 1, 1) := by decide +kernel
theorem dyX9_layFlat_101 : decode cX9_layFlat 101 = .ok (.isub, 1) := by decide +kernel
theorem dyX9_layFlat_102 : decode cX9_layFlat 102 = .ok (.istore 5, 2) := by decide +kernel
theorem dyX9_layFlat_104 : decode cX9_layFlat 104 = .ok (.iload 5, 2) := by decide +kernel
theorem dyX9_layFlat_106 : decode cX9_layFlat 106 = .ok (.ifCond .lt 45, 3) := by decide +kernel
theorem dyX9_layFlat_109 : decode cX9_layFlat 109 = .ok (.aload_n 0, 1) := by decide +kernel
theorem dyX9_layFlat_110 : decode cX9_layFlat 110 = .ok (.getfield 35, 3) := by decide +kernel
theorem dyX9_layFlat_113 : decode cX9_layFlat 113 = .ok (.iload_n 1, 1) := by decide +kernel
theorem dyX9_layFlat_114 : decode cX9_layFlat 114 = .ok (.aload_n 0, 1) := by decide +kernel
theorem dyX9_layFlat_115 : decode cX9_layFlat 115 = .ok (.getfield 47, 3) := by decide +kernel
theorem dyX9_layFlat_118 : decode cX9_layFlat 118 = .ok (.iload 4, 2) := by decide +kernel
theorem dyX9_layFlat_120 : decode cX9_layFlat 120 = .ok (.iload 5, 2) := by decide +kernel
theorem dyX9_layFlat_122 : decode cX9_layFlat 122 = .ok (.invokevirtual 91, 3) := by decide +kernel
theorem dyX9_layFlat_125 : decode cX9_layFlat 125 = .ok (.invokevirtual 70, 3) := by decide +kernel
theorem dyX9_layFlat_128 : decode cX9_layFlat 128 = .ok (.aload_n 0, 1) := by decide +kernel
theorem dyX9_layFlat_129 : decode cX9_layFlat 129 = .ok (.getfield 38, 3) := by decide +kernel
theorem dyX9_layFlat_132 : decode cX9_layFlat 132 = .ok (.iload_n 1, 1) := by decide +kernel
theorem dyX9_layFlat_133 : decode cX9_layFlat 133 = .ok (.aload_n 0, 1) := by decide +kernel
theorem dyX9_layFlat_134 : decode cX9_layFlat 134 = .ok (.getfield 67, 3) := by decide +kernel
theorem dyX9_layFlat_137 : decode cX9_layFlat 137 = .ok (.iconst 1, 1) := by decide +kernel
theorem dyX9_layFlat_138 : decode cX9_layFlat 138 = .ok (.isub, 1) := by decide +kernel
theorem dyX9_layFlat_139 : decode cX9_layFlat 139 = .ok (.invokevirtual 70, 3) := by decide +kernel
theorem dyX9_layFlat_142 : decode cX9_layFlat 142 = .ok (.iinc 1 1, 3) := by decide +kernel
theorem dyX9_layFlat_145 : decode cX9_layFlat 145 = .ok (.iinc 5 (-1), 3) := by decide +kernel
theorem dyX9_layFlat_148 : decode cX9_layFlat 148 = .ok (.goto (-44), 3) := by decide +kernel
theorem dyX9_layFlat_151 : decode cX9_layFlat 151 = .ok (.iinc 3 1, 3) := by decide +kernel
theorem dyX9_layFlat_154 : decode cX9_layFlat 154 = .ok (.goto (-122), 3) := by decide +kernel
theorem dyX9_layFlat_157 : decode cX9_layFlat 157 = .ok (.return_, 1) := by decide +kernel
theorem zsg_yX9_layFlat : yX9_layFlat.cls = RX9 ∧ yX9_layFlat.cls ≠ "java/lang/invoke/MethodHandle" ∧ yX9_layFlat.cls ≠ "java/lang/invoke/VarHandle" ∧ (parseMethodDescriptor yX9_layFlat.desc).map (fun d => d.parameters.length) = some 0 := by decide +kernel
set_option maxRecDepth 20000 in
theorem c_TreeView_layFlat {l : Launch} {D : va_G} {B : Nat} {cA : Nat → ClassId} {ad : Nat → Nat} {S : List zC} (hS : zOkX S)  {I : zI} {K : zI → Prop}  (h : w_TreeView_layFlat  I K) : Met l yX9_layFlat (zws yX9_layFlat cX9_layFlat 6 none) (zrm 2 45) (zPc D B cA ad [.ref (B + 43)] S I) (zQc D B cA (zqV S K)) 0 0 (fun q => B ≤ q) := by
  refine zm_of (cc := cX9_layFlat) (maxL := 6) (ret := none) (by decide +kernel) rfl (Nat.le_of_ble_eq_true rfl) trivial ?_
  intro p e s m args below meth c C _
  unfold w_TreeView_layFlat at h
  show zX p l e (zrm 2 45) s m args below meth c (MQ below (zQc D B cA (zqV S K)) args s 0 0 (fun q => B ≤ q)) D B cA 6 0 0 S I [(0, .ref (B + 43))] [] 0
  refine zr_aload_n C dyX9_layFlat_0 rfl 0 rfl ?_
  refine zr_iconst C dyX9_layFlat_1 zc_i_0 ?_
  refine zp_9_67 C hS dyX9_layFlat_2 ?_
  refine zn_mem C (fun I_1 eI_1 => ?_)
  replace h := h I_1 eI_1
  refine zr_aload_n C dyX9_layFlat_5 rfl 0 rfl ?_
  refine zg_9_35 C hS dyX9_layFlat_6 ?_
  refine zr_iconst C dyX9_layFlat_9 zc_i_0 ?_
  refine zr_aload_n C dyX9_layFlat_10 rfl 0 rfl ?_
  refine zg_9_57 C hS dyX9_layFlat_11 ?_
  refine zv_9_70 C hS (zIsRow.of hS zir_56) (st := []) h ⟨Nat.le_of_ble_eq_true rfl, Nat.le_of_ble_eq_true rfl⟩ (Nat.le_of_ble_eq_true rfl) dyX9_layFlat_14 (fun I_2 h => ?_)
  refine zr_aload_n C dyX9_layFlat_17 rfl 0 rfl ?_
  refine zg_9_38 C hS dyX9_layFlat_18 ?_
  refine zr_iconst C dyX9_layFlat_21 zc_i_0 ?_
  refine zr_iconst C dyX9_layFlat_22 zc_i_m1 ?_
  refine zv_9_70 C hS (zIsRow.of hS zir_58) (st := []) h ⟨Nat.le_of_ble_eq_true rfl, Nat.le_of_ble_eq_true rfl⟩ (Nat.le_of_ble_eq_true rfl) dyX9_layFlat_23 (fun I_3 h => ?_)
  refine zr_iconst C dyX9_layFlat_26 zc_i_1 ?_
  refine zr_istore_n C dyX9_layFlat_27 rfl (Nat.le_of_ble_eq_true rfl) (lv2 := [(1, .int 1), (0, .ref (B + 43))]) rfl ?_
  refine zr_iconst C dyX9_layFlat_28 zc_i_0 ?_
  refine zr_istore_n C dyX9_layFlat_29 rfl (Nat.le_of_ble_eq_true rfl) (lv2 := [(2, .int 0), (1, .int 1), (0, .ref (B + 43))]) rfl ?_
  refine zr_iconst C dyX9_layFlat_30 zc_i_0 ?_
  refine zr_istore_n C dyX9_layFlat_31 rfl (Nat.le_of_ble_eq_true rfl) (lv2 := [(3, .int 0), (2, .int 0), (1, .int 1), (0, .ref (B + 43))]) rfl ?_
  refine zjn (h (fun (v1_4 : Int32) (v2_5 : Int32) (v3_6 : Int32) (I_7 : zI) => zX p l e (zrm 2 45) s m args below meth c (MQ below (zQc D B cA (zqV S K)) args s 0 0 (fun q => B ≤ q)) D B cA 6 0 0 S I_7 [(3, .int v3_6), (2, .int v2_5), (1, .int v1_4), (0, .ref (B + 43))] [] 32) (fun v1_4 v2_5 v3_6 I_7 h => ?_)) (fun h => ?_)
  · refine zr_iload_n C dyX9_layFlat_32 rfl 0 rfl ?_
    refine zr_sipush C dyX9_layFlat_33 zc_s_400 ?_
    refine zr_icmp_ge C dyX9_layFlat_36 (tgt := 157) (by decide) (fun hc_29 => ?_) (fun hc_29 => ?_)
    · replace h := zif_pos hc_29 h
      exact zr_vret C rfl dyX9_layFlat_157 ⟨rfl, rfl, h⟩
    · replace h := zif_neg hc_29 h
      refine zr_iload_n C dyX9_layFlat_39 rfl 2 rfl ?_
      refine zr_if_le C dyX9_layFlat_40 (tgt := 157) (by decide) (fun hc_28 => ?_) (fun hc_28 => ?_)
      · replace h := zif_pos hc_28 h
        exact zr_vret C rfl dyX9_layFlat_157 ⟨rfl, rfl, h⟩
      · replace h := zif_neg hc_28 h
        refine zn_iinc C (fun v1_8 => [(1, .int v1_8), (3, .int v3_6), (2, .int v2_5), (0, .ref (B + 43))]) dyX9_layFlat_43 2 rfl zc_i_m1 (Nat.le_of_ble_eq_true rfl) (fun _ => rfl) (fun v1_8 ev1_8 => ?_)
        replace h := h v1_8 ev1_8
        refine zr_aload_n C dyX9_layFlat_46 rfl 3 rfl ?_
        refine zg_9_35 C hS dyX9_layFlat_47 ?_
        refine zr_iload_n C dyX9_layFlat_50 rfl 0 rfl ?_
        refine zv_9_74 C hS (zIsRow.of hS zir_56) (st := []) h ⟨Nat.le_of_ble_eq_true rfl, Nat.le_of_ble_eq_true rfl⟩ (Nat.le_of_ble_eq_true rfl) dyX9_layFlat_51 (fun r_9 h => ?_)
        refine zr_istore C dyX9_layFlat_54 (Nat.le_of_ble_eq_true rfl) (lv2 := [(4, .int r_9), (1, .int v1_8), (3, .int v3_6), (2, .int v2_5), (0, .ref (B + 43))]) rfl ?_
        refine zr_aload_n C dyX9_layFlat_56 rfl 4 rfl ?_
        refine zr_iload C dyX9_layFlat_57 0 rfl ?_
        refine zr_aload_n C dyX9_layFlat_59 rfl 4 rfl ?_
        refine zg_9_38 C hS dyX9_layFlat_60 ?_
        refine zr_iload_n C dyX9_layFlat_63 rfl 1 rfl ?_
        refine zv_9_74 C hS (zIsRow.of hS zir_58) (st := [.int r_9, .ref (B + 43)]) h ⟨Nat.le_of_ble_eq_true rfl, Nat.le_of_ble_eq_true rfl⟩ (Nat.le_of_ble_eq_true rfl) dyX9_layFlat_64 (fun r_10 h => ?_)
        refine zr_iload_n C dyX9_layFlat_67 rfl 3 rfl ?_
        refine zv_9_78 C hS (st := []) h ⟨Nat.le_of_ble_eq_true rfl, Nat.le_of_ble_eq_true rfl⟩ (Nat.le_of_ble_eq_true rfl) dyX9_layFlat_68 (fun I_11 h => ?_)
        refine zr_iload_n C dyX9_layFlat_71 rfl 3 rfl ?_
        refine zr_aload_n C dyX9_layFlat_72 rfl 4 rfl ?_
        refine zg_9_47 C hS dyX9_layFlat_73 ?_
        refine zr_iload C dyX9_layFlat_76 0 rfl ?_
        refine zv_9_82 C hS (st := [.int v2_5]) h ⟨Nat.le_of_ble_eq_true rfl, Nat.le_of_ble_eq_true rfl⟩ (Nat.le_of_ble_eq_true rfl) dyX9_layFlat_78 (fun r_12 h => ?_)
        refine zjn (h (fun (t_13 : Int32) => zX p l e (zrm 2 45) s m args below meth c (MQ below (zQc D B cA (zqV S K)) args s 0 0 (fun q => B ≤ q)) D B cA 6 0 0 S I_11 [(4, .int r_9), (1, .int v1_8), (3, .int v3_6), (0, .ref (B + 43))] [.int t_13, .int v2_5] 89) (fun t_13 h => ?_)) (fun h => ?_)
        · refine zr_iadd C dyX9_layFlat_89 ?_
          refine zn_istore_n C (fun v2_14 => [(2, .int v2_14), (4, .int r_9), (1, .int v1_8), (3, .int v3_6), (0, .ref (B + 43))]) dyX9_layFlat_90 rfl (Nat.le_of_ble_eq_true rfl) (fun _ => rfl) (fun v2_14 ev2_14 => ?_)
          replace h := h v2_14 ev2_14
          refine zr_aload_n C dyX9_layFlat_91 rfl 4 rfl ?_
          refine zg_9_47 C hS dyX9_layFlat_92 ?_
          refine zr_iload C dyX9_layFlat_95 1 rfl ?_
          refine zv_9_88 C hS (st := []) h ⟨Nat.le_of_ble_eq_true rfl, Nat.le_of_ble_eq_true rfl⟩ (Nat.le_of_ble_eq_true rfl) dyX9_layFlat_97 (fun r_15 h => ?_)
          refine zr_iconst C dyX9_layFlat_100 zc_i_1 ?_
          refine zr_isub C dyX9_layFlat_101 ?_
          refine zn_istore C (fun v5_16 => [(5, .int v5_16), (2, .int v2_14), (4, .int r_9), (1, .int v1_8), (3, .int v3_6), (0, .ref (B + 43))]) dyX9_layFlat_102 (Nat.le_of_ble_eq_true rfl) (fun _ => rfl) (fun v5_16 ev5_16 => ?_)
          replace h := h v5_16 ev5_16
          refine zjn (h (fun (v1_17 : Int32) (v5_18 : Int32) (I_19 : zI) => zX p l e (zrm 2 45) s m args below meth c (MQ below (zQc D B cA (zqV S K)) args s 0 0 (fun q => B ≤ q)) D B cA 6 0 0 S I_19 [(5, .int v5_18), (2, .int v2_14), (4, .int r_9), (1, .int v1_17), (3, .int v3_6), (0, .ref (B + 43))] [] 104) (fun v1_17 v5_18 I_19 h => ?_)) (fun h => ?_)
          · refine zr_iload C dyX9_layFlat_104 0 rfl ?_
            refine zr_if_lt C dyX9_layFlat_106 (tgt := 151) (by decide) (fun hc_26 => ?_) (fun hc_26 => ?_)
            · replace h := zif_pos hc_26 h
              refine zn_iinc C (fun v3_20 => [(3, .int v3_20), (5, .int v5_18), (2, .int v2_14), (4, .int r_9), (1, .int v1_17), (0, .ref (B + 43))]) dyX9_layFlat_151 4 rfl zc_i_1 (Nat.le_of_ble_eq_true rfl) (fun _ => rfl) (fun v3_20 ev3_20 => ?_)
              replace h := h v3_20 ev3_20
              refine zr_goto C dyX9_layFlat_154 (tgt := 32) (by decide) ?_
              refine zr_sub (lv2 := [(3, .int v3_20), (2, .int v2_14), (1, .int v1_17), (0, .ref (B + 43))]) [0, 2, 4, 5] rfl ?_
              exact h
            · replace h := zif_neg hc_26 h
              refine zr_aload_n C dyX9_layFlat_109 rfl 5 rfl ?_
              refine zg_9_35 C hS dyX9_layFlat_110 ?_
              refine zr_iload_n C dyX9_layFlat_113 rfl 3 rfl ?_
              refine zr_aload_n C dyX9_layFlat_114 rfl 5 rfl ?_
              refine zg_9_47 C hS dyX9_layFlat_115 ?_
              refine zr_iload C dyX9_layFlat_118 2 rfl ?_
              refine zr_iload C dyX9_layFlat_120 0 rfl ?_
              refine zv_9_91 C hS (st := [.int v1_17, .ref (B + 56)]) h ⟨Nat.le_of_ble_eq_true rfl, Nat.le_of_ble_eq_true rfl⟩ (Nat.le_of_ble_eq_true rfl) dyX9_layFlat_122 (fun r_21 h => ?_)
              refine zv_9_70 C hS (zIsRow.of hS zir_56) (st := []) h ⟨Nat.le_of_ble_eq_true rfl, Nat.le_of_ble_eq_true rfl⟩ (Nat.le_of_ble_eq_true rfl) dyX9_layFlat_125 (fun I_22 h => ?_)
              refine zr_aload_n C dyX9_layFlat_128 rfl 5 rfl ?_
              refine zg_9_38 C hS dyX9_layFlat_129 ?_
              refine zr_iload_n C dyX9_layFlat_132 rfl 3 rfl ?_
              refine zr_aload_n C dyX9_layFlat_133 rfl 5 rfl ?_
              refine zg_9_67 C hS dyX9_layFlat_134 ?_
              refine zr_iconst C dyX9_layFlat_137 zc_i_1 ?_
              refine zr_isub C dyX9_layFlat_138 ?_
              refine zv_9_70 C hS (zIsRow.of hS zir_58) (st := []) h ⟨Nat.le_of_ble_eq_true rfl, Nat.le_of_ble_eq_true rfl⟩ (Nat.le_of_ble_eq_true rfl) dyX9_layFlat_139 (fun I_23 h => ?_)
              refine zn_iinc C (fun v1_24 => [(1, .int v1_24), (5, .int v5_18), (2, .int v2_14), (4, .int r_9), (3, .int v3_6), (0, .ref (B + 43))]) dyX9_layFlat_142 3 rfl zc_i_1 (Nat.le_of_ble_eq_true rfl) (fun _ => rfl) (fun v1_24 ev1_24 => ?_)
              replace h := h v1_24 ev1_24
              refine zn_iinc C (fun v5_25 => [(5, .int v5_25), (1, .int v1_24), (2, .int v2_14), (4, .int r_9), (3, .int v3_6), (0, .ref (B + 43))]) dyX9_layFlat_145 1 rfl zc_i_m1 (Nat.le_of_ble_eq_true rfl) (fun _ => rfl) (fun v5_25 ev5_25 => ?_)
              replace h := h v5_25 ev5_25
              refine zr_goto C dyX9_layFlat_148 (tgt := 104) (by decide) ?_
              refine zr_sub (lv2 := [(5, .int v5_25), (2, .int v2_14), (4, .int r_9), (1, .int v1_24), (3, .int v3_6), (0, .ref (B + 43))]) [0, 2, 3, 1, 4, 5] rfl ?_
              exact h
          exact h
        refine zr_if_eq C dyX9_layFlat_81 (tgt := 88) (by decide) (fun hc_27 => ?_) (fun hc_27 => ?_)
        · replace h := zif_pos hc_27 h
          refine zr_iconst C dyX9_layFlat_88 zc_i_0 ?_
          refine zr_sub (lv2 := [(4, .int r_9), (1, .int v1_8), (3, .int v3_6), (0, .ref (B + 43))]) [0, 1, 2, 4] rfl ?_
          exact h
        · replace h := zif_neg hc_27 h
          refine zr_iconst C dyX9_layFlat_84 zc_i_1 ?_
          refine zr_goto C dyX9_layFlat_85 (tgt := 89) (by decide) ?_
          refine zr_sub (lv2 := [(4, .int r_9), (1, .int v1_8), (3, .int v3_6), (0, .ref (B + 43))]) [0, 1, 2, 4] rfl ?_
          exact h
  exact h
theorem zg_9_41 {p : Program} {l : Launch} {e : Env} {R : Room} {s : State} {m : MethodId} {args : Array Value} {below : List Frame} {meth : Method} {c : Code} {Q : State → Prop} {D : va_G} {B : Nat} {cA : Nat → ClassId} {ad : Nat → Nat} {cc : ByteArray} {nL : Nat} {ret : Option FieldType} {S : List zC} {I : zI} {lv : List (Nat × Value)} {st : List Value} {pc : Nat} (C : zCx p s m args meth c cc nL RX9 ret D B cA ad) (hS : zOkX S) (hd : decode cc pc = .ok (.getfield 41, 3)) (kk : zX p l e R s m args below meth c Q D B cA nL 0 0 S I lv (.ref (B + 60) :: st) (pc + 3)) : zX p l e R s m args below meth c Q D B cA nL 0 0 S I lv (.ref (B + 43) :: st) pc :=
  zr_getr C (ci := 9) (Cn := RX9) (T := TX9) (N := 16) (k := 43) (j := 9) (fs := [some (some 24), some (some 44), some (some 46), some (some 48), some (some 50), some (some 52), some (some 54), some (some 56), some (some 58), some (some 60), some (some 62), none, none, none, none, none]) rfl zin_9 (Nat.le_of_ble_eq_true rfl) rfl (hS _ _ zs_43) rfl zk_fl_9_41 hd kk
theorem zv_9_98 {p : Program} {l : Launch} {e : Env} {R : Room} {s : State} {m : MethodId} {args : Array Value} {below : List Frame} {meth : Method} {c : Code} {Q : State → Prop} {D : va_G} {B : Nat} {cA : Nat → ClassId} {ad : Nat → Nat} {cc : ByteArray} {nL : Nat} {ret : Option FieldType} {S : List zC} {I : zI} {lv : List (Nat × Value)} {st : List Value} {pc : Nat} (C : zCx p s m args meth c cc nL RX9 ret D B cA ad) {K : zI → Prop} {xk : Nat} {xn : Nat} {xa1 : Int32} (hS : zOkX S) (xhk : zIsRow S xk xn) (h : w_Row_fill xk xn xa1 I K) (hR : 0 + 1 ≤ R.frames ∧ 8 + (3 + 11) + (0) ≤ R.locals) (hw : (st.map fun v => v.category).sum ≤ 8) (hd : decode cc pc = .ok (.invokevirtual 98, 3)) (kk : ∀ I2, K I2 → zX p l e R s m args below meth c Q D B cA nL 0 0 S I2 lv st (pc + 3)) : zX p l e R s m args below meth c Q D B cA nL 0 0 S I lv (.int xa1 :: .ref (B + xk) :: st) pc :=
  have hf : 0 ≤ R.cells ∧ 0 ≤ R.slots := ⟨Nat.zero_le _, Nat.zero_le _⟩
  zc_VqV C (ci := 6) (q := (RX6, TX6, 1)) (k := xk) (fs := [some (some (xk + 1))]) (As := [.int xa1]) (st := st) rfl xhk.1 (c_Row_fill hS xhk h) (zgV zk_ml_9_98 zk_im_yX6_fill zk_se_yX6_fill zk_in_6 zk_cd_yX6_fill) zsg_yX6_fill hR rfl rfl hw hd hf kk
theorem zp_9_101 {p : Program} {l : Launch} {e : Env} {R : Room} {s : State} {m : MethodId} {args : Array Value} {below : List Frame} {meth : Method} {c : Code} {Q : State → Prop} {D : va_G} {B : Nat} {cA : Nat → ClassId} {ad : Nat → Nat} {cc : ByteArray} {nL : Nat} {ret : Option FieldType} {S : List zC} {I : zI} {lv : List (Nat × Value)} {st : List Value} {pc : Nat} (C : zCx p s m args meth c cc nL RX9 ret D B cA ad) (hS : zOkX S) {v : Int32} (hd : decode cc pc = .ok (.putfield 101, 3)) (kk : zX p l e R s m args below meth c Q D B cA nL 0 0 S (zu I 43 14 v) lv st (pc + 3)) : zX p l e R s m args below meth c Q D B cA nL 0 0 S I lv (.int v :: .ref (B + 43) :: st) pc :=
  zr_puti C (ci := 9) (Cn := RX9) (T := TX9) (N := 16) (k := 43) (j := 14) (fs := [some (some 24), some (some 44), some (some 46), some (some 48), some (some 50), some (some 52), some (some 54), some (some 56), some (some 58), some (some 60), some (some 62), none, none, none, none, none]) rfl zin_9 (Nat.le_of_ble_eq_true rfl) rfl (hS _ _ zs_43) rfl tyX9 tyX9_ok nmX9 (ty := .int) zpd_I rfl rfl rfl zk_fl_9_101 hd kk
theorem zp_9_104 {p : Program} {l : Launch} {e : Env} {R : Room} {s : State} {m : MethodId} {args : Array Value} {below : List Frame} {meth : Method} {c : Code} {Q : State → Prop} {D : va_G} {B : Nat} {cA : Nat → ClassId} {ad : Nat → Nat} {cc : ByteArray} {nL : Nat} {ret : Option FieldType} {S : List zC} {I : zI} {lv : List (Nat × Value)} {st : List Value} {pc : Nat} (C : zCx p s m args meth c cc nL RX9 ret D B cA ad) (hS : zOkX S) {v : Int32} (hd : decode cc pc = .ok (.putfield 104, 3)) (kk : zX p l e R s m args below meth c Q D B cA nL 0 0 S (zu I 43 15 v) lv st (pc + 3)) : zX p l e R s m args below meth c Q D B cA nL 0 0 S I lv (.int v :: .ref (B + 43) :: st) pc :=
  zr_puti C (ci := 9) (Cn := RX9) (T := TX9) (N := 16) (k := 43) (j := 15) (fs := [some (some 24), some (some 44), some (some 46), some (some 48), some (some 50), some (some 52), some (some 54), some (some 56), some (some 58), some (some 60), some (some 62), none, none, none, none, none]) rfl zin_9 (Nat.le_of_ble_eq_true rfl) rfl (hS _ _ zs_43) rfl tyX9 tyX9_ok nmX9 (ty := .int) zpd_I rfl rfl rfl zk_fl_9_104 hd kk
theorem zv_9_107 {p : Program} {l : Launch} {e : Env} {R : Room} {s : State} {m : MethodId} {args : Array Value} {below : List Frame} {meth : Method} {c : Code} {Q : State → Prop} {D : va_G} {B : Nat} {cA : Nat → ClassId} {ad : Nat → Nat} {cc : ByteArray} {nL : Nat} {ret : Option FieldType} {S : List zC} {I : zI} {lv : List (Nat × Value)} {st : List Value} {pc : Nat} (C : zCx p s m args meth c cc nL RX9 ret D B cA ad) {K : zI → Prop} {xk : Nat} {xn : Nat} {xa1 : Int32} {xa2 : Int32} (hS : zOkX S) (xhk : zIsRow S xk xn) (h : w_Row_add xk xn xa1 xa2 I K) (hR : 1 + 1 ≤ R.frames ∧ 8 + (3 + 11) + (22) ≤ R.locals) (hw : (st.map fun v => v.category).sum ≤ 8) (hd : decode cc pc = .ok (.invokevirtual 107, 3)) (kk : ∀ I2, K I2 → zX p l e R s m args below meth c Q D B cA nL 0 0 S I2 lv st (pc + 3)) : zX p l e R s m args below meth c Q D B cA nL 0 0 S I lv (.int xa2 :: .int xa1 :: .ref (B + xk) :: st) pc :=
  have hf : 0 ≤ R.cells ∧ 0 ≤ R.slots := ⟨Nat.zero_le _, Nat.zero_le _⟩
  zc_VqV C (ci := 6) (q := (RX6, TX6, 1)) (k := xk) (fs := [some (some (xk + 1))]) (As := [.int xa1, .int xa2]) (st := st) rfl xhk.1 (c_Row_add hS xhk h) (zgV zk_ml_9_107 zk_im_yX6_add zk_se_yX6_add zk_in_6 zk_cd_yX6_add) zsg_yX6_add hR rfl rfl hw hd hf kk
theorem zg_9_110 {p : Program} {l : Launch} {e : Env} {R : Room} {s : State} {m : MethodId} {args : Array Value} {below : List Frame} {meth : Method} {c : Code} {Q : State → Prop} {D : va_G} {B : Nat} {cA : Nat → ClassId} {ad : Nat → Nat} {cc : ByteArray} {nL : Nat} {ret : Option FieldType} {S : List zC} {I : zI} {lv : List (Nat × Value)} {st : List Value} {pc : Nat} (C : zCx p s m args meth c cc nL RX9 ret D B cA ad) (hS : zOkX S) (hd : decode cc pc = .ok (.getfield 110, 3)) (kk : zX p l e R s m args below meth c Q D B cA nL 0 0 S I lv (.ref (B + 25) :: st) (pc + 3)) : zX p l e R s m args below meth c Q D B cA nL 0 0 S I lv (.ref (B + 24) :: st) pc :=
  zr_getr C (ci := 3) (Cn := RX3) (T := TX3) (N := 10) (k := 24) (j := 0) (fs := [some (some 25), some (some 27), some (some 29), some (some 31), some (some 33), some (some 35), some (some 37), some (some 39), some (some 41), none]) rfl zin_3 (Nat.le_of_ble_eq_true rfl) rfl (hS _ _ zs_24) rfl zk_fl_9_110 hd kk
theorem zg_9_101 {p : Program} {l : Launch} {e : Env} {R : Room} {s : State} {m : MethodId} {args : Array Value} {below : List Frame} {meth : Method} {c : Code} {Q : State → Prop} {D : va_G} {B : Nat} {cA : Nat → ClassId} {ad : Nat → Nat} {cc : ByteArray} {nL : Nat} {ret : Option FieldType} {S : List zC} {I : zI} {lv : List (Nat × Value)} {st : List Value} {pc : Nat} (C : zCx p s m args meth c cc nL RX9 ret D B cA ad) (hS : zOkX S) (hd : decode cc pc = .ok (.getfield 101, 3)) (kk : zX p l e R s m args below meth c Q D B cA nL 0 0 S I lv (.int (I.1 43 14) :: st) (pc + 3)) : zX p l e R s m args below meth c Q D B cA nL 0 0 S I lv (.ref (B + 43) :: st) pc :=
  zr_geti C (ci := 9) (Cn := RX9) (T := TX9) (N := 16) (k := 43) (j := 14) (fs := [some (some 24), some (some 44), some (some 46), some (some 48), some (some 50), some (some 52), some (some 54), some (some 56), some (some 58), some (some 60), some (some 62), none, none, none, none, none]) rfl zin_9 (Nat.le_of_ble_eq_true rfl) rfl (hS _ _ zs_43) rfl zk_fl_9_101 hd kk
theorem zg_9_104 {p : Program} {l : Launch} {e : Env} {R : Room} {s : State} {m : MethodId} {args : Array Value} {below : List Frame} {meth : Method} {c : Code} {Q : State → Prop} {D : va_G} {B : Nat} {cA : Nat → ClassId} {ad : Nat → Nat} {cc : ByteArray} {nL : Nat} {ret : Option FieldType} {S : List zC} {I : zI} {lv : List (Nat × Value)} {st : List Value} {pc : Nat} (C : zCx p s m args meth c cc nL RX9 ret D B cA ad) (hS : zOkX S) (hd : decode cc pc = .ok (.getfield 104, 3)) (kk : zX p l e R s m args below meth c Q D B cA nL 0 0 S I lv (.int (I.1 43 15) :: st) (pc + 3)) : zX p l e R s m args below meth c Q D B cA nL 0 0 S I lv (.ref (B + 43) :: st) pc :=
  zr_geti C (ci := 9) (Cn := RX9) (T := TX9) (N := 16) (k := 43) (j := 15) (fs := [some (some 24), some (some 44), some (some 46), some (some 48), some (some 50), some (some 52), some (some 54), some (some 56), some (some 58), some (some 60), some (some 62), none, none, none, none, none]) rfl zin_9 (Nat.le_of_ble_eq_true rfl) rfl (hS _ _ zs_43) rfl zk_fl_9_104 hd kk
def w_TreeView_sumUp  (I : zI) (K : zI → Prop) : Prop :=
  w_Row_fill 60 11 0 I (fun I_1 => ∀ I_2, I_2 = (zu I_1 43 14 0) → ∀ I_3, I_3 = (zu I_2 43 15 (I_2.1 43 13)) → ∀ v1_4, v1_4 = ((I_3.1 43 12) - 1) → ∀ (P28 : Int32 → zI → Prop), (∀ (v1_5 : Int32) (I_6 : zI), ((if v1_5 < 0 then K I_6 else (w_Row_get 44 400 v1_5 I_6 (fun r_7 => w_Row_get 48 400 v1_5 I_6 (fun r_8 => w_Row_get 54 400 v1_5 I_6 (fun r_9 => w_Row_add 54 400 r_8 r_9 I_6 (fun I_10 => w_Row_get 25 3400 r_7 I_10 (fun r_11 => w_Row_add 60 11 r_11 1 I_10 (fun I_12 => w_Row_get 52 400 v1_5 I_12 (fun r_13 => ∀ I_14, I_14 = (zu I_12 43 14 (if (I_12.1 43 14) < r_13 then r_13 else (I_12.1 43 14))) → ∀ I_15, I_15 = (zu I_14 43 15 (if r_7 < (I_14.1 43 15) then r_7 else (I_14.1 43 15))) → ∀ v1_16, v1_16 = (v1_5 + (-1)) → P28 v1_16 I_15)))))))))) → P28 v1_5 I_6) → P28 v1_4 I_3)
theorem dyX9_sumUp_0 : decode cX9_sumUp 0 = .ok (.aload_n 0, 1) := by decide +kernel
theorem dyX9_sumUp_1 : decode cX9_sumUp 1 = .ok (.getfield 41, 3) := by decide +kernel
theorem dyX9_sumUp_4 : decode cX9_sumUp 4 = .ok (.iconst 0, 1) := by decide +kernel
theorem dyX9_sumUp_5 : decode cX9_sumUp 5 = .ok (.invokevirtual 98, 3) := by decide +kernel
theorem dyX9_sumUp_8 : decode cX9_sumUp 8 = .ok (.aload_n 0, 1) := by decide +kernel
theorem dyX9_sumUp_9 : decode cX9_sumUp 9 = .ok (.iconst 0, 1) := by decide +kernel
theorem dyX9_sumUp_10 : decode cX9_sumUp 10 = .ok (.putfield 101, 3) := by decide +kernel
theorem dyX9_sumUp_13 : decode cX9_sumUp 13 = .ok (.aload_n 0, 1) := by decide +kernel
theorem dyX9_sumUp_14 : decode cX9_sumUp 14 = .ok (.aload_n 0, 1) := by decide +kernel
theorem dyX9_sumUp_15 : decode cX9_sumUp 15 = .ok (.getfield 57, 3) := by decide +kernel
theorem dyX9_sumUp_18 : decode cX9_sumUp 18 = .ok (.putfield 104, 3) := by decide +kernel
theorem dyX9_sumUp_21 : decode cX9_sumUp 21 = .ok (.aload_n 0, 1) := by decide +kernel
theorem dyX9_sumUp_22 : decode cX9_sumUp 22 = .ok (.getfield 67, 3) := by decide +kernel
theorem dyX9_sumUp_25 : decode cX9_sumUp 25 = .ok (.iconst 1, 1) := by decide +kernel
theorem dyX9_sumUp_26 : decode cX9_sumUp 26 = .ok (.isub, 1) := by decide +kernel
theorem dyX9_sumUp_27 : decode cX9_sumUp 27 = .ok (.istore_n 1, 1) := by decide +kernel
theorem dyX9_sumUp_28 : decode cX9_sumUp 28 = .ok (.iload_n 1, 1) := by decide +kernel
theorem dyX9_sumUp_29 : decode cX9_sumUp 29 = .ok (.ifCond .lt 91, 3) := by decide +kernel
theorem dyX9_sumUp_32 : decode cX9_sumUp 32 = .ok (.aload_n 0, 1) := by decide +kernel
theorem dyX9_sumUp_33 : decode cX9_sumUp 33 = .ok (.getfield 14, 3) := by decide +kernel
theorem dyX9_sumUp_36 : decode cX9_sumUp 36 = .ok (.iload_n 1, 1) := by decide +kernel
theorem dyX9_sumUp_37 : decode cX9_sumUp 37 = .ok (.invokevirtual 74, 3) := by decide +kernel
theorem dyX9_sumUp_40 : decode cX9_sumUp 40 = .ok (.istore_n 2, 1) := by decide +kernel
theorem dyX9_sumUp_41 : decode cX9_sumUp 41 = .ok (.aload_n 0, 1) := by decide +kernel
theorem dyX9_sumUp_42 : decode cX9_sumUp 42 = .ok (.getfield 32, 3) := by decide +kernel
theorem dyX9_sumUp_45 : decode cX9_sumUp 45 = .ok (.aload_n 0, 1) := by decide +kernel
theorem dyX9_sumUp_46 : decode cX9_sumUp 46 = .ok (.getfield 23, 3) := by decide +kernel
theorem dyX9_sumUp_49 : decode cX9_sumUp 49 = .ok (.iload_n 1, 1) := by decide +kernel
theorem dyX9_sumUp_50 : decode cX9_sumUp 50 = .ok (.invokevirtual 74, 3) := by decide +kernel
theorem dyX9_sumUp_53 : decode cX9_sumUp 53 = .ok (.aload_n 0, 1) := by decide +kernel
theorem dyX9_sumUp_54 : decode cX9_sumUp 54 = .ok (.getfield 32, 3) := by decide +kernel
theorem dyX9_sumUp_57 : decode cX9_sumUp 57 = .ok (.iload_n 1, 1) := by decide +kernel
theorem dyX9_sumUp_58 : decode cX9_sumUp 58 = .ok (.invokevirtual 74, 3) := by decide +kernel
theorem dyX9_sumUp_61 : decode cX9_sumUp 61 = .ok (.invokevirtual 107, 3) := by decide +kernel
theorem dyX9_sumUp_64 : decode cX9_sumUp 64 = .ok (.aload_n 0, 1) := by decide +kernel
theorem dyX9_sumUp_65 : decode cX9_sumUp 65 = .ok (.getfield 41, 3) := by decide +kernel
theorem dyX9_sumUp_68 : decode cX9_sumUp 68 = .ok (.aload_n 0, 1) := by decide +kernel
theorem dyX9_sumUp_69 : decode cX9_sumUp 69 = .ok (.getfield 47, 3) := by decide +kernel
theorem dyX9_sumUp_72 : decode cX9_sumUp 72 = .ok (.getfield 110, 3) := by decide +kernel
theorem dyX9_sumUp_75 : decode cX9_sumUp 75 = .ok (.iload_n 2, 1) := by decide +kernel
theorem dyX9_sumUp_76 : decode cX9_sumUp 76 = .ok (.invokevirtual 74, 3) := by decide +kernel
theorem dyX9_sumUp_79 : decode cX9_sumUp 79 = .ok (.iconst 1, 1) := by decide +kernel
theorem dyX9_sumUp_80 : decode cX9_sumUp 80 = .ok (.invokevirtual 107, 3) := by decide +kernel
theorem dyX9_sumUp_83 : decode cX9_sumUp 83 = .ok (.aload_n 0, 1) := by decide +kernel
theorem dyX9_sumUp_84 : decode cX9_sumUp 84 = .ok (.aload_n 0, 1) := by decide +kernel
theorem dyX9_sumUp_85 : decode cX9_sumUp 85 = .ok (.getfield 101, 3) := by decide +kernel
theorem dyX9_sumUp_88 : decode cX9_sumUp 88 = .ok (.aload_n 0, 1) := by decide +kernel
theorem dyX9_sumUp_89 : decode cX9_sumUp 89 = .ok (.getfield 29, 3) := by decide +kernel
theorem dyX9_sumUp_92 : decode cX9_sumUp 92 = .ok (.iload_n 1, 1) := by decide +kernel
theorem dyX9_sumUp_93 : decode cX9_sumUp 93 = .ok (.invokevirtual 74, 3) := by decide +kernel
theorem dyX9_sumUp_96 : decode cX9_sumUp 96 = .ok (.invokestatic 113, 3) := by decide +kernel
theorem dyX9_sumUp_99 : decode cX9_sumUp 99 = .ok (.putfield 101, 3) := by decide +kernel
theorem dyX9_sumUp_102 : decode cX9_sumUp 102 = .ok (.aload_n 0, 1) := by decide +kernel
theorem dyX9_sumUp_103 : decode cX9_sumUp 103 = .ok (.aload_n 0, 1) := by decide +kernel
theorem dyX9_sumUp_104 : decode cX9_sumUp 104 = .ok (.getfield 104, 3) := by decide +kernel
theorem dyX9_sumUp_107 : decode cX9_sumUp 107 = .ok (.iload_n 2, 1) := by decide +kernel
theorem dyX9_sumUp_108 : decode cX9_sumUp 108 = .ok (.invokestatic 118, 3) := by decide +kernel
theorem dyX9_sumUp_111 : decode cX9_sumUp 111 = .ok (.putfield 104, 3) := by decide +kernel
theorem dyX9_sumUp_114 : decode cX9_sumUp 114 = .ok (.iinc 1 (-1), 3) := by decide +kernel
theorem dyX9_sumUp_117 : decode cX9_sumUp 117 = .ok (.goto (-89), 3) := by decide +kernel
theorem dyX9_sumUp_120 : decode cX9_sumUp 120 = .ok (.return_, 1) := by decide +kernel
theorem zsg_yX9_sumUp : yX9_sumUp.cls = RX9 ∧ yX9_sumUp.cls ≠ "java/lang/invoke/MethodHandle" ∧ yX9_sumUp.cls ≠ "java/lang/invoke/VarHandle" ∧ (parseMethodDescriptor yX9_sumUp.desc).map (fun d => d.parameters.length) = some 0 := by decide +kernel
set_option maxRecDepth 20000 in
theorem c_TreeView_sumUp {l : Launch} {D : va_G} {B : Nat} {cA : Nat → ClassId} {ad : Nat → Nat} {S : List zC} (hS : zOkX S)  {I : zI} {K : zI → Prop}  (h : w_TreeView_sumUp  I K) : Met l yX9_sumUp (zws yX9_sumUp cX9_sumUp 3 none) (zrm 2 44) (zPc D B cA ad [.ref (B + 43)] S I) (zQc D B cA (zqV S K)) 0 0 (fun q => B ≤ q) := by
  refine zm_of (cc := cX9_sumUp) (maxL := 3) (ret := none) (by decide +kernel) rfl (Nat.le_of_ble_eq_true rfl) trivial ?_
  intro p e s m args below meth c C _
  unfold w_TreeView_sumUp at h
  show zX p l e (zrm 2 44) s m args below meth c (MQ below (zQc D B cA (zqV S K)) args s 0 0 (fun q => B ≤ q)) D B cA 3 0 0 S I [(0, .ref (B + 43))] [] 0
  refine zr_aload_n C dyX9_sumUp_0 rfl 0 rfl ?_
  refine zg_9_41 C hS dyX9_sumUp_1 ?_
  refine zr_iconst C dyX9_sumUp_4 zc_i_0 ?_
  refine zv_9_98 C hS (zIsRow.of hS zir_60) (st := []) h ⟨Nat.le_of_ble_eq_true rfl, Nat.le_of_ble_eq_true rfl⟩ (Nat.le_of_ble_eq_true rfl) dyX9_sumUp_5 (fun I_1 h => ?_)
  refine zr_aload_n C dyX9_sumUp_8 rfl 0 rfl ?_
  refine zr_iconst C dyX9_sumUp_9 zc_i_0 ?_
  refine zp_9_101 C hS dyX9_sumUp_10 ?_
  refine zn_mem C (fun I_2 eI_2 => ?_)
  replace h := h I_2 eI_2
  refine zr_aload_n C dyX9_sumUp_13 rfl 0 rfl ?_
  refine zr_aload_n C dyX9_sumUp_14 rfl 0 rfl ?_
  refine zg_9_57 C hS dyX9_sumUp_15 ?_
  refine zp_9_104 C hS dyX9_sumUp_18 ?_
  refine zn_mem C (fun I_3 eI_3 => ?_)
  replace h := h I_3 eI_3
  refine zr_aload_n C dyX9_sumUp_21 rfl 0 rfl ?_
  refine zg_9_67 C hS dyX9_sumUp_22 ?_
  refine zr_iconst C dyX9_sumUp_25 zc_i_1 ?_
  refine zr_isub C dyX9_sumUp_26 ?_
  refine zn_istore_n C (fun v1_4 => [(1, .int v1_4), (0, .ref (B + 43))]) dyX9_sumUp_27 rfl (Nat.le_of_ble_eq_true rfl) (fun _ => rfl) (fun v1_4 ev1_4 => ?_)
  replace h := h v1_4 ev1_4
  refine zjn (h (fun (v1_5 : Int32) (I_6 : zI) => zX p l e (zrm 2 44) s m args below meth c (MQ below (zQc D B cA (zqV S K)) args s 0 0 (fun q => B ≤ q)) D B cA 3 0 0 S I_6 [(1, .int v1_5), (0, .ref (B + 43))] [] 28) (fun v1_5 I_6 h => ?_)) (fun h => ?_)
  · refine zr_iload_n C dyX9_sumUp_28 rfl 0 rfl ?_
    refine zr_if_lt C dyX9_sumUp_29 (tgt := 120) (by decide) (fun hc_17 => ?_) (fun hc_17 => ?_)
    · replace h := zif_pos hc_17 h
      exact zr_vret C rfl dyX9_sumUp_120 ⟨rfl, rfl, h⟩
    · replace h := zif_neg hc_17 h
      refine zr_aload_n C dyX9_sumUp_32 rfl 1 rfl ?_
      refine zg_9_14 C hS dyX9_sumUp_33 ?_
      refine zr_iload_n C dyX9_sumUp_36 rfl 0 rfl ?_
      refine zv_9_74 C hS (zIsRow.of hS zir_44) (st := []) h ⟨Nat.le_of_ble_eq_true rfl, Nat.le_of_ble_eq_true rfl⟩ (Nat.le_of_ble_eq_true rfl) dyX9_sumUp_37 (fun r_7 h => ?_)
      refine zr_istore_n C dyX9_sumUp_40 rfl (Nat.le_of_ble_eq_true rfl) (lv2 := [(2, .int r_7), (1, .int v1_5), (0, .ref (B + 43))]) rfl ?_
      refine zr_aload_n C dyX9_sumUp_41 rfl 2 rfl ?_
      refine zg_9_32 C hS dyX9_sumUp_42 ?_
      refine zr_aload_n C dyX9_sumUp_45 rfl 2 rfl ?_
      refine zg_9_23 C hS dyX9_sumUp_46 ?_
      refine zr_iload_n C dyX9_sumUp_49 rfl 1 rfl ?_
      refine zv_9_74 C hS (zIsRow.of hS zir_48) (st := [.ref (B + 54)]) h ⟨Nat.le_of_ble_eq_true rfl, Nat.le_of_ble_eq_true rfl⟩ (Nat.le_of_ble_eq_true rfl) dyX9_sumUp_50 (fun r_8 h => ?_)
      refine zr_aload_n C dyX9_sumUp_53 rfl 2 rfl ?_
      refine zg_9_32 C hS dyX9_sumUp_54 ?_
      refine zr_iload_n C dyX9_sumUp_57 rfl 1 rfl ?_
      refine zv_9_74 C hS (zIsRow.of hS zir_54) (st := [.int r_8, .ref (B + 54)]) h ⟨Nat.le_of_ble_eq_true rfl, Nat.le_of_ble_eq_true rfl⟩ (Nat.le_of_ble_eq_true rfl) dyX9_sumUp_58 (fun r_9 h => ?_)
      refine zv_9_107 C hS (zIsRow.of hS zir_54) (st := []) h ⟨Nat.le_of_ble_eq_true rfl, Nat.le_of_ble_eq_true rfl⟩ (Nat.le_of_ble_eq_true rfl) dyX9_sumUp_61 (fun I_10 h => ?_)
      refine zr_aload_n C dyX9_sumUp_64 rfl 2 rfl ?_
      refine zg_9_41 C hS dyX9_sumUp_65 ?_
      refine zr_aload_n C dyX9_sumUp_68 rfl 2 rfl ?_
      refine zg_9_47 C hS dyX9_sumUp_69 ?_
      refine zg_9_110 C hS dyX9_sumUp_72 ?_
      refine zr_iload_n C dyX9_sumUp_75 rfl 0 rfl ?_
      refine zv_9_74 C hS (zIsRow.of hS zir_25) (st := [.ref (B + 60)]) h ⟨Nat.le_of_ble_eq_true rfl, Nat.le_of_ble_eq_true rfl⟩ (Nat.le_of_ble_eq_true rfl) dyX9_sumUp_76 (fun r_11 h => ?_)
      refine zr_iconst C dyX9_sumUp_79 zc_i_1 ?_
      refine zv_9_107 C hS (zIsRow.of hS zir_60) (st := []) h ⟨Nat.le_of_ble_eq_true rfl, Nat.le_of_ble_eq_true rfl⟩ (Nat.le_of_ble_eq_true rfl) dyX9_sumUp_80 (fun I_12 h => ?_)
      refine zr_aload_n C dyX9_sumUp_83 rfl 2 rfl ?_
      refine zr_aload_n C dyX9_sumUp_84 rfl 2 rfl ?_
      refine zg_9_101 C hS dyX9_sumUp_85 ?_
      refine zr_aload_n C dyX9_sumUp_88 rfl 2 rfl ?_
      refine zg_9_29 C hS dyX9_sumUp_89 ?_
      refine zr_iload_n C dyX9_sumUp_92 rfl 1 rfl ?_
      refine zv_9_74 C hS (zIsRow.of hS zir_52) (st := [.int (I_12.1 43 14), .ref (B + 43)]) h ⟨Nat.le_of_ble_eq_true rfl, Nat.le_of_ble_eq_true rfl⟩ (Nat.le_of_ble_eq_true rfl) dyX9_sumUp_93 (fun r_13 h => ?_)
      refine zr_mmax C zk_ml_9_113 zk_st_J_max zk_in_Math zk_cd_J_max (Nat.le_of_ble_eq_true rfl) (Nat.le_of_ble_eq_true rfl) (Nat.le_of_ble_eq_true rfl) (Nat.zero_le _) (Nat.zero_le _) dyX9_sumUp_96 ?_
      refine zp_9_101 C hS dyX9_sumUp_99 ?_
      refine zn_mem C (fun I_14 eI_14 => ?_)
      replace h := h I_14 eI_14
      refine zr_aload_n C dyX9_sumUp_102 rfl 2 rfl ?_
      refine zr_aload_n C dyX9_sumUp_103 rfl 2 rfl ?_
      refine zg_9_104 C hS dyX9_sumUp_104 ?_
      refine zr_iload_n C dyX9_sumUp_107 rfl 0 rfl ?_
      refine zr_mmin C zk_ml_9_118 zk_st_J_min zk_in_Math zk_cd_J_min (Nat.le_of_ble_eq_true rfl) (Nat.le_of_ble_eq_true rfl) (Nat.le_of_ble_eq_true rfl) (Nat.zero_le _) (Nat.zero_le _) dyX9_sumUp_108 ?_
      refine zp_9_104 C hS dyX9_sumUp_111 ?_
      refine zn_mem C (fun I_15 eI_15 => ?_)
      replace h := h I_15 eI_15
      refine zn_iinc C (fun v1_16 => [(1, .int v1_16), (2, .int r_7), (0, .ref (B + 43))]) dyX9_sumUp_114 1 rfl zc_i_m1 (Nat.le_of_ble_eq_true rfl) (fun _ => rfl) (fun v1_16 ev1_16 => ?_)
      replace h := h v1_16 ev1_16
      refine zr_goto C dyX9_sumUp_117 (tgt := 28) (by decide) ?_
      refine zr_sub (lv2 := [(1, .int v1_16), (0, .ref (B + 43))]) [0, 2] rfl ?_
      exact h
  exact h
theorem zp_9_121 {p : Program} {l : Launch} {e : Env} {R : Room} {s : State} {m : MethodId} {args : Array Value} {below : List Frame} {meth : Method} {c : Code} {Q : State → Prop} {D : va_G} {B : Nat} {cA : Nat → ClassId} {ad : Nat → Nat} {cc : ByteArray} {nL : Nat} {ret : Option FieldType} {S : List zC} {I : zI} {lv : List (Nat × Value)} {st : List Value} {pc : Nat} (C : zCx p s m args meth c cc nL RX9 ret D B cA ad) (hS : zOkX S) {v : Int32} (hd : decode cc pc = .ok (.putfield 121, 3)) (kk : zX p l e R s m args below meth c Q D B cA nL 0 0 S (zu I 43 11 v) lv st (pc + 3)) : zX p l e R s m args below meth c Q D B cA nL 0 0 S I lv (.int v :: .ref (B + 43) :: st) pc :=
  zr_puti C (ci := 9) (Cn := RX9) (T := TX9) (N := 16) (k := 43) (j := 11) (fs := [some (some 24), some (some 44), some (some 46), some (some 48), some (some 50), some (some 52), some (some 54), some (some 56), some (some 58), some (some 60), some (some 62), none, none, none, none, none]) rfl zin_9 (Nat.le_of_ble_eq_true rfl) rfl (hS _ _ zs_43) rfl tyX9 tyX9_ok nmX9 (ty := .int) zpd_I rfl rfl rfl zk_fl_9_121 hd kk
theorem zg_9_124 {p : Program} {l : Launch} {e : Env} {R : Room} {s : State} {m : MethodId} {args : Array Value} {below : List Frame} {meth : Method} {c : Code} {Q : State → Prop} {D : va_G} {B : Nat} {cA : Nat → ClassId} {ad : Nat → Nat} {cc : ByteArray} {nL : Nat} {ret : Option FieldType} {S : List zC} {I : zI} {lv : List (Nat × Value)} {st : List Value} {pc : Nat} (C : zCx p s m args meth c cc nL RX9 ret D B cA ad) (hS : zOkX S) (hd : decode cc pc = .ok (.getfield 124, 3)) (kk : zX p l e R s m args below meth c Q D B cA nL 0 0 S I lv (.ref (B + 27) :: st) (pc + 3)) : zX p l e R s m args below meth c Q D B cA nL 0 0 S I lv (.ref (B + 24) :: st) pc :=
  zr_getr C (ci := 3) (Cn := RX3) (T := TX3) (N := 10) (k := 24) (j := 1) (fs := [some (some 25), some (some 27), some (some 29), some (some 31), some (some 33), some (some 35), some (some 37), some (some 39), some (some 41), none]) rfl zin_3 (Nat.le_of_ble_eq_true rfl) rfl (hS _ _ zs_24) rfl zk_fl_9_124 hd kk
theorem zg_9_44 {p : Program} {l : Launch} {e : Env} {R : Room} {s : State} {m : MethodId} {args : Array Value} {below : List Frame} {meth : Method} {c : Code} {Q : State → Prop} {D : va_G} {B : Nat} {cA : Nat → ClassId} {ad : Nat → Nat} {cc : ByteArray} {nL : Nat} {ret : Option FieldType} {S : List zC} {I : zI} {lv : List (Nat × Value)} {st : List Value} {pc : Nat} (C : zCx p s m args meth c cc nL RX9 ret D B cA ad) (hS : zOkX S) (hd : decode cc pc = .ok (.getfield 44, 3)) (kk : zX p l e R s m args below meth c Q D B cA nL 0 0 S I lv (.ref (B + 62) :: st) (pc + 3)) : zX p l e R s m args below meth c Q D B cA nL 0 0 S I lv (.ref (B + 43) :: st) pc :=
  zr_getr C (ci := 9) (Cn := RX9) (T := TX9) (N := 16) (k := 43) (j := 10) (fs := [some (some 24), some (some 44), some (some 46), some (some 48), some (some 50), some (some 52), some (some 54), some (some 56), some (some 58), some (some 60), some (some 62), none, none, none, none, none]) rfl zin_9 (Nat.le_of_ble_eq_true rfl) rfl (hS _ _ zs_43) rfl zk_fl_9_44 hd kk
theorem zg_9_121 {p : Program} {l : Launch} {e : Env} {R : Room} {s : State} {m : MethodId} {args : Array Value} {below : List Frame} {meth : Method} {c : Code} {Q : State → Prop} {D : va_G} {B : Nat} {cA : Nat → ClassId} {ad : Nat → Nat} {cc : ByteArray} {nL : Nat} {ret : Option FieldType} {S : List zC} {I : zI} {lv : List (Nat × Value)} {st : List Value} {pc : Nat} (C : zCx p s m args meth c cc nL RX9 ret D B cA ad) (hS : zOkX S) (hd : decode cc pc = .ok (.getfield 121, 3)) (kk : zX p l e R s m args below meth c Q D B cA nL 0 0 S I lv (.int (I.1 43 11) :: st) (pc + 3)) : zX p l e R s m args below meth c Q D B cA nL 0 0 S I lv (.ref (B + 43) :: st) pc :=
  zr_geti C (ci := 9) (Cn := RX9) (T := TX9) (N := 16) (k := 43) (j := 11) (fs := [some (some 24), some (some 44), some (some 46), some (some 48), some (some 50), some (some 52), some (some 54), some (some 56), some (some 58), some (some 60), some (some 62), none, none, none, none, none]) rfl zin_9 (Nat.le_of_ble_eq_true rfl) rfl (hS _ _ zs_43) rfl zk_fl_9_121 hd kk
def w_TreeView_findRuns  (I : zI) (K : zI → Prop) : Prop :=
  ∀ I_1, I_1 = (zu I 43 11 0) → ∀ (P7 : Int32 → zI → Prop), (∀ (v1_2 : Int32) (I_3 : zI), ((if (I_3.1 43 12) ≤ v1_2 then K I_3 else (w_Row_get 44 400 v1_2 I_3 (fun r_4 => w_Row_get 27 3400 r_4 I_3 (fun r_5 => ∀ (P44 : Int32 → Prop), (∀ (t_6 : Int32), (∀ (P71 : zI → Prop), (∀ (I_7 : zI), (∀ (P92 : Int32 → Prop), (∀ (t_8 : Int32), (∀ v1_9, v1_9 = (v1_2 + t_8) → P7 v1_9 I_7) → P92 t_8) → (if t_6 = 0 then P92 1 else (w_Row_get 54 400 v1_2 I_7 (fun r_10 => P92 (if 1 < r_10 then r_10 else 1))))) → P71 I_7) → (if t_6 = 0 then P71 I_3 else (w_Row_set 62 100 (I_3.1 43 11) r_4 I_3 (fun I_12 => ∀ I_13, I_13 = (zu I_12 43 11 ((I_12.1 43 11) + 1)) → P71 I_13)))) → P44 t_6) → (if r_5 = 1 then P44 1 else P44 0)))))) → P7 v1_2 I_3) → P7 0 I_1
theorem dyX9_findRuns_0 : decode cX9_findRuns 0 = .ok (.aload_n 0, 1) := by decide +kernel
theorem dyX9_findRuns_1 : decode cX9_findRuns 1 = .ok (.iconst 0, 1) := by decide +kernel
theorem dyX9_findRuns_2 : decode cX9_findRuns 2 = .ok (.putfield 121, 3) := by decide +kernel
theorem dyX9_findRuns_5 : decode cX9_findRuns 5 = .ok (.iconst 0, 1) := by decide +kernel
theorem dyX9_findRuns_6 : decode cX9_findRuns 6 = .ok (.istore_n 1, 1) := by decide +kernel
theorem dyX9_findRuns_7 : decode cX9_findRuns 7 = .ok (.iload_n 1, 1) := by decide +kernel
theorem dyX9_findRuns_8 : decode cX9_findRuns 8 = .ok (.aload_n 0, 1) := by decide +kernel
theorem dyX9_findRuns_9 : decode cX9_findRuns 9 = .ok (.getfield 67, 3) := by decide +kernel
theorem dyX9_findRuns_12 : decode cX9_findRuns 12 = .ok (.if_icmp .ge 85, 3) := by decide +kernel
theorem dyX9_findRuns_15 : decode cX9_findRuns 15 = .ok (.aload_n 0, 1) := by decide +kernel
theorem dyX9_findRuns_16 : decode cX9_findRuns 16 = .ok (.getfield 14, 3) := by decide +kernel
theorem dyX9_findRuns_19 : decode cX9_findRuns 19 = .ok (.iload_n 1, 1) := by decide +kernel
theorem dyX9_findRuns_20 : decode cX9_findRuns 20 = .ok (.invokevirtual 74, 3) := by decide +kernel
theorem dyX9_findRuns_23 : decode cX9_findRuns 23 = .ok (.istore_n 2, 1) := by decide +kernel
theorem dyX9_findRuns_24 : decode cX9_findRuns 24 = .ok (.aload_n 0, 1) := by decide +kernel
theorem dyX9_findRuns_25 : decode cX9_findRuns 25 = .ok (.getfield 47, 3) := by decide +kernel
theorem dyX9_findRuns_28 : decode cX9_findRuns 28 = .ok (.getfield 124, 3) := by decide +kernel
theorem dyX9_findRuns_31 : decode cX9_findRuns 31 = .ok (.iload_n 2, 1) := by decide +kernel
theorem dyX9_findRuns_32 : decode cX9_findRuns 32 = .ok (.invokevirtual 74, 3) := by decide +kernel
theorem dyX9_findRuns_35 : decode cX9_findRuns 35 = .ok (.iconst 1, 1) := by decide +kernel
theorem dyX9_findRuns_36 : decode cX9_findRuns 36 = .ok (.if_icmp .ne 7, 3) := by decide +kernel
theorem dyX9_findRuns_39 : decode cX9_findRuns 39 = .ok (.iconst 1, 1) := by decide +kernel
theorem dyX9_findRuns_40 : decode cX9_findRuns 40 = .ok (.goto 4, 3) := by decide +kernel
theorem dyX9_findRuns_43 : decode cX9_findRuns 43 = .ok (.iconst 0, 1) := by decide +kernel
theorem dyX9_findRuns_44 : decode cX9_findRuns 44 = .ok (.istore_n 3, 1) := by decide +kernel
theorem dyX9_findRuns_45 : decode cX9_findRuns 45 = .ok (.iload_n 3, 1) := by decide +kernel
theorem dyX9_findRuns_46 : decode cX9_findRuns 46 = .ok (.ifCond .eq 25, 3) := by decide +kernel
theorem dyX9_findRuns_49 : decode cX9_findRuns 49 = .ok (.aload_n 0, 1) := by decide +kernel
theorem dyX9_findRuns_50 : decode cX9_findRuns 50 = .ok (.getfield 44, 3) := by decide +kernel
theorem dyX9_findRuns_53 : decode cX9_findRuns 53 = .ok (.aload_n 0, 1) := by decide +kernel
theorem dyX9_findRuns_54 : decode cX9_findRuns 54 = .ok (.getfield 121, 3) := by decide +kernel
theorem dyX9_findRuns_57 : decode cX9_findRuns 57 = .ok (.iload_n 2, 1) := by decide +kernel
theorem dyX9_findRuns_58 : decode cX9_findRuns 58 = .ok (.invokevirtual 70, 3) := by decide +kernel
theorem dyX9_findRuns_61 : decode cX9_findRuns 61 = .ok (.aload_n 0, 1) := by decide +kernel
theorem dyX9_findRuns_62 : decode cX9_findRuns 62 = .ok (.dup, 1) := by decide +kernel
theorem dyX9_findRuns_63 : decode cX9_findRuns 63 = .ok (.getfield 121, 3) := by decide +kernel
theorem dyX9_findRuns_66 : decode cX9_findRuns 66 = .ok (.iconst 1, 1) := by decide +kernel
theorem dyX9_findRuns_67 : decode cX9_findRuns 67 = .ok (.iadd, 1) := by decide +kernel
theorem dyX9_findRuns_68 : decode cX9_findRuns 68 = .ok (.putfield 121, 3) := by decide +kernel
theorem dyX9_findRuns_71 : decode cX9_findRuns 71 = .ok (.iload_n 1, 1) := by decide +kernel
theorem dyX9_findRuns_72 : decode cX9_findRuns 72 = .ok (.iload_n 3, 1) := by decide +kernel
theorem dyX9_findRuns_73 : decode cX9_findRuns 73 = .ok (.ifCond .eq 18, 3) := by decide +kernel
theorem dyX9_findRuns_76 : decode cX9_findRuns 76 = .ok (.iconst 1, 1) := by decide +kernel
theorem dyX9_findRuns_77 : decode cX9_findRuns 77 = .ok (.aload_n 0, 1) := by decide +kernel
theorem dyX9_findRuns_78 : decode cX9_findRuns 78 = .ok (.getfield 32, 3) := by decide +kernel
theorem dyX9_findRuns_81 : decode cX9_findRuns 81 = .ok (.iload_n 1, 1) := by decide +kernel
theorem dyX9_findRuns_82 : decode cX9_findRuns 82 = .ok (.invokevirtual 74, 3) := by decide +kernel
theorem dyX9_findRuns_85 : decode cX9_findRuns 85 = .ok (.invokestatic 113, 3) := by decide +kernel
theorem dyX9_findRuns_88 : decode cX9_findRuns 88 = .ok (.goto 4, 3) := by decide +kernel
theorem dyX9_findRuns_91 : decode cX9_findRuns 91 = .ok (.iconst 1, 1) := by decide +kernel
theorem dyX9_findRuns_92 : decode cX9_findRuns 92 = .ok (.iadd, 1) := by decide +kernel
theorem dyX9_findRuns_93 : decode cX9_findRuns 93 = .ok (.istore_n 1, 1) := by decide +kernel
theorem dyX9_findRuns_94 : decode cX9_findRuns 94 = .ok (.goto (-87), 3) := by decide +kernel
theorem dyX9_findRuns_97 : decode cX9_findRuns 97 = .ok (.return_, 1) := by decide +kernel
theorem zsg_yX9_findRuns : yX9_findRuns.cls = RX9 ∧ yX9_findRuns.cls ≠ "java/lang/invoke/MethodHandle" ∧ yX9_findRuns.cls ≠ "java/lang/invoke/VarHandle" ∧ (parseMethodDescriptor yX9_findRuns.desc).map (fun d => d.parameters.length) = some 0 := by decide +kernel
set_option maxRecDepth 20000 in
theorem c_TreeView_findRuns {l : Launch} {D : va_G} {B : Nat} {cA : Nat → ClassId} {ad : Nat → Nat} {S : List zC} (hS : zOkX S)  {I : zI} {K : zI → Prop}  (h : w_TreeView_findRuns  I K) : Met l yX9_findRuns (zws yX9_findRuns cX9_findRuns 4 none) (zrm 1 22) (zPc D B cA ad [.ref (B + 43)] S I) (zQc D B cA (zqV S K)) 0 0 (fun q => B ≤ q) := by
  refine zm_of (cc := cX9_findRuns) (maxL := 4) (ret := none) (by decide +kernel) rfl (Nat.le_of_ble_eq_true rfl) trivial ?_
  intro p e s m args below meth c C _
  unfold w_TreeView_findRuns at h
  show zX p l e (zrm 1 22) s m args below meth c (MQ below (zQc D B cA (zqV S K)) args s 0 0 (fun q => B ≤ q)) D B cA 4 0 0 S I [(0, .ref (B + 43))] [] 0
  refine zr_aload_n C dyX9_findRuns_0 rfl 0 rfl ?_
  refine zr_iconst C dyX9_findRuns_1 zc_i_0 ?_
  refine zp_9_121 C hS dyX9_findRuns_2 ?_
  refine zn_mem C (fun I_1 eI_1 => ?_)
  replace h := h I_1 eI_1
  refine zr_iconst C dyX9_findRuns_5 zc_i_0 ?_
  refine zr_istore_n C dyX9_findRuns_6 rfl (Nat.le_of_ble_eq_true rfl) (lv2 := [(1, .int 0), (0, .ref (B + 43))]) rfl ?_
  refine zjn (h (fun (v1_2 : Int32) (I_3 : zI) => zX p l e (zrm 1 22) s m args below meth c (MQ below (zQc D B cA (zqV S K)) args s 0 0 (fun q => B ≤ q)) D B cA 4 0 0 S I_3 [(1, .int v1_2), (0, .ref (B + 43))] [] 7) (fun v1_2 I_3 h => ?_)) (fun h => ?_)
  · refine zr_iload_n C dyX9_findRuns_7 rfl 0 rfl ?_
    refine zr_aload_n C dyX9_findRuns_8 rfl 1 rfl ?_
    refine zg_9_67 C hS dyX9_findRuns_9 ?_
    refine zr_icmp_ge C dyX9_findRuns_12 (tgt := 97) (by decide) (fun hc_16 => ?_) (fun hc_16 => ?_)
    · replace h := zif_pos hc_16 h
      exact zr_vret C rfl dyX9_findRuns_97 ⟨rfl, rfl, h⟩
    · replace h := zif_neg hc_16 h
      refine zr_aload_n C dyX9_findRuns_15 rfl 1 rfl ?_
      refine zg_9_14 C hS dyX9_findRuns_16 ?_
      refine zr_iload_n C dyX9_findRuns_19 rfl 0 rfl ?_
      refine zv_9_74 C hS (zIsRow.of hS zir_44) (st := []) h ⟨Nat.le_of_ble_eq_true rfl, Nat.le_of_ble_eq_true rfl⟩ (Nat.le_of_ble_eq_true rfl) dyX9_findRuns_20 (fun r_4 h => ?_)
      refine zr_istore_n C dyX9_findRuns_23 rfl (Nat.le_of_ble_eq_true rfl) (lv2 := [(2, .int r_4), (1, .int v1_2), (0, .ref (B + 43))]) rfl ?_
      refine zr_aload_n C dyX9_findRuns_24 rfl 2 rfl ?_
      refine zg_9_47 C hS dyX9_findRuns_25 ?_
      refine zg_9_124 C hS dyX9_findRuns_28 ?_
      refine zr_iload_n C dyX9_findRuns_31 rfl 0 rfl ?_
      refine zv_9_74 C hS (zIsRow.of hS zir_27) (st := []) h ⟨Nat.le_of_ble_eq_true rfl, Nat.le_of_ble_eq_true rfl⟩ (Nat.le_of_ble_eq_true rfl) dyX9_findRuns_32 (fun r_5 h => ?_)
      refine zr_iconst C dyX9_findRuns_35 zc_i_1 ?_
      refine zjn (h (fun (t_6 : Int32) => zX p l e (zrm 1 22) s m args below meth c (MQ below (zQc D B cA (zqV S K)) args s 0 0 (fun q => B ≤ q)) D B cA 4 0 0 S I_3 [(2, .int r_4), (1, .int v1_2), (0, .ref (B + 43))] [.int t_6] 44) (fun t_6 h => ?_)) (fun h => ?_)
      · refine zr_istore_n C dyX9_findRuns_44 rfl (Nat.le_of_ble_eq_true rfl) (lv2 := [(3, .int t_6), (2, .int r_4), (1, .int v1_2), (0, .ref (B + 43))]) rfl ?_
        refine zr_iload_n C dyX9_findRuns_45 rfl 0 rfl ?_
        refine zjn (h (fun (I_7 : zI) => zX p l e (zrm 1 22) s m args below meth c (MQ below (zQc D B cA (zqV S K)) args s 0 0 (fun q => B ≤ q)) D B cA 4 0 0 S I_7 [(3, .int t_6), (1, .int v1_2), (0, .ref (B + 43))] [] 71) (fun I_7 h => ?_)) (fun h => ?_)
        · refine zr_iload_n C dyX9_findRuns_71 rfl 1 rfl ?_
          refine zr_iload_n C dyX9_findRuns_72 rfl 0 rfl ?_
          refine zjn (h (fun (t_8 : Int32) => zX p l e (zrm 1 22) s m args below meth c (MQ below (zQc D B cA (zqV S K)) args s 0 0 (fun q => B ≤ q)) D B cA 4 0 0 S I_7 [(0, .ref (B + 43))] [.int t_8, .int v1_2] 92) (fun t_8 h => ?_)) (fun h => ?_)
          · refine zr_iadd C dyX9_findRuns_92 ?_
            refine zn_istore_n C (fun v1_9 => [(1, .int v1_9), (0, .ref (B + 43))]) dyX9_findRuns_93 rfl (Nat.le_of_ble_eq_true rfl) (fun _ => rfl) (fun v1_9 ev1_9 => ?_)
            replace h := h v1_9 ev1_9
            refine zr_goto C dyX9_findRuns_94 (tgt := 7) (by decide) ?_
            exact h
          refine zr_if_eq C dyX9_findRuns_73 (tgt := 91) (by decide) (fun hc_11 => ?_) (fun hc_11 => ?_)
          · replace h := zif_pos hc_11 h
            refine zr_iconst C dyX9_findRuns_91 zc_i_1 ?_
            refine zr_sub (lv2 := [(0, .ref (B + 43))]) [2] rfl ?_
            exact h
          · replace h := zif_neg hc_11 h
            refine zr_iconst C dyX9_findRuns_76 zc_i_1 ?_
            refine zr_aload_n C dyX9_findRuns_77 rfl 2 rfl ?_
            refine zg_9_32 C hS dyX9_findRuns_78 ?_
            refine zr_iload_n C dyX9_findRuns_81 rfl 1 rfl ?_
            refine zv_9_74 C hS (zIsRow.of hS zir_54) (st := [.int 1, .int v1_2]) h ⟨Nat.le_of_ble_eq_true rfl, Nat.le_of_ble_eq_true rfl⟩ (Nat.le_of_ble_eq_true rfl) dyX9_findRuns_82 (fun r_10 h => ?_)
            refine zr_mmax C zk_ml_9_113 zk_st_J_max zk_in_Math zk_cd_J_max (Nat.le_of_ble_eq_true rfl) (Nat.le_of_ble_eq_true rfl) (Nat.le_of_ble_eq_true rfl) (Nat.zero_le _) (Nat.zero_le _) dyX9_findRuns_85 ?_
            refine zr_goto C dyX9_findRuns_88 (tgt := 92) (by decide) ?_
            refine zr_sub (lv2 := [(0, .ref (B + 43))]) [2] rfl ?_
            exact h
        refine zr_if_eq C dyX9_findRuns_46 (tgt := 71) (by decide) (fun hc_14 => ?_) (fun hc_14 => ?_)
        · replace h := zif_pos hc_14 h
          refine zr_sub (lv2 := [(3, .int t_6), (1, .int v1_2), (0, .ref (B + 43))]) [0, 2, 3] rfl ?_
          exact h
        · replace h := zif_neg hc_14 h
          refine zr_aload_n C dyX9_findRuns_49 rfl 3 rfl ?_
          refine zg_9_44 C hS dyX9_findRuns_50 ?_
          refine zr_aload_n C dyX9_findRuns_53 rfl 3 rfl ?_
          refine zg_9_121 C hS dyX9_findRuns_54 ?_
          refine zr_iload_n C dyX9_findRuns_57 rfl 1 rfl ?_
          refine zv_9_70 C hS (zIsRow.of hS zir_62) (st := []) h ⟨Nat.le_of_ble_eq_true rfl, Nat.le_of_ble_eq_true rfl⟩ (Nat.le_of_ble_eq_true rfl) dyX9_findRuns_58 (fun I_12 h => ?_)
          refine zr_aload_n C dyX9_findRuns_61 rfl 3 rfl ?_
          refine zr_dup C dyX9_findRuns_62 rfl ?_
          refine zg_9_121 C hS dyX9_findRuns_63 ?_
          refine zr_iconst C dyX9_findRuns_66 zc_i_1 ?_
          refine zr_iadd C dyX9_findRuns_67 ?_
          refine zp_9_121 C hS dyX9_findRuns_68 ?_
          refine zn_mem C (fun I_13 eI_13 => ?_)
          replace h := h I_13 eI_13
          refine zr_sub (lv2 := [(3, .int t_6), (1, .int v1_2), (0, .ref (B + 43))]) [0, 2, 3] rfl ?_
          exact h
      refine zr_icmp_ne C dyX9_findRuns_36 (tgt := 43) (by decide) (fun hc_15 => ?_) (fun hc_15 => ?_)
      · replace h := zif_neg hc_15 h
        refine zr_iconst C dyX9_findRuns_43 zc_i_0 ?_
        exact h
      · replace h := zif_pos hc_15 h
        refine zr_iconst C dyX9_findRuns_39 zc_i_1 ?_
        refine zr_goto C dyX9_findRuns_40 (tgt := 44) (by decide) ?_
        exact h
  exact h
theorem zg_9_51 {p : Program} {l : Launch} {e : Env} {R : Room} {s : State} {m : MethodId} {args : Array Value} {below : List Frame} {meth : Method} {c : Code} {Q : State → Prop} {D : va_G} {B : Nat} {cA : Nat → ClassId} {ad : Nat → Nat} {cc : ByteArray} {nL : Nat} {ret : Option FieldType} {S : List zC} {I : zI} {lv : List (Nat × Value)} {st : List Value} {pc : Nat} (C : zCx p s m args meth c cc nL RX9 ret D B cA ad) {k : Nat} (hk : zIsMoment S k) (hd : decode cc pc = .ok (.getfield 51, 3)) (kk : zX p l e R s m args below meth c Q D B cA nL 0 0 S I lv (.int (I.1 k 7) :: st) (pc + 3)) : zX p l e R s m args below meth c Q D B cA nL 0 0 S I lv (.ref (B + k) :: st) pc :=
  zr_geti C (ci := 2) (Cn := RX2) (T := TX2) (N := 9) (k := k) (j := 7) (fs := [some (some (k + 1)), none, some (some (k + 3)), none, some (some (k + 14)), some (some (k + 16)), none, none, none]) rfl zin_2 (Nat.le_of_ble_eq_true rfl) rfl hk.1 rfl zk_fl_9_51 hd kk
theorem zp_9_57 {p : Program} {l : Launch} {e : Env} {R : Room} {s : State} {m : MethodId} {args : Array Value} {below : List Frame} {meth : Method} {c : Code} {Q : State → Prop} {D : va_G} {B : Nat} {cA : Nat → ClassId} {ad : Nat → Nat} {cc : ByteArray} {nL : Nat} {ret : Option FieldType} {S : List zC} {I : zI} {lv : List (Nat × Value)} {st : List Value} {pc : Nat} (C : zCx p s m args meth c cc nL RX9 ret D B cA ad) (hS : zOkX S) {v : Int32} (hd : decode cc pc = .ok (.putfield 57, 3)) (kk : zX p l e R s m args below meth c Q D B cA nL 0 0 S (zu I 43 13 v) lv st (pc + 3)) : zX p l e R s m args below meth c Q D B cA nL 0 0 S I lv (.int v :: .ref (B + 43) :: st) pc :=
  zr_puti C (ci := 9) (Cn := RX9) (T := TX9) (N := 16) (k := 43) (j := 13) (fs := [some (some 24), some (some 44), some (some 46), some (some 48), some (some 50), some (some 52), some (some 54), some (some 56), some (some 58), some (some 60), some (some 62), none, none, none, none, none]) rfl zin_9 (Nat.le_of_ble_eq_true rfl) rfl (hS _ _ zs_43) rfl tyX9 tyX9_ok nmX9 (ty := .int) zpd_I rfl rfl rfl zk_fl_9_57 hd kk
theorem zv_9_58 {p : Program} {l : Launch} {e : Env} {R : Room} {s : State} {m : MethodId} {args : Array Value} {below : List Frame} {meth : Method} {c : Code} {Q : State → Prop} {D : va_G} {B : Nat} {cA : Nat → ClassId} {ad : Nat → Nat} {cc : ByteArray} {nL : Nat} {ret : Option FieldType} {S : List zC} {I : zI} {lv : List (Nat × Value)} {st : List Value} {pc : Nat} (C : zCx p s m args meth c cc nL RX9 ret D B cA ad) {K : zI → Prop}  (hS : zOkX S)  (h : w_TreeView_layFlat I K) (hR : 2 + 1 ≤ R.frames ∧ 8 + (6 + 11) + (45) ≤ R.locals) (hw : (st.map fun v => v.category).sum ≤ 8) (hd : decode cc pc = .ok (.invokevirtual 58, 3)) (kk : ∀ I2, K I2 → zX p l e R s m args below meth c Q D B cA nL 0 0 S I2 lv st (pc + 3)) : zX p l e R s m args below meth c Q D B cA nL 0 0 S I lv (.ref (B + 43) :: st) pc :=
  have hf : 0 ≤ R.cells ∧ 0 ≤ R.slots := ⟨Nat.zero_le _, Nat.zero_le _⟩
  zc_VqV C (ci := 9) (q := (RX9, TX9, 16)) (k := 43) (fs := [some (some 24), some (some 44), some (some 46), some (some 48), some (some 50), some (some 52), some (some 54), some (some 56), some (some 58), some (some 60), some (some 62), none, none, none, none, none]) (As := []) (st := st) rfl (hS _ _ zs_43) (c_TreeView_layFlat hS h) (zgV zk_ml_9_58 zk_im_yX9_layFlat zk_se_yX9_layFlat zk_in_9 zk_cd_yX9_layFlat) zsg_yX9_layFlat hR rfl rfl hw hd hf kk
theorem zv_9_61 {p : Program} {l : Launch} {e : Env} {R : Room} {s : State} {m : MethodId} {args : Array Value} {below : List Frame} {meth : Method} {c : Code} {Q : State → Prop} {D : va_G} {B : Nat} {cA : Nat → ClassId} {ad : Nat → Nat} {cc : ByteArray} {nL : Nat} {ret : Option FieldType} {S : List zC} {I : zI} {lv : List (Nat × Value)} {st : List Value} {pc : Nat} (C : zCx p s m args meth c cc nL RX9 ret D B cA ad) {K : zI → Prop}  (hS : zOkX S)  (h : w_TreeView_sumUp I K) (hR : 2 + 1 ≤ R.frames ∧ 8 + (3 + 11) + (44) ≤ R.locals) (hw : (st.map fun v => v.category).sum ≤ 8) (hd : decode cc pc = .ok (.invokevirtual 61, 3)) (kk : ∀ I2, K I2 → zX p l e R s m args below meth c Q D B cA nL 0 0 S I2 lv st (pc + 3)) : zX p l e R s m args below meth c Q D B cA nL 0 0 S I lv (.ref (B + 43) :: st) pc :=
  have hf : 0 ≤ R.cells ∧ 0 ≤ R.slots := ⟨Nat.zero_le _, Nat.zero_le _⟩
  zc_VqV C (ci := 9) (q := (RX9, TX9, 16)) (k := 43) (fs := [some (some 24), some (some 44), some (some 46), some (some 48), some (some 50), some (some 52), some (some 54), some (some 56), some (some 58), some (some 60), some (some 62), none, none, none, none, none]) (As := []) (st := st) rfl (hS _ _ zs_43) (c_TreeView_sumUp hS h) (zgV zk_ml_9_61 zk_im_yX9_sumUp zk_se_yX9_sumUp zk_in_9 zk_cd_yX9_sumUp) zsg_yX9_sumUp hR rfl rfl hw hd hf kk
theorem zv_9_64 {p : Program} {l : Launch} {e : Env} {R : Room} {s : State} {m : MethodId} {args : Array Value} {below : List Frame} {meth : Method} {c : Code} {Q : State → Prop} {D : va_G} {B : Nat} {cA : Nat → ClassId} {ad : Nat → Nat} {cc : ByteArray} {nL : Nat} {ret : Option FieldType} {S : List zC} {I : zI} {lv : List (Nat × Value)} {st : List Value} {pc : Nat} (C : zCx p s m args meth c cc nL RX9 ret D B cA ad) {K : zI → Prop}  (hS : zOkX S)  (h : w_TreeView_findRuns I K) (hR : 1 + 1 ≤ R.frames ∧ 8 + (4 + 11) + (22) ≤ R.locals) (hw : (st.map fun v => v.category).sum ≤ 8) (hd : decode cc pc = .ok (.invokevirtual 64, 3)) (kk : ∀ I2, K I2 → zX p l e R s m args below meth c Q D B cA nL 0 0 S I2 lv st (pc + 3)) : zX p l e R s m args below meth c Q D B cA nL 0 0 S I lv (.ref (B + 43) :: st) pc :=
  have hf : 0 ≤ R.cells ∧ 0 ≤ R.slots := ⟨Nat.zero_le _, Nat.zero_le _⟩
  zc_VqV C (ci := 9) (q := (RX9, TX9, 16)) (k := 43) (fs := [some (some 24), some (some 44), some (some 46), some (some 48), some (some 50), some (some 52), some (some 54), some (some 56), some (some 58), some (some 60), some (some 62), none, none, none, none, none]) (As := []) (st := st) rfl (hS _ _ zs_43) (c_TreeView_findRuns hS h) (zgV zk_ml_9_64 zk_im_yX9_findRuns zk_se_yX9_findRuns zk_in_9 zk_cd_yX9_findRuns) zsg_yX9_findRuns hR rfl rfl hw hd hf kk
def w_TreeView_lookAt (a1 : Nat) (I : zI) (K : zI → Prop) : Prop :=
  ∀ I_1, I_1 = (zu I 43 13 (I.1 a1 7)) → w_TreeView_layFlat I_1 (fun I_2 => w_TreeView_sumUp I_2 (fun I_3 => w_TreeView_findRuns I_3 (fun I_4 => K I_4)))
theorem dyX9_lookAt_0 : decode cX9_lookAt 0 = .ok (.aload_n 0, 1) := by decide +kernel
theorem dyX9_lookAt_1 : decode cX9_lookAt 1 = .ok (.aload_n 1, 1) := by decide +kernel
theorem dyX9_lookAt_2 : decode cX9_lookAt 2 = .ok (.getfield 51, 3) := by decide +kernel
theorem dyX9_lookAt_5 : decode cX9_lookAt 5 = .ok (.putfield 57, 3) := by decide +kernel
theorem dyX9_lookAt_8 : decode cX9_lookAt 8 = .ok (.aload_n 0, 1) := by decide +kernel
theorem dyX9_lookAt_9 : decode cX9_lookAt 9 = .ok (.invokevirtual 58, 3) := by decide +kernel
theorem dyX9_lookAt_12 : decode cX9_lookAt 12 = .ok (.aload_n 0, 1) := by decide +kernel
theorem dyX9_lookAt_13 : decode cX9_lookAt 13 = .ok (.invokevirtual 61, 3) := by decide +kernel
theorem dyX9_lookAt_16 : decode cX9_lookAt 16 = .ok (.aload_n 0, 1) := by decide +kernel
theorem dyX9_lookAt_17 : decode cX9_lookAt 17 = .ok (.invokevirtual 64, 3) := by decide +kernel
theorem dyX9_lookAt_20 : decode cX9_lookAt 20 = .ok (.return_, 1) := by decide +kernel
theorem zsg_yX9_lookAt : yX9_lookAt.cls = RX9 ∧ yX9_lookAt.cls ≠ "java/lang/invoke/MethodHandle" ∧ yX9_lookAt.cls ≠ "java/lang/invoke/VarHandle" ∧ (parseMethodDescriptor yX9_lookAt.desc).map (fun d => d.parameters.length) = some 1 := by decide +kernel
set_option maxRecDepth 20000 in
theorem c_TreeView_lookAt {l : Launch} {D : va_G} {B : Nat} {cA : Nat → ClassId} {ad : Nat → Nat} {S : List zC} (hS : zOkX S) {a1 : Nat} {I : zI} {K : zI → Prop} (ha1 : zIsMoment S a1) (h : w_TreeView_lookAt a1 I K) : Met l yX9_lookAt (zws yX9_lookAt cX9_lookAt 2 none) (zrm 3 70) (zPc D B cA ad [.ref (B + 43), .ref (B + a1)] S I) (zQc D B cA (zqV S K)) 0 0 (fun q => B ≤ q) := by
  refine zm_of (cc := cX9_lookAt) (maxL := 2) (ret := none) (by decide +kernel) rfl (Nat.le_of_ble_eq_true rfl) trivial ?_
  intro p e s m args below meth c C _
  unfold w_TreeView_lookAt at h
  show zX p l e (zrm 3 70) s m args below meth c (MQ below (zQc D B cA (zqV S K)) args s 0 0 (fun q => B ≤ q)) D B cA 2 0 0 S I [(0, .ref (B + 43)), (1, .ref (B + a1))] [] 0
  refine zr_aload_n C dyX9_lookAt_0 rfl 0 rfl ?_
  refine zr_aload_n C dyX9_lookAt_1 rfl 1 rfl ?_
  refine zg_9_51 C ha1 dyX9_lookAt_2 ?_
  refine zp_9_57 C hS dyX9_lookAt_5 ?_
  refine zn_mem C (fun I_1 eI_1 => ?_)
  replace h := h I_1 eI_1
  refine zr_aload_n C dyX9_lookAt_8 rfl 0 rfl ?_
  refine zv_9_58 C hS (st := []) h ⟨Nat.le_of_ble_eq_true rfl, Nat.le_of_ble_eq_true rfl⟩ (Nat.le_of_ble_eq_true rfl) dyX9_lookAt_9 (fun I_2 h => ?_)
  refine zr_aload_n C dyX9_lookAt_12 rfl 0 rfl ?_
  refine zv_9_61 C hS (st := []) h ⟨Nat.le_of_ble_eq_true rfl, Nat.le_of_ble_eq_true rfl⟩ (Nat.le_of_ble_eq_true rfl) dyX9_lookAt_13 (fun I_3 h => ?_)
  refine zr_aload_n C dyX9_lookAt_16 rfl 0 rfl ?_
  refine zv_9_64 C hS (st := []) h ⟨Nat.le_of_ble_eq_true rfl, Nat.le_of_ble_eq_true rfl⟩ (Nat.le_of_ble_eq_true rfl) dyX9_lookAt_17 (fun I_4 h => ?_)
  exact zr_vret C rfl dyX9_lookAt_20 ⟨rfl, rfl, h⟩
def w_TreeView_hasRun (a1 : Int32) (I : zI) (K : Int32 → Prop) : Prop :=
  (if a1 < 0 then K 0 else (if (I.1 43 11) ≤ a1 then K 0 else K 1))
theorem dyX9_hasRun_0 : decode cX9_hasRun 0 = .ok (.iload_n 1, 1) := by decide +kernel
theorem dyX9_hasRun_1 : decode cX9_hasRun 1 = .ok (.ifCond .lt 15, 3) := by decide +kernel
theorem dyX9_hasRun_4 : decode cX9_hasRun 4 = .ok (.iload_n 1, 1) := by decide +kernel
theorem dyX9_hasRun_5 : decode cX9_hasRun 5 = .ok (.aload_n 0, 1) := by decide +kernel
theorem dyX9_hasRun_6 : decode cX9_hasRun 6 = .ok (.getfield 121, 3) := by decide +kernel
theorem dyX9_hasRun_9 : decode cX9_hasRun 9 = .ok (.if_icmp .ge 7, 3) := by decide +kernel
theorem dyX9_hasRun_12 : decode cX9_hasRun 12 = .ok (.iconst 1, 1) := by decide +kernel
theorem dyX9_hasRun_13 : decode cX9_hasRun 13 = .ok (.goto 4, 3) := by decide +kernel
theorem dyX9_hasRun_16 : decode cX9_hasRun 16 = .ok (.iconst 0, 1) := by decide +kernel
theorem dyX9_hasRun_17 : decode cX9_hasRun 17 = .ok (.ireturn, 1) := by decide +kernel
theorem zsg_yX9_hasRun : yX9_hasRun.cls = RX9 ∧ yX9_hasRun.cls ≠ "java/lang/invoke/MethodHandle" ∧ yX9_hasRun.cls ≠ "java/lang/invoke/VarHandle" ∧ (parseMethodDescriptor yX9_hasRun.desc).map (fun d => d.parameters.length) = some 1 := by decide +kernel
set_option maxRecDepth 20000 in
theorem c_TreeView_hasRun {l : Launch} {D : va_G} {B : Nat} {cA : Nat → ClassId} {ad : Nat → Nat} {S : List zC} (hS : zOkX S) {a1 : Int32} {I : zI} {K : Int32 → Prop}  (h : w_TreeView_hasRun a1 I K) : Met l yX9_hasRun (zws yX9_hasRun cX9_hasRun 2 (some .boolean)) (zrm 0 0) (zPc D B cA ad [.ref (B + 43), .int a1] S I) (zQc D B cA (zpI S I K)) 0 0 (fun q => B ≤ q) := by
  refine zm_of (cc := cX9_hasRun) (maxL := 2) (ret := (some .boolean)) (by decide +kernel) rfl (Nat.le_of_ble_eq_true rfl) trivial ?_
  intro p e s m args below meth c C _
  unfold w_TreeView_hasRun at h
  show zX p l e (zrm 0 0) s m args below meth c (MQ below (zQc D B cA (zpI S I K)) args s 0 0 (fun q => B ≤ q)) D B cA 2 0 0 S I [(0, .ref (B + 43)), (1, .int a1)] [] 0
  refine zr_iload_n C dyX9_hasRun_0 rfl 1 rfl ?_
  refine zr_if_lt C dyX9_hasRun_1 (tgt := 16) (by decide) (fun hc_2 => ?_) (fun hc_2 => ?_)
  · replace h := zif_pos hc_2 h
    refine zr_iconst C dyX9_hasRun_16 zc_i_0 ?_
    exact zr_zret C rfl (zb.nar zb_0) dyX9_hasRun_17 ⟨rfl, rfl, _, rfl, h⟩
  · replace h := zif_neg hc_2 h
    refine zr_iload_n C dyX9_hasRun_4 rfl 1 rfl ?_
    refine zr_aload_n C dyX9_hasRun_5 rfl 0 rfl ?_
    refine zg_9_121 C hS dyX9_hasRun_6 ?_
    refine zr_icmp_ge C dyX9_hasRun_9 (tgt := 16) (by decide) (fun hc_1 => ?_) (fun hc_1 => ?_)
    · replace h := zif_pos hc_1 h
      refine zr_iconst C dyX9_hasRun_16 zc_i_0 ?_
      exact zr_zret C rfl (zb.nar zb_0) dyX9_hasRun_17 ⟨rfl, rfl, _, rfl, h⟩
    · replace h := zif_neg hc_1 h
      refine zr_iconst C dyX9_hasRun_12 zc_i_1 ?_
      refine zr_goto C dyX9_hasRun_13 (tgt := 17) (by decide) ?_
      exact zr_zret C rfl (zb.nar zb_1) dyX9_hasRun_17 ⟨rfl, rfl, _, rfl, h⟩
def w_TreeView_holdsExpression (a1 : Int32) (I : zI) (K : Int32 → Prop) : Prop :=
  w_TreeView_holds a1 I (fun r_1 => (if r_1 = 0 then K 0 else (w_Row_get 25 3400 a1 I (fun r_2 => (if r_2 < 4 then K 0 else K 1)))))
theorem dyX9_holdsExpression_0 : decode cX9_holdsExpression 0 = .ok (.aload_n 0, 1) := by decide +kernel
theorem dyX9_holdsExpression_1 : decode cX9_holdsExpression 1 = .ok (.iload_n 1, 1) := by decide +kernel
theorem dyX9_holdsExpression_2 : decode cX9_holdsExpression 2 = .ok (.invokevirtual 130, 3) := by decide +kernel
theorem dyX9_holdsExpression_5 : decode cX9_holdsExpression 5 = .ok (.ifCond .eq 22, 3) := by decide +kernel
theorem dyX9_holdsExpression_8 : decode cX9_holdsExpression 8 = .ok (.aload_n 0, 1) := by decide +kernel
theorem dyX9_holdsExpression_9 : decode cX9_holdsExpression 9 = .ok (.getfield 47, 3) := by decide +kernel
theorem dyX9_holdsExpression_12 : decode cX9_holdsExpression 12 = .ok (.getfield 110, 3) := by decide +kernel
theorem dyX9_holdsExpression_15 : decode cX9_holdsExpression 15 = .ok (.iload_n 1, 1) := by decide +kernel
theorem dyX9_holdsExpression_16 : decode cX9_holdsExpression 16 = .ok (.invokevirtual 74, 3) := by decide +kernel
theorem dyX9_holdsExpression_19 : decode cX9_holdsExpression 19 = .ok (.iconst 4, 1) := by decide +kernel
theorem dyX9_holdsExpression_20 : decode cX9_holdsExpression 20 = .ok (.if_icmp .lt 7, 3) := by decide +kernel
theorem dyX9_holdsExpression_23 : decode cX9_holdsExpression 23 = .ok (.iconst 1, 1) := by decide +kernel
theorem dyX9_holdsExpression_24 : decode cX9_holdsExpression 24 = .ok (.goto 4, 3) := by decide +kernel
theorem dyX9_holdsExpression_27 : decode cX9_holdsExpression 27 = .ok (.iconst 0, 1) := by decide +kernel
theorem dyX9_holdsExpression_28 : decode cX9_holdsExpression 28 = .ok (.ireturn, 1) := by decide +kernel
theorem zsg_yX9_holdsExpression : yX9_holdsExpression.cls = RX9 ∧ yX9_holdsExpression.cls ≠ "java/lang/invoke/MethodHandle" ∧ yX9_holdsExpression.cls ≠ "java/lang/invoke/VarHandle" ∧ (parseMethodDescriptor yX9_holdsExpression.desc).map (fun d => d.parameters.length) = some 1 := by decide +kernel
set_option maxRecDepth 20000 in
theorem c_TreeView_holdsExpression {l : Launch} {D : va_G} {B : Nat} {cA : Nat → ClassId} {ad : Nat → Nat} {S : List zC} (hS : zOkX S) {a1 : Int32} {I : zI} {K : Int32 → Prop}  (h : w_TreeView_holdsExpression a1 I K) : Met l yX9_holdsExpression (zws yX9_holdsExpression cX9_holdsExpression 2 (some .boolean)) (zrm 2 43) (zPc D B cA ad [.ref (B + 43), .int a1] S I) (zQc D B cA (zpI S I K)) 0 0 (fun q => B ≤ q) := by
  refine zm_of (cc := cX9_holdsExpression) (maxL := 2) (ret := (some .boolean)) (by decide +kernel) rfl (Nat.le_of_ble_eq_true rfl) trivial ?_
  intro p e s m args below meth c C _
  unfold w_TreeView_holdsExpression at h
  show zX p l e (zrm 2 43) s m args below meth c (MQ below (zQc D B cA (zpI S I K)) args s 0 0 (fun q => B ≤ q)) D B cA 2 0 0 S I [(0, .ref (B + 43)), (1, .int a1)] [] 0
  refine zr_aload_n C dyX9_holdsExpression_0 rfl 0 rfl ?_
  refine zr_iload_n C dyX9_holdsExpression_1 rfl 1 rfl ?_
  refine zv_9_130 C hS (st := []) h ⟨Nat.le_of_ble_eq_true rfl, Nat.le_of_ble_eq_true rfl⟩ (Nat.le_of_ble_eq_true rfl) dyX9_holdsExpression_2 (fun r_1 h => ?_)
  refine zr_if_eq C dyX9_holdsExpression_5 (tgt := 27) (by decide) (fun hc_4 => ?_) (fun hc_4 => ?_)
  · replace h := zif_pos hc_4 h
    refine zr_iconst C dyX9_holdsExpression_27 zc_i_0 ?_
    exact zr_zret C rfl (zb.nar zb_0) dyX9_holdsExpression_28 ⟨rfl, rfl, _, rfl, h⟩
  · replace h := zif_neg hc_4 h
    refine zr_aload_n C dyX9_holdsExpression_8 rfl 0 rfl ?_
    refine zg_9_47 C hS dyX9_holdsExpression_9 ?_
    refine zg_9_110 C hS dyX9_holdsExpression_12 ?_
    refine zr_iload_n C dyX9_holdsExpression_15 rfl 1 rfl ?_
    refine zv_9_74 C hS (zIsRow.of hS zir_25) (st := []) h ⟨Nat.le_of_ble_eq_true rfl, Nat.le_of_ble_eq_true rfl⟩ (Nat.le_of_ble_eq_true rfl) dyX9_holdsExpression_16 (fun r_2 h => ?_)
    refine zr_iconst C dyX9_holdsExpression_19 zc_i_4 ?_
    refine zr_icmp_lt C dyX9_holdsExpression_20 (tgt := 27) (by decide) (fun hc_3 => ?_) (fun hc_3 => ?_)
    · replace h := zif_pos hc_3 h
      refine zr_iconst C dyX9_holdsExpression_27 zc_i_0 ?_
      exact zr_zret C rfl (zb.nar zb_0) dyX9_holdsExpression_28 ⟨rfl, rfl, _, rfl, h⟩
    · replace h := zif_neg hc_3 h
      refine zr_iconst C dyX9_holdsExpression_23 zc_i_1 ?_
      refine zr_goto C dyX9_holdsExpression_24 (tgt := 28) (by decide) ?_
      exact zr_zret C rfl (zb.nar zb_1) dyX9_holdsExpression_28 ⟨rfl, rfl, _, rfl, h⟩
def w_TreeView_placeBehind (a1 : Int32) (I : zI) (K : Int32 → Prop) : Prop :=
  w_Row_get 46 3400 a1 I (fun r_1 => w_Row_get 54 400 r_1 I (fun r_2 => K (r_1 + r_2)))
theorem dyX9_placeBehind_0 : decode cX9_placeBehind 0 = .ok (.aload_n 0, 1) := by decide +kernel
theorem dyX9_placeBehind_1 : decode cX9_placeBehind 1 = .ok (.getfield 20, 3) := by decide +kernel
theorem dyX9_placeBehind_4 : decode cX9_placeBehind 4 = .ok (.iload_n 1, 1) := by decide +kernel
theorem dyX9_placeBehind_5 : decode cX9_placeBehind 5 = .ok (.invokevirtual 74, 3) := by decide +kernel
theorem dyX9_placeBehind_8 : decode cX9_placeBehind 8 = .ok (.istore_n 2, 1) := by decide +kernel
theorem dyX9_placeBehind_9 : decode cX9_placeBehind 9 = .ok (.iload_n 2, 1) := by decide +kernel
theorem dyX9_placeBehind_10 : decode cX9_placeBehind 10 = .ok (.aload_n 0, 1) := by decide +kernel
theorem dyX9_placeBehind_11 : decode cX9_placeBehind 11 = .ok (.getfield 32, 3) := by decide +kernel
theorem dyX9_placeBehind_14 : decode cX9_placeBehind 14 = .ok (.iload_n 2, 1) := by decide +kernel
theorem dyX9_placeBehind_15 : decode cX9_placeBehind 15 = .ok (.invokevirtual 74, 3) := by decide +kernel
theorem dyX9_placeBehind_18 : decode cX9_placeBehind 18 = .ok (.iadd, 1) := by decide +kernel
theorem dyX9_placeBehind_19 : decode cX9_placeBehind 19 = .ok (.ireturn, 1) := by decide +kernel
theorem zsg_yX9_placeBehind : yX9_placeBehind.cls = RX9 ∧ yX9_placeBehind.cls ≠ "java/lang/invoke/MethodHandle" ∧ yX9_placeBehind.cls ≠ "java/lang/invoke/VarHandle" ∧ (parseMethodDescriptor yX9_placeBehind.desc).map (fun d => d.parameters.length) = some 1 := by decide +kernel
set_option maxRecDepth 20000 in
theorem c_TreeView_placeBehind {l : Launch} {D : va_G} {B : Nat} {cA : Nat → ClassId} {ad : Nat → Nat} {S : List zC} (hS : zOkX S) {a1 : Int32} {I : zI} {K : Int32 → Prop}  (h : w_TreeView_placeBehind a1 I K) : Met l yX9_placeBehind (zws yX9_placeBehind cX9_placeBehind 3 (some .int)) (zrm 1 21) (zPc D B cA ad [.ref (B + 43), .int a1] S I) (zQc D B cA (zpI S I K)) 0 0 (fun q => B ≤ q) := by
  refine zm_of (cc := cX9_placeBehind) (maxL := 3) (ret := (some .int)) (by decide +kernel) rfl (Nat.le_of_ble_eq_true rfl) trivial ?_
  intro p e s m args below meth c C _
  unfold w_TreeView_placeBehind at h
  show zX p l e (zrm 1 21) s m args below meth c (MQ below (zQc D B cA (zpI S I K)) args s 0 0 (fun q => B ≤ q)) D B cA 3 0 0 S I [(0, .ref (B + 43)), (1, .int a1)] [] 0
  refine zr_aload_n C dyX9_placeBehind_0 rfl 0 rfl ?_
  refine zg_9_20 C hS dyX9_placeBehind_1 ?_
  refine zr_iload_n C dyX9_placeBehind_4 rfl 1 rfl ?_
  refine zv_9_74 C hS (zIsRow.of hS zir_46) (st := []) h ⟨Nat.le_of_ble_eq_true rfl, Nat.le_of_ble_eq_true rfl⟩ (Nat.le_of_ble_eq_true rfl) dyX9_placeBehind_5 (fun r_1 h => ?_)
  refine zr_istore_n C dyX9_placeBehind_8 rfl (Nat.le_of_ble_eq_true rfl) (lv2 := [(2, .int r_1), (0, .ref (B + 43)), (1, .int a1)]) rfl ?_
  refine zr_iload_n C dyX9_placeBehind_9 rfl 0 rfl ?_
  refine zr_aload_n C dyX9_placeBehind_10 rfl 1 rfl ?_
  refine zg_9_32 C hS dyX9_placeBehind_11 ?_
  refine zr_iload_n C dyX9_placeBehind_14 rfl 0 rfl ?_
  refine zv_9_74 C hS (zIsRow.of hS zir_54) (st := [.int r_1]) h ⟨Nat.le_of_ble_eq_true rfl, Nat.le_of_ble_eq_true rfl⟩ (Nat.le_of_ble_eq_true rfl) dyX9_placeBehind_15 (fun r_2 h => ?_)
  refine zr_iadd C dyX9_placeBehind_18 ?_
  exact zr_iret C rfl dyX9_placeBehind_19 ⟨rfl, rfl, _, rfl, h⟩
def w_TreeView_ruledSize  (I : zI) (K : Int32 → Prop) : Prop :=
  ∀ (P4 : Int32 → Int32 → Prop), (∀ (v1_1 : Int32) (v2_2 : Int32), ((if 11 ≤ v2_2 then K v1_1 else (w_Row_get 60 11 v2_2 I (fun r_3 => ∀ v1_4, v1_4 = (v1_1 + r_3) → ∀ v2_5, v2_5 = (v2_2 + 1) → P4 v1_4 v2_5)))) → P4 v1_1 v2_2) → P4 0 0
theorem dyX9_ruledSize_0 : decode cX9_ruledSize 0 = .ok (.iconst 0, 1) := by decide +kernel
theorem dyX9_ruledSize_1 : decode cX9_ruledSize 1 = .ok (.istore_n 1, 1) := by decide +kernel
theorem dyX9_ruledSize_2 : decode cX9_ruledSize 2 = .ok (.iconst 0, 1) := by decide +kernel
theorem dyX9_ruledSize_3 : decode cX9_ruledSize 3 = .ok (.istore_n 2, 1) := by decide +kernel
theorem dyX9_ruledSize_4 : decode cX9_ruledSize 4 = .ok (.iload_n 2, 1) := by decide +kernel
theorem dyX9_ruledSize_5 : decode cX9_ruledSize 5 = .ok (.bipush 11, 2) := by decide +kernel
theorem dyX9_ruledSize_7 : decode cX9_ruledSize 7 = .ok (.if_icmp .ge 20, 3) := by decide +kernel
theorem dyX9_ruledSize_10 : decode cX9_ruledSize 10 = .ok (.iload_n 1, 1) := by decide +kernel
theorem dyX9_ruledSize_11 : decode cX9_ruledSize 11 = .ok (.aload_n 0, 1) := by decide +kernel
theorem dyX9_ruledSize_12 : decode cX9_ruledSize 12 = .ok (.getfield 41, 3) := by decide +kernel
theorem dyX9_ruledSize_15 : decode cX9_ruledSize 15 = .ok (.iload_n 2, 1) := by decide +kernel
theorem dyX9_ruledSize_16 : decode cX9_ruledSize 16 = .ok (.invokevirtual 74, 3) := by decide +kernel
theorem dyX9_ruledSize_19 : decode cX9_ruledSize 19 = .ok (.iadd, 1) := by decide +kernel
theorem dyX9_ruledSize_20 : decode cX9_ruledSize 20 = .ok (.istore_n 1, 1) := by decide +kernel
theorem dyX9_ruledSize_21 : decode cX9_ruledSize 21 = .ok (.iinc 2 1, 3) := by decide +kernel
theorem dyX9_ruledSize_24 : decode cX9_ruledSize 24 = .ok (.goto (-20), 3) := by decide +kernel
theorem dyX9_ruledSize_27 : decode cX9_ruledSize 27 = .ok (.iload_n 1, 1) := by decide +kernel
theorem dyX9_ruledSize_28 : decode cX9_ruledSize 28 = .ok (.ireturn, 1) := by decide +kernel
theorem zsg_yX9_ruledSize : yX9_ruledSize.cls = RX9 ∧ yX9_ruledSize.cls ≠ "java/lang/invoke/MethodHandle" ∧ yX9_ruledSize.cls ≠ "java/lang/invoke/VarHandle" ∧ (parseMethodDescriptor yX9_ruledSize.desc).map (fun d => d.parameters.length) = some 0 := by decide +kernel
set_option maxRecDepth 20000 in
theorem c_TreeView_ruledSize {l : Launch} {D : va_G} {B : Nat} {cA : Nat → ClassId} {ad : Nat → Nat} {S : List zC} (hS : zOkX S)  {I : zI} {K : Int32 → Prop}  (h : w_TreeView_ruledSize  I K) : Met l yX9_ruledSize (zws yX9_ruledSize cX9_ruledSize 3 (some .int)) (zrm 1 21) (zPc D B cA ad [.ref (B + 43)] S I) (zQc D B cA (zpI S I K)) 0 0 (fun q => B ≤ q) := by
  refine zm_of (cc := cX9_ruledSize) (maxL := 3) (ret := (some .int)) (by decide +kernel) rfl (Nat.le_of_ble_eq_true rfl) trivial ?_
  intro p e s m args below meth c C _
  unfold w_TreeView_ruledSize at h
  show zX p l e (zrm 1 21) s m args below meth c (MQ below (zQc D B cA (zpI S I K)) args s 0 0 (fun q => B ≤ q)) D B cA 3 0 0 S I [(0, .ref (B + 43))] [] 0
  refine zr_iconst C dyX9_ruledSize_0 zc_i_0 ?_
  refine zr_istore_n C dyX9_ruledSize_1 rfl (Nat.le_of_ble_eq_true rfl) (lv2 := [(1, .int 0), (0, .ref (B + 43))]) rfl ?_
  refine zr_iconst C dyX9_ruledSize_2 zc_i_0 ?_
  refine zr_istore_n C dyX9_ruledSize_3 rfl (Nat.le_of_ble_eq_true rfl) (lv2 := [(2, .int 0), (1, .int 0), (0, .ref (B + 43))]) rfl ?_
  refine zjn (h (fun (v1_1 : Int32) (v2_2 : Int32) => zX p l e (zrm 1 21) s m args below meth c (MQ below (zQc D B cA (zpI S I K)) args s 0 0 (fun q => B ≤ q)) D B cA 3 0 0 S I [(2, .int v2_2), (1, .int v1_1), (0, .ref (B + 43))] [] 4) (fun v1_1 v2_2 h => ?_)) (fun h => ?_)
  · refine zr_iload_n C dyX9_ruledSize_4 rfl 0 rfl ?_
    refine zr_bipush C dyX9_ruledSize_5 zc_b_11 ?_
    refine zr_icmp_ge C dyX9_ruledSize_7 (tgt := 27) (by decide) (fun hc_6 => ?_) (fun hc_6 => ?_)
    · replace h := zif_pos hc_6 h
      refine zr_iload_n C dyX9_ruledSize_27 rfl 1 rfl ?_
      exact zr_iret C rfl dyX9_ruledSize_28 ⟨rfl, rfl, _, rfl, h⟩
    · replace h := zif_neg hc_6 h
      refine zr_iload_n C dyX9_ruledSize_10 rfl 1 rfl ?_
      refine zr_aload_n C dyX9_ruledSize_11 rfl 2 rfl ?_
      refine zg_9_41 C hS dyX9_ruledSize_12 ?_
      refine zr_iload_n C dyX9_ruledSize_15 rfl 0 rfl ?_
      refine zv_9_74 C hS (zIsRow.of hS zir_60) (st := [.int v1_1]) h ⟨Nat.le_of_ble_eq_true rfl, Nat.le_of_ble_eq_true rfl⟩ (Nat.le_of_ble_eq_true rfl) dyX9_ruledSize_16 (fun r_3 h => ?_)
      refine zr_iadd C dyX9_ruledSize_19 ?_
      refine zn_istore_n C (fun v1_4 => [(1, .int v1_4), (2, .int v2_2), (0, .ref (B + 43))]) dyX9_ruledSize_20 rfl (Nat.le_of_ble_eq_true rfl) (fun _ => rfl) (fun v1_4 ev1_4 => ?_)
      replace h := h v1_4 ev1_4
      refine zn_iinc C (fun v2_5 => [(2, .int v2_5), (1, .int v1_4), (0, .ref (B + 43))]) dyX9_ruledSize_21 1 rfl zc_i_1 (Nat.le_of_ble_eq_true rfl) (fun _ => rfl) (fun v2_5 ev2_5 => ?_)
      replace h := h v2_5 ev2_5
      refine zr_goto C dyX9_ruledSize_24 (tgt := 4) (by decide) ?_
      exact h
  exact h
theorem zv_9_133 {p : Program} {l : Launch} {e : Env} {R : Room} {s : State} {m : MethodId} {args : Array Value} {below : List Frame} {meth : Method} {c : Code} {Q : State → Prop} {D : va_G} {B : Nat} {cA : Nat → ClassId} {ad : Nat → Nat} {cc : ByteArray} {nL : Nat} {ret : Option FieldType} {S : List zC} {I : zI} {lv : List (Nat × Value)} {st : List Value} {pc : Nat} (C : zCx p s m args meth c cc nL RX9 ret D B cA ad) {K : Int32 → Prop} {xa1 : Int32} (hS : zOkX S)  (h : w_TreeView_parentOf xa1 I K) (hR : 2 + 1 ≤ R.frames ∧ 8 + (2 + 11) + (43) ≤ R.locals) (hw : (st.map fun v => v.category).sum ≤ 8) (hd : decode cc pc = .ok (.invokevirtual 133, 3)) (kk : ∀ v, K v → zX p l e R s m args below meth c Q D B cA nL 0 0 S I lv (.int v :: st) (pc + 3)) : zX p l e R s m args below meth c Q D B cA nL 0 0 S I lv (.int xa1 :: .ref (B + 43) :: st) pc :=
  have hf : 0 ≤ R.cells ∧ 0 ≤ R.slots := ⟨Nat.zero_le _, Nat.zero_le _⟩
  zc_VpI C (ci := 9) (q := (RX9, TX9, 16)) (k := 43) (fs := [some (some 24), some (some 44), some (some 46), some (some 48), some (some 50), some (some 52), some (some 54), some (some 56), some (some 58), some (some 60), some (some 62), none, none, none, none, none]) (As := [.int xa1]) (st := st) rfl (hS _ _ zs_43) (c_TreeView_parentOf hS h) (zgV zk_ml_9_133 zk_im_yX9_parentOf zk_se_yX9_parentOf zk_in_9 zk_cd_yX9_parentOf) zsg_yX9_parentOf hR rfl rfl hw hd hf kk
def w_TreeView_sibling (a1 : Int32) (a2 : Int32) (I : zI) (K : Int32 → Prop) : Prop :=
  w_TreeView_parentOf a1 I (fun r_1 => (if 0 ≤ r_1 then (w_Nodes_childrenOf r_1 I (fun r_2 => ∀ (P26 : Int32 → Prop), (∀ (v5_3 : Int32), ((if r_2 ≤ v5_3 then (K (-2)) else (∀ v6_4, v6_4 = (v5_3 + a2) → w_Nodes_childOf r_1 v5_3 I (fun r_5 => ∀ (P76 : Prop), ((∀ v5_6, v5_6 = (v5_3 + 1) → P26 v5_6) → P76) → (if r_5 = a1 then (if v6_4 < 0 then P76 else (if r_2 ≤ v6_4 then P76 else (w_Nodes_childOf r_1 v6_4 I (fun r_7 => K r_7)))) else P76))))) → P26 v5_3) → P26 0)) else (K (-2))))
theorem dyX9_sibling_0 : decode cX9_sibling 0 = .ok (.aload_n 0, 1) := by decide +kernel
theorem dyX9_sibling_1 : decode cX9_sibling 1 = .ok (.iload_n 1, 1) := by decide +kernel
theorem dyX9_sibling_2 : decode cX9_sibling 2 = .ok (.invokevirtual 133, 3) := by decide +kernel
theorem dyX9_sibling_5 : decode cX9_sibling 5 = .ok (.istore_n 3, 1) := by decide +kernel
theorem dyX9_sibling_6 : decode cX9_sibling 6 = .ok (.iload_n 3, 1) := by decide +kernel
theorem dyX9_sibling_7 : decode cX9_sibling 7 = .ok (.ifCond .ge 6, 3) := by decide +kernel
theorem dyX9_sibling_10 : decode cX9_sibling 10 = .ok (.bipush (-2), 2) := by decide +kernel
theorem dyX9_sibling_12 : decode cX9_sibling 12 = .ok (.ireturn, 1) := by decide +kernel
theorem dyX9_sibling_13 : decode cX9_sibling 13 = .ok (.aload_n 0, 1) := by decide +kernel
theorem dyX9_sibling_14 : decode cX9_sibling 14 = .ok (.getfield 47, 3) := by decide +kernel
theorem dyX9_sibling_17 : decode cX9_sibling 17 = .ok (.iload_n 3, 1) := by decide +kernel
theorem dyX9_sibling_18 : decode cX9_sibling 18 = .ok (.invokevirtual 88, 3) := by decide +kernel
theorem dyX9_sibling_21 : decode cX9_sibling 21 = .ok (.istore 4, 2) := by decide +kernel
theorem dyX9_sibling_23 : decode cX9_sibling 23 = .ok (.iconst 0, 1) := by decide +kernel
theorem dyX9_sibling_24 : decode cX9_sibling 24 = .ok (.istore 5, 2) := by decide +kernel
theorem dyX9_sibling_26 : decode cX9_sibling 26 = .ok (.iload 5, 2) := by decide +kernel
theorem dyX9_sibling_28 : decode cX9_sibling 28 = .ok (.iload 4, 2) := by decide +kernel
theorem dyX9_sibling_30 : decode cX9_sibling 30 = .ok (.if_icmp .ge 52, 3) := by decide +kernel
theorem dyX9_sibling_33 : decode cX9_sibling 33 = .ok (.iload 5, 2) := by decide +kernel
theorem dyX9_sibling_35 : decode cX9_sibling 35 = .ok (.iload_n 2, 1) := by decide +kernel
theorem dyX9_sibling_36 : decode cX9_sibling 36 = .ok (.iadd, 1) := by decide +kernel
theorem dyX9_sibling_37 : decode cX9_sibling 37 = .ok (.istore 6, 2) := by decide +kernel
theorem dyX9_sibling_39 : decode cX9_sibling 39 = .ok (.aload_n 0, 1) := by decide +kernel
theorem dyX9_sibling_40 : decode cX9_sibling 40 = .ok (.getfield 47, 3) := by decide +kernel
theorem dyX9_sibling_43 : decode cX9_sibling 43 = .ok (.iload_n 3, 1) := by decide +kernel
theorem dyX9_sibling_44 : decode cX9_sibling 44 = .ok (.iload 5, 2) := by decide +kernel
theorem dyX9_sibling_46 : decode cX9_sibling 46 = .ok (.invokevirtual 91, 3) := by decide +kernel
theorem dyX9_sibling_49 : decode cX9_sibling 49 = .ok (.iload_n 1, 1) := by decide +kernel
theorem dyX9_sibling_50 : decode cX9_sibling 50 = .ok (.if_icmp .ne 26, 3) := by decide +kernel
theorem dyX9_sibling_53 : decode cX9_sibling 53 = .ok (.iload 6, 2) := by decide +kernel
theorem dyX9_sibling_55 : decode cX9_sibling 55 = .ok (.ifCond .lt 21, 3) := by decide +kernel
theorem dyX9_sibling_58 : decode cX9_sibling 58 = .ok (.iload 6, 2) := by decide +kernel
theorem dyX9_sibling_60 : decode cX9_sibling 60 = .ok (.iload 4, 2) := by decide +kernel
theorem dyX9_sibling_62 : decode cX9_sibling 62 = .ok (.if_icmp .ge 14, 3) := by decide +kernel
theorem dyX9_sibling_65 : decode cX9_sibling 65 = .ok (.aload_n 0, 1) := by decide +kernel
theorem dyX9_sibling_66 : decode cX9_sibling 66 = .ok (.getfield 47, 3) := by decide +kernel
theorem dyX9_sibling_69 : decode cX9_sibling 69 = .ok (.iload_n 3, 1) := by decide +kernel
theorem dyX9_sibling_70 : decode cX9_sibling 70 = .ok (.iload 6, 2) := by decide +kernel
theorem dyX9_sibling_72 : decode cX9_sibling 72 = .ok (.invokevirtual 91, 3) := by decide +kernel
theorem dyX9_sibling_75 : decode cX9_sibling 75 = .ok (.ireturn, 1) := by decide +kernel
theorem dyX9_sibling_76 : decode cX9_sibling 76 = .ok (.iinc 5 1, 3) := by decide +kernel
theorem dyX9_sibling_79 : decode cX9_sibling 79 = .ok (.goto (-53), 3) := by decide +kernel
theorem dyX9_sibling_82 : decode cX9_sibling 82 = .ok (.bipush (-2), 2) := by decide +kernel
theorem dyX9_sibling_84 : decode cX9_sibling 84 = .ok (.ireturn, 1) := by decide +kernel
theorem zsg_yX9_sibling : yX9_sibling.cls = RX9 ∧ yX9_sibling.cls ≠ "java/lang/invoke/MethodHandle" ∧ yX9_sibling.cls ≠ "java/lang/invoke/VarHandle" ∧ (parseMethodDescriptor yX9_sibling.desc).map (fun d => d.parameters.length) = some 2 := by decide +kernel
set_option maxRecDepth 20000 in
theorem c_TreeView_sibling {l : Launch} {D : va_G} {B : Nat} {cA : Nat → ClassId} {ad : Nat → Nat} {S : List zC} (hS : zOkX S) {a1 : Int32} {a2 : Int32} {I : zI} {K : Int32 → Prop}  (h : w_TreeView_sibling a1 a2 I K) : Met l yX9_sibling (zws yX9_sibling cX9_sibling 7 (some .int)) (zrm 3 64) (zPc D B cA ad [.ref (B + 43), .int a1, .int a2] S I) (zQc D B cA (zpI S I K)) 0 0 (fun q => B ≤ q) := by
  refine zm_of (cc := cX9_sibling) (maxL := 7) (ret := (some .int)) (by decide +kernel) rfl (Nat.le_of_ble_eq_true rfl) trivial ?_
  intro p e s m args below meth c C _
  unfold w_TreeView_sibling at h
  show zX p l e (zrm 3 64) s m args below meth c (MQ below (zQc D B cA (zpI S I K)) args s 0 0 (fun q => B ≤ q)) D B cA 7 0 0 S I [(0, .ref (B + 43)), (1, .int a1), (2, .int a2)] [] 0
  refine zr_aload_n C dyX9_sibling_0 rfl 0 rfl ?_
  refine zr_iload_n C dyX9_sibling_1 rfl 1 rfl ?_
  refine zv_9_133 C hS (st := []) h ⟨Nat.le_of_ble_eq_true rfl, Nat.le_of_ble_eq_true rfl⟩ (Nat.le_of_ble_eq_true rfl) dyX9_sibling_2 (fun r_1 h => ?_)
  refine zr_istore_n C dyX9_sibling_5 rfl (Nat.le_of_ble_eq_true rfl) (lv2 := [(3, .int r_1), (0, .ref (B + 43)), (1, .int a1), (2, .int a2)]) rfl ?_
  refine zr_iload_n C dyX9_sibling_6 rfl 0 rfl ?_
  refine zr_if_ge C dyX9_sibling_7 (tgt := 13) (by decide) (fun hc_12 => ?_) (fun hc_12 => ?_)
  · replace h := zif_pos hc_12 h
    refine zr_aload_n C dyX9_sibling_13 rfl 1 rfl ?_
    refine zg_9_47 C hS dyX9_sibling_14 ?_
    refine zr_iload_n C dyX9_sibling_17 rfl 0 rfl ?_
    refine zv_9_88 C hS (st := []) h ⟨Nat.le_of_ble_eq_true rfl, Nat.le_of_ble_eq_true rfl⟩ (Nat.le_of_ble_eq_true rfl) dyX9_sibling_18 (fun r_2 h => ?_)
    refine zr_istore C dyX9_sibling_21 (Nat.le_of_ble_eq_true rfl) (lv2 := [(4, .int r_2), (3, .int r_1), (0, .ref (B + 43)), (1, .int a1), (2, .int a2)]) rfl ?_
    refine zr_iconst C dyX9_sibling_23 zc_i_0 ?_
    refine zr_istore C dyX9_sibling_24 (Nat.le_of_ble_eq_true rfl) (lv2 := [(5, .int 0), (4, .int r_2), (3, .int r_1), (0, .ref (B + 43)), (1, .int a1), (2, .int a2)]) rfl ?_
    refine zjn (h (fun (v5_3 : Int32) => zX p l e (zrm 3 64) s m args below meth c (MQ below (zQc D B cA (zpI S I K)) args s 0 0 (fun q => B ≤ q)) D B cA 7 0 0 S I [(5, .int v5_3), (4, .int r_2), (3, .int r_1), (0, .ref (B + 43)), (1, .int a1), (2, .int a2)] [] 26) (fun v5_3 h => ?_)) (fun h => ?_)
    · refine zr_iload C dyX9_sibling_26 0 rfl ?_
      refine zr_iload C dyX9_sibling_28 1 rfl ?_
      refine zr_icmp_ge C dyX9_sibling_30 (tgt := 82) (by decide) (fun hc_11 => ?_) (fun hc_11 => ?_)
      · replace h := zif_pos hc_11 h
        refine zr_bipush C dyX9_sibling_82 zc_b_m2 ?_
        exact zr_iret C rfl dyX9_sibling_84 ⟨rfl, rfl, _, rfl, h⟩
      · replace h := zif_neg hc_11 h
        refine zr_iload C dyX9_sibling_33 0 rfl ?_
        refine zr_iload_n C dyX9_sibling_35 rfl 5 rfl ?_
        refine zr_iadd C dyX9_sibling_36 ?_
        refine zn_istore C (fun v6_4 => [(6, .int v6_4), (5, .int v5_3), (4, .int r_2), (3, .int r_1), (0, .ref (B + 43)), (1, .int a1), (2, .int a2)]) dyX9_sibling_37 (Nat.le_of_ble_eq_true rfl) (fun _ => rfl) (fun v6_4 ev6_4 => ?_)
        replace h := h v6_4 ev6_4
        refine zr_aload_n C dyX9_sibling_39 rfl 4 rfl ?_
        refine zg_9_47 C hS dyX9_sibling_40 ?_
        refine zr_iload_n C dyX9_sibling_43 rfl 3 rfl ?_
        refine zr_iload C dyX9_sibling_44 1 rfl ?_
        refine zv_9_91 C hS (st := []) h ⟨Nat.le_of_ble_eq_true rfl, Nat.le_of_ble_eq_true rfl⟩ (Nat.le_of_ble_eq_true rfl) dyX9_sibling_46 (fun r_5 h => ?_)
        refine zr_iload_n C dyX9_sibling_49 rfl 5 rfl ?_
        refine zjn (h (zX p l e (zrm 3 64) s m args below meth c (MQ below (zQc D B cA (zpI S I K)) args s 0 0 (fun q => B ≤ q)) D B cA 7 0 0 S I [(5, .int v5_3), (4, .int r_2), (3, .int r_1), (0, .ref (B + 43)), (1, .int a1), (2, .int a2)] [] 76) (fun  h => ?_)) (fun h => ?_)
        · refine zn_iinc C (fun v5_6 => [(5, .int v5_6), (4, .int r_2), (3, .int r_1), (0, .ref (B + 43)), (1, .int a1), (2, .int a2)]) dyX9_sibling_76 0 rfl zc_i_1 (Nat.le_of_ble_eq_true rfl) (fun _ => rfl) (fun v5_6 ev5_6 => ?_)
          replace h := h v5_6 ev5_6
          refine zr_goto C dyX9_sibling_79 (tgt := 26) (by decide) ?_
          exact h
        refine zr_icmp_ne C dyX9_sibling_50 (tgt := 76) (by decide) (fun hc_10 => ?_) (fun hc_10 => ?_)
        · replace h := zif_neg hc_10 h
          refine zr_sub (lv2 := [(5, .int v5_3), (4, .int r_2), (3, .int r_1), (0, .ref (B + 43)), (1, .int a1), (2, .int a2)]) [1, 2, 3, 4, 5, 6] rfl ?_
          exact h
        · replace h := zif_pos hc_10 h
          refine zr_iload C dyX9_sibling_53 0 rfl ?_
          refine zr_if_lt C dyX9_sibling_55 (tgt := 76) (by decide) (fun hc_9 => ?_) (fun hc_9 => ?_)
          · replace h := zif_pos hc_9 h
            refine zr_sub (lv2 := [(5, .int v5_3), (4, .int r_2), (3, .int r_1), (0, .ref (B + 43)), (1, .int a1), (2, .int a2)]) [1, 2, 3, 4, 5, 6] rfl ?_
            exact h
          · replace h := zif_neg hc_9 h
            refine zr_iload C dyX9_sibling_58 0 rfl ?_
            refine zr_iload C dyX9_sibling_60 2 rfl ?_
            refine zr_icmp_ge C dyX9_sibling_62 (tgt := 76) (by decide) (fun hc_8 => ?_) (fun hc_8 => ?_)
            · replace h := zif_pos hc_8 h
              refine zr_sub (lv2 := [(5, .int v5_3), (4, .int r_2), (3, .int r_1), (0, .ref (B + 43)), (1, .int a1), (2, .int a2)]) [1, 2, 3, 4, 5, 6] rfl ?_
              exact h
            · replace h := zif_neg hc_8 h
              refine zr_aload_n C dyX9_sibling_65 rfl 4 rfl ?_
              refine zg_9_47 C hS dyX9_sibling_66 ?_
              refine zr_iload_n C dyX9_sibling_69 rfl 3 rfl ?_
              refine zr_iload C dyX9_sibling_70 0 rfl ?_
              refine zv_9_91 C hS (st := []) h ⟨Nat.le_of_ble_eq_true rfl, Nat.le_of_ble_eq_true rfl⟩ (Nat.le_of_ble_eq_true rfl) dyX9_sibling_72 (fun r_7 h => ?_)
              exact zr_iret C rfl dyX9_sibling_75 ⟨rfl, rfl, _, rfl, h⟩
    exact h
  · replace h := zif_neg hc_12 h
    refine zr_bipush C dyX9_sibling_10 zc_b_m2 ?_
    exact zr_iret C rfl dyX9_sibling_12 ⟨rfl, rfl, _, rfl, h⟩
def w_TreeView_lowestOfRule (a1 : Int32) (a2 : Int32) (I : zI) (K : Int32 → Prop) : Prop :=
  w_TreeView_parentOf a1 I (fun r_1 => ∀ (P9 : Int32 → Int32 → Prop), (∀ (v3_2 : Int32) (v4_3 : Int32), ((if 400 ≤ v4_3 then (K (-2)) else (if v3_2 < 0 then (K (-2)) else (w_Row_get 25 3400 v3_2 I (fun r_4 => (if r_4 = a2 then K v3_2 else (w_TreeView_parentOf v3_2 I (fun r_5 => ∀ v4_6, v4_6 = (v4_3 + 1) → P9 r_5 v4_6)))))))) → P9 v3_2 v4_3) → P9 r_1 0)
theorem dyX9_lowestOfRule_0 : decode cX9_lowestOfRule 0 = .ok (.aload_n 0, 1) := by decide +kernel
theorem dyX9_lowestOfRule_1 : decode cX9_lowestOfRule 1 = .ok (.iload_n 1, 1) := by decide +kernel
theorem dyX9_lowestOfRule_2 : decode cX9_lowestOfRule 2 = .ok (.invokevirtual 133, 3) := by decide +kernel
theorem dyX9_lowestOfRule_5 : decode cX9_lowestOfRule 5 = .ok (.istore_n 3, 1) := by decide +kernel
theorem dyX9_lowestOfRule_6 : decode cX9_lowestOfRule 6 = .ok (.iconst 0, 1) := by decide +kernel
theorem dyX9_lowestOfRule_7 : decode cX9_lowestOfRule 7 = .ok (.istore 4, 2) := by decide +kernel
theorem dyX9_lowestOfRule_9 : decode cX9_lowestOfRule 9 = .ok (.iload 4, 2) := by decide +kernel
theorem dyX9_lowestOfRule_11 : decode cX9_lowestOfRule 11 = .ok (.sipush 400, 3) := by decide +kernel
theorem dyX9_lowestOfRule_14 : decode cX9_lowestOfRule 14 = .ok (.if_icmp .ge 36, 3) := by decide +kernel
theorem dyX9_lowestOfRule_17 : decode cX9_lowestOfRule 17 = .ok (.iload_n 3, 1) := by decide +kernel
theorem dyX9_lowestOfRule_18 : decode cX9_lowestOfRule 18 = .ok (.ifCond .lt 32, 3) := by decide +kernel
theorem dyX9_lowestOfRule_21 : decode cX9_lowestOfRule 21 = .ok (.aload_n 0, 1) := by decide +kernel
theorem dyX9_lowestOfRule_22 : decode cX9_lowestOfRule 22 = .ok (.getfield 47, 3) := by decide +kernel
theorem dyX9_lowestOfRule_25 : decode cX9_lowestOfRule 25 = .ok (.getfield 110, 3) := by decide +kernel
theorem dyX9_lowestOfRule_28 : decode cX9_lowestOfRule 28 = .ok (.iload_n 3, 1) := by decide +kernel
theorem dyX9_lowestOfRule_29 : decode cX9_lowestOfRule 29 = .ok (.invokevirtual 74, 3) := by decide +kernel
theorem dyX9_lowestOfRule_32 : decode cX9_lowestOfRule 32 = .ok (.iload_n 2, 1) := by decide +kernel
theorem dyX9_lowestOfRule_33 : decode cX9_lowestOfRule 33 = .ok (.if_icmp .ne 5, 3) := by decide +kernel
theorem dyX9_lowestOfRule_36 : decode cX9_lowestOfRule 36 = .ok (.iload_n 3, 1) := by decide +kernel
theorem dyX9_lowestOfRule_37 : decode cX9_lowestOfRule 37 = .ok (.ireturn, 1) := by decide +kernel
theorem dyX9_lowestOfRule_38 : decode cX9_lowestOfRule 38 = .ok (.aload_n 0, 1) := by decide +kernel
theorem dyX9_lowestOfRule_39 : decode cX9_lowestOfRule 39 = .ok (.iload_n 3, 1) := by decide +kernel
theorem dyX9_lowestOfRule_40 : decode cX9_lowestOfRule 40 = .ok (.invokevirtual 133, 3) := by decide +kernel
theorem dyX9_lowestOfRule_43 : decode cX9_lowestOfRule 43 = .ok (.istore_n 3, 1) := by decide +kernel
theorem dyX9_lowestOfRule_44 : decode cX9_lowestOfRule 44 = .ok (.iinc 4 1, 3) := by decide +kernel
theorem dyX9_lowestOfRule_47 : decode cX9_lowestOfRule 47 = .ok (.goto (-38), 3) := by decide +kernel
theorem dyX9_lowestOfRule_50 : decode cX9_lowestOfRule 50 = .ok (.bipush (-2), 2) := by decide +kernel
theorem dyX9_lowestOfRule_52 : decode cX9_lowestOfRule 52 = .ok (.ireturn, 1) := by decide +kernel
theorem zsg_yX9_lowestOfRule : yX9_lowestOfRule.cls = RX9 ∧ yX9_lowestOfRule.cls ≠ "java/lang/invoke/MethodHandle" ∧ yX9_lowestOfRule.cls ≠ "java/lang/invoke/VarHandle" ∧ (parseMethodDescriptor yX9_lowestOfRule.desc).map (fun d => d.parameters.length) = some 2 := by decide +kernel
set_option maxRecDepth 20000 in
theorem c_TreeView_lowestOfRule {l : Launch} {D : va_G} {B : Nat} {cA : Nat → ClassId} {ad : Nat → Nat} {S : List zC} (hS : zOkX S) {a1 : Int32} {a2 : Int32} {I : zI} {K : Int32 → Prop}  (h : w_TreeView_lowestOfRule a1 a2 I K) : Met l yX9_lowestOfRule (zws yX9_lowestOfRule cX9_lowestOfRule 5 (some .int)) (zrm 3 64) (zPc D B cA ad [.ref (B + 43), .int a1, .int a2] S I) (zQc D B cA (zpI S I K)) 0 0 (fun q => B ≤ q) := by
  refine zm_of (cc := cX9_lowestOfRule) (maxL := 5) (ret := (some .int)) (by decide +kernel) rfl (Nat.le_of_ble_eq_true rfl) trivial ?_
  intro p e s m args below meth c C _
  unfold w_TreeView_lowestOfRule at h
  show zX p l e (zrm 3 64) s m args below meth c (MQ below (zQc D B cA (zpI S I K)) args s 0 0 (fun q => B ≤ q)) D B cA 5 0 0 S I [(0, .ref (B + 43)), (1, .int a1), (2, .int a2)] [] 0
  refine zr_aload_n C dyX9_lowestOfRule_0 rfl 0 rfl ?_
  refine zr_iload_n C dyX9_lowestOfRule_1 rfl 1 rfl ?_
  refine zv_9_133 C hS (st := []) h ⟨Nat.le_of_ble_eq_true rfl, Nat.le_of_ble_eq_true rfl⟩ (Nat.le_of_ble_eq_true rfl) dyX9_lowestOfRule_2 (fun r_1 h => ?_)
  refine zr_istore_n C dyX9_lowestOfRule_5 rfl (Nat.le_of_ble_eq_true rfl) (lv2 := [(3, .int r_1), (0, .ref (B + 43)), (1, .int a1), (2, .int a2)]) rfl ?_
  refine zr_iconst C dyX9_lowestOfRule_6 zc_i_0 ?_
  refine zr_istore C dyX9_lowestOfRule_7 (Nat.le_of_ble_eq_true rfl) (lv2 := [(4, .int 0), (3, .int r_1), (0, .ref (B + 43)), (1, .int a1), (2, .int a2)]) rfl ?_
  refine zjn (h (fun (v3_2 : Int32) (v4_3 : Int32) => zX p l e (zrm 3 64) s m args below meth c (MQ below (zQc D B cA (zpI S I K)) args s 0 0 (fun q => B ≤ q)) D B cA 5 0 0 S I [(4, .int v4_3), (3, .int v3_2), (0, .ref (B + 43)), (2, .int a2)] [] 9) (fun v3_2 v4_3 h => ?_)) (fun h => ?_)
  · refine zr_iload C dyX9_lowestOfRule_9 0 rfl ?_
    refine zr_sipush C dyX9_lowestOfRule_11 zc_s_400 ?_
    refine zr_icmp_ge C dyX9_lowestOfRule_14 (tgt := 50) (by decide) (fun hc_9 => ?_) (fun hc_9 => ?_)
    · replace h := zif_pos hc_9 h
      refine zr_bipush C dyX9_lowestOfRule_50 zc_b_m2 ?_
      exact zr_iret C rfl dyX9_lowestOfRule_52 ⟨rfl, rfl, _, rfl, h⟩
    · replace h := zif_neg hc_9 h
      refine zr_iload_n C dyX9_lowestOfRule_17 rfl 1 rfl ?_
      refine zr_if_lt C dyX9_lowestOfRule_18 (tgt := 50) (by decide) (fun hc_8 => ?_) (fun hc_8 => ?_)
      · replace h := zif_pos hc_8 h
        refine zr_bipush C dyX9_lowestOfRule_50 zc_b_m2 ?_
        exact zr_iret C rfl dyX9_lowestOfRule_52 ⟨rfl, rfl, _, rfl, h⟩
      · replace h := zif_neg hc_8 h
        refine zr_aload_n C dyX9_lowestOfRule_21 rfl 2 rfl ?_
        refine zg_9_47 C hS dyX9_lowestOfRule_22 ?_
        refine zg_9_110 C hS dyX9_lowestOfRule_25 ?_
        refine zr_iload_n C dyX9_lowestOfRule_28 rfl 1 rfl ?_
        refine zv_9_74 C hS (zIsRow.of hS zir_25) (st := []) h ⟨Nat.le_of_ble_eq_true rfl, Nat.le_of_ble_eq_true rfl⟩ (Nat.le_of_ble_eq_true rfl) dyX9_lowestOfRule_29 (fun r_4 h => ?_)
        refine zr_iload_n C dyX9_lowestOfRule_32 rfl 3 rfl ?_
        refine zr_icmp_ne C dyX9_lowestOfRule_33 (tgt := 38) (by decide) (fun hc_7 => ?_) (fun hc_7 => ?_)
        · replace h := zif_neg hc_7 h
          refine zr_aload_n C dyX9_lowestOfRule_38 rfl 2 rfl ?_
          refine zr_iload_n C dyX9_lowestOfRule_39 rfl 1 rfl ?_
          refine zv_9_133 C hS (st := []) h ⟨Nat.le_of_ble_eq_true rfl, Nat.le_of_ble_eq_true rfl⟩ (Nat.le_of_ble_eq_true rfl) dyX9_lowestOfRule_40 (fun r_5 h => ?_)
          refine zr_istore_n C dyX9_lowestOfRule_43 rfl (Nat.le_of_ble_eq_true rfl) (lv2 := [(3, .int r_5), (4, .int v4_3), (0, .ref (B + 43)), (2, .int a2)]) rfl ?_
          refine zn_iinc C (fun v4_6 => [(4, .int v4_6), (3, .int r_5), (0, .ref (B + 43)), (2, .int a2)]) dyX9_lowestOfRule_44 1 rfl zc_i_1 (Nat.le_of_ble_eq_true rfl) (fun _ => rfl) (fun v4_6 ev4_6 => ?_)
          replace h := h v4_6 ev4_6
          refine zr_goto C dyX9_lowestOfRule_47 (tgt := 9) (by decide) ?_
          exact h
        · replace h := zif_pos hc_7 h
          refine zr_iload_n C dyX9_lowestOfRule_36 rfl 1 rfl ?_
          exact zr_iret C rfl dyX9_lowestOfRule_37 ⟨rfl, rfl, _, rfl, h⟩
  refine zr_sub (lv2 := [(4, .int 0), (3, .int r_1), (0, .ref (B + 43)), (2, .int a2)]) [0, 1, 2, 4] rfl ?_
  exact h
theorem zv_9_136 {p : Program} {l : Launch} {e : Env} {R : Room} {s : State} {m : MethodId} {args : Array Value} {below : List Frame} {meth : Method} {c : Code} {Q : State → Prop} {D : va_G} {B : Nat} {cA : Nat → ClassId} {ad : Nat → Nat} {cc : ByteArray} {nL : Nat} {ret : Option FieldType} {S : List zC} {I : zI} {lv : List (Nat × Value)} {st : List Value} {pc : Nat} (C : zCx p s m args meth c cc nL RX9 ret D B cA ad) {K : Int32 → Prop} {xa1 : Int32} (hS : zOkX S)  (h : w_TreeView_firstOf xa1 I K) (hR : 2 + 1 ≤ R.frames ∧ 8 + (2 + 11) + (43) ≤ R.locals) (hw : (st.map fun v => v.category).sum ≤ 8) (hd : decode cc pc = .ok (.invokevirtual 136, 3)) (kk : ∀ v, K v → zX p l e R s m args below meth c Q D B cA nL 0 0 S I lv (.int v :: st) (pc + 3)) : zX p l e R s m args below meth c Q D B cA nL 0 0 S I lv (.int xa1 :: .ref (B + 43) :: st) pc :=
  have hf : 0 ≤ R.cells ∧ 0 ≤ R.slots := ⟨Nat.zero_le _, Nat.zero_le _⟩
  zc_VpI C (ci := 9) (q := (RX9, TX9, 16)) (k := 43) (fs := [some (some 24), some (some 44), some (some 46), some (some 48), some (some 50), some (some 52), some (some 54), some (some 56), some (some 58), some (some 60), some (some 62), none, none, none, none, none]) (As := [.int xa1]) (st := st) rfl (hS _ _ zs_43) (c_TreeView_firstOf hS h) (zgV zk_ml_9_136 zk_im_yX9_firstOf zk_se_yX9_firstOf zk_in_9 zk_cd_yX9_firstOf) zsg_yX9_firstOf hR rfl rfl hw hd hf kk
def w_TreeView_lowestOver (a1 : Int32) (a2 : Int32) (I : zI) (K : Int32 → Prop) : Prop :=
  w_TreeView_parentOf a1 I (fun r_1 => ∀ (P9 : Int32 → Int32 → Prop), (∀ (v3_2 : Int32) (v4_3 : Int32), ((if 400 ≤ v4_3 then (K (-2)) else (if v3_2 < 0 then (K (-2)) else (w_TreeView_firstOf v3_2 I (fun r_4 => ∀ (P54 : Prop), ((w_TreeView_parentOf v3_2 I (fun r_5 => ∀ v4_6, v4_6 = (v4_3 + 1) → P9 r_5 v4_6)) → P54) → (if a2 < r_4 then P54 else (w_Row_get 31 3400 v3_2 I (fun r_7 => (if (r_4 + r_7) ≤ a2 then P54 else K v3_2))))))))) → P9 v3_2 v4_3) → P9 r_1 0)
theorem dyX9_lowestOver_0 : decode cX9_lowestOver 0 = .ok (.aload_n 0, 1) := by decide +kernel
theorem dyX9_lowestOver_1 : decode cX9_lowestOver 1 = .ok (.iload_n 1, 1) := by decide +kernel
theorem dyX9_lowestOver_2 : decode cX9_lowestOver 2 = .ok (.invokevirtual 133, 3) := by decide +kernel
theorem dyX9_lowestOver_5 : decode cX9_lowestOver 5 = .ok (.istore_n 3, 1) := by decide +kernel
theorem dyX9_lowestOver_6 : decode cX9_lowestOver 6 = .ok (.iconst 0, 1) := by decide +kernel
theorem dyX9_lowestOver_7 : decode cX9_lowestOver 7 = .ok (.istore 4, 2) := by decide +kernel
theorem dyX9_lowestOver_9 : decode cX9_lowestOver 9 = .ok (.iload 4, 2) := by decide +kernel
theorem dyX9_lowestOver_11 : decode cX9_lowestOver 11 = .ok (.sipush 400, 3) := by decide +kernel
theorem dyX9_lowestOver_14 : decode cX9_lowestOver 14 = .ok (.if_icmp .ge 52, 3) := by decide +kernel
theorem dyX9_lowestOver_17 : decode cX9_lowestOver 17 = .ok (.iload_n 3, 1) := by decide +kernel
theorem dyX9_lowestOver_18 : decode cX9_lowestOver 18 = .ok (.ifCond .lt 48, 3) := by decide +kernel
theorem dyX9_lowestOver_21 : decode cX9_lowestOver 21 = .ok (.aload_n 0, 1) := by decide +kernel
theorem dyX9_lowestOver_22 : decode cX9_lowestOver 22 = .ok (.iload_n 3, 1) := by decide +kernel
theorem dyX9_lowestOver_23 : decode cX9_lowestOver 23 = .ok (.invokevirtual 136, 3) := by decide +kernel
theorem dyX9_lowestOver_26 : decode cX9_lowestOver 26 = .ok (.istore 5, 2) := by decide +kernel
theorem dyX9_lowestOver_28 : decode cX9_lowestOver 28 = .ok (.iload_n 2, 1) := by decide +kernel
theorem dyX9_lowestOver_29 : decode cX9_lowestOver 29 = .ok (.iload 5, 2) := by decide +kernel
theorem dyX9_lowestOver_31 : decode cX9_lowestOver 31 = .ok (.if_icmp .lt 23, 3) := by decide +kernel
theorem dyX9_lowestOver_34 : decode cX9_lowestOver 34 = .ok (.iload_n 2, 1) := by decide +kernel
theorem dyX9_lowestOver_35 : decode cX9_lowestOver 35 = .ok (.iload 5, 2) := by decide +kernel
theorem dyX9_lowestOver_37 : decode cX9_lowestOver 37 = .ok (.aload_n 0, 1) := by decide +kernel
theorem dyX9_lowestOver_38 : decode cX9_lowestOver 38 = .ok (.getfield 47, 3) := by decide +kernel
theorem dyX9_lowestOver_41 : decode cX9_lowestOver 41 = .ok (.getfield 95, 3) := by decide +kernel
theorem dyX9_lowestOver_44 : decode cX9_lowestOver 44 = .ok (.iload_n 3, 1) := by decide +kernel
theorem dyX9_lowestOver_45 : decode cX9_lowestOver 45 = .ok (.invokevirtual 74, 3) := by decide +kernel
theorem dyX9_lowestOver_48 : decode cX9_lowestOver 48 = .ok (.iadd, 1) := by decide +kernel
theorem dyX9_lowestOver_49 : decode cX9_lowestOver 49 = .ok (.if_icmp .ge 5, 3) := by decide +kernel
theorem dyX9_lowestOver_52 : decode cX9_lowestOver 52 = .ok (.iload_n 3, 1) := by decide +kernel
theorem dyX9_lowestOver_53 : decode cX9_lowestOver 53 = .ok (.ireturn, 1) := by decide +kernel
theorem dyX9_lowestOver_54 : decode cX9_lowestOver 54 = .ok (.aload_n 0, 1) := by decide +kernel
theorem dyX9_lowestOver_55 : decode cX9_lowestOver 55 = .ok (.iload_n 3, 1) := by decide +kernel
theorem dyX9_lowestOver_56 : decode cX9_lowestOver 56 = .ok (.invokevirtual 133, 3) := by decide +kernel
theorem dyX9_lowestOver_59 : decode cX9_lowestOver 59 = .ok (.istore_n 3, 1) := by decide +kernel
theorem dyX9_lowestOver_60 : decode cX9_lowestOver 60 = .ok (.iinc 4 1, 3) := by decide +kernel
theorem dyX9_lowestOver_63 : decode cX9_lowestOver 63 = .ok (.goto (-54), 3) := by decide +kernel
theorem dyX9_lowestOver_66 : decode cX9_lowestOver 66 = .ok (.bipush (-2), 2) := by decide +kernel
theorem dyX9_lowestOver_68 : decode cX9_lowestOver 68 = .ok (.ireturn, 1) := by decide +kernel
theorem zsg_yX9_lowestOver : yX9_lowestOver.cls = RX9 ∧ yX9_lowestOver.cls ≠ "java/lang/invoke/MethodHandle" ∧ yX9_lowestOver.cls ≠ "java/lang/invoke/VarHandle" ∧ (parseMethodDescriptor yX9_lowestOver.desc).map (fun d => d.parameters.length) = some 2 := by decide +kernel
set_option maxRecDepth 20000 in
theorem c_TreeView_lowestOver {l : Launch} {D : va_G} {B : Nat} {cA : Nat → ClassId} {ad : Nat → Nat} {S : List zC} (hS : zOkX S) {a1 : Int32} {a2 : Int32} {I : zI} {K : Int32 → Prop}  (h : w_TreeView_lowestOver a1 a2 I K) : Met l yX9_lowestOver (zws yX9_lowestOver cX9_lowestOver 6 (some .int)) (zrm 3 64) (zPc D B cA ad [.ref (B + 43), .int a1, .int a2] S I) (zQc D B cA (zpI S I K)) 0 0 (fun q => B ≤ q) := by
  refine zm_of (cc := cX9_lowestOver) (maxL := 6) (ret := (some .int)) (by decide +kernel) rfl (Nat.le_of_ble_eq_true rfl) trivial ?_
  intro p e s m args below meth c C _
  unfold w_TreeView_lowestOver at h
  show zX p l e (zrm 3 64) s m args below meth c (MQ below (zQc D B cA (zpI S I K)) args s 0 0 (fun q => B ≤ q)) D B cA 6 0 0 S I [(0, .ref (B + 43)), (1, .int a1), (2, .int a2)] [] 0
  refine zr_aload_n C dyX9_lowestOver_0 rfl 0 rfl ?_
  refine zr_iload_n C dyX9_lowestOver_1 rfl 1 rfl ?_
  refine zv_9_133 C hS (st := []) h ⟨Nat.le_of_ble_eq_true rfl, Nat.le_of_ble_eq_true rfl⟩ (Nat.le_of_ble_eq_true rfl) dyX9_lowestOver_2 (fun r_1 h => ?_)
  refine zr_istore_n C dyX9_lowestOver_5 rfl (Nat.le_of_ble_eq_true rfl) (lv2 := [(3, .int r_1), (0, .ref (B + 43)), (1, .int a1), (2, .int a2)]) rfl ?_
  refine zr_iconst C dyX9_lowestOver_6 zc_i_0 ?_
  refine zr_istore C dyX9_lowestOver_7 (Nat.le_of_ble_eq_true rfl) (lv2 := [(4, .int 0), (3, .int r_1), (0, .ref (B + 43)), (1, .int a1), (2, .int a2)]) rfl ?_
  refine zjn (h (fun (v3_2 : Int32) (v4_3 : Int32) => zX p l e (zrm 3 64) s m args below meth c (MQ below (zQc D B cA (zpI S I K)) args s 0 0 (fun q => B ≤ q)) D B cA 6 0 0 S I [(4, .int v4_3), (3, .int v3_2), (0, .ref (B + 43)), (2, .int a2)] [] 9) (fun v3_2 v4_3 h => ?_)) (fun h => ?_)
  · refine zr_iload C dyX9_lowestOver_9 0 rfl ?_
    refine zr_sipush C dyX9_lowestOver_11 zc_s_400 ?_
    refine zr_icmp_ge C dyX9_lowestOver_14 (tgt := 66) (by decide) (fun hc_11 => ?_) (fun hc_11 => ?_)
    · replace h := zif_pos hc_11 h
      refine zr_bipush C dyX9_lowestOver_66 zc_b_m2 ?_
      exact zr_iret C rfl dyX9_lowestOver_68 ⟨rfl, rfl, _, rfl, h⟩
    · replace h := zif_neg hc_11 h
      refine zr_iload_n C dyX9_lowestOver_17 rfl 1 rfl ?_
      refine zr_if_lt C dyX9_lowestOver_18 (tgt := 66) (by decide) (fun hc_10 => ?_) (fun hc_10 => ?_)
      · replace h := zif_pos hc_10 h
        refine zr_bipush C dyX9_lowestOver_66 zc_b_m2 ?_
        exact zr_iret C rfl dyX9_lowestOver_68 ⟨rfl, rfl, _, rfl, h⟩
      · replace h := zif_neg hc_10 h
        refine zr_aload_n C dyX9_lowestOver_21 rfl 2 rfl ?_
        refine zr_iload_n C dyX9_lowestOver_22 rfl 1 rfl ?_
        refine zv_9_136 C hS (st := []) h ⟨Nat.le_of_ble_eq_true rfl, Nat.le_of_ble_eq_true rfl⟩ (Nat.le_of_ble_eq_true rfl) dyX9_lowestOver_23 (fun r_4 h => ?_)
        refine zr_istore C dyX9_lowestOver_26 (Nat.le_of_ble_eq_true rfl) (lv2 := [(5, .int r_4), (4, .int v4_3), (3, .int v3_2), (0, .ref (B + 43)), (2, .int a2)]) rfl ?_
        refine zr_iload_n C dyX9_lowestOver_28 rfl 4 rfl ?_
        refine zr_iload C dyX9_lowestOver_29 0 rfl ?_
        refine zjn (h (zX p l e (zrm 3 64) s m args below meth c (MQ below (zQc D B cA (zpI S I K)) args s 0 0 (fun q => B ≤ q)) D B cA 6 0 0 S I [(4, .int v4_3), (3, .int v3_2), (0, .ref (B + 43)), (2, .int a2)] [] 54) (fun  h => ?_)) (fun h => ?_)
        · refine zr_aload_n C dyX9_lowestOver_54 rfl 2 rfl ?_
          refine zr_iload_n C dyX9_lowestOver_55 rfl 1 rfl ?_
          refine zv_9_133 C hS (st := []) h ⟨Nat.le_of_ble_eq_true rfl, Nat.le_of_ble_eq_true rfl⟩ (Nat.le_of_ble_eq_true rfl) dyX9_lowestOver_56 (fun r_5 h => ?_)
          refine zr_istore_n C dyX9_lowestOver_59 rfl (Nat.le_of_ble_eq_true rfl) (lv2 := [(3, .int r_5), (4, .int v4_3), (0, .ref (B + 43)), (2, .int a2)]) rfl ?_
          refine zn_iinc C (fun v4_6 => [(4, .int v4_6), (3, .int r_5), (0, .ref (B + 43)), (2, .int a2)]) dyX9_lowestOver_60 1 rfl zc_i_1 (Nat.le_of_ble_eq_true rfl) (fun _ => rfl) (fun v4_6 ev4_6 => ?_)
          replace h := h v4_6 ev4_6
          refine zr_goto C dyX9_lowestOver_63 (tgt := 9) (by decide) ?_
          exact h
        refine zr_icmp_lt C dyX9_lowestOver_31 (tgt := 54) (by decide) (fun hc_9 => ?_) (fun hc_9 => ?_)
        · replace h := zif_pos hc_9 h
          refine zr_sub (lv2 := [(4, .int v4_3), (3, .int v3_2), (0, .ref (B + 43)), (2, .int a2)]) [1, 2, 3, 4] rfl ?_
          exact h
        · replace h := zif_neg hc_9 h
          refine zr_iload_n C dyX9_lowestOver_34 rfl 4 rfl ?_
          refine zr_iload C dyX9_lowestOver_35 0 rfl ?_
          refine zr_aload_n C dyX9_lowestOver_37 rfl 3 rfl ?_
          refine zg_9_47 C hS dyX9_lowestOver_38 ?_
          refine zg_9_95 C hS dyX9_lowestOver_41 ?_
          refine zr_iload_n C dyX9_lowestOver_44 rfl 2 rfl ?_
          refine zv_9_74 C hS (zIsRow.of hS zir_31) (st := [.int r_4, .int a2]) h ⟨Nat.le_of_ble_eq_true rfl, Nat.le_of_ble_eq_true rfl⟩ (Nat.le_of_ble_eq_true rfl) dyX9_lowestOver_45 (fun r_7 h => ?_)
          refine zr_iadd C dyX9_lowestOver_48 ?_
          refine zr_icmp_ge C dyX9_lowestOver_49 (tgt := 54) (by decide) (fun hc_8 => ?_) (fun hc_8 => ?_)
          · replace h := zif_pos hc_8 h
            refine zr_sub (lv2 := [(4, .int v4_3), (3, .int v3_2), (0, .ref (B + 43)), (2, .int a2)]) [1, 2, 3, 4] rfl ?_
            exact h
          · replace h := zif_neg hc_8 h
            refine zr_iload_n C dyX9_lowestOver_52 rfl 2 rfl ?_
            exact zr_iret C rfl dyX9_lowestOver_53 ⟨rfl, rfl, _, rfl, h⟩
  refine zr_sub (lv2 := [(4, .int 0), (3, .int r_1), (0, .ref (B + 43)), (2, .int a2)]) [0, 1, 2, 4] rfl ?_
  exact h
def w_TreeView_wayDown (a1 : Int32) (a2 : Int32) (I : zI) (K : Int32 → Prop) : Prop :=
  w_Row_get 46 3400 a1 I (fun r_1 => w_Row_get 52 400 r_1 I (fun r_2 => ∀ v3_3, v3_3 = ((r_2 - 1) - a2) → (if a2 < 0 then (K (-1)) else (if 0 ≤ v3_3 then (∀ (P36 : Int32 → Int32 → Prop), (∀ (v4_4 : Int32) (v5_5 : Int32), ((if v3_3 ≤ v5_5 then K v4_4 else (w_TreeView_parentOf v4_4 I (fun r_6 => ∀ v5_7, v5_7 = (v5_5 + 1) → P36 r_6 v5_7)))) → P36 v4_4 v5_5) → P36 a1 0) else (K (-1))))))
theorem dyX9_wayDown_0 : decode cX9_wayDown 0 = .ok (.aload_n 0, 1) := by decide +kernel
theorem dyX9_wayDown_1 : decode cX9_wayDown 1 = .ok (.getfield 29, 3) := by decide +kernel
theorem dyX9_wayDown_4 : decode cX9_wayDown 4 = .ok (.aload_n 0, 1) := by decide +kernel
theorem dyX9_wayDown_5 : decode cX9_wayDown 5 = .ok (.getfield 20, 3) := by decide +kernel
theorem dyX9_wayDown_8 : decode cX9_wayDown 8 = .ok (.iload_n 1, 1) := by decide +kernel
theorem dyX9_wayDown_9 : decode cX9_wayDown 9 = .ok (.invokevirtual 74, 3) := by decide +kernel
theorem dyX9_wayDown_12 : decode cX9_wayDown 12 = .ok (.invokevirtual 74, 3) := by decide +kernel
theorem dyX9_wayDown_15 : decode cX9_wayDown 15 = .ok (.iconst 1, 1) := by decide +kernel
theorem dyX9_wayDown_16 : decode cX9_wayDown 16 = .ok (.isub, 1) := by decide +kernel
theorem dyX9_wayDown_17 : decode cX9_wayDown 17 = .ok (.iload_n 2, 1) := by decide +kernel
theorem dyX9_wayDown_18 : decode cX9_wayDown 18 = .ok (.isub, 1) := by decide +kernel
theorem dyX9_wayDown_19 : decode cX9_wayDown 19 = .ok (.istore_n 3, 1) := by decide +kernel
theorem dyX9_wayDown_20 : decode cX9_wayDown 20 = .ok (.iload_n 2, 1) := by decide +kernel
theorem dyX9_wayDown_21 : decode cX9_wayDown 21 = .ok (.ifCond .lt 7, 3) := by decide +kernel
theorem dyX9_wayDown_24 : decode cX9_wayDown 24 = .ok (.iload_n 3, 1) := by decide +kernel
theorem dyX9_wayDown_25 : decode cX9_wayDown 25 = .ok (.ifCond .ge 5, 3) := by decide +kernel
theorem dyX9_wayDown_28 : decode cX9_wayDown 28 = .ok (.iconst (-1), 1) := by decide +kernel
theorem dyX9_wayDown_29 : decode cX9_wayDown 29 = .ok (.ireturn, 1) := by decide +kernel
theorem dyX9_wayDown_30 : decode cX9_wayDown 30 = .ok (.iload_n 1, 1) := by decide +kernel
theorem dyX9_wayDown_31 : decode cX9_wayDown 31 = .ok (.istore 4, 2) := by decide +kernel
theorem dyX9_wayDown_33 : decode cX9_wayDown 33 = .ok (.iconst 0, 1) := by decide +kernel
theorem dyX9_wayDown_34 : decode cX9_wayDown 34 = .ok (.istore 5, 2) := by decide +kernel
theorem dyX9_wayDown_36 : decode cX9_wayDown 36 = .ok (.iload 5, 2) := by decide +kernel
theorem dyX9_wayDown_38 : decode cX9_wayDown 38 = .ok (.iload_n 3, 1) := by decide +kernel
theorem dyX9_wayDown_39 : decode cX9_wayDown 39 = .ok (.if_icmp .ge 17, 3) := by decide +kernel
theorem dyX9_wayDown_42 : decode cX9_wayDown 42 = .ok (.aload_n 0, 1) := by decide +kernel
theorem dyX9_wayDown_43 : decode cX9_wayDown 43 = .ok (.iload 4, 2) := by decide +kernel
theorem dyX9_wayDown_45 : decode cX9_wayDown 45 = .ok (.invokevirtual 133, 3) := by decide +kernel
theorem dyX9_wayDown_48 : decode cX9_wayDown 48 = .ok (.istore 4, 2) := by decide +kernel
theorem dyX9_wayDown_50 : decode cX9_wayDown 50 = .ok (.iinc 5 1, 3) := by decide +kernel
theorem dyX9_wayDown_53 : decode cX9_wayDown 53 = .ok (.goto (-17), 3) := by decide +kernel
theorem dyX9_wayDown_56 : decode cX9_wayDown 56 = .ok (.iload 4, 2) := by decide +kernel
theorem dyX9_wayDown_58 : decode cX9_wayDown 58 = .ok (.ireturn, 1) := by decide +kernel
theorem zsg_yX9_wayDown : yX9_wayDown.cls = RX9 ∧ yX9_wayDown.cls ≠ "java/lang/invoke/MethodHandle" ∧ yX9_wayDown.cls ≠ "java/lang/invoke/VarHandle" ∧ (parseMethodDescriptor yX9_wayDown.desc).map (fun d => d.parameters.length) = some 2 := by decide +kernel
set_option maxRecDepth 20000 in
theorem c_TreeView_wayDown {l : Launch} {D : va_G} {B : Nat} {cA : Nat → ClassId} {ad : Nat → Nat} {S : List zC} (hS : zOkX S) {a1 : Int32} {a2 : Int32} {I : zI} {K : Int32 → Prop}  (h : w_TreeView_wayDown a1 a2 I K) : Met l yX9_wayDown (zws yX9_wayDown cX9_wayDown 6 (some .int)) (zrm 3 64) (zPc D B cA ad [.ref (B + 43), .int a1, .int a2] S I) (zQc D B cA (zpI S I K)) 0 0 (fun q => B ≤ q) := by
  refine zm_of (cc := cX9_wayDown) (maxL := 6) (ret := (some .int)) (by decide +kernel) rfl (Nat.le_of_ble_eq_true rfl) trivial ?_
  intro p e s m args below meth c C _
  unfold w_TreeView_wayDown at h
  show zX p l e (zrm 3 64) s m args below meth c (MQ below (zQc D B cA (zpI S I K)) args s 0 0 (fun q => B ≤ q)) D B cA 6 0 0 S I [(0, .ref (B + 43)), (1, .int a1), (2, .int a2)] [] 0
  refine zr_aload_n C dyX9_wayDown_0 rfl 0 rfl ?_
  refine zg_9_29 C hS dyX9_wayDown_1 ?_
  refine zr_aload_n C dyX9_wayDown_4 rfl 0 rfl ?_
  refine zg_9_20 C hS dyX9_wayDown_5 ?_
  refine zr_iload_n C dyX9_wayDown_8 rfl 1 rfl ?_
  refine zv_9_74 C hS (zIsRow.of hS zir_46) (st := [.ref (B + 52)]) h ⟨Nat.le_of_ble_eq_true rfl, Nat.le_of_ble_eq_true rfl⟩ (Nat.le_of_ble_eq_true rfl) dyX9_wayDown_9 (fun r_1 h => ?_)
  refine zv_9_74 C hS (zIsRow.of hS zir_52) (st := []) h ⟨Nat.le_of_ble_eq_true rfl, Nat.le_of_ble_eq_true rfl⟩ (Nat.le_of_ble_eq_true rfl) dyX9_wayDown_12 (fun r_2 h => ?_)
  refine zr_iconst C dyX9_wayDown_15 zc_i_1 ?_
  refine zr_isub C dyX9_wayDown_16 ?_
  refine zr_iload_n C dyX9_wayDown_17 rfl 2 rfl ?_
  refine zr_isub C dyX9_wayDown_18 ?_
  refine zn_istore_n C (fun v3_3 => [(3, .int v3_3), (0, .ref (B + 43)), (1, .int a1), (2, .int a2)]) dyX9_wayDown_19 rfl (Nat.le_of_ble_eq_true rfl) (fun _ => rfl) (fun v3_3 ev3_3 => ?_)
  replace h := h v3_3 ev3_3
  refine zr_iload_n C dyX9_wayDown_20 rfl 3 rfl ?_
  refine zr_if_lt C dyX9_wayDown_21 (tgt := 28) (by decide) (fun hc_10 => ?_) (fun hc_10 => ?_)
  · replace h := zif_pos hc_10 h
    refine zr_iconst C dyX9_wayDown_28 zc_i_m1 ?_
    exact zr_iret C rfl dyX9_wayDown_29 ⟨rfl, rfl, _, rfl, h⟩
  · replace h := zif_neg hc_10 h
    refine zr_iload_n C dyX9_wayDown_24 rfl 0 rfl ?_
    refine zr_if_ge C dyX9_wayDown_25 (tgt := 30) (by decide) (fun hc_9 => ?_) (fun hc_9 => ?_)
    · replace h := zif_pos hc_9 h
      refine zr_iload_n C dyX9_wayDown_30 rfl 2 rfl ?_
      refine zr_istore C dyX9_wayDown_31 (Nat.le_of_ble_eq_true rfl) (lv2 := [(4, .int a1), (3, .int v3_3), (0, .ref (B + 43)), (1, .int a1), (2, .int a2)]) rfl ?_
      refine zr_iconst C dyX9_wayDown_33 zc_i_0 ?_
      refine zr_istore C dyX9_wayDown_34 (Nat.le_of_ble_eq_true rfl) (lv2 := [(5, .int 0), (4, .int a1), (3, .int v3_3), (0, .ref (B + 43)), (1, .int a1), (2, .int a2)]) rfl ?_
      refine zjn (h (fun (v4_4 : Int32) (v5_5 : Int32) => zX p l e (zrm 3 64) s m args below meth c (MQ below (zQc D B cA (zpI S I K)) args s 0 0 (fun q => B ≤ q)) D B cA 6 0 0 S I [(5, .int v5_5), (4, .int v4_4), (3, .int v3_3), (0, .ref (B + 43))] [] 36) (fun v4_4 v5_5 h => ?_)) (fun h => ?_)
      · refine zr_iload C dyX9_wayDown_36 0 rfl ?_
        refine zr_iload_n C dyX9_wayDown_38 rfl 2 rfl ?_
        refine zr_icmp_ge C dyX9_wayDown_39 (tgt := 56) (by decide) (fun hc_8 => ?_) (fun hc_8 => ?_)
        · replace h := zif_pos hc_8 h
          refine zr_iload C dyX9_wayDown_56 1 rfl ?_
          exact zr_iret C rfl dyX9_wayDown_58 ⟨rfl, rfl, _, rfl, h⟩
        · replace h := zif_neg hc_8 h
          refine zr_aload_n C dyX9_wayDown_42 rfl 3 rfl ?_
          refine zr_iload C dyX9_wayDown_43 1 rfl ?_
          refine zv_9_133 C hS (st := []) h ⟨Nat.le_of_ble_eq_true rfl, Nat.le_of_ble_eq_true rfl⟩ (Nat.le_of_ble_eq_true rfl) dyX9_wayDown_45 (fun r_6 h => ?_)
          refine zr_istore C dyX9_wayDown_48 (Nat.le_of_ble_eq_true rfl) (lv2 := [(4, .int r_6), (5, .int v5_5), (3, .int v3_3), (0, .ref (B + 43))]) rfl ?_
          refine zn_iinc C (fun v5_7 => [(5, .int v5_7), (4, .int r_6), (3, .int v3_3), (0, .ref (B + 43))]) dyX9_wayDown_50 1 rfl zc_i_1 (Nat.le_of_ble_eq_true rfl) (fun _ => rfl) (fun v5_7 ev5_7 => ?_)
          replace h := h v5_7 ev5_7
          refine zr_goto C dyX9_wayDown_53 (tgt := 36) (by decide) ?_
          exact h
      refine zr_sub (lv2 := [(5, .int 0), (4, .int a1), (3, .int v3_3), (0, .ref (B + 43))]) [0, 1, 2, 3] rfl ?_
      exact h
    · replace h := zif_neg hc_9 h
      refine zr_iconst C dyX9_wayDown_28 zc_i_m1 ?_
      exact zr_iret C rfl dyX9_wayDown_29 ⟨rfl, rfl, _, rfl, h⟩
theorem zv_9_139 {p : Program} {l : Launch} {e : Env} {R : Room} {s : State} {m : MethodId} {args : Array Value} {below : List Frame} {meth : Method} {c : Code} {Q : State → Prop} {D : va_G} {B : Nat} {cA : Nat → ClassId} {ad : Nat → Nat} {cc : ByteArray} {nL : Nat} {ret : Option FieldType} {S : List zC} {I : zI} {lv : List (Nat × Value)} {st : List Value} {pc : Nat} (C : zCx p s m args meth c cc nL RX9 ret D B cA ad) {K : Int32 → Prop} {xa1 : Int32} (hS : zOkX S)  (h : w_TreeView_placeBehind xa1 I K) (hR : 1 + 1 ≤ R.frames ∧ 8 + (3 + 11) + (21) ≤ R.locals) (hw : (st.map fun v => v.category).sum ≤ 8) (hd : decode cc pc = .ok (.invokevirtual 139, 3)) (kk : ∀ v, K v → zX p l e R s m args below meth c Q D B cA nL 0 0 S I lv (.int v :: st) (pc + 3)) : zX p l e R s m args below meth c Q D B cA nL 0 0 S I lv (.int xa1 :: .ref (B + 43) :: st) pc :=
  have hf : 0 ≤ R.cells ∧ 0 ≤ R.slots := ⟨Nat.zero_le _, Nat.zero_le _⟩
  zc_VpI C (ci := 9) (q := (RX9, TX9, 16)) (k := 43) (fs := [some (some 24), some (some 44), some (some 46), some (some 48), some (some 50), some (some 52), some (some 54), some (some 56), some (some 58), some (some 60), some (some 62), none, none, none, none, none]) (As := [.int xa1]) (st := st) rfl (hS _ _ zs_43) (c_TreeView_placeBehind hS h) (zgV zk_ml_9_139 zk_im_yX9_placeBehind zk_se_yX9_placeBehind zk_in_9 zk_cd_yX9_placeBehind) zsg_yX9_placeBehind hR rfl rfl hw hd hf kk
def w_TreeView_readsName (a1 : Int32) (I : zI) (K : Int32 → Prop) : Prop :=
  w_TreeView_placeBehind a1 I (fun r_1 => w_Row_get 46 3400 a1 I (fun r_2 => ∀ (P15 : Int32 → Prop), (∀ (v3_3 : Int32), ((if r_1 ≤ v3_3 then K 0 else (w_Row_get 44 400 v3_3 I (fun r_4 => w_Row_get 25 3400 r_4 I (fun r_5 => (if r_5 = 8 then K 1 else (∀ v3_6, v3_6 = (v3_3 + 1) → P15 v3_6))))))) → P15 v3_3) → P15 r_2))
theorem dyX9_readsName_0 : decode cX9_readsName 0 = .ok (.aload_n 0, 1) := by decide +kernel
theorem dyX9_readsName_1 : decode cX9_readsName 1 = .ok (.iload_n 1, 1) := by decide +kernel
theorem dyX9_readsName_2 : decode cX9_readsName 2 = .ok (.invokevirtual 139, 3) := by decide +kernel
theorem dyX9_readsName_5 : decode cX9_readsName 5 = .ok (.istore_n 2, 1) := by decide +kernel
theorem dyX9_readsName_6 : decode cX9_readsName 6 = .ok (.aload_n 0, 1) := by decide +kernel
theorem dyX9_readsName_7 : decode cX9_readsName 7 = .ok (.getfield 20, 3) := by decide +kernel
theorem dyX9_readsName_10 : decode cX9_readsName 10 = .ok (.iload_n 1, 1) := by decide +kernel
theorem dyX9_readsName_11 : decode cX9_readsName 11 = .ok (.invokevirtual 74, 3) := by decide +kernel
theorem dyX9_readsName_14 : decode cX9_readsName 14 = .ok (.istore_n 3, 1) := by decide +kernel
theorem dyX9_readsName_15 : decode cX9_readsName 15 = .ok (.iload_n 3, 1) := by decide +kernel
theorem dyX9_readsName_16 : decode cX9_readsName 16 = .ok (.iload_n 2, 1) := by decide +kernel
theorem dyX9_readsName_17 : decode cX9_readsName 17 = .ok (.if_icmp .ge 34, 3) := by decide +kernel
theorem dyX9_readsName_20 : decode cX9_readsName 20 = .ok (.aload_n 0, 1) := by decide +kernel
theorem dyX9_readsName_21 : decode cX9_readsName 21 = .ok (.getfield 47, 3) := by decide +kernel
theorem dyX9_readsName_24 : decode cX9_readsName 24 = .ok (.getfield 110, 3) := by decide +kernel
theorem dyX9_readsName_27 : decode cX9_readsName 27 = .ok (.aload_n 0, 1) := by decide +kernel
theorem dyX9_readsName_28 : decode cX9_readsName 28 = .ok (.getfield 14, 3) := by decide +kernel
theorem dyX9_readsName_31 : decode cX9_readsName 31 = .ok (.iload_n 3, 1) := by decide +kernel
theorem dyX9_readsName_32 : decode cX9_readsName 32 = .ok (.invokevirtual 74, 3) := by decide +kernel
theorem dyX9_readsName_35 : decode cX9_readsName 35 = .ok (.invokevirtual 74, 3) := by decide +kernel
theorem dyX9_readsName_38 : decode cX9_readsName 38 = .ok (.bipush 8, 2) := by decide +kernel
theorem dyX9_readsName_40 : decode cX9_readsName 40 = .ok (.if_icmp .ne 5, 3) := by decide +kernel
theorem dyX9_readsName_43 : decode cX9_readsName 43 = .ok (.iconst 1, 1) := by decide +kernel
theorem dyX9_readsName_44 : decode cX9_readsName 44 = .ok (.ireturn, 1) := by decide +kernel
theorem dyX9_readsName_45 : decode cX9_readsName 45 = .ok (.iinc 3 1, 3) := by decide +kernel
theorem dyX9_readsName_48 : decode cX9_readsName 48 = .ok (.goto (-33), 3) := by decide +kernel
theorem dyX9_readsName_51 : decode cX9_readsName 51 = .ok (.iconst 0, 1) := by decide +kernel
theorem dyX9_readsName_52 : decode cX9_readsName 52 = .ok (.ireturn, 1) := by decide +kernel
theorem zsg_yX9_readsName : yX9_readsName.cls = RX9 ∧ yX9_readsName.cls ≠ "java/lang/invoke/MethodHandle" ∧ yX9_readsName.cls ≠ "java/lang/invoke/VarHandle" ∧ (parseMethodDescriptor yX9_readsName.desc).map (fun d => d.parameters.length) = some 1 := by decide +kernel
set_option maxRecDepth 20000 in
theorem c_TreeView_readsName {l : Launch} {D : va_G} {B : Nat} {cA : Nat → ClassId} {ad : Nat → Nat} {S : List zC} (hS : zOkX S) {a1 : Int32} {I : zI} {K : Int32 → Prop}  (h : w_TreeView_readsName a1 I K) : Met l yX9_readsName (zws yX9_readsName cX9_readsName 4 (some .boolean)) (zrm 2 43) (zPc D B cA ad [.ref (B + 43), .int a1] S I) (zQc D B cA (zpI S I K)) 0 0 (fun q => B ≤ q) := by
  refine zm_of (cc := cX9_readsName) (maxL := 4) (ret := (some .boolean)) (by decide +kernel) rfl (Nat.le_of_ble_eq_true rfl) trivial ?_
  intro p e s m args below meth c C _
  unfold w_TreeView_readsName at h
  show zX p l e (zrm 2 43) s m args below meth c (MQ below (zQc D B cA (zpI S I K)) args s 0 0 (fun q => B ≤ q)) D B cA 4 0 0 S I [(0, .ref (B + 43)), (1, .int a1)] [] 0
  refine zr_aload_n C dyX9_readsName_0 rfl 0 rfl ?_
  refine zr_iload_n C dyX9_readsName_1 rfl 1 rfl ?_
  refine zv_9_139 C hS (st := []) h ⟨Nat.le_of_ble_eq_true rfl, Nat.le_of_ble_eq_true rfl⟩ (Nat.le_of_ble_eq_true rfl) dyX9_readsName_2 (fun r_1 h => ?_)
  refine zr_istore_n C dyX9_readsName_5 rfl (Nat.le_of_ble_eq_true rfl) (lv2 := [(2, .int r_1), (0, .ref (B + 43)), (1, .int a1)]) rfl ?_
  refine zr_aload_n C dyX9_readsName_6 rfl 1 rfl ?_
  refine zg_9_20 C hS dyX9_readsName_7 ?_
  refine zr_iload_n C dyX9_readsName_10 rfl 2 rfl ?_
  refine zv_9_74 C hS (zIsRow.of hS zir_46) (st := []) h ⟨Nat.le_of_ble_eq_true rfl, Nat.le_of_ble_eq_true rfl⟩ (Nat.le_of_ble_eq_true rfl) dyX9_readsName_11 (fun r_2 h => ?_)
  refine zr_istore_n C dyX9_readsName_14 rfl (Nat.le_of_ble_eq_true rfl) (lv2 := [(3, .int r_2), (2, .int r_1), (0, .ref (B + 43)), (1, .int a1)]) rfl ?_
  refine zjn (h (fun (v3_3 : Int32) => zX p l e (zrm 2 43) s m args below meth c (MQ below (zQc D B cA (zpI S I K)) args s 0 0 (fun q => B ≤ q)) D B cA 4 0 0 S I [(3, .int v3_3), (2, .int r_1), (0, .ref (B + 43))] [] 15) (fun v3_3 h => ?_)) (fun h => ?_)
  · refine zr_iload_n C dyX9_readsName_15 rfl 0 rfl ?_
    refine zr_iload_n C dyX9_readsName_16 rfl 1 rfl ?_
    refine zr_icmp_ge C dyX9_readsName_17 (tgt := 51) (by decide) (fun hc_8 => ?_) (fun hc_8 => ?_)
    · replace h := zif_pos hc_8 h
      refine zr_iconst C dyX9_readsName_51 zc_i_0 ?_
      exact zr_zret C rfl (zb.nar zb_0) dyX9_readsName_52 ⟨rfl, rfl, _, rfl, h⟩
    · replace h := zif_neg hc_8 h
      refine zr_aload_n C dyX9_readsName_20 rfl 2 rfl ?_
      refine zg_9_47 C hS dyX9_readsName_21 ?_
      refine zg_9_110 C hS dyX9_readsName_24 ?_
      refine zr_aload_n C dyX9_readsName_27 rfl 2 rfl ?_
      refine zg_9_14 C hS dyX9_readsName_28 ?_
      refine zr_iload_n C dyX9_readsName_31 rfl 0 rfl ?_
      refine zv_9_74 C hS (zIsRow.of hS zir_44) (st := [.ref (B + 25)]) h ⟨Nat.le_of_ble_eq_true rfl, Nat.le_of_ble_eq_true rfl⟩ (Nat.le_of_ble_eq_true rfl) dyX9_readsName_32 (fun r_4 h => ?_)
      refine zv_9_74 C hS (zIsRow.of hS zir_25) (st := []) h ⟨Nat.le_of_ble_eq_true rfl, Nat.le_of_ble_eq_true rfl⟩ (Nat.le_of_ble_eq_true rfl) dyX9_readsName_35 (fun r_5 h => ?_)
      refine zr_bipush C dyX9_readsName_38 zc_b_8 ?_
      refine zr_icmp_ne C dyX9_readsName_40 (tgt := 45) (by decide) (fun hc_7 => ?_) (fun hc_7 => ?_)
      · replace h := zif_neg hc_7 h
        refine zn_iinc C (fun v3_6 => [(3, .int v3_6), (2, .int r_1), (0, .ref (B + 43))]) dyX9_readsName_45 0 rfl zc_i_1 (Nat.le_of_ble_eq_true rfl) (fun _ => rfl) (fun v3_6 ev3_6 => ?_)
        replace h := h v3_6 ev3_6
        refine zr_goto C dyX9_readsName_48 (tgt := 15) (by decide) ?_
        exact h
      · replace h := zif_pos hc_7 h
        refine zr_iconst C dyX9_readsName_43 zc_i_1 ?_
        exact zr_zret C rfl (zb.nar zb_1) dyX9_readsName_44 ⟨rfl, rfl, _, rfl, h⟩
  refine zr_sub (lv2 := [(3, .int r_2), (2, .int r_1), (0, .ref (B + 43))]) [0, 1, 2] rfl ?_
  exact h
theorem zg_9_142 {p : Program} {l : Launch} {e : Env} {R : Room} {s : State} {m : MethodId} {args : Array Value} {below : List Frame} {meth : Method} {c : Code} {Q : State → Prop} {D : va_G} {B : Nat} {cA : Nat → ClassId} {ad : Nat → Nat} {cc : ByteArray} {nL : Nat} {ret : Option FieldType} {S : List zC} {I : zI} {lv : List (Nat × Value)} {st : List Value} {pc : Nat} (C : zCx p s m args meth c cc nL RX9 ret D B cA ad) (hS : zOkX S) (hd : decode cc pc = .ok (.getfield 142, 3)) (kk : zX p l e R s m args below meth c Q D B cA nL 0 0 S I lv (.ref (B + 33) :: st) (pc + 3)) : zX p l e R s m args below meth c Q D B cA nL 0 0 S I lv (.ref (B + 24) :: st) pc :=
  zr_getr C (ci := 3) (Cn := RX3) (T := TX3) (N := 10) (k := 24) (j := 4) (fs := [some (some 25), some (some 27), some (some 29), some (some 31), some (some 33), some (some 35), some (some 37), some (some 39), some (some 41), none]) rfl zin_3 (Nat.le_of_ble_eq_true rfl) rfl (hS _ _ zs_24) rfl zk_fl_9_142 hd kk
def w_TreeView_madeWithin (a1 : Int32) (a2 : Int32) (I : zI) (K : Int32 → Prop) : Prop :=
  w_TreeView_placeBehind a1 I (fun r_1 => w_Row_get 46 3400 a1 I (fun r_2 => ∀ (P19 : Int32 → Int32 → Prop), (∀ (v3_3 : Int32) (v5_4 : Int32), ((if r_1 ≤ v5_4 then K v3_3 else (∀ (P56 : Int32 → Prop), (∀ (v3_5 : Int32), (∀ v5_6, v5_6 = (v5_4 + 1) → P19 v3_5 v5_6) → P56 v3_5) → (if a2 ≤ 0 then P56 v3_3 else (w_Row_get 44 400 v5_4 I (fun r_7 => w_Row_get 33 3400 r_7 I (fun r_8 => (if r_8 = a2 then (∀ v3_9, v3_9 = (v3_3 + 1) → P56 v3_9) else P56 v3_3)))))))) → P19 v3_3 v5_4) → P19 0 r_2))
theorem dyX9_madeWithin_0 : decode cX9_madeWithin 0 = .ok (.iconst 0, 1) := by decide +kernel
theorem dyX9_madeWithin_1 : decode cX9_madeWithin 1 = .ok (.istore_n 3, 1) := by decide +kernel
theorem dyX9_madeWithin_2 : decode cX9_madeWithin 2 = .ok (.aload_n 0, 1) := by decide +kernel
theorem dyX9_madeWithin_3 : decode cX9_madeWithin 3 = .ok (.iload_n 1, 1) := by decide +kernel
theorem dyX9_madeWithin_4 : decode cX9_madeWithin 4 = .ok (.invokevirtual 139, 3) := by decide +kernel
theorem dyX9_madeWithin_7 : decode cX9_madeWithin 7 = .ok (.istore 4, 2) := by decide +kernel
theorem dyX9_madeWithin_9 : decode cX9_madeWithin 9 = .ok (.aload_n 0, 1) := by decide +kernel
theorem dyX9_madeWithin_10 : decode cX9_madeWithin 10 = .ok (.getfield 20, 3) := by decide +kernel
theorem dyX9_madeWithin_13 : decode cX9_madeWithin 13 = .ok (.iload_n 1, 1) := by decide +kernel
theorem dyX9_madeWithin_14 : decode cX9_madeWithin 14 = .ok (.invokevirtual 74, 3) := by decide +kernel
theorem dyX9_madeWithin_17 : decode cX9_madeWithin 17 = .ok (.istore 5, 2) := by decide +kernel
theorem dyX9_madeWithin_19 : decode cX9_madeWithin 19 = .ok (.iload 5, 2) := by decide +kernel
theorem dyX9_madeWithin_21 : decode cX9_madeWithin 21 = .ok (.iload 4, 2) := by decide +kernel
theorem dyX9_madeWithin_23 : decode cX9_madeWithin 23 = .ok (.if_icmp .ge 39, 3) := by decide +kernel
theorem dyX9_madeWithin_26 : decode cX9_madeWithin 26 = .ok (.iload_n 2, 1) := by decide +kernel
theorem dyX9_madeWithin_27 : decode cX9_madeWithin 27 = .ok (.ifCond .le 29, 3) := by decide +kernel
theorem dyX9_madeWithin_30 : decode cX9_madeWithin 30 = .ok (.aload_n 0, 1) := by decide +kernel
theorem dyX9_madeWithin_31 : decode cX9_madeWithin 31 = .ok (.getfield 47, 3) := by decide +kernel
theorem dyX9_madeWithin_34 : decode cX9_madeWithin 34 = .ok (.getfield 142, 3) := by decide +kernel
theorem dyX9_madeWithin_37 : decode cX9_madeWithin 37 = .ok (.aload_n 0, 1) := by decide +kernel
theorem dyX9_madeWithin_38 : decode cX9_madeWithin 38 = .ok (.getfield 14, 3) := by decide +kernel
theorem dyX9_madeWithin_41 : decode cX9_madeWithin 41 = .ok (.iload 5, 2) := by decide +kernel
theorem dyX9_madeWithin_43 : decode cX9_madeWithin 43 = .ok (.invokevirtual 74, 3) := by decide +kernel
theorem dyX9_madeWithin_46 : decode cX9_madeWithin 46 = .ok (.invokevirtual 74, 3) := by decide +kernel
theorem dyX9_madeWithin_49 : decode cX9_madeWithin 49 = .ok (.iload_n 2, 1) := by decide +kernel
theorem dyX9_madeWithin_50 : decode cX9_madeWithin 50 = .ok (.if_icmp .ne 6, 3) := by decide +kernel
theorem dyX9_madeWithin_53 : decode cX9_madeWithin 53 = .ok (.iinc 3 1, 3) := by decide +kernel
theorem dyX9_madeWithin_56 : decode cX9_madeWithin 56 = .ok (.iinc 5 1, 3) := by decide +kernel
theorem dyX9_madeWithin_59 : decode cX9_madeWithin 59 = .ok (.goto (-40), 3) := by decide +kernel
theorem dyX9_madeWithin_62 : decode cX9_madeWithin 62 = .ok (.iload_n 3, 1) := by decide +kernel
theorem dyX9_madeWithin_63 : decode cX9_madeWithin 63 = .ok (.ireturn, 1) := by decide +kernel
theorem zsg_yX9_madeWithin : yX9_madeWithin.cls = RX9 ∧ yX9_madeWithin.cls ≠ "java/lang/invoke/MethodHandle" ∧ yX9_madeWithin.cls ≠ "java/lang/invoke/VarHandle" ∧ (parseMethodDescriptor yX9_madeWithin.desc).map (fun d => d.parameters.length) = some 2 := by decide +kernel
set_option maxRecDepth 20000 in
theorem c_TreeView_madeWithin {l : Launch} {D : va_G} {B : Nat} {cA : Nat → ClassId} {ad : Nat → Nat} {S : List zC} (hS : zOkX S) {a1 : Int32} {a2 : Int32} {I : zI} {K : Int32 → Prop}  (h : w_TreeView_madeWithin a1 a2 I K) : Met l yX9_madeWithin (zws yX9_madeWithin cX9_madeWithin 6 (some .int)) (zrm 2 43) (zPc D B cA ad [.ref (B + 43), .int a1, .int a2] S I) (zQc D B cA (zpI S I K)) 0 0 (fun q => B ≤ q) := by
  refine zm_of (cc := cX9_madeWithin) (maxL := 6) (ret := (some .int)) (by decide +kernel) rfl (Nat.le_of_ble_eq_true rfl) trivial ?_
  intro p e s m args below meth c C _
  unfold w_TreeView_madeWithin at h
  show zX p l e (zrm 2 43) s m args below meth c (MQ below (zQc D B cA (zpI S I K)) args s 0 0 (fun q => B ≤ q)) D B cA 6 0 0 S I [(0, .ref (B + 43)), (1, .int a1), (2, .int a2)] [] 0
  refine zr_iconst C dyX9_madeWithin_0 zc_i_0 ?_
  refine zr_istore_n C dyX9_madeWithin_1 rfl (Nat.le_of_ble_eq_true rfl) (lv2 := [(3, .int 0), (0, .ref (B + 43)), (1, .int a1), (2, .int a2)]) rfl ?_
  refine zr_aload_n C dyX9_madeWithin_2 rfl 1 rfl ?_
  refine zr_iload_n C dyX9_madeWithin_3 rfl 2 rfl ?_
  refine zv_9_139 C hS (st := []) h ⟨Nat.le_of_ble_eq_true rfl, Nat.le_of_ble_eq_true rfl⟩ (Nat.le_of_ble_eq_true rfl) dyX9_madeWithin_4 (fun r_1 h => ?_)
  refine zr_istore C dyX9_madeWithin_7 (Nat.le_of_ble_eq_true rfl) (lv2 := [(4, .int r_1), (3, .int 0), (0, .ref (B + 43)), (1, .int a1), (2, .int a2)]) rfl ?_
  refine zr_aload_n C dyX9_madeWithin_9 rfl 2 rfl ?_
  refine zg_9_20 C hS dyX9_madeWithin_10 ?_
  refine zr_iload_n C dyX9_madeWithin_13 rfl 3 rfl ?_
  refine zv_9_74 C hS (zIsRow.of hS zir_46) (st := []) h ⟨Nat.le_of_ble_eq_true rfl, Nat.le_of_ble_eq_true rfl⟩ (Nat.le_of_ble_eq_true rfl) dyX9_madeWithin_14 (fun r_2 h => ?_)
  refine zr_istore C dyX9_madeWithin_17 (Nat.le_of_ble_eq_true rfl) (lv2 := [(5, .int r_2), (4, .int r_1), (3, .int 0), (0, .ref (B + 43)), (1, .int a1), (2, .int a2)]) rfl ?_
  refine zjn (h (fun (v3_3 : Int32) (v5_4 : Int32) => zX p l e (zrm 2 43) s m args below meth c (MQ below (zQc D B cA (zpI S I K)) args s 0 0 (fun q => B ≤ q)) D B cA 6 0 0 S I [(5, .int v5_4), (4, .int r_1), (3, .int v3_3), (0, .ref (B + 43)), (2, .int a2)] [] 19) (fun v3_3 v5_4 h => ?_)) (fun h => ?_)
  · refine zr_iload C dyX9_madeWithin_19 0 rfl ?_
    refine zr_iload C dyX9_madeWithin_21 1 rfl ?_
    refine zr_icmp_ge C dyX9_madeWithin_23 (tgt := 62) (by decide) (fun hc_12 => ?_) (fun hc_12 => ?_)
    · replace h := zif_pos hc_12 h
      refine zr_iload_n C dyX9_madeWithin_62 rfl 2 rfl ?_
      exact zr_iret C rfl dyX9_madeWithin_63 ⟨rfl, rfl, _, rfl, h⟩
    · replace h := zif_neg hc_12 h
      refine zr_iload_n C dyX9_madeWithin_26 rfl 4 rfl ?_
      refine zjn (h (fun (v3_5 : Int32) => zX p l e (zrm 2 43) s m args below meth c (MQ below (zQc D B cA (zpI S I K)) args s 0 0 (fun q => B ≤ q)) D B cA 6 0 0 S I [(5, .int v5_4), (4, .int r_1), (3, .int v3_5), (0, .ref (B + 43)), (2, .int a2)] [] 56) (fun v3_5 h => ?_)) (fun h => ?_)
      · refine zn_iinc C (fun v5_6 => [(5, .int v5_6), (4, .int r_1), (3, .int v3_5), (0, .ref (B + 43)), (2, .int a2)]) dyX9_madeWithin_56 0 rfl zc_i_1 (Nat.le_of_ble_eq_true rfl) (fun _ => rfl) (fun v5_6 ev5_6 => ?_)
        replace h := h v5_6 ev5_6
        refine zr_goto C dyX9_madeWithin_59 (tgt := 19) (by decide) ?_
        exact h
      refine zr_if_le C dyX9_madeWithin_27 (tgt := 56) (by decide) (fun hc_11 => ?_) (fun hc_11 => ?_)
      · replace h := zif_pos hc_11 h
        exact h
      · replace h := zif_neg hc_11 h
        refine zr_aload_n C dyX9_madeWithin_30 rfl 3 rfl ?_
        refine zg_9_47 C hS dyX9_madeWithin_31 ?_
        refine zg_9_142 C hS dyX9_madeWithin_34 ?_
        refine zr_aload_n C dyX9_madeWithin_37 rfl 3 rfl ?_
        refine zg_9_14 C hS dyX9_madeWithin_38 ?_
        refine zr_iload C dyX9_madeWithin_41 0 rfl ?_
        refine zv_9_74 C hS (zIsRow.of hS zir_44) (st := [.ref (B + 33)]) h ⟨Nat.le_of_ble_eq_true rfl, Nat.le_of_ble_eq_true rfl⟩ (Nat.le_of_ble_eq_true rfl) dyX9_madeWithin_43 (fun r_7 h => ?_)
        refine zv_9_74 C hS (zIsRow.of hS zir_33) (st := []) h ⟨Nat.le_of_ble_eq_true rfl, Nat.le_of_ble_eq_true rfl⟩ (Nat.le_of_ble_eq_true rfl) dyX9_madeWithin_46 (fun r_8 h => ?_)
        refine zr_iload_n C dyX9_madeWithin_49 rfl 4 rfl ?_
        refine zr_icmp_ne C dyX9_madeWithin_50 (tgt := 56) (by decide) (fun hc_10 => ?_) (fun hc_10 => ?_)
        · replace h := zif_neg hc_10 h
          exact h
        · replace h := zif_pos hc_10 h
          refine zn_iinc C (fun v3_9 => [(3, .int v3_9), (5, .int v5_4), (4, .int r_1), (0, .ref (B + 43)), (2, .int a2)]) dyX9_madeWithin_53 2 rfl zc_i_1 (Nat.le_of_ble_eq_true rfl) (fun _ => rfl) (fun v3_9 ev3_9 => ?_)
          replace h := h v3_9 ev3_9
          refine zr_sub (lv2 := [(5, .int v5_4), (4, .int r_1), (3, .int v3_9), (0, .ref (B + 43)), (2, .int a2)]) [1, 2, 0, 3, 4] rfl ?_
          exact h
  refine zr_sub (lv2 := [(5, .int r_2), (4, .int r_1), (3, .int 0), (0, .ref (B + 43)), (2, .int a2)]) [0, 1, 2, 3, 5] rfl ?_
  exact h
theorem zg_11_14 {p : Program} {l : Launch} {e : Env} {R : Room} {s : State} {m : MethodId} {args : Array Value} {below : List Frame} {meth : Method} {c : Code} {Q : State → Prop} {D : va_G} {B : Nat} {cA : Nat → ClassId} {ad : Nat → Nat} {cc : ByteArray} {nL : Nat} {ret : Option FieldType} {S : List zC} {I : zI} {lv : List (Nat × Value)} {st : List Value} {pc : Nat} (C : zCx p s m args meth c cc nL RX11 ret D B cA ad) (hS : zOkX S) (hd : decode cc pc = .ok (.getfield 14, 3)) (kk : zX p l e R s m args below meth c Q D B cA nL 0 0 S I lv (.ref (B + 1) :: st) (pc + 3)) : zX p l e R s m args below meth c Q D B cA nL 0 0 S I lv (.ref (B + 0) :: st) pc :=
  zr_getr C (ci := 11) (Cn := RX11) (T := TX11) (N := 19) (k := 0) (j := 0) (fs := [some (some 1), none, some (some 3), some (some 4), none, none, none, none, some (some 22), some (some 24), some (some 43), some (some 64), some (some 69), some (some 88), some (some 97), some (some 100), some (some 109), some (some 111), none]) rfl zin_11 (Nat.le_of_ble_eq_true rfl) rfl (hS _ _ zs_0) rfl zk_fl_11_14 hd kk
theorem zg_11_138 {p : Program} {l : Launch} {e : Env} {R : Room} {s : State} {m : MethodId} {args : Array Value} {below : List Frame} {meth : Method} {c : Code} {Q : State → Prop} {D : va_G} {B : Nat} {cA : Nat → ClassId} {ad : Nat → Nat} {cc : ByteArray} {nL : Nat} {ret : Option FieldType} {S : List zC} {I : zI} {lv : List (Nat × Value)} {st : List Value} {pc : Nat} (C : zCx p s m args meth c cc nL RX11 ret D B cA ad) (hS : zOkX S) (hd : decode cc pc = .ok (.getfield 138, 3)) (kk : zX p l e R s m args below meth c Q D B cA nL 0 0 S I lv (.int (I.1 0 1) :: st) (pc + 3)) : zX p l e R s m args below meth c Q D B cA nL 0 0 S I lv (.ref (B + 0) :: st) pc :=
  zr_geti C (ci := 11) (Cn := RX11) (T := TX11) (N := 19) (k := 0) (j := 1) (fs := [some (some 1), none, some (some 3), some (some 4), none, none, none, none, some (some 22), some (some 24), some (some 43), some (some 64), some (some 69), some (some 88), some (some 97), some (some 100), some (some 109), some (some 111), none]) rfl zin_11 (Nat.le_of_ble_eq_true rfl) rfl (hS _ _ zs_0) rfl zk_fl_11_138 hd kk
theorem zv_11_118 {p : Program} {l : Launch} {e : Env} {R : Room} {s : State} {m : MethodId} {args : Array Value} {below : List Frame} {meth : Method} {c : Code} {Q : State → Prop} {D : va_G} {B : Nat} {cA : Nat → ClassId} {ad : Nat → Nat} {cc : ByteArray} {nL : Nat} {ret : Option FieldType} {S : List zC} {I : zI} {lv : List (Nat × Value)} {st : List Value} {pc : Nat} (C : zCx p s m args meth c cc nL RX11 ret D B cA ad) {K : zI → Prop} {xk : Nat} {xn : Nat} {xa1 : Int32} {xa2 : Int32} (hS : zOkX S) (xhk : zIsRow S xk xn) (h : w_Row_set xk xn xa1 xa2 I K) (hR : 0 + 1 ≤ R.frames ∧ 8 + (3 + 11) + (0) ≤ R.locals) (hw : (st.map fun v => v.category).sum ≤ 8) (hd : decode cc pc = .ok (.invokevirtual 118, 3)) (kk : ∀ I2, K I2 → zX p l e R s m args below meth c Q D B cA nL 0 0 S I2 lv st (pc + 3)) : zX p l e R s m args below meth c Q D B cA nL 0 0 S I lv (.int xa2 :: .int xa1 :: .ref (B + xk) :: st) pc :=
  have hf : 0 ≤ R.cells ∧ 0 ≤ R.slots := ⟨Nat.zero_le _, Nat.zero_le _⟩
  zc_VqV C (ci := 6) (q := (RX6, TX6, 1)) (k := xk) (fs := [some (some (xk + 1))]) (As := [.int xa1, .int xa2]) (st := st) rfl xhk.1 (c_Row_set hS xhk h) (zgV zk_ml_11_118 zk_im_yX6_set zk_se_yX6_set zk_in_6 zk_cd_yX6_set) zsg_yX6_set hR rfl rfl hw hd hf kk
theorem zp_11_138 {p : Program} {l : Launch} {e : Env} {R : Room} {s : State} {m : MethodId} {args : Array Value} {below : List Frame} {meth : Method} {c : Code} {Q : State → Prop} {D : va_G} {B : Nat} {cA : Nat → ClassId} {ad : Nat → Nat} {cc : ByteArray} {nL : Nat} {ret : Option FieldType} {S : List zC} {I : zI} {lv : List (Nat × Value)} {st : List Value} {pc : Nat} (C : zCx p s m args meth c cc nL RX11 ret D B cA ad) (hS : zOkX S) {v : Int32} (hd : decode cc pc = .ok (.putfield 138, 3)) (kk : zX p l e R s m args below meth c Q D B cA nL 0 0 S (zu I 0 1 v) lv st (pc + 3)) : zX p l e R s m args below meth c Q D B cA nL 0 0 S I lv (.int v :: .ref (B + 0) :: st) pc :=
  zr_puti C (ci := 11) (Cn := RX11) (T := TX11) (N := 19) (k := 0) (j := 1) (fs := [some (some 1), none, some (some 3), some (some 4), none, none, none, none, some (some 22), some (some 24), some (some 43), some (some 64), some (some 69), some (some 88), some (some 97), some (some 100), some (some 109), some (some 111), none]) rfl zin_11 (Nat.le_of_ble_eq_true rfl) rfl (hS _ _ zs_0) rfl tyX11 tyX11_ok nmX11 (ty := .int) zpd_I rfl rfl rfl zk_fl_11_138 hd kk
def w_Desk_feedFour (a1 : Int32) (I : zI) (K : zI → Prop) : Prop :=
  ∀ (P3 : Int32 → zI → Prop), (∀ (v2_1 : Int32) (I_2 : zI), ((if v2_1 < 0 then K I_2 else (w_Row_set 1 200 (I_2.1 0 1) (((a1.toUInt32 >>> (v2_1.toUInt32 &&& Int32.toUInt32 31)).toInt32) &&& 255) I_2 (fun I_3 => ∀ I_4, I_4 = (zu I_3 0 1 ((I_3.1 0 1) + 1)) → ∀ v2_5, v2_5 = (v2_1 + (-8)) → P3 v2_5 I_4)))) → P3 v2_1 I_2) → P3 24 I
theorem dyX11_feedFour_0 : decode cX11_feedFour 0 = .ok (.bipush 24, 2) := by decide +kernel
theorem dyX11_feedFour_2 : decode cX11_feedFour 2 = .ok (.istore_n 2, 1) := by decide +kernel
theorem dyX11_feedFour_3 : decode cX11_feedFour 3 = .ok (.iload_n 2, 1) := by decide +kernel
theorem dyX11_feedFour_4 : decode cX11_feedFour 4 = .ok (.ifCond .lt 37, 3) := by decide +kernel
theorem dyX11_feedFour_7 : decode cX11_feedFour 7 = .ok (.aload_n 0, 1) := by decide +kernel
theorem dyX11_feedFour_8 : decode cX11_feedFour 8 = .ok (.getfield 14, 3) := by decide +kernel
theorem dyX11_feedFour_11 : decode cX11_feedFour 11 = .ok (.aload_n 0, 1) := by decide +kernel
theorem dyX11_feedFour_12 : decode cX11_feedFour 12 = .ok (.getfield 138, 3) := by decide +kernel
theorem dyX11_feedFour_15 : decode cX11_feedFour 15 = .ok (.iload_n 1, 1) := by decide +kernel
theorem dyX11_feedFour_16 : decode cX11_feedFour 16 = .ok (.iload_n 2, 1) := by decide +kernel
theorem dyX11_feedFour_17 : decode cX11_feedFour 17 = .ok (.iushr, 1) := by decide +kernel
theorem dyX11_feedFour_18 : decode cX11_feedFour 18 = .ok (.sipush 255, 3) := by decide +kernel
theorem dyX11_feedFour_21 : decode cX11_feedFour 21 = .ok (.iand, 1) := by decide +kernel
theorem dyX11_feedFour_22 : decode cX11_feedFour 22 = .ok (.invokevirtual 118, 3) := by decide +kernel
theorem dyX11_feedFour_25 : decode cX11_feedFour 25 = .ok (.aload_n 0, 1) := by decide +kernel
theorem dyX11_feedFour_26 : decode cX11_feedFour 26 = .ok (.dup, 1) := by decide +kernel
theorem dyX11_feedFour_27 : decode cX11_feedFour 27 = .ok (.getfield 138, 3) := by decide +kernel
theorem dyX11_feedFour_30 : decode cX11_feedFour 30 = .ok (.iconst 1, 1) := by decide +kernel
theorem dyX11_feedFour_31 : decode cX11_feedFour 31 = .ok (.iadd, 1) := by decide +kernel
theorem dyX11_feedFour_32 : decode cX11_feedFour 32 = .ok (.putfield 138, 3) := by decide +kernel
theorem dyX11_feedFour_35 : decode cX11_feedFour 35 = .ok (.iinc 2 (-8), 3) := by decide +kernel
theorem dyX11_feedFour_38 : decode cX11_feedFour 38 = .ok (.goto (-35), 3) := by decide +kernel
theorem dyX11_feedFour_41 : decode cX11_feedFour 41 = .ok (.return_, 1) := by decide +kernel
theorem zsg_yX11_feedFour : yX11_feedFour.cls = RX11 ∧ yX11_feedFour.cls ≠ "java/lang/invoke/MethodHandle" ∧ yX11_feedFour.cls ≠ "java/lang/invoke/VarHandle" ∧ (parseMethodDescriptor yX11_feedFour.desc).map (fun d => d.parameters.length) = some 1 := by decide +kernel
set_option maxRecDepth 20000 in
theorem c_Desk_feedFour {l : Launch} {D : va_G} {B : Nat} {cA : Nat → ClassId} {ad : Nat → Nat} {S : List zC} (hS : zOkX S) {a1 : Int32} {I : zI} {K : zI → Prop}  (h : w_Desk_feedFour a1 I K) : Met l yX11_feedFour (zws yX11_feedFour cX11_feedFour 3 none) (zrm 1 22) (zPc D B cA ad [.ref (B + 0), .int a1] S I) (zQc D B cA (zqV S K)) 0 0 (fun q => B ≤ q) := by
  refine zm_of (cc := cX11_feedFour) (maxL := 3) (ret := none) (by decide +kernel) rfl (Nat.le_of_ble_eq_true rfl) trivial ?_
  intro p e s m args below meth c C _
  unfold w_Desk_feedFour at h
  show zX p l e (zrm 1 22) s m args below meth c (MQ below (zQc D B cA (zqV S K)) args s 0 0 (fun q => B ≤ q)) D B cA 3 0 0 S I [(0, .ref (B + 0)), (1, .int a1)] [] 0
  refine zr_bipush C dyX11_feedFour_0 zc_b_24 ?_
  refine zr_istore_n C dyX11_feedFour_2 rfl (Nat.le_of_ble_eq_true rfl) (lv2 := [(2, .int 24), (0, .ref (B + 0)), (1, .int a1)]) rfl ?_
  refine zjn (h (fun (v2_1 : Int32) (I_2 : zI) => zX p l e (zrm 1 22) s m args below meth c (MQ below (zQc D B cA (zqV S K)) args s 0 0 (fun q => B ≤ q)) D B cA 3 0 0 S I_2 [(2, .int v2_1), (0, .ref (B + 0)), (1, .int a1)] [] 3) (fun v2_1 I_2 h => ?_)) (fun h => ?_)
  · refine zr_iload_n C dyX11_feedFour_3 rfl 0 rfl ?_
    refine zr_if_lt C dyX11_feedFour_4 (tgt := 41) (by decide) (fun hc_6 => ?_) (fun hc_6 => ?_)
    · replace h := zif_pos hc_6 h
      exact zr_vret C rfl dyX11_feedFour_41 ⟨rfl, rfl, h⟩
    · replace h := zif_neg hc_6 h
      refine zr_aload_n C dyX11_feedFour_7 rfl 1 rfl ?_
      refine zg_11_14 C hS dyX11_feedFour_8 ?_
      refine zr_aload_n C dyX11_feedFour_11 rfl 1 rfl ?_
      refine zg_11_138 C hS dyX11_feedFour_12 ?_
      refine zr_iload_n C dyX11_feedFour_15 rfl 2 rfl ?_
      refine zr_iload_n C dyX11_feedFour_16 rfl 0 rfl ?_
      refine zr_iushr C dyX11_feedFour_17 ?_
      refine zr_sipush C dyX11_feedFour_18 zc_s_255 ?_
      refine zr_iand C dyX11_feedFour_21 ?_
      refine zv_11_118 C hS (zIsRow.of hS zir_1) (st := []) h ⟨Nat.le_of_ble_eq_true rfl, Nat.le_of_ble_eq_true rfl⟩ (Nat.le_of_ble_eq_true rfl) dyX11_feedFour_22 (fun I_3 h => ?_)
      refine zr_aload_n C dyX11_feedFour_25 rfl 1 rfl ?_
      refine zr_dup C dyX11_feedFour_26 rfl ?_
      refine zg_11_138 C hS dyX11_feedFour_27 ?_
      refine zr_iconst C dyX11_feedFour_30 zc_i_1 ?_
      refine zr_iadd C dyX11_feedFour_31 ?_
      refine zp_11_138 C hS dyX11_feedFour_32 ?_
      refine zn_mem C (fun I_4 eI_4 => ?_)
      replace h := h I_4 eI_4
      refine zn_iinc C (fun v2_5 => [(2, .int v2_5), (0, .ref (B + 0)), (1, .int a1)]) dyX11_feedFour_35 0 rfl zc_i_m8 (Nat.le_of_ble_eq_true rfl) (fun _ => rfl) (fun v2_5 ev2_5 => ?_)
      replace h := h v2_5 ev2_5
      refine zr_goto C dyX11_feedFour_38 (tgt := 3) (by decide) ?_
      exact h
  exact h
theorem zv_11_141 {p : Program} {l : Launch} {e : Env} {R : Room} {s : State} {m : MethodId} {args : Array Value} {below : List Frame} {meth : Method} {c : Code} {Q : State → Prop} {D : va_G} {B : Nat} {cA : Nat → ClassId} {ad : Nat → Nat} {cc : ByteArray} {nL : Nat} {ret : Option FieldType} {S : List zC} {I : zI} {lv : List (Nat × Value)} {st : List Value} {pc : Nat} (C : zCx p s m args meth c cc nL RX11 ret D B cA ad) {K : zI → Prop} {xa1 : Int32} (hS : zOkX S)  (h : w_Desk_feedFour xa1 I K) (hR : 1 + 1 ≤ R.frames ∧ 8 + (3 + 11) + (22) ≤ R.locals) (hw : (st.map fun v => v.category).sum ≤ 8) (hd : decode cc pc = .ok (.invokevirtual 141, 3)) (kk : ∀ I2, K I2 → zX p l e R s m args below meth c Q D B cA nL 0 0 S I2 lv st (pc + 3)) : zX p l e R s m args below meth c Q D B cA nL 0 0 S I lv (.int xa1 :: .ref (B + 0) :: st) pc :=
  have hf : 0 ≤ R.cells ∧ 0 ≤ R.slots := ⟨Nat.zero_le _, Nat.zero_le _⟩
  zc_VqV C (ci := 11) (q := (RX11, TX11, 19)) (k := 0) (fs := [some (some 1), none, some (some 3), some (some 4), none, none, none, none, some (some 22), some (some 24), some (some 43), some (some 64), some (some 69), some (some 88), some (some 97), some (some 100), some (some 109), some (some 111), none]) (As := [.int xa1]) (st := st) rfl (hS _ _ zs_0) (c_Desk_feedFour hS h) (zgV zk_ml_11_141 zk_im_yX11_feedFour zk_se_yX11_feedFour zk_in_11 zk_cd_yX11_feedFour) zsg_yX11_feedFour hR rfl rfl hw hd hf kk
def w_Desk_feed (a1 : Int32) (a2 : Int32) (a3 : Int32) (a4 : Int32) (a5 : Int32) (I : zI) (K : Int32 → zI → Prop) : Prop :=
  (if ((I.1 0 1) + 20) ≤ 200 then (w_Desk_feedFour a1 I (fun I_1 => w_Desk_feedFour a2 I_1 (fun I_2 => w_Desk_feedFour a3 I_2 (fun I_3 => w_Desk_feedFour a4 I_3 (fun I_4 => w_Desk_feedFour a5 I_4 (fun I_5 => K (I_5.1 0 1) I_5)))))) else (K (-1) I))
theorem dyX11_feed_0 : decode cX11_feed 0 = .ok (.aload_n 0, 1) := by decide +kernel
theorem dyX11_feed_1 : decode cX11_feed 1 = .ok (.getfield 138, 3) := by decide +kernel
theorem dyX11_feed_4 : decode cX11_feed 4 = .ok (.bipush 20, 2) := by decide +kernel
theorem dyX11_feed_6 : decode cX11_feed 6 = .ok (.iadd, 1) := by decide +kernel
theorem dyX11_feed_7 : decode cX11_feed 7 = .ok (.sipush 200, 3) := by decide +kernel
theorem dyX11_feed_10 : decode cX11_feed 10 = .ok (.if_icmp .le 5, 3) := by decide +kernel
theorem dyX11_feed_13 : decode cX11_feed 13 = .ok (.iconst (-1), 1) := by decide +kernel
theorem dyX11_feed_14 : decode cX11_feed 14 = .ok (.ireturn, 1) := by decide +kernel
theorem dyX11_feed_15 : decode cX11_feed 15 = .ok (.aload_n 0, 1) := by decide +kernel
theorem dyX11_feed_16 : decode cX11_feed 16 = .ok (.iload_n 1, 1) := by decide +kernel
theorem dyX11_feed_17 : decode cX11_feed 17 = .ok (.invokevirtual 141, 3) := by decide +kernel
theorem dyX11_feed_20 : decode cX11_feed 20 = .ok (.aload_n 0, 1) := by decide +kernel
theorem dyX11_feed_21 : decode cX11_feed 21 = .ok (.iload_n 2, 1) := by decide +kernel
theorem dyX11_feed_22 : decode cX11_feed 22 = .ok (.invokevirtual 141, 3) := by decide +kernel
theorem dyX11_feed_25 : decode cX11_feed 25 = .ok (.aload_n 0, 1) := by decide +kernel
theorem dyX11_feed_26 : decode cX11_feed 26 = .ok (.iload_n 3, 1) := by decide +kernel
theorem dyX11_feed_27 : decode cX11_feed 27 = .ok (.invokevirtual 141, 3) := by decide +kernel
theorem dyX11_feed_30 : decode cX11_feed 30 = .ok (.aload_n 0, 1) := by decide +kernel
theorem dyX11_feed_31 : decode cX11_feed 31 = .ok (.iload 4, 2) := by decide +kernel
theorem dyX11_feed_33 : decode cX11_feed 33 = .ok (.invokevirtual 141, 3) := by decide +kernel
theorem dyX11_feed_36 : decode cX11_feed 36 = .ok (.aload_n 0, 1) := by decide +kernel
theorem dyX11_feed_37 : decode cX11_feed 37 = .ok (.iload 5, 2) := by decide +kernel
theorem dyX11_feed_39 : decode cX11_feed 39 = .ok (.invokevirtual 141, 3) := by decide +kernel
theorem dyX11_feed_42 : decode cX11_feed 42 = .ok (.aload_n 0, 1) := by decide +kernel
theorem dyX11_feed_43 : decode cX11_feed 43 = .ok (.getfield 138, 3) := by decide +kernel
theorem dyX11_feed_46 : decode cX11_feed 46 = .ok (.ireturn, 1) := by decide +kernel
theorem zsg_yX11_feed : yX11_feed.cls = RX11 ∧ yX11_feed.cls ≠ "java/lang/invoke/MethodHandle" ∧ yX11_feed.cls ≠ "java/lang/invoke/VarHandle" ∧ (parseMethodDescriptor yX11_feed.desc).map (fun d => d.parameters.length) = some 5 := by decide +kernel
set_option maxRecDepth 20000 in
theorem c_Desk_feed {l : Launch} {D : va_G} {B : Nat} {cA : Nat → ClassId} {ad : Nat → Nat} {S : List zC} (hS : zOkX S) {a1 : Int32} {a2 : Int32} {a3 : Int32} {a4 : Int32} {a5 : Int32} {I : zI} {K : Int32 → zI → Prop}  (h : w_Desk_feed a1 a2 a3 a4 a5 I K) : Met l yX11_feed (zws yX11_feed cX11_feed 6 (some .int)) (zrm 2 44) (zPc D B cA ad [.ref (B + 0), .int a1, .int a2, .int a3, .int a4, .int a5] S I) (zQc D B cA (zqI S K)) 0 0 (fun q => B ≤ q) := by
  refine zm_of (cc := cX11_feed) (maxL := 6) (ret := (some .int)) (by decide +kernel) rfl (Nat.le_of_ble_eq_true rfl) trivial ?_
  intro p e s m args below meth c C _
  unfold w_Desk_feed at h
  show zX p l e (zrm 2 44) s m args below meth c (MQ below (zQc D B cA (zqI S K)) args s 0 0 (fun q => B ≤ q)) D B cA 6 0 0 S I [(0, .ref (B + 0)), (1, .int a1), (2, .int a2), (3, .int a3), (4, .int a4), (5, .int a5)] [] 0
  refine zr_aload_n C dyX11_feed_0 rfl 0 rfl ?_
  refine zg_11_138 C hS dyX11_feed_1 ?_
  refine zr_bipush C dyX11_feed_4 zc_b_20 ?_
  refine zr_iadd C dyX11_feed_6 ?_
  refine zr_sipush C dyX11_feed_7 zc_s_200 ?_
  refine zr_icmp_le C dyX11_feed_10 (tgt := 15) (by decide) (fun hc_6 => ?_) (fun hc_6 => ?_)
  · replace h := zif_pos hc_6 h
    refine zr_aload_n C dyX11_feed_15 rfl 0 rfl ?_
    refine zr_iload_n C dyX11_feed_16 rfl 1 rfl ?_
    refine zv_11_141 C hS (st := []) h ⟨Nat.le_of_ble_eq_true rfl, Nat.le_of_ble_eq_true rfl⟩ (Nat.le_of_ble_eq_true rfl) dyX11_feed_17 (fun I_1 h => ?_)
    refine zr_aload_n C dyX11_feed_20 rfl 0 rfl ?_
    refine zr_iload_n C dyX11_feed_21 rfl 2 rfl ?_
    refine zv_11_141 C hS (st := []) h ⟨Nat.le_of_ble_eq_true rfl, Nat.le_of_ble_eq_true rfl⟩ (Nat.le_of_ble_eq_true rfl) dyX11_feed_22 (fun I_2 h => ?_)
    refine zr_aload_n C dyX11_feed_25 rfl 0 rfl ?_
    refine zr_iload_n C dyX11_feed_26 rfl 3 rfl ?_
    refine zv_11_141 C hS (st := []) h ⟨Nat.le_of_ble_eq_true rfl, Nat.le_of_ble_eq_true rfl⟩ (Nat.le_of_ble_eq_true rfl) dyX11_feed_27 (fun I_3 h => ?_)
    refine zr_aload_n C dyX11_feed_30 rfl 0 rfl ?_
    refine zr_iload C dyX11_feed_31 4 rfl ?_
    refine zv_11_141 C hS (st := []) h ⟨Nat.le_of_ble_eq_true rfl, Nat.le_of_ble_eq_true rfl⟩ (Nat.le_of_ble_eq_true rfl) dyX11_feed_33 (fun I_4 h => ?_)
    refine zr_aload_n C dyX11_feed_36 rfl 0 rfl ?_
    refine zr_iload C dyX11_feed_37 5 rfl ?_
    refine zv_11_141 C hS (st := []) h ⟨Nat.le_of_ble_eq_true rfl, Nat.le_of_ble_eq_true rfl⟩ (Nat.le_of_ble_eq_true rfl) dyX11_feed_39 (fun I_5 h => ?_)
    refine zr_aload_n C dyX11_feed_42 rfl 0 rfl ?_
    refine zg_11_138 C hS dyX11_feed_43 ?_
    exact zr_iret C rfl dyX11_feed_46 ⟨rfl, _, rfl, h⟩
  · replace h := zif_neg hc_6 h
    refine zr_iconst C dyX11_feed_13 zc_i_m1 ?_
    exact zr_iret C rfl dyX11_feed_14 ⟨rfl, _, rfl, h⟩
def w_Desk_back (a1 : Int32) (I : zI) (K : Int32 → zI → Prop) : Prop :=
  (if a1 < 0 then (K (-1) I) else (if a1 ≤ (I.1 0 1) then (∀ I_1, I_1 = (zu I 0 1 ((I.1 0 1) - a1)) → K (I_1.1 0 1) I_1) else (K (-1) I)))
theorem dyX11_back_0 : decode cX11_back 0 = .ok (.iload_n 1, 1) := by decide +kernel
theorem dyX11_back_1 : decode cX11_back 1 = .ok (.ifCond .lt 11, 3) := by decide +kernel
theorem dyX11_back_4 : decode cX11_back 4 = .ok (.iload_n 1, 1) := by decide +kernel
theorem dyX11_back_5 : decode cX11_back 5 = .ok (.aload_n 0, 1) := by decide +kernel
theorem dyX11_back_6 : decode cX11_back 6 = .ok (.getfield 138, 3) := by decide +kernel
theorem dyX11_back_9 : decode cX11_back 9 = .ok (.if_icmp .le 5, 3) := by decide +kernel
theorem dyX11_back_12 : decode cX11_back 12 = .ok (.iconst (-1), 1) := by decide +kernel
theorem dyX11_back_13 : decode cX11_back 13 = .ok (.ireturn, 1) := by decide +kernel
theorem dyX11_back_14 : decode cX11_back 14 = .ok (.aload_n 0, 1) := by decide +kernel
theorem dyX11_back_15 : decode cX11_back 15 = .ok (.dup, 1) := by decide +kernel
theorem dyX11_back_16 : decode cX11_back 16 = .ok (.getfield 138, 3) := by decide +kernel
theorem dyX11_back_19 : decode cX11_back 19 = .ok (.iload_n 1, 1) := by decide +kernel
theorem dyX11_back_20 : decode cX11_back 20 = .ok (.isub, 1) := by decide +kernel
theorem dyX11_back_21 : decode cX11_back 21 = .ok (.putfield 138, 3) := by decide +kernel
theorem dyX11_back_24 : decode cX11_back 24 = .ok (.aload_n 0, 1) := by decide +kernel
theorem dyX11_back_25 : decode cX11_back 25 = .ok (.getfield 138, 3) := by decide +kernel
theorem dyX11_back_28 : decode cX11_back 28 = .ok (.ireturn, 1) := by decide +kernel
theorem zsg_yX11_back : yX11_back.cls = RX11 ∧ yX11_back.cls ≠ "java/lang/invoke/MethodHandle" ∧ yX11_back.cls ≠ "java/lang/invoke/VarHandle" ∧ (parseMethodDescriptor yX11_back.desc).map (fun d => d.parameters.length) = some 1 := by decide +kernel
set_option maxRecDepth 20000 in
theorem c_Desk_back {l : Launch} {D : va_G} {B : Nat} {cA : Nat → ClassId} {ad : Nat → Nat} {S : List zC} (hS : zOkX S) {a1 : Int32} {I : zI} {K : Int32 → zI → Prop}  (h : w_Desk_back a1 I K) : Met l yX11_back (zws yX11_back cX11_back 2 (some .int)) (zrm 0 0) (zPc D B cA ad [.ref (B + 0), .int a1] S I) (zQc D B cA (zqI S K)) 0 0 (fun q => B ≤ q) := by
  refine zm_of (cc := cX11_back) (maxL := 2) (ret := (some .int)) (by decide +kernel) rfl (Nat.le_of_ble_eq_true rfl) trivial ?_
  intro p e s m args below meth c C _
  unfold w_Desk_back at h
  show zX p l e (zrm 0 0) s m args below meth c (MQ below (zQc D B cA (zqI S K)) args s 0 0 (fun q => B ≤ q)) D B cA 2 0 0 S I [(0, .ref (B + 0)), (1, .int a1)] [] 0
  refine zr_iload_n C dyX11_back_0 rfl 1 rfl ?_
  refine zr_if_lt C dyX11_back_1 (tgt := 12) (by decide) (fun hc_3 => ?_) (fun hc_3 => ?_)
  · replace h := zif_pos hc_3 h
    refine zr_iconst C dyX11_back_12 zc_i_m1 ?_
    exact zr_iret C rfl dyX11_back_13 ⟨rfl, _, rfl, h⟩
  · replace h := zif_neg hc_3 h
    refine zr_iload_n C dyX11_back_4 rfl 1 rfl ?_
    refine zr_aload_n C dyX11_back_5 rfl 0 rfl ?_
    refine zg_11_138 C hS dyX11_back_6 ?_
    refine zr_icmp_le C dyX11_back_9 (tgt := 14) (by decide) (fun hc_2 => ?_) (fun hc_2 => ?_)
    · replace h := zif_pos hc_2 h
      refine zr_aload_n C dyX11_back_14 rfl 0 rfl ?_
      refine zr_dup C dyX11_back_15 rfl ?_
      refine zg_11_138 C hS dyX11_back_16 ?_
      refine zr_iload_n C dyX11_back_19 rfl 1 rfl ?_
      refine zr_isub C dyX11_back_20 ?_
      refine zp_11_138 C hS dyX11_back_21 ?_
      refine zn_mem C (fun I_1 eI_1 => ?_)
      replace h := h I_1 eI_1
      refine zr_aload_n C dyX11_back_24 rfl 0 rfl ?_
      refine zg_11_138 C hS dyX11_back_25 ?_
      exact zr_iret C rfl dyX11_back_28 ⟨rfl, _, rfl, h⟩
    · replace h := zif_neg hc_2 h
      refine zr_iconst C dyX11_back_12 zc_i_m1 ?_
      exact zr_iret C rfl dyX11_back_13 ⟨rfl, _, rfl, h⟩
theorem zg_11_202 {p : Program} {l : Launch} {e : Env} {R : Room} {s : State} {m : MethodId} {args : Array Value} {below : List Frame} {meth : Method} {c : Code} {Q : State → Prop} {D : va_G} {B : Nat} {cA : Nat → ClassId} {ad : Nat → Nat} {cc : ByteArray} {nL : Nat} {ret : Option FieldType} {S : List zC} {I : zI} {lv : List (Nat × Value)} {st : List Value} {pc : Nat} (C : zCx p s m args meth c cc nL RX11 ret D B cA ad) (hS : zOkX S) (hd : decode cc pc = .ok (.getfield 202, 3)) (kk : zX p l e R s m args below meth c Q D B cA nL 0 0 S I lv (.int (I.1 0 4) :: st) (pc + 3)) : zX p l e R s m args below meth c Q D B cA nL 0 0 S I lv (.ref (B + 0) :: st) pc :=
  zr_geti C (ci := 11) (Cn := RX11) (T := TX11) (N := 19) (k := 0) (j := 4) (fs := [some (some 1), none, some (some 3), some (some 4), none, none, none, none, some (some 22), some (some 24), some (some 43), some (some 64), some (some 69), some (some 88), some (some 97), some (some 100), some (some 109), some (some 111), none]) rfl zin_11 (Nat.le_of_ble_eq_true rfl) rfl (hS _ _ zs_0) rfl zk_fl_11_202 hd kk
theorem zg_11_25 {p : Program} {l : Launch} {e : Env} {R : Room} {s : State} {m : MethodId} {args : Array Value} {below : List Frame} {meth : Method} {c : Code} {Q : State → Prop} {D : va_G} {B : Nat} {cA : Nat → ClassId} {ad : Nat → Nat} {cc : ByteArray} {nL : Nat} {ret : Option FieldType} {S : List zC} {I : zI} {lv : List (Nat × Value)} {st : List Value} {pc : Nat} (C : zCx p s m args meth c cc nL RX11 ret D B cA ad) (hS : zOkX S) (hd : decode cc pc = .ok (.getfield 25, 3)) (kk : zX p l e R s m args below meth c Q D B cA nL 0 0 S I lv (.ref (B + 4) :: st) (pc + 3)) : zX p l e R s m args below meth c Q D B cA nL 0 0 S I lv (.ref (B + 0) :: st) pc :=
  zr_getr C (ci := 11) (Cn := RX11) (T := TX11) (N := 19) (k := 0) (j := 3) (fs := [some (some 1), none, some (some 3), some (some 4), none, none, none, none, some (some 22), some (some 24), some (some 43), some (some 64), some (some 69), some (some 88), some (some 97), some (some 100), some (some 109), some (some 111), none]) rfl zin_11 (Nat.le_of_ble_eq_true rfl) rfl (hS _ _ zs_0) rfl zk_fl_11_25 hd kk
theorem zg_11_20 {p : Program} {l : Launch} {e : Env} {R : Room} {s : State} {m : MethodId} {args : Array Value} {below : List Frame} {meth : Method} {c : Code} {Q : State → Prop} {D : va_G} {B : Nat} {cA : Nat → ClassId} {ad : Nat → Nat} {cc : ByteArray} {nL : Nat} {ret : Option FieldType} {S : List zC} {I : zI} {lv : List (Nat × Value)} {st : List Value} {pc : Nat} (C : zCx p s m args meth c cc nL RX11 ret D B cA ad) (hS : zOkX S) (hd : decode cc pc = .ok (.getfield 20, 3)) (kk : zX p l e R s m args below meth c Q D B cA nL 0 0 S I lv (.ref (B + 3) :: st) (pc + 3)) : zX p l e R s m args below meth c Q D B cA nL 0 0 S I lv (.ref (B + 0) :: st) pc :=
  zr_getr C (ci := 11) (Cn := RX11) (T := TX11) (N := 19) (k := 0) (j := 2) (fs := [some (some 1), none, some (some 3), some (some 4), none, none, none, none, some (some 22), some (some 24), some (some 43), some (some 64), some (some 69), some (some 88), some (some 97), some (some 100), some (some 109), some (some 111), none]) rfl zin_11 (Nat.le_of_ble_eq_true rfl) rfl (hS _ _ zs_0) rfl zk_fl_11_20 hd kk
def w_Desk_now  (I : zI) (K : Nat → Prop) : Prop :=
  ∀ (P35 : Nat → Prop), (∀ (t_1 : Nat), (K t_1) → P35 t_1) → ∀ (P31 : Prop), ((P35 4) → P31) → (if (I.1 0 4) < 0 then P31 else (if 21 ≤ (I.1 0 4) then P31 else (vp_in (I.1 0 4) 21 ∧ (P35 (zmom (Int32.toNatClampNeg (I.1 0 4)))))))
theorem dyX11_now_0 : decode cX11_now 0 = .ok (.aload_n 0, 1) := by decide +kernel
theorem dyX11_now_1 : decode cX11_now 1 = .ok (.getfield 202, 3) := by decide +kernel
theorem dyX11_now_4 : decode cX11_now 4 = .ok (.ifCond .lt 27, 3) := by decide +kernel
theorem dyX11_now_7 : decode cX11_now 7 = .ok (.aload_n 0, 1) := by decide +kernel
theorem dyX11_now_8 : decode cX11_now 8 = .ok (.getfield 202, 3) := by decide +kernel
theorem dyX11_now_11 : decode cX11_now 11 = .ok (.aload_n 0, 1) := by decide +kernel
theorem dyX11_now_12 : decode cX11_now 12 = .ok (.getfield 20, 3) := by decide +kernel
theorem dyX11_now_15 : decode cX11_now 15 = .ok (.arraylength, 1) := by decide +kernel
theorem dyX11_now_16 : decode cX11_now 16 = .ok (.if_icmp .ge 15, 3) := by decide +kernel
theorem dyX11_now_19 : decode cX11_now 19 = .ok (.aload_n 0, 1) := by decide +kernel
theorem dyX11_now_20 : decode cX11_now 20 = .ok (.getfield 20, 3) := by decide +kernel
theorem dyX11_now_23 : decode cX11_now 23 = .ok (.aload_n 0, 1) := by decide +kernel
theorem dyX11_now_24 : decode cX11_now 24 = .ok (.getfield 202, 3) := by decide +kernel
theorem dyX11_now_27 : decode cX11_now 27 = .ok (.aaload, 1) := by decide +kernel
theorem dyX11_now_28 : decode cX11_now 28 = .ok (.goto 7, 3) := by decide +kernel
theorem dyX11_now_31 : decode cX11_now 31 = .ok (.aload_n 0, 1) := by decide +kernel
theorem dyX11_now_32 : decode cX11_now 32 = .ok (.getfield 25, 3) := by decide +kernel
theorem dyX11_now_35 : decode cX11_now 35 = .ok (.astore_n 1, 1) := by decide +kernel
theorem dyX11_now_36 : decode cX11_now 36 = .ok (.aload_n 1, 1) := by decide +kernel
theorem dyX11_now_37 : decode cX11_now 37 = .ok (.ifnonnull 10, 3) := by decide +kernel
theorem dyX11_now_47 : decode cX11_now 47 = .ok (.aload_n 1, 1) := by decide +kernel
theorem dyX11_now_48 : decode cX11_now 48 = .ok (.areturn, 1) := by decide +kernel
theorem zsg_yX11_now : yX11_now.cls = RX11 ∧ yX11_now.cls ≠ "java/lang/invoke/MethodHandle" ∧ yX11_now.cls ≠ "java/lang/invoke/VarHandle" ∧ (parseMethodDescriptor yX11_now.desc).map (fun d => d.parameters.length) = some 0 := by decide +kernel
set_option maxRecDepth 20000 in
theorem c_Desk_now {l : Launch} {D : va_G} {B : Nat} {cA : Nat → ClassId} {ad : Nat → Nat} {S : List zC} (hS : zOkX S)  {I : zI} {K : Nat → Prop}  (h : w_Desk_now  I K) : Met l yX11_now (zws yX11_now cX11_now 2 (some (.object "RegrowDesk$Moment"))) (zrm 0 0) (zPc D B cA ad [.ref (B + 0)] S I) (zQc D B cA (zpR B S I K)) 0 0 (fun q => B ≤ q) := by
  refine zm_of (cc := cX11_now) (maxL := 2) (ret := (some (.object "RegrowDesk$Moment"))) (by decide +kernel) rfl (Nat.le_of_ble_eq_true rfl) trivial ?_
  intro p e s m args below meth c C _
  unfold w_Desk_now at h
  show zX p l e (zrm 0 0) s m args below meth c (MQ below (zQc D B cA (zpR B S I K)) args s 0 0 (fun q => B ≤ q)) D B cA 2 0 0 S I [(0, .ref (B + 0))] [] 0
  refine zr_aload_n C dyX11_now_0 rfl 0 rfl ?_
  refine zg_11_202 C hS dyX11_now_1 ?_
  refine zjn (h (fun (t_1 : Nat) => zIsMoment S t_1 → zX p l e (zrm 0 0) s m args below meth c (MQ below (zQc D B cA (zpR B S I K)) args s 0 0 (fun q => B ≤ q)) D B cA 2 0 0 S I [(0, .ref (B + 0))] [.ref (B + t_1)] 35) (fun t_1 h ht_1 => ?_)) (fun h => ?_)
  · refine zr_astore_n C dyX11_now_35 rfl (Nat.le_of_ble_eq_true rfl) (lv2 := [(1, .ref (B + t_1)), (0, .ref (B + 0))]) rfl ?_
    refine zr_aload_n C dyX11_now_36 rfl 0 rfl ?_
    refine zr_ifnonnull C dyX11_now_37 (tgt := 47) (by decide) ?_
    refine zr_aload_n C dyX11_now_47 rfl 0 rfl ?_
    exact zr_aret C rfl dyX11_now_48 ⟨rfl, rfl, _, rfl, ht_1, h⟩
  refine zjn (h (zX p l e (zrm 0 0) s m args below meth c (MQ below (zQc D B cA (zpR B S I K)) args s 0 0 (fun q => B ≤ q)) D B cA 2 0 0 S I [(0, .ref (B + 0))] [] 31) (fun  h => ?_)) (fun h => ?_)
  · refine zr_aload_n C dyX11_now_31 rfl 0 rfl ?_
    refine zg_11_25 C hS dyX11_now_32 ?_
    exact h (zIsMoment.of hS zit_4)
  refine zr_if_lt C dyX11_now_4 (tgt := 31) (by decide) (fun hc_3 => ?_) (fun hc_3 => ?_)
  · replace h := zif_pos hc_3 h
    exact h
  · replace h := zif_neg hc_3 h
    refine zr_aload_n C dyX11_now_7 rfl 0 rfl ?_
    refine zg_11_202 C hS dyX11_now_8 ?_
    refine zr_aload_n C dyX11_now_11 rfl 0 rfl ?_
    refine zg_11_20 C hS dyX11_now_12 ?_
    refine zr_alenM C (v := 21) zmoms (hS _ _ zs_3) (by decide) dyX11_now_15 ?_
    refine zr_icmp_ge C dyX11_now_16 (tgt := 31) (by decide) (fun hc_2 => ?_) (fun hc_2 => ?_)
    · replace h := zif_pos hc_2 h
      exact h
    · replace h := zif_neg hc_2 h
      refine zr_aload_n C dyX11_now_19 rfl 0 rfl ?_
      refine zg_11_20 C hS dyX11_now_20 ?_
      refine zr_aload_n C dyX11_now_23 rfl 0 rfl ?_
      refine zg_11_202 C hS dyX11_now_24 ?_
      have hi := h.1
      replace h := h.2
      refine zr_aald C (xs := zmoms) (r := zmom (Int32.toNatClampNeg (I.1 0 4))) (hS _ _ zs_3) hi (zmoms_get _ (zin_lt hi)) dyX11_now_27 ?_
      refine zr_goto C dyX11_now_28 (tgt := 35) (by decide) ?_
      exact h (zmom_is hS (zin_lt hi))
