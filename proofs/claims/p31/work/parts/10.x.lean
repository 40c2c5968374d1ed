def w_Desk_redo  (I : zI) (K : Int32 → zI → Prop) : Prop :=
  (if (I.1 0 6) = 0 then K 0 I else (∀ I_1, I_1 = (zu I 0 6 ((I.1 0 6) - 1)) → ∀ I_2, I_2 = (zu I_1 0 5 ((I_1.1 0 5) + 1)) → w_Desk_nextSlot I_2 (fun r_3 => ∀ I_4, I_4 = (zu I_2 0 4 r_3) → w_Desk_now I_4 (fun r_5 => w_Desk_lookAt r_5 0 I_4 (fun I_6 => K 1 I_6)))))
theorem dyX11_redo_0 : decode cX11_redo 0 = .ok (.aload_n 0, 1) := by decide +kernel
theorem dyX11_redo_1 : decode cX11_redo 1 = .ok (.getfield 199, 3) := by decide +kernel
theorem dyX11_redo_4 : decode cX11_redo 4 = .ok (.ifCond .ne 5, 3) := by decide +kernel
theorem dyX11_redo_7 : decode cX11_redo 7 = .ok (.iconst 0, 1) := by decide +kernel
theorem dyX11_redo_8 : decode cX11_redo 8 = .ok (.ireturn, 1) := by decide +kernel
theorem dyX11_redo_9 : decode cX11_redo 9 = .ok (.aload_n 0, 1) := by decide +kernel
theorem dyX11_redo_10 : decode cX11_redo 10 = .ok (.dup, 1) := by decide +kernel
theorem dyX11_redo_11 : decode cX11_redo 11 = .ok (.getfield 199, 3) := by decide +kernel
theorem dyX11_redo_14 : decode cX11_redo 14 = .ok (.iconst 1, 1) := by decide +kernel
theorem dyX11_redo_15 : decode cX11_redo 15 = .ok (.isub, 1) := by decide +kernel
theorem dyX11_redo_16 : decode cX11_redo 16 = .ok (.putfield 199, 3) := by decide +kernel
theorem dyX11_redo_19 : decode cX11_redo 19 = .ok (.aload_n 0, 1) := by decide +kernel
theorem dyX11_redo_20 : decode cX11_redo 20 = .ok (.dup, 1) := by decide +kernel
theorem dyX11_redo_21 : decode cX11_redo 21 = .ok (.getfield 196, 3) := by decide +kernel
theorem dyX11_redo_24 : decode cX11_redo 24 = .ok (.iconst 1, 1) := by decide +kernel
theorem dyX11_redo_25 : decode cX11_redo 25 = .ok (.iadd, 1) := by decide +kernel
theorem dyX11_redo_26 : decode cX11_redo 26 = .ok (.putfield 196, 3) := by decide +kernel
theorem dyX11_redo_29 : decode cX11_redo 29 = .ok (.aload_n 0, 1) := by decide +kernel
theorem dyX11_redo_30 : decode cX11_redo 30 = .ok (.aload_n 0, 1) := by decide +kernel
theorem dyX11_redo_31 : decode cX11_redo 31 = .ok (.invokevirtual 205, 3) := by decide +kernel
theorem dyX11_redo_34 : decode cX11_redo 34 = .ok (.putfield 202, 3) := by decide +kernel
theorem dyX11_redo_37 : decode cX11_redo 37 = .ok (.aload_n 0, 1) := by decide +kernel
theorem dyX11_redo_38 : decode cX11_redo 38 = .ok (.aload_n 0, 1) := by decide +kernel
theorem dyX11_redo_39 : decode cX11_redo 39 = .ok (.invokevirtual 126, 3) := by decide +kernel
theorem dyX11_redo_42 : decode cX11_redo 42 = .ok (.iconst 0, 1) := by decide +kernel
theorem dyX11_redo_43 : decode cX11_redo 43 = .ok (.invokevirtual 134, 3) := by decide +kernel
theorem dyX11_redo_46 : decode cX11_redo 46 = .ok (.iconst 1, 1) := by decide +kernel
theorem dyX11_redo_47 : decode cX11_redo 47 = .ok (.ireturn, 1) := by decide +kernel
theorem zsg_yX11_redo : yX11_redo.cls = RX11 ∧ yX11_redo.cls ≠ "java/lang/invoke/MethodHandle" ∧ yX11_redo.cls ≠ "java/lang/invoke/VarHandle" ∧ (parseMethodDescriptor yX11_redo.desc).map (fun d => d.parameters.length) = some 0 := by decide +kernel
set_option maxRecDepth 20000 in
theorem c_Desk_redo {l : Launch} {D : va_G} {B : Nat} {cA : Nat → ClassId} {ad : Nat → Nat} {S : List zC} (hS : zOkX S)  {I : zI} {K : Int32 → zI → Prop}  (h : w_Desk_redo  I K) : Met l yX11_redo (zws yX11_redo cX11_redo 1 (some .boolean)) (zrm 6 141) (zPc D B cA ad [.ref (B + 0)] S I) (zQc D B cA (zqI S K)) 0 0 (fun q => B ≤ q) := by
  refine zm_of (cc := cX11_redo) (maxL := 1) (ret := (some .boolean)) (by decide +kernel) rfl (Nat.le_of_ble_eq_true rfl) trivial ?_
  intro p e s m args below meth c C _
  unfold w_Desk_redo at h
  show zX p l e (zrm 6 141) s m args below meth c (MQ below (zQc D B cA (zqI S K)) args s 0 0 (fun q => B ≤ q)) D B cA 1 0 0 S I [(0, .ref (B + 0))] [] 0
  refine zr_aload_n C dyX11_redo_0 rfl 0 rfl ?_
  refine zg_11_199 C hS dyX11_redo_1 ?_
  refine zr_if_ne C dyX11_redo_4 (tgt := 9) (by decide) (fun hc_7 => ?_) (fun hc_7 => ?_)
  · replace h := zif_neg hc_7 h
    refine zr_aload_n C dyX11_redo_9 rfl 0 rfl ?_
    refine zr_dup C dyX11_redo_10 rfl ?_
    refine zg_11_199 C hS dyX11_redo_11 ?_
    refine zr_iconst C dyX11_redo_14 zc_i_1 ?_
    refine zr_isub C dyX11_redo_15 ?_
    refine zp_11_199 C hS dyX11_redo_16 ?_
    refine zn_mem C (fun I_1 eI_1 => ?_)
    replace h := h I_1 eI_1
    refine zr_aload_n C dyX11_redo_19 rfl 0 rfl ?_
    refine zr_dup C dyX11_redo_20 rfl ?_
    refine zg_11_196 C hS dyX11_redo_21 ?_
    refine zr_iconst C dyX11_redo_24 zc_i_1 ?_
    refine zr_iadd C dyX11_redo_25 ?_
    refine zp_11_196 C hS dyX11_redo_26 ?_
    refine zn_mem C (fun I_2 eI_2 => ?_)
    replace h := h I_2 eI_2
    refine zr_aload_n C dyX11_redo_29 rfl 0 rfl ?_
    refine zr_aload_n C dyX11_redo_30 rfl 0 rfl ?_
    refine zv_11_205 C hS (st := [.ref (B + 0)]) h ⟨Nat.le_of_ble_eq_true rfl, Nat.le_of_ble_eq_true rfl⟩ (Nat.le_of_ble_eq_true rfl) dyX11_redo_31 (fun r_3 h => ?_)
    refine zp_11_202 C hS dyX11_redo_34 ?_
    refine zn_mem C (fun I_4 eI_4 => ?_)
    replace h := h I_4 eI_4
    refine zr_aload_n C dyX11_redo_37 rfl 0 rfl ?_
    refine zr_aload_n C dyX11_redo_38 rfl 0 rfl ?_
    refine zv_11_126 C hS (st := [.ref (B + 0)]) h ⟨Nat.le_of_ble_eq_true rfl, Nat.le_of_ble_eq_true rfl⟩ (Nat.le_of_ble_eq_true rfl) dyX11_redo_39 (fun r_5 hr_5 h => ?_)
    refine zr_iconst C dyX11_redo_42 zc_i_0 ?_
    refine zv_11_134 C hS hr_5 (st := []) h ⟨Nat.le_of_ble_eq_true rfl, Nat.le_of_ble_eq_true rfl⟩ (Nat.le_of_ble_eq_true rfl) dyX11_redo_43 (fun I_6 h => ?_)
    refine zr_iconst C dyX11_redo_46 zc_i_1 ?_
    exact zr_zret C rfl (zb.nar zb_1) dyX11_redo_47 ⟨rfl, _, rfl, h⟩
  · replace h := zif_pos hc_7 h
    refine zr_iconst C dyX11_redo_7 zc_i_0 ?_
    exact zr_zret C rfl (zb.nar zb_0) dyX11_redo_8 ⟨rfl, _, rfl, h⟩
def w_Desk_text (a1 : Int32) (I : zI) (K : Int32 → Prop) : Prop :=
  w_Desk_now I (fun r_1 => (if a1 < 0 then (K (-1)) else (if (I.1 r_1 1) ≤ a1 then (K (-1)) else (w_Row_get (r_1 + 1) 300 a1 I (fun r_2 => K r_2)))))
theorem dyX11_text_0 : decode cX11_text 0 = .ok (.aload_n 0, 1) := by decide +kernel
theorem dyX11_text_1 : decode cX11_text 1 = .ok (.invokevirtual 126, 3) := by decide +kernel
theorem dyX11_text_4 : decode cX11_text 4 = .ok (.astore_n 2, 1) := by decide +kernel
theorem dyX11_text_5 : decode cX11_text 5 = .ok (.iload_n 1, 1) := by decide +kernel
theorem dyX11_text_6 : decode cX11_text 6 = .ok (.ifCond .lt 22, 3) := by decide +kernel
theorem dyX11_text_9 : decode cX11_text 9 = .ok (.iload_n 1, 1) := by decide +kernel
theorem dyX11_text_10 : decode cX11_text 10 = .ok (.aload_n 2, 1) := by decide +kernel
theorem dyX11_text_11 : decode cX11_text 11 = .ok (.getfield 144, 3) := by decide +kernel
theorem dyX11_text_14 : decode cX11_text 14 = .ok (.if_icmp .ge 14, 3) := by decide +kernel
theorem dyX11_text_17 : decode cX11_text 17 = .ok (.aload_n 2, 1) := by decide +kernel
theorem dyX11_text_18 : decode cX11_text 18 = .ok (.getfield 103, 3) := by decide +kernel
theorem dyX11_text_21 : decode cX11_text 21 = .ok (.iload_n 1, 1) := by decide +kernel
theorem dyX11_text_22 : decode cX11_text 22 = .ok (.invokevirtual 166, 3) := by decide +kernel
theorem dyX11_text_25 : decode cX11_text 25 = .ok (.goto 4, 3) := by decide +kernel
theorem dyX11_text_28 : decode cX11_text 28 = .ok (.iconst (-1), 1) := by decide +kernel
theorem dyX11_text_29 : decode cX11_text 29 = .ok (.ireturn, 1) := by decide +kernel
theorem zsg_yX11_text : yX11_text.cls = RX11 ∧ yX11_text.cls ≠ "java/lang/invoke/MethodHandle" ∧ yX11_text.cls ≠ "java/lang/invoke/VarHandle" ∧ (parseMethodDescriptor yX11_text.desc).map (fun d => d.parameters.length) = some 1 := by decide +kernel
set_option maxRecDepth 20000 in
theorem c_Desk_text {l : Launch} {D : va_G} {B : Nat} {cA : Nat → ClassId} {ad : Nat → Nat} {S : List zC} (hS : zOkX S) {a1 : Int32} {I : zI} {K : Int32 → Prop}  (h : w_Desk_text a1 I K) : Met l yX11_text (zws yX11_text cX11_text 3 (some .int)) (zrm 1 21) (zPc D B cA ad [.ref (B + 0), .int a1] S I) (zQc D B cA (zpI S I K)) 0 0 (fun q => B ≤ q) := by
  refine zm_of (cc := cX11_text) (maxL := 3) (ret := (some .int)) (by decide +kernel) rfl (Nat.le_of_ble_eq_true rfl) trivial ?_
  intro p e s m args below meth c C _
  unfold w_Desk_text at h
  show zX p l e (zrm 1 21) s m args below meth c (MQ below (zQc D B cA (zpI S I K)) args s 0 0 (fun q => B ≤ q)) D B cA 3 0 0 S I [(0, .ref (B + 0)), (1, .int a1)] [] 0
  refine zr_aload_n C dyX11_text_0 rfl 0 rfl ?_
  refine zv_11_126 C hS (st := []) h ⟨Nat.le_of_ble_eq_true rfl, Nat.le_of_ble_eq_true rfl⟩ (Nat.le_of_ble_eq_true rfl) dyX11_text_1 (fun r_1 hr_1 h => ?_)
  refine zr_astore_n C dyX11_text_4 rfl (Nat.le_of_ble_eq_true rfl) (lv2 := [(2, .ref (B + r_1)), (0, .ref (B + 0)), (1, .int a1)]) rfl ?_
  refine zr_iload_n C dyX11_text_5 rfl 2 rfl ?_
  refine zr_if_lt C dyX11_text_6 (tgt := 28) (by decide) (fun hc_4 => ?_) (fun hc_4 => ?_)
  · replace h := zif_pos hc_4 h
    refine zr_iconst C dyX11_text_28 zc_i_m1 ?_
    exact zr_iret C rfl dyX11_text_29 ⟨rfl, rfl, _, rfl, h⟩
  · replace h := zif_neg hc_4 h
    refine zr_iload_n C dyX11_text_9 rfl 2 rfl ?_
    refine zr_aload_n C dyX11_text_10 rfl 0 rfl ?_
    refine zg_11_144 C hr_1 dyX11_text_11 ?_
    refine zr_icmp_ge C dyX11_text_14 (tgt := 28) (by decide) (fun hc_3 => ?_) (fun hc_3 => ?_)
    · replace h := zif_pos hc_3 h
      refine zr_iconst C dyX11_text_28 zc_i_m1 ?_
      exact zr_iret C rfl dyX11_text_29 ⟨rfl, rfl, _, rfl, h⟩
    · replace h := zif_neg hc_3 h
      refine zr_aload_n C dyX11_text_17 rfl 0 rfl ?_
      refine zg_11_103 C hr_1 dyX11_text_18 ?_
      refine zr_iload_n C dyX11_text_21 rfl 2 rfl ?_
      refine zv_11_166 C hS hr_1.2.1 (st := []) h ⟨Nat.le_of_ble_eq_true rfl, Nat.le_of_ble_eq_true rfl⟩ (Nat.le_of_ble_eq_true rfl) dyX11_text_22 (fun r_2 h => ?_)
      refine zr_goto C dyX11_text_25 (tgt := 29) (by decide) ?_
      exact zr_iret C rfl dyX11_text_29 ⟨rfl, rfl, _, rfl, h⟩
def w_Desk_token (a1 : Int32) (a2 : Int32) (I : zI) (K : Int32 → Prop) : Prop :=
  w_Desk_now I (fun r_1 => w_Tokens_has (r_1 + 3) a1 I (fun r_2 => (if r_2 = 0 then (K (-1)) else (if a2 = 0 then (w_Row_get (r_1 + 3 + 1) 100 a1 I (fun r_4 => K r_4)) else (if a2 = 1 then (w_Row_get (r_1 + 3 + 3) 100 a1 I (fun r_6 => K r_6)) else (if a2 = 2 then (w_Row_get (r_1 + 3 + 5) 100 a1 I (fun r_8 => K r_8)) else (K (-1))))))))
theorem dyX11_token_0 : decode cX11_token 0 = .ok (.aload_n 0, 1) := by decide +kernel
theorem dyX11_token_1 : decode cX11_token 1 = .ok (.invokevirtual 126, 3) := by decide +kernel
theorem dyX11_token_4 : decode cX11_token 4 = .ok (.getfield 99, 3) := by decide +kernel
theorem dyX11_token_7 : decode cX11_token 7 = .ok (.astore_n 3, 1) := by decide +kernel
theorem dyX11_token_8 : decode cX11_token 8 = .ok (.aload_n 3, 1) := by decide +kernel
theorem dyX11_token_9 : decode cX11_token 9 = .ok (.iload_n 1, 1) := by decide +kernel
theorem dyX11_token_10 : decode cX11_token 10 = .ok (.invokevirtual 159, 3) := by decide +kernel
theorem dyX11_token_13 : decode cX11_token 13 = .ok (.ifCond .ne 5, 3) := by decide +kernel
theorem dyX11_token_16 : decode cX11_token 16 = .ok (.iconst (-1), 1) := by decide +kernel
theorem dyX11_token_17 : decode cX11_token 17 = .ok (.ireturn, 1) := by decide +kernel
theorem dyX11_token_18 : decode cX11_token 18 = .ok (.iload_n 2, 1) := by decide +kernel
theorem dyX11_token_19 : decode cX11_token 19 = .ok (.tableswitch 52 0 2 #[25, 34, 43], 25) := by decide +kernel
theorem dyX11_token_44 : decode cX11_token 44 = .ok (.aload_n 3, 1) := by decide +kernel
theorem dyX11_token_45 : decode cX11_token 45 = .ok (.getfield 163, 3) := by decide +kernel
theorem dyX11_token_48 : decode cX11_token 48 = .ok (.iload_n 1, 1) := by decide +kernel
theorem dyX11_token_49 : decode cX11_token 49 = .ok (.invokevirtual 166, 3) := by decide +kernel
theorem dyX11_token_52 : decode cX11_token 52 = .ok (.ireturn, 1) := by decide +kernel
theorem dyX11_token_53 : decode cX11_token 53 = .ok (.aload_n 3, 1) := by decide +kernel
theorem dyX11_token_54 : decode cX11_token 54 = .ok (.getfield 181, 3) := by decide +kernel
theorem dyX11_token_57 : decode cX11_token 57 = .ok (.iload_n 1, 1) := by decide +kernel
theorem dyX11_token_58 : decode cX11_token 58 = .ok (.invokevirtual 166, 3) := by decide +kernel
theorem dyX11_token_61 : decode cX11_token 61 = .ok (.ireturn, 1) := by decide +kernel
theorem dyX11_token_62 : decode cX11_token 62 = .ok (.aload_n 3, 1) := by decide +kernel
theorem dyX11_token_63 : decode cX11_token 63 = .ok (.getfield 184, 3) := by decide +kernel
theorem dyX11_token_66 : decode cX11_token 66 = .ok (.iload_n 1, 1) := by decide +kernel
theorem dyX11_token_67 : decode cX11_token 67 = .ok (.invokevirtual 166, 3) := by decide +kernel
theorem dyX11_token_70 : decode cX11_token 70 = .ok (.ireturn, 1) := by decide +kernel
theorem dyX11_token_71 : decode cX11_token 71 = .ok (.iconst (-1), 1) := by decide +kernel
theorem dyX11_token_72 : decode cX11_token 72 = .ok (.ireturn, 1) := by decide +kernel
theorem zsg_yX11_token : yX11_token.cls = RX11 ∧ yX11_token.cls ≠ "java/lang/invoke/MethodHandle" ∧ yX11_token.cls ≠ "java/lang/invoke/VarHandle" ∧ (parseMethodDescriptor yX11_token.desc).map (fun d => d.parameters.length) = some 2 := by decide +kernel
set_option maxRecDepth 20000 in
theorem c_Desk_token {l : Launch} {D : va_G} {B : Nat} {cA : Nat → ClassId} {ad : Nat → Nat} {S : List zC} (hS : zOkX S) {a1 : Int32} {a2 : Int32} {I : zI} {K : Int32 → Prop}  (h : w_Desk_token a1 a2 I K) : Met l yX11_token (zws yX11_token cX11_token 4 (some .int)) (zrm 1 21) (zPc D B cA ad [.ref (B + 0), .int a1, .int a2] S I) (zQc D B cA (zpI S I K)) 0 0 (fun q => B ≤ q) := by
  refine zm_of (cc := cX11_token) (maxL := 4) (ret := (some .int)) (by decide +kernel) rfl (Nat.le_of_ble_eq_true rfl) trivial ?_
  intro p e s m args below meth c C _
  unfold w_Desk_token at h
  show zX p l e (zrm 1 21) s m args below meth c (MQ below (zQc D B cA (zpI S I K)) args s 0 0 (fun q => B ≤ q)) D B cA 4 0 0 S I [(0, .ref (B + 0)), (1, .int a1), (2, .int a2)] [] 0
  refine zr_aload_n C dyX11_token_0 rfl 0 rfl ?_
  refine zv_11_126 C hS (st := []) h ⟨Nat.le_of_ble_eq_true rfl, Nat.le_of_ble_eq_true rfl⟩ (Nat.le_of_ble_eq_true rfl) dyX11_token_1 (fun r_1 hr_1 h => ?_)
  refine zg_11_99 C hr_1 dyX11_token_4 ?_
  refine zr_astore_n C dyX11_token_7 rfl (Nat.le_of_ble_eq_true rfl) (lv2 := [(3, .ref (B + (r_1 + 3))), (0, .ref (B + 0)), (1, .int a1), (2, .int a2)]) rfl ?_
  refine zr_aload_n C dyX11_token_8 rfl 0 rfl ?_
  refine zr_iload_n C dyX11_token_9 rfl 2 rfl ?_
  refine zv_11_159 C hS hr_1.2.2.1 (st := []) h ⟨Nat.le_of_ble_eq_true rfl, Nat.le_of_ble_eq_true rfl⟩ (Nat.le_of_ble_eq_true rfl) dyX11_token_10 (fun r_2 h => ?_)
  refine zr_if_ne C dyX11_token_13 (tgt := 18) (by decide) (fun hc_9 => ?_) (fun hc_9 => ?_)
  · replace h := zif_neg hc_9 h
    refine zr_iload_n C dyX11_token_18 rfl 3 rfl ?_
    by_cases hc_3 : a2 = 0
    · replace h := zif_pos hc_3 h
      refine zr_tableIn C dyX11_token_19 (by rw [hc_3]; decide) (by rw [hc_3]; decide) (off := 25) (by rw [hc_3]; decide) (tgt := 44) (by decide) ?_
      refine zr_aload_n C dyX11_token_44 rfl 0 rfl ?_
      refine zg_11_163 C hr_1.2.2.1 dyX11_token_45 ?_
      refine zr_iload_n C dyX11_token_48 rfl 2 rfl ?_
      refine zv_11_166 C hS hr_1.2.2.1.2.1 (st := []) h ⟨Nat.le_of_ble_eq_true rfl, Nat.le_of_ble_eq_true rfl⟩ (Nat.le_of_ble_eq_true rfl) dyX11_token_49 (fun r_4 h => ?_)
      exact zr_iret C rfl dyX11_token_52 ⟨rfl, rfl, _, rfl, h⟩
    replace h := zif_neg hc_3 h
    by_cases hc_5 : a2 = 1
    · replace h := zif_pos hc_5 h
      refine zr_tableIn C dyX11_token_19 (by rw [hc_5]; decide) (by rw [hc_5]; decide) (off := 34) (by rw [hc_5]; decide) (tgt := 53) (by decide) ?_
      refine zr_aload_n C dyX11_token_53 rfl 0 rfl ?_
      refine zg_11_181 C hr_1.2.2.1 dyX11_token_54 ?_
      refine zr_iload_n C dyX11_token_57 rfl 2 rfl ?_
      refine zv_11_166 C hS hr_1.2.2.1.2.2.1 (st := []) h ⟨Nat.le_of_ble_eq_true rfl, Nat.le_of_ble_eq_true rfl⟩ (Nat.le_of_ble_eq_true rfl) dyX11_token_58 (fun r_6 h => ?_)
      exact zr_iret C rfl dyX11_token_61 ⟨rfl, rfl, _, rfl, h⟩
    replace h := zif_neg hc_5 h
    by_cases hc_7 : a2 = 2
    · replace h := zif_pos hc_7 h
      refine zr_tableIn C dyX11_token_19 (by rw [hc_7]; decide) (by rw [hc_7]; decide) (off := 43) (by rw [hc_7]; decide) (tgt := 62) (by decide) ?_
      refine zr_aload_n C dyX11_token_62 rfl 0 rfl ?_
      refine zg_11_184 C hr_1.2.2.1 dyX11_token_63 ?_
      refine zr_iload_n C dyX11_token_66 rfl 2 rfl ?_
      refine zv_11_166 C hS hr_1.2.2.1.2.2.2.1 (st := []) h ⟨Nat.le_of_ble_eq_true rfl, Nat.le_of_ble_eq_true rfl⟩ (Nat.le_of_ble_eq_true rfl) dyX11_token_67 (fun r_8 h => ?_)
      exact zr_iret C rfl dyX11_token_70 ⟨rfl, rfl, _, rfl, h⟩
    replace h := zif_neg hc_7 h
    refine zr_tableOut C dyX11_token_19 (ztab_out (fun i h1 h2 => ?_)) (tgt := 71) (by decide) ?_
    · rcases (by omega : i = 0 ∨ i = 1 ∨ i = 2) with rfl | rfl | rfl
      · exact hc_3
      · exact hc_5
      · exact hc_7
    refine zr_iconst C dyX11_token_71 zc_i_m1 ?_
    exact zr_iret C rfl dyX11_token_72 ⟨rfl, rfl, _, rfl, h⟩
  · replace h := zif_pos hc_9 h
    refine zr_iconst C dyX11_token_16 zc_i_m1 ?_
    exact zr_iret C rfl dyX11_token_17 ⟨rfl, rfl, _, rfl, h⟩
theorem zv_11_209 {p : Program} {l : Launch} {e : Env} {R : Room} {s : State} {m : MethodId} {args : Array Value} {below : List Frame} {meth : Method} {c : Code} {Q : State → Prop} {D : va_G} {B : Nat} {cA : Nat → ClassId} {ad : Nat → Nat} {cc : ByteArray} {nL : Nat} {ret : Option FieldType} {S : List zC} {I : zI} {lv : List (Nat × Value)} {st : List Value} {pc : Nat} (C : zCx p s m args meth c cc nL RX11 ret D B cA ad) {K : Int32 → Prop} {xk : Nat} {xa1 : Int32} (hS : zOkX S) (xhk : zIsMoment S xk) (h : w_Moment_hasGood xk xa1 I K) (hR : 0 + 1 ≤ R.frames ∧ 8 + (2 + 11) + (0) ≤ R.locals) (hw : (st.map fun v => v.category).sum ≤ 8) (hd : decode cc pc = .ok (.invokevirtual 209, 3)) (kk : ∀ v, K v → zX p l e R s m args below meth c Q D B cA nL 0 0 S I lv (.int v :: st) (pc + 3)) : zX p l e R s m args below meth c Q D B cA nL 0 0 S I lv (.int xa1 :: .ref (B + xk) :: st) pc :=
  have hf : 0 ≤ R.cells ∧ 0 ≤ R.slots := ⟨Nat.zero_le _, Nat.zero_le _⟩
  zc_VpI C (ci := 2) (q := (RX2, TX2, 9)) (k := xk) (fs := [some (some (xk + 1)), none, some (some (xk + 3)), none, some (some (xk + 14)), some (some (xk + 16)), none, none, none]) (As := [.int xa1]) (st := st) rfl xhk.1 (c_Moment_hasGood hS xhk h) (zgV zk_ml_11_209 zk_im_yX2_hasGood zk_se_yX2_hasGood zk_in_2 zk_cd_yX2_hasGood) zsg_yX2_hasGood hR rfl rfl hw hd hf kk
def w_Desk_good (a1 : Int32) (I : zI) (K : Int32 → Prop) : Prop :=
  w_Desk_now I (fun r_1 => w_Moment_hasGood r_1 a1 I (fun r_2 => (if r_2 = 0 then (K (-1)) else (w_Row_get (r_1 + 14) 100 a1 I (fun r_3 => K r_3)))))
theorem dyX11_good_0 : decode cX11_good 0 = .ok (.aload_n 0, 1) := by decide +kernel
theorem dyX11_good_1 : decode cX11_good 1 = .ok (.invokevirtual 126, 3) := by decide +kernel
theorem dyX11_good_4 : decode cX11_good 4 = .ok (.astore_n 2, 1) := by decide +kernel
theorem dyX11_good_5 : decode cX11_good 5 = .ok (.aload_n 2, 1) := by decide +kernel
theorem dyX11_good_6 : decode cX11_good 6 = .ok (.iload_n 1, 1) := by decide +kernel
theorem dyX11_good_7 : decode cX11_good 7 = .ok (.invokevirtual 209, 3) := by decide +kernel
theorem dyX11_good_10 : decode cX11_good 10 = .ok (.ifCond .eq 14, 3) := by decide +kernel
theorem dyX11_good_13 : decode cX11_good 13 = .ok (.aload_n 2, 1) := by decide +kernel
theorem dyX11_good_14 : decode cX11_good 14 = .ok (.getfield 115, 3) := by decide +kernel
theorem dyX11_good_17 : decode cX11_good 17 = .ok (.iload_n 1, 1) := by decide +kernel
theorem dyX11_good_18 : decode cX11_good 18 = .ok (.invokevirtual 166, 3) := by decide +kernel
theorem dyX11_good_21 : decode cX11_good 21 = .ok (.goto 4, 3) := by decide +kernel
theorem dyX11_good_24 : decode cX11_good 24 = .ok (.iconst (-1), 1) := by decide +kernel
theorem dyX11_good_25 : decode cX11_good 25 = .ok (.ireturn, 1) := by decide +kernel
theorem zsg_yX11_good : yX11_good.cls = RX11 ∧ yX11_good.cls ≠ "java/lang/invoke/MethodHandle" ∧ yX11_good.cls ≠ "java/lang/invoke/VarHandle" ∧ (parseMethodDescriptor yX11_good.desc).map (fun d => d.parameters.length) = some 1 := by decide +kernel
set_option maxRecDepth 20000 in
theorem c_Desk_good {l : Launch} {D : va_G} {B : Nat} {cA : Nat → ClassId} {ad : Nat → Nat} {S : List zC} (hS : zOkX S) {a1 : Int32} {I : zI} {K : Int32 → Prop}  (h : w_Desk_good a1 I K) : Met l yX11_good (zws yX11_good cX11_good 3 (some .int)) (zrm 1 21) (zPc D B cA ad [.ref (B + 0), .int a1] S I) (zQc D B cA (zpI S I K)) 0 0 (fun q => B ≤ q) := by
  refine zm_of (cc := cX11_good) (maxL := 3) (ret := (some .int)) (by decide +kernel) rfl (Nat.le_of_ble_eq_true rfl) trivial ?_
  intro p e s m args below meth c C _
  unfold w_Desk_good at h
  show zX p l e (zrm 1 21) s m args below meth c (MQ below (zQc D B cA (zpI S I K)) args s 0 0 (fun q => B ≤ q)) D B cA 3 0 0 S I [(0, .ref (B + 0)), (1, .int a1)] [] 0
  refine zr_aload_n C dyX11_good_0 rfl 0 rfl ?_
  refine zv_11_126 C hS (st := []) h ⟨Nat.le_of_ble_eq_true rfl, Nat.le_of_ble_eq_true rfl⟩ (Nat.le_of_ble_eq_true rfl) dyX11_good_1 (fun r_1 hr_1 h => ?_)
  refine zr_astore_n C dyX11_good_4 rfl (Nat.le_of_ble_eq_true rfl) (lv2 := [(2, .ref (B + r_1)), (0, .ref (B + 0)), (1, .int a1)]) rfl ?_
  refine zr_aload_n C dyX11_good_5 rfl 0 rfl ?_
  refine zr_iload_n C dyX11_good_6 rfl 2 rfl ?_
  refine zv_11_209 C hS hr_1 (st := []) h ⟨Nat.le_of_ble_eq_true rfl, Nat.le_of_ble_eq_true rfl⟩ (Nat.le_of_ble_eq_true rfl) dyX11_good_7 (fun r_2 h => ?_)
  refine zr_if_eq C dyX11_good_10 (tgt := 24) (by decide) (fun hc_4 => ?_) (fun hc_4 => ?_)
  · replace h := zif_pos hc_4 h
    refine zr_iconst C dyX11_good_24 zc_i_m1 ?_
    exact zr_iret C rfl dyX11_good_25 ⟨rfl, rfl, _, rfl, h⟩
  · replace h := zif_neg hc_4 h
    refine zr_aload_n C dyX11_good_13 rfl 0 rfl ?_
    refine zg_11_115 C hr_1 dyX11_good_14 ?_
    refine zr_iload_n C dyX11_good_17 rfl 2 rfl ?_
    refine zv_11_166 C hS hr_1.2.2.2.1 (st := []) h ⟨Nat.le_of_ble_eq_true rfl, Nat.le_of_ble_eq_true rfl⟩ (Nat.le_of_ble_eq_true rfl) dyX11_good_18 (fun r_3 h => ?_)
    refine zr_goto C dyX11_good_21 (tgt := 25) (by decide) ?_
    exact zr_iret C rfl dyX11_good_25 ⟨rfl, rfl, _, rfl, h⟩
theorem zv_11_212 {p : Program} {l : Launch} {e : Env} {R : Room} {s : State} {m : MethodId} {args : Array Value} {below : List Frame} {meth : Method} {c : Code} {Q : State → Prop} {D : va_G} {B : Nat} {cA : Nat → ClassId} {ad : Nat → Nat} {cc : ByteArray} {nL : Nat} {ret : Option FieldType} {S : List zC} {I : zI} {lv : List (Nat × Value)} {st : List Value} {pc : Nat} (C : zCx p s m args meth c cc nL RX11 ret D B cA ad) {K : Int32 → Prop} {xk : Nat} {xa1 : Int32} (hS : zOkX S) (xhk : zIsTokens S xk) (h : w_Tokens_covering xk xa1 I K) (hR : 1 + 1 ≤ R.frames ∧ 8 + (3 + 11) + (21) ≤ R.locals) (hw : (st.map fun v => v.category).sum ≤ 8) (hd : decode cc pc = .ok (.invokevirtual 212, 3)) (kk : ∀ v, K v → zX p l e R s m args below meth c Q D B cA nL 0 0 S I lv (.int v :: st) (pc + 3)) : zX p l e R s m args below meth c Q D B cA nL 0 0 S I lv (.int xa1 :: .ref (B + xk) :: st) pc :=
  have hf : 0 ≤ R.cells ∧ 0 ≤ R.slots := ⟨Nat.zero_le _, Nat.zero_le _⟩
  zc_VpI C (ci := 8) (q := (RX8, TX8, 6)) (k := xk) (fs := [some (some (xk + 1)), some (some (xk + 3)), some (some (xk + 5)), some (some (xk + 7)), some (some (xk + 9)), none]) (As := [.int xa1]) (st := st) rfl xhk.1 (c_Tokens_covering hS xhk h) (zgV zk_ml_11_212 zk_im_yX8_covering zk_se_yX8_covering zk_in_8 zk_cd_yX8_covering) zsg_yX8_covering hR rfl rfl hw hd hf kk
def w_Desk_under (a1 : Int32) (I : zI) (K : Int32 → Prop) : Prop :=
  w_Desk_now I (fun r_1 => (if a1 < 0 then (K (-1)) else (if a1 < (I.1 r_1 1) then (w_Tokens_covering (r_1 + 3) a1 I (fun r_2 => K r_2)) else (K (-1)))))
theorem dyX11_under_0 : decode cX11_under 0 = .ok (.aload_n 0, 1) := by decide +kernel
theorem dyX11_under_1 : decode cX11_under 1 = .ok (.invokevirtual 126, 3) := by decide +kernel
theorem dyX11_under_4 : decode cX11_under 4 = .ok (.astore_n 2, 1) := by decide +kernel
theorem dyX11_under_5 : decode cX11_under 5 = .ok (.iload_n 1, 1) := by decide +kernel
theorem dyX11_under_6 : decode cX11_under 6 = .ok (.ifCond .lt 11, 3) := by decide +kernel
theorem dyX11_under_9 : decode cX11_under 9 = .ok (.iload_n 1, 1) := by decide +kernel
theorem dyX11_under_10 : decode cX11_under 10 = .ok (.aload_n 2, 1) := by decide +kernel
theorem dyX11_under_11 : decode cX11_under 11 = .ok (.getfield 144, 3) := by decide +kernel
theorem dyX11_under_14 : decode cX11_under 14 = .ok (.if_icmp .lt 5, 3) := by decide +kernel
theorem dyX11_under_17 : decode cX11_under 17 = .ok (.iconst (-1), 1) := by decide +kernel
theorem dyX11_under_18 : decode cX11_under 18 = .ok (.ireturn, 1) := by decide +kernel
theorem dyX11_under_19 : decode cX11_under 19 = .ok (.aload_n 2, 1) := by decide +kernel
theorem dyX11_under_20 : decode cX11_under 20 = .ok (.getfield 99, 3) := by decide +kernel
theorem dyX11_under_23 : decode cX11_under 23 = .ok (.iload_n 1, 1) := by decide +kernel
theorem dyX11_under_24 : decode cX11_under 24 = .ok (.invokevirtual 212, 3) := by decide +kernel
theorem dyX11_under_27 : decode cX11_under 27 = .ok (.ireturn, 1) := by decide +kernel
theorem zsg_yX11_under : yX11_under.cls = RX11 ∧ yX11_under.cls ≠ "java/lang/invoke/MethodHandle" ∧ yX11_under.cls ≠ "java/lang/invoke/VarHandle" ∧ (parseMethodDescriptor yX11_under.desc).map (fun d => d.parameters.length) = some 1 := by decide +kernel
set_option maxRecDepth 20000 in
theorem c_Desk_under {l : Launch} {D : va_G} {B : Nat} {cA : Nat → ClassId} {ad : Nat → Nat} {S : List zC} (hS : zOkX S) {a1 : Int32} {I : zI} {K : Int32 → Prop}  (h : w_Desk_under a1 I K) : Met l yX11_under (zws yX11_under cX11_under 3 (some .int)) (zrm 2 43) (zPc D B cA ad [.ref (B + 0), .int a1] S I) (zQc D B cA (zpI S I K)) 0 0 (fun q => B ≤ q) := by
  refine zm_of (cc := cX11_under) (maxL := 3) (ret := (some .int)) (by decide +kernel) rfl (Nat.le_of_ble_eq_true rfl) trivial ?_
  intro p e s m args below meth c C _
  unfold w_Desk_under at h
  show zX p l e (zrm 2 43) s m args below meth c (MQ below (zQc D B cA (zpI S I K)) args s 0 0 (fun q => B ≤ q)) D B cA 3 0 0 S I [(0, .ref (B + 0)), (1, .int a1)] [] 0
  refine zr_aload_n C dyX11_under_0 rfl 0 rfl ?_
  refine zv_11_126 C hS (st := []) h ⟨Nat.le_of_ble_eq_true rfl, Nat.le_of_ble_eq_true rfl⟩ (Nat.le_of_ble_eq_true rfl) dyX11_under_1 (fun r_1 hr_1 h => ?_)
  refine zr_astore_n C dyX11_under_4 rfl (Nat.le_of_ble_eq_true rfl) (lv2 := [(2, .ref (B + r_1)), (0, .ref (B + 0)), (1, .int a1)]) rfl ?_
  refine zr_iload_n C dyX11_under_5 rfl 2 rfl ?_
  refine zr_if_lt C dyX11_under_6 (tgt := 17) (by decide) (fun hc_4 => ?_) (fun hc_4 => ?_)
  · replace h := zif_pos hc_4 h
    refine zr_iconst C dyX11_under_17 zc_i_m1 ?_
    exact zr_iret C rfl dyX11_under_18 ⟨rfl, rfl, _, rfl, h⟩
  · replace h := zif_neg hc_4 h
    refine zr_iload_n C dyX11_under_9 rfl 2 rfl ?_
    refine zr_aload_n C dyX11_under_10 rfl 0 rfl ?_
    refine zg_11_144 C hr_1 dyX11_under_11 ?_
    refine zr_icmp_lt C dyX11_under_14 (tgt := 19) (by decide) (fun hc_3 => ?_) (fun hc_3 => ?_)
    · replace h := zif_pos hc_3 h
      refine zr_aload_n C dyX11_under_19 rfl 0 rfl ?_
      refine zg_11_99 C hr_1 dyX11_under_20 ?_
      refine zr_iload_n C dyX11_under_23 rfl 2 rfl ?_
      refine zv_11_212 C hS hr_1.2.2.1 (st := []) h ⟨Nat.le_of_ble_eq_true rfl, Nat.le_of_ble_eq_true rfl⟩ (Nat.le_of_ble_eq_true rfl) dyX11_under_24 (fun r_2 h => ?_)
      exact zr_iret C rfl dyX11_under_27 ⟨rfl, rfl, _, rfl, h⟩
    · replace h := zif_neg hc_3 h
      refine zr_iconst C dyX11_under_17 zc_i_m1 ?_
      exact zr_iret C rfl dyX11_under_18 ⟨rfl, rfl, _, rfl, h⟩
theorem zg_11_215 {p : Program} {l : Launch} {e : Env} {R : Room} {s : State} {m : MethodId} {args : Array Value} {below : List Frame} {meth : Method} {c : Code} {Q : State → Prop} {D : va_G} {B : Nat} {cA : Nat → ClassId} {ad : Nat → Nat} {cc : ByteArray} {nL : Nat} {ret : Option FieldType} {S : List zC} {I : zI} {lv : List (Nat × Value)} {st : List Value} {pc : Nat} (C : zCx p s m args meth c cc nL RX11 ret D B cA ad) (hS : zOkX S) (hd : decode cc pc = .ok (.getfield 215, 3)) (kk : zX p l e R s m args below meth c Q D B cA nL 0 0 S I lv (.int (I.1 43 12) :: st) (pc + 3)) : zX p l e R s m args below meth c Q D B cA nL 0 0 S I lv (.ref (B + 43) :: st) pc :=
  zr_geti C (ci := 9) (Cn := RX9) (T := TX9) (N := 16) (k := 43) (j := 12) (fs := [some (some 24), some (some 44), some (some 46), some (some 48), some (some 50), some (some 52), some (some 54), some (some 56), some (some 58), some (some 60), some (some 62), none, none, none, none, none]) rfl zin_9 (Nat.le_of_ble_eq_true rfl) rfl (hS _ _ zs_43) rfl zk_fl_11_215 hd kk
def w_Desk_fresh  (I : zI) (K : Int32 → Prop) : Prop :=
  K (I.1 43 12)
theorem dyX11_fresh_0 : decode cX11_fresh 0 = .ok (.aload_n 0, 1) := by decide +kernel
theorem dyX11_fresh_1 : decode cX11_fresh 1 = .ok (.getfield 44, 3) := by decide +kernel
theorem dyX11_fresh_4 : decode cX11_fresh 4 = .ok (.getfield 215, 3) := by decide +kernel
theorem dyX11_fresh_7 : decode cX11_fresh 7 = .ok (.ireturn, 1) := by decide +kernel
theorem zsg_yX11_fresh : yX11_fresh.cls = RX11 ∧ yX11_fresh.cls ≠ "java/lang/invoke/MethodHandle" ∧ yX11_fresh.cls ≠ "java/lang/invoke/VarHandle" ∧ (parseMethodDescriptor yX11_fresh.desc).map (fun d => d.parameters.length) = some 0 := by decide +kernel
set_option maxRecDepth 20000 in
theorem c_Desk_fresh {l : Launch} {D : va_G} {B : Nat} {cA : Nat → ClassId} {ad : Nat → Nat} {S : List zC} (hS : zOkX S)  {I : zI} {K : Int32 → Prop}  (h : w_Desk_fresh  I K) : Met l yX11_fresh (zws yX11_fresh cX11_fresh 1 (some .int)) (zrm 0 0) (zPc D B cA ad [.ref (B + 0)] S I) (zQc D B cA (zpI S I K)) 0 0 (fun q => B ≤ q) := by
  refine zm_of (cc := cX11_fresh) (maxL := 1) (ret := (some .int)) (by decide +kernel) rfl (Nat.le_of_ble_eq_true rfl) trivial ?_
  intro p e s m args below meth c C _
  unfold w_Desk_fresh at h
  show zX p l e (zrm 0 0) s m args below meth c (MQ below (zQc D B cA (zpI S I K)) args s 0 0 (fun q => B ≤ q)) D B cA 1 0 0 S I [(0, .ref (B + 0))] [] 0
  refine zr_aload_n C dyX11_fresh_0 rfl 0 rfl ?_
  refine zg_11_44 C hS dyX11_fresh_1 ?_
  refine zg_11_215 C hS dyX11_fresh_4 ?_
  exact zr_iret C rfl dyX11_fresh_7 ⟨rfl, rfl, _, rfl, h⟩
theorem zg_11_81 {p : Program} {l : Launch} {e : Env} {R : Room} {s : State} {m : MethodId} {args : Array Value} {below : List Frame} {meth : Method} {c : Code} {Q : State → Prop} {D : va_G} {B : Nat} {cA : Nat → ClassId} {ad : Nat → Nat} {cc : ByteArray} {nL : Nat} {ret : Option FieldType} {S : List zC} {I : zI} {lv : List (Nat × Value)} {st : List Value} {pc : Nat} (C : zCx p s m args meth c cc nL RX11 ret D B cA ad) (hS : zOkX S) (hd : decode cc pc = .ok (.getfield 81, 3)) (kk : zX p l e R s m args below meth c Q D B cA nL 0 0 S I lv (.ref (B + 100) :: st) (pc + 3)) : zX p l e R s m args below meth c Q D B cA nL 0 0 S I lv (.ref (B + 0) :: st) pc :=
  zr_getr C (ci := 11) (Cn := RX11) (T := TX11) (N := 19) (k := 0) (j := 15) (fs := [some (some 1), none, some (some 3), some (some 4), none, none, none, none, some (some 22), some (some 24), some (some 43), some (some 64), some (some 69), some (some 88), some (some 97), some (some 100), some (some 109), some (some 111), none]) rfl zin_11 (Nat.le_of_ble_eq_true rfl) rfl (hS _ _ zs_0) rfl zk_fl_11_81 hd kk
theorem zv_11_216 {p : Program} {l : Launch} {e : Env} {R : Room} {s : State} {m : MethodId} {args : Array Value} {below : List Frame} {meth : Method} {c : Code} {Q : State → Prop} {D : va_G} {B : Nat} {cA : Nat → ClassId} {ad : Nat → Nat} {cc : ByteArray} {nL : Nat} {ret : Option FieldType} {S : List zC} {I : zI} {lv : List (Nat × Value)} {st : List Value} {pc : Nat} (C : zCx p s m args meth c cc nL RX11 ret D B cA ad) {K : zI → Prop} {xa1 : Nat} (hS : zOkX S) (xha1 : zIsTokens S xa1) (h : w_Adviser_findWay xa1 I K) (hR : 4 + 1 ≤ R.frames ∧ 8 + (6 + 11) + (104) ≤ R.locals) (hw : (st.map fun v => v.category).sum ≤ 8) (hd : decode cc pc = .ok (.invokevirtual 216, 3)) (kk : ∀ I2, K I2 → zX p l e R s m args below meth c Q D B cA nL 0 0 S I2 lv st (pc + 3)) : zX p l e R s m args below meth c Q D B cA nL 0 0 S I lv (.ref (B + xa1) :: .ref (B + 100) :: st) pc :=
  have hf : 0 ≤ R.cells ∧ 0 ≤ R.slots := ⟨Nat.zero_le _, Nat.zero_le _⟩
  zc_VqV C (ci := 0) (q := (RX0, TX0, 5)) (k := 100) (fs := [some (some 101), some (some 104), some (some 107), none, none]) (As := [.ref (B + xa1)]) (st := st) rfl (hS _ _ zs_100) (c_Adviser_findWay hS xha1 h) (zgV zk_ml_11_216 zk_im_yX0_findWay zk_se_yX0_findWay zk_in_0 zk_cd_yX0_findWay) zsg_yX0_findWay hR rfl rfl hw hd hf kk
theorem zg_11_223 {p : Program} {l : Launch} {e : Env} {R : Room} {s : State} {m : MethodId} {args : Array Value} {below : List Frame} {meth : Method} {c : Code} {Q : State → Prop} {D : va_G} {B : Nat} {cA : Nat → ClassId} {ad : Nat → Nat} {cc : ByteArray} {nL : Nat} {ret : Option FieldType} {S : List zC} {I : zI} {lv : List (Nat × Value)} {st : List Value} {pc : Nat} (C : zCx p s m args meth c cc nL RX11 ret D B cA ad) (hS : zOkX S) (hd : decode cc pc = .ok (.getfield 223, 3)) (kk : zX p l e R s m args below meth c Q D B cA nL 0 0 S I lv (.int (I.1 100 4) :: st) (pc + 3)) : zX p l e R s m args below meth c Q D B cA nL 0 0 S I lv (.ref (B + 100) :: st) pc :=
  zr_geti C (ci := 0) (Cn := RX0) (T := TX0) (N := 5) (k := 100) (j := 4) (fs := [some (some 101), some (some 104), some (some 107), none, none]) rfl zin_0 (Nat.le_of_ble_eq_true rfl) rfl (hS _ _ zs_100) rfl zk_fl_11_223 hd kk
theorem zg_11_220 {p : Program} {l : Launch} {e : Env} {R : Room} {s : State} {m : MethodId} {args : Array Value} {below : List Frame} {meth : Method} {c : Code} {Q : State → Prop} {D : va_G} {B : Nat} {cA : Nat → ClassId} {ad : Nat → Nat} {cc : ByteArray} {nL : Nat} {ret : Option FieldType} {S : List zC} {I : zI} {lv : List (Nat × Value)} {st : List Value} {pc : Nat} (C : zCx p s m args meth c cc nL RX11 ret D B cA ad) (hS : zOkX S) (hd : decode cc pc = .ok (.getfield 220, 3)) (kk : zX p l e R s m args below meth c Q D B cA nL 0 0 S I lv (.int (I.1 100 3) :: st) (pc + 3)) : zX p l e R s m args below meth c Q D B cA nL 0 0 S I lv (.ref (B + 100) :: st) pc :=
  zr_geti C (ci := 0) (Cn := RX0) (T := TX0) (N := 5) (k := 100) (j := 3) (fs := [some (some 101), some (some 104), some (some 107), none, none]) rfl zin_0 (Nat.le_of_ble_eq_true rfl) rfl (hS _ _ zs_100) rfl zk_fl_11_220 hd kk
def w_Desk_inTheWay (a1 : Int32) (I : zI) (K : Int32 → zI → Prop) : Prop :=
  ∀ (P11 : Prop), ((w_Desk_now I (fun r_1 => (if (I.1 r_1 3) = 0 then (w_Adviser_findWay (r_1 + 3) I (fun I_2 => (if a1 = 0 then (K (I_2.1 100 3) I_2) else (K (I_2.1 100 4) I_2)))) else (K (-2) I)))) → P11) → (if a1 = 0 then P11 else (if a1 = 1 then P11 else (K (-1) I)))
theorem dyX11_inTheWay_0 : decode cX11_inTheWay 0 = .ok (.iload_n 1, 1) := by decide +kernel
theorem dyX11_inTheWay_1 : decode cX11_inTheWay 1 = .ok (.ifCond .eq 10, 3) := by decide +kernel
theorem dyX11_inTheWay_4 : decode cX11_inTheWay 4 = .ok (.iload_n 1, 1) := by decide +kernel
theorem dyX11_inTheWay_5 : decode cX11_inTheWay 5 = .ok (.iconst 1, 1) := by decide +kernel
theorem dyX11_inTheWay_6 : decode cX11_inTheWay 6 = .ok (.if_icmp .eq 5, 3) := by decide +kernel
theorem dyX11_inTheWay_9 : decode cX11_inTheWay 9 = .ok (.iconst (-1), 1) := by decide +kernel
theorem dyX11_inTheWay_10 : decode cX11_inTheWay 10 = .ok (.ireturn, 1) := by decide +kernel
theorem dyX11_inTheWay_11 : decode cX11_inTheWay 11 = .ok (.aload_n 0, 1) := by decide +kernel
theorem dyX11_inTheWay_12 : decode cX11_inTheWay 12 = .ok (.invokevirtual 126, 3) := by decide +kernel
theorem dyX11_inTheWay_15 : decode cX11_inTheWay 15 = .ok (.astore_n 2, 1) := by decide +kernel
theorem dyX11_inTheWay_16 : decode cX11_inTheWay 16 = .ok (.aload_n 2, 1) := by decide +kernel
theorem dyX11_inTheWay_17 : decode cX11_inTheWay 17 = .ok (.getfield 155, 3) := by decide +kernel
theorem dyX11_inTheWay_20 : decode cX11_inTheWay 20 = .ok (.ifCond .eq 6, 3) := by decide +kernel
theorem dyX11_inTheWay_23 : decode cX11_inTheWay 23 = .ok (.bipush (-2), 2) := by decide +kernel
theorem dyX11_inTheWay_25 : decode cX11_inTheWay 25 = .ok (.ireturn, 1) := by decide +kernel
theorem dyX11_inTheWay_26 : decode cX11_inTheWay 26 = .ok (.aload_n 0, 1) := by decide +kernel
theorem dyX11_inTheWay_27 : decode cX11_inTheWay 27 = .ok (.getfield 81, 3) := by decide +kernel
theorem dyX11_inTheWay_30 : decode cX11_inTheWay 30 = .ok (.aload_n 2, 1) := by decide +kernel
theorem dyX11_inTheWay_31 : decode cX11_inTheWay 31 = .ok (.getfield 99, 3) := by decide +kernel
theorem dyX11_inTheWay_34 : decode cX11_inTheWay 34 = .ok (.invokevirtual 216, 3) := by decide +kernel
theorem dyX11_inTheWay_37 : decode cX11_inTheWay 37 = .ok (.iload_n 1, 1) := by decide +kernel
theorem dyX11_inTheWay_38 : decode cX11_inTheWay 38 = .ok (.ifCond .ne 13, 3) := by decide +kernel
theorem dyX11_inTheWay_41 : decode cX11_inTheWay 41 = .ok (.aload_n 0, 1) := by decide +kernel
theorem dyX11_inTheWay_42 : decode cX11_inTheWay 42 = .ok (.getfield 81, 3) := by decide +kernel
theorem dyX11_inTheWay_45 : decode cX11_inTheWay 45 = .ok (.getfield 220, 3) := by decide +kernel
theorem dyX11_inTheWay_48 : decode cX11_inTheWay 48 = .ok (.goto 10, 3) := by decide +kernel
theorem dyX11_inTheWay_51 : decode cX11_inTheWay 51 = .ok (.aload_n 0, 1) := by decide +kernel
theorem dyX11_inTheWay_52 : decode cX11_inTheWay 52 = .ok (.getfield 81, 3) := by decide +kernel
theorem dyX11_inTheWay_55 : decode cX11_inTheWay 55 = .ok (.getfield 223, 3) := by decide +kernel
theorem dyX11_inTheWay_58 : decode cX11_inTheWay 58 = .ok (.ireturn, 1) := by decide +kernel
theorem zsg_yX11_inTheWay : yX11_inTheWay.cls = RX11 ∧ yX11_inTheWay.cls ≠ "java/lang/invoke/MethodHandle" ∧ yX11_inTheWay.cls ≠ "java/lang/invoke/VarHandle" ∧ (parseMethodDescriptor yX11_inTheWay.desc).map (fun d => d.parameters.length) = some 1 := by decide +kernel
set_option maxRecDepth 20000 in
theorem c_Desk_inTheWay {l : Launch} {D : va_G} {B : Nat} {cA : Nat → ClassId} {ad : Nat → Nat} {S : List zC} (hS : zOkX S) {a1 : Int32} {I : zI} {K : Int32 → zI → Prop}  (h : w_Desk_inTheWay a1 I K) : Met l yX11_inTheWay (zws yX11_inTheWay cX11_inTheWay 3 (some .int)) (zrm 5 129) (zPc D B cA ad [.ref (B + 0), .int a1] S I) (zQc D B cA (zqI S K)) 0 0 (fun q => B ≤ q) := by
  refine zm_of (cc := cX11_inTheWay) (maxL := 3) (ret := (some .int)) (by decide +kernel) rfl (Nat.le_of_ble_eq_true rfl) trivial ?_
  intro p e s m args below meth c C _
  unfold w_Desk_inTheWay at h
  show zX p l e (zrm 5 129) s m args below meth c (MQ below (zQc D B cA (zqI S K)) args s 0 0 (fun q => B ≤ q)) D B cA 3 0 0 S I [(0, .ref (B + 0)), (1, .int a1)] [] 0
  refine zr_iload_n C dyX11_inTheWay_0 rfl 1 rfl ?_
  refine zjn (h (zX p l e (zrm 5 129) s m args below meth c (MQ below (zQc D B cA (zqI S K)) args s 0 0 (fun q => B ≤ q)) D B cA 3 0 0 S I [(0, .ref (B + 0)), (1, .int a1)] [] 11) (fun  h => ?_)) (fun h => ?_)
  · refine zr_aload_n C dyX11_inTheWay_11 rfl 0 rfl ?_
    refine zv_11_126 C hS (st := []) h ⟨Nat.le_of_ble_eq_true rfl, Nat.le_of_ble_eq_true rfl⟩ (Nat.le_of_ble_eq_true rfl) dyX11_inTheWay_12 (fun r_1 hr_1 h => ?_)
    refine zr_astore_n C dyX11_inTheWay_15 rfl (Nat.le_of_ble_eq_true rfl) (lv2 := [(2, .ref (B + r_1)), (0, .ref (B + 0)), (1, .int a1)]) rfl ?_
    refine zr_aload_n C dyX11_inTheWay_16 rfl 0 rfl ?_
    refine zg_11_155 C hr_1 dyX11_inTheWay_17 ?_
    refine zr_if_eq C dyX11_inTheWay_20 (tgt := 26) (by decide) (fun hc_4 => ?_) (fun hc_4 => ?_)
    · replace h := zif_pos hc_4 h
      refine zr_aload_n C dyX11_inTheWay_26 rfl 1 rfl ?_
      refine zg_11_81 C hS dyX11_inTheWay_27 ?_
      refine zr_aload_n C dyX11_inTheWay_30 rfl 0 rfl ?_
      refine zg_11_99 C hr_1 dyX11_inTheWay_31 ?_
      refine zv_11_216 C hS hr_1.2.2.1 (st := []) h ⟨Nat.le_of_ble_eq_true rfl, Nat.le_of_ble_eq_true rfl⟩ (Nat.le_of_ble_eq_true rfl) dyX11_inTheWay_34 (fun I_2 h => ?_)
      refine zr_iload_n C dyX11_inTheWay_37 rfl 2 rfl ?_
      refine zr_if_ne C dyX11_inTheWay_38 (tgt := 51) (by decide) (fun hc_3 => ?_) (fun hc_3 => ?_)
      · replace h := zif_neg hc_3 h
        refine zr_aload_n C dyX11_inTheWay_51 rfl 1 rfl ?_
        refine zg_11_81 C hS dyX11_inTheWay_52 ?_
        refine zg_11_223 C hS dyX11_inTheWay_55 ?_
        exact zr_iret C rfl dyX11_inTheWay_58 ⟨rfl, _, rfl, h⟩
      · replace h := zif_pos hc_3 h
        refine zr_aload_n C dyX11_inTheWay_41 rfl 1 rfl ?_
        refine zg_11_81 C hS dyX11_inTheWay_42 ?_
        refine zg_11_220 C hS dyX11_inTheWay_45 ?_
        refine zr_goto C dyX11_inTheWay_48 (tgt := 58) (by decide) ?_
        exact zr_iret C rfl dyX11_inTheWay_58 ⟨rfl, _, rfl, h⟩
    · replace h := zif_neg hc_4 h
      refine zr_bipush C dyX11_inTheWay_23 zc_b_m2 ?_
      exact zr_iret C rfl dyX11_inTheWay_25 ⟨rfl, _, rfl, h⟩
  refine zr_if_eq C dyX11_inTheWay_1 (tgt := 11) (by decide) (fun hc_6 => ?_) (fun hc_6 => ?_)
  · replace h := zif_pos hc_6 h
    exact h
  · replace h := zif_neg hc_6 h
    refine zr_iload_n C dyX11_inTheWay_4 rfl 1 rfl ?_
    refine zr_iconst C dyX11_inTheWay_5 zc_i_1 ?_
    refine zr_icmp_eq C dyX11_inTheWay_6 (tgt := 11) (by decide) (fun hc_5 => ?_) (fun hc_5 => ?_)
    · replace h := zif_pos hc_5 h
      exact h
    · replace h := zif_neg hc_5 h
      refine zr_iconst C dyX11_inTheWay_9 zc_i_m1 ?_
      exact zr_iret C rfl dyX11_inTheWay_10 ⟨rfl, _, rfl, h⟩
theorem zv_11_226 {p : Program} {l : Launch} {e : Env} {R : Room} {s : State} {m : MethodId} {args : Array Value} {below : List Frame} {meth : Method} {c : Code} {Q : State → Prop} {D : va_G} {B : Nat} {cA : Nat → ClassId} {ad : Nat → Nat} {cc : ByteArray} {nL : Nat} {ret : Option FieldType} {S : List zC} {I : zI} {lv : List (Nat × Value)} {st : List Value} {pc : Nat} (C : zCx p s m args meth c cc nL RX11 ret D B cA ad) {K : Int32 → zI → Prop} {xa1 : Nat} (hS : zOkX S) (xha1 : zIsTokens S xa1) (h : w_Adviser_kindsInPlace xa1 I K) (hR : 5 + 1 ≤ R.frames ∧ 8 + (4 + 11) + (126) ≤ R.locals) (hw : (st.map fun v => v.category).sum ≤ 8) (hd : decode cc pc = .ok (.invokevirtual 226, 3)) (kk : ∀ v I2, K v I2 → zX p l e R s m args below meth c Q D B cA nL 0 0 S I2 lv (.int v :: st) (pc + 3)) : zX p l e R s m args below meth c Q D B cA nL 0 0 S I lv (.ref (B + xa1) :: .ref (B + 100) :: st) pc :=
  have hf : 0 ≤ R.cells ∧ 0 ≤ R.slots := ⟨Nat.zero_le _, Nat.zero_le _⟩
  zc_VqI C (ci := 0) (q := (RX0, TX0, 5)) (k := 100) (fs := [some (some 101), some (some 104), some (some 107), none, none]) (As := [.ref (B + xa1)]) (st := st) rfl (hS _ _ zs_100) (c_Adviser_kindsInPlace hS xha1 h) (zgV zk_ml_11_226 zk_im_yX0_kindsInPlace zk_se_yX0_kindsInPlace zk_in_0 zk_cd_yX0_kindsInPlace) zsg_yX0_kindsInPlace hR rfl rfl hw hd hf kk
def w_Desk_expected  (I : zI) (K : Int32 → zI → Prop) : Prop :=
  w_Desk_now I (fun r_1 => (if (I.1 r_1 3) = 0 then (w_Adviser_kindsInPlace (r_1 + 3) I (fun r_2 I_3 => K r_2 I_3)) else (K (-2) I)))
theorem dyX11_expected_0 : decode cX11_expected 0 = .ok (.aload_n 0, 1) := by decide +kernel
theorem dyX11_expected_1 : decode cX11_expected 1 = .ok (.invokevirtual 126, 3) := by decide +kernel
theorem dyX11_expected_4 : decode cX11_expected 4 = .ok (.astore_n 1, 1) := by decide +kernel
theorem dyX11_expected_5 : decode cX11_expected 5 = .ok (.aload_n 1, 1) := by decide +kernel
theorem dyX11_expected_6 : decode cX11_expected 6 = .ok (.getfield 155, 3) := by decide +kernel
theorem dyX11_expected_9 : decode cX11_expected 9 = .ok (.ifCond .eq 8, 3) := by decide +kernel
theorem dyX11_expected_12 : decode cX11_expected 12 = .ok (.bipush (-2), 2) := by decide +kernel
theorem dyX11_expected_14 : decode cX11_expected 14 = .ok (.goto 14, 3) := by decide +kernel
theorem dyX11_expected_17 : decode cX11_expected 17 = .ok (.aload_n 0, 1) := by decide +kernel
theorem dyX11_expected_18 : decode cX11_expected 18 = .ok (.getfield 81, 3) := by decide +kernel
theorem dyX11_expected_21 : decode cX11_expected 21 = .ok (.aload_n 1, 1) := by decide +kernel
theorem dyX11_expected_22 : decode cX11_expected 22 = .ok (.getfield 99, 3) := by decide +kernel
theorem dyX11_expected_25 : decode cX11_expected 25 = .ok (.invokevirtual 226, 3) := by decide +kernel
theorem dyX11_expected_28 : decode cX11_expected 28 = .ok (.ireturn, 1) := by decide +kernel
theorem zsg_yX11_expected : yX11_expected.cls = RX11 ∧ yX11_expected.cls ≠ "java/lang/invoke/MethodHandle" ∧ yX11_expected.cls ≠ "java/lang/invoke/VarHandle" ∧ (parseMethodDescriptor yX11_expected.desc).map (fun d => d.parameters.length) = some 0 := by decide +kernel
set_option maxRecDepth 20000 in
theorem c_Desk_expected {l : Launch} {D : va_G} {B : Nat} {cA : Nat → ClassId} {ad : Nat → Nat} {S : List zC} (hS : zOkX S)  {I : zI} {K : Int32 → zI → Prop}  (h : w_Desk_expected  I K) : Met l yX11_expected (zws yX11_expected cX11_expected 2 (some .int)) (zrm 6 149) (zPc D B cA ad [.ref (B + 0)] S I) (zQc D B cA (zqI S K)) 0 0 (fun q => B ≤ q) := by
  refine zm_of (cc := cX11_expected) (maxL := 2) (ret := (some .int)) (by decide +kernel) rfl (Nat.le_of_ble_eq_true rfl) trivial ?_
  intro p e s m args below meth c C _
  unfold w_Desk_expected at h
  show zX p l e (zrm 6 149) s m args below meth c (MQ below (zQc D B cA (zqI S K)) args s 0 0 (fun q => B ≤ q)) D B cA 2 0 0 S I [(0, .ref (B + 0))] [] 0
  refine zr_aload_n C dyX11_expected_0 rfl 0 rfl ?_
  refine zv_11_126 C hS (st := []) h ⟨Nat.le_of_ble_eq_true rfl, Nat.le_of_ble_eq_true rfl⟩ (Nat.le_of_ble_eq_true rfl) dyX11_expected_1 (fun r_1 hr_1 h => ?_)
  refine zr_astore_n C dyX11_expected_4 rfl (Nat.le_of_ble_eq_true rfl) (lv2 := [(1, .ref (B + r_1)), (0, .ref (B + 0))]) rfl ?_
  refine zr_aload_n C dyX11_expected_5 rfl 0 rfl ?_
  refine zg_11_155 C hr_1 dyX11_expected_6 ?_
  refine zr_if_eq C dyX11_expected_9 (tgt := 17) (by decide) (fun hc_4 => ?_) (fun hc_4 => ?_)
  · replace h := zif_pos hc_4 h
    refine zr_aload_n C dyX11_expected_17 rfl 1 rfl ?_
    refine zg_11_81 C hS dyX11_expected_18 ?_
    refine zr_aload_n C dyX11_expected_21 rfl 0 rfl ?_
    refine zg_11_99 C hr_1 dyX11_expected_22 ?_
    refine zv_11_226 C hS hr_1.2.2.1 (st := []) h ⟨Nat.le_of_ble_eq_true rfl, Nat.le_of_ble_eq_true rfl⟩ (Nat.le_of_ble_eq_true rfl) dyX11_expected_25 (fun r_2 I_3 h => ?_)
    exact zr_iret C rfl dyX11_expected_28 ⟨rfl, _, rfl, h⟩
  · replace h := zif_neg hc_4 h
    refine zr_bipush C dyX11_expected_12 zc_b_m2 ?_
    refine zr_goto C dyX11_expected_14 (tgt := 28) (by decide) ?_
    exact zr_iret C rfl dyX11_expected_28 ⟨rfl, _, rfl, h⟩
theorem zv_11_230 {p : Program} {l : Launch} {e : Env} {R : Room} {s : State} {m : MethodId} {args : Array Value} {below : List Frame} {meth : Method} {c : Code} {Q : State → Prop} {D : va_G} {B : Nat} {cA : Nat → ClassId} {ad : Nat → Nat} {cc : ByteArray} {nL : Nat} {ret : Option FieldType} {S : List zC} {I : zI} {lv : List (Nat × Value)} {st : List Value} {pc : Nat} (C : zCx p s m args meth c cc nL RX11 ret D B cA ad) {K : zI → Prop} {xa1 : Nat} (hS : zOkX S) (xha1 : zIsTokens S xa1) (h : w_Adviser_findMend xa1 I K) (hR : 4 + 1 ≤ R.frames ∧ 8 + (5 + 11) + (104) ≤ R.locals) (hw : (st.map fun v => v.category).sum ≤ 8) (hd : decode cc pc = .ok (.invokevirtual 230, 3)) (kk : ∀ I2, K I2 → zX p l e R s m args below meth c Q D B cA nL 0 0 S I2 lv st (pc + 3)) : zX p l e R s m args below meth c Q D B cA nL 0 0 S I lv (.ref (B + xa1) :: .ref (B + 100) :: st) pc :=
  have hf : 0 ≤ R.cells ∧ 0 ≤ R.slots := ⟨Nat.zero_le _, Nat.zero_le _⟩
  zc_VqV C (ci := 0) (q := (RX0, TX0, 5)) (k := 100) (fs := [some (some 101), some (some 104), some (some 107), none, none]) (As := [.ref (B + xa1)]) (st := st) rfl (hS _ _ zs_100) (c_Adviser_findMend hS xha1 h) (zgV zk_ml_11_230 zk_im_yX0_findMend zk_se_yX0_findMend zk_in_0 zk_cd_yX0_findMend) zsg_yX0_findMend hR rfl rfl hw hd hf kk
def w_Desk_mend (a1 : Int32) (I : zI) (K : Int32 → zI → Prop) : Prop :=
  ∀ (P11 : Prop), ((w_Desk_now I (fun r_1 => (if (I.1 r_1 3) = 0 then (w_Adviser_findMend (r_1 + 3) I (fun I_2 => (if a1 = 0 then (K (I_2.1 100 3) I_2) else (K (I_2.1 100 4) I_2)))) else (K (-2) I)))) → P11) → (if a1 = 0 then P11 else (if a1 = 1 then P11 else (K (-1) I)))
theorem dyX11_mend_0 : decode cX11_mend 0 = .ok (.iload_n 1, 1) := by decide +kernel
theorem dyX11_mend_1 : decode cX11_mend 1 = .ok (.ifCond .eq 10, 3) := by decide +kernel
theorem dyX11_mend_4 : decode cX11_mend 4 = .ok (.iload_n 1, 1) := by decide +kernel
theorem dyX11_mend_5 : decode cX11_mend 5 = .ok (.iconst 1, 1) := by decide +kernel
theorem dyX11_mend_6 : decode cX11_mend 6 = .ok (.if_icmp .eq 5, 3) := by decide +kernel
theorem dyX11_mend_9 : decode cX11_mend 9 = .ok (.iconst (-1), 1) := by decide +kernel
theorem dyX11_mend_10 : decode cX11_mend 10 = .ok (.ireturn, 1) := by decide +kernel
theorem dyX11_mend_11 : decode cX11_mend 11 = .ok (.aload_n 0, 1) := by decide +kernel
theorem dyX11_mend_12 : decode cX11_mend 12 = .ok (.invokevirtual 126, 3) := by decide +kernel
theorem dyX11_mend_15 : decode cX11_mend 15 = .ok (.astore_n 2, 1) := by decide +kernel
theorem dyX11_mend_16 : decode cX11_mend 16 = .ok (.aload_n 2, 1) := by decide +kernel
theorem dyX11_mend_17 : decode cX11_mend 17 = .ok (.getfield 155, 3) := by decide +kernel
theorem dyX11_mend_20 : decode cX11_mend 20 = .ok (.ifCond .eq 6, 3) := by decide +kernel
theorem dyX11_mend_23 : decode cX11_mend 23 = .ok (.bipush (-2), 2) := by decide +kernel
theorem dyX11_mend_25 : decode cX11_mend 25 = .ok (.ireturn, 1) := by decide +kernel
theorem dyX11_mend_26 : decode cX11_mend 26 = .ok (.aload_n 0, 1) := by decide +kernel
theorem dyX11_mend_27 : decode cX11_mend 27 = .ok (.getfield 81, 3) := by decide +kernel
theorem dyX11_mend_30 : decode cX11_mend 30 = .ok (.aload_n 2, 1) := by decide +kernel
theorem dyX11_mend_31 : decode cX11_mend 31 = .ok (.getfield 99, 3) := by decide +kernel
theorem dyX11_mend_34 : decode cX11_mend 34 = .ok (.invokevirtual 230, 3) := by decide +kernel
theorem dyX11_mend_37 : decode cX11_mend 37 = .ok (.iload_n 1, 1) := by decide +kernel
theorem dyX11_mend_38 : decode cX11_mend 38 = .ok (.ifCond .ne 13, 3) := by decide +kernel
theorem dyX11_mend_41 : decode cX11_mend 41 = .ok (.aload_n 0, 1) := by decide +kernel
theorem dyX11_mend_42 : decode cX11_mend 42 = .ok (.getfield 81, 3) := by decide +kernel
theorem dyX11_mend_45 : decode cX11_mend 45 = .ok (.getfield 220, 3) := by decide +kernel
theorem dyX11_mend_48 : decode cX11_mend 48 = .ok (.goto 10, 3) := by decide +kernel
theorem dyX11_mend_51 : decode cX11_mend 51 = .ok (.aload_n 0, 1) := by decide +kernel
theorem dyX11_mend_52 : decode cX11_mend 52 = .ok (.getfield 81, 3) := by decide +kernel
theorem dyX11_mend_55 : decode cX11_mend 55 = .ok (.getfield 223, 3) := by decide +kernel
theorem dyX11_mend_58 : decode cX11_mend 58 = .ok (.ireturn, 1) := by decide +kernel
theorem zsg_yX11_mend : yX11_mend.cls = RX11 ∧ yX11_mend.cls ≠ "java/lang/invoke/MethodHandle" ∧ yX11_mend.cls ≠ "java/lang/invoke/VarHandle" ∧ (parseMethodDescriptor yX11_mend.desc).map (fun d => d.parameters.length) = some 1 := by decide +kernel
set_option maxRecDepth 20000 in
theorem c_Desk_mend {l : Launch} {D : va_G} {B : Nat} {cA : Nat → ClassId} {ad : Nat → Nat} {S : List zC} (hS : zOkX S) {a1 : Int32} {I : zI} {K : Int32 → zI → Prop}  (h : w_Desk_mend a1 I K) : Met l yX11_mend (zws yX11_mend cX11_mend 3 (some .int)) (zrm 5 128) (zPc D B cA ad [.ref (B + 0), .int a1] S I) (zQc D B cA (zqI S K)) 0 0 (fun q => B ≤ q) := by
  refine zm_of (cc := cX11_mend) (maxL := 3) (ret := (some .int)) (by decide +kernel) rfl (Nat.le_of_ble_eq_true rfl) trivial ?_
  intro p e s m args below meth c C _
  unfold w_Desk_mend at h
  show zX p l e (zrm 5 128) s m args below meth c (MQ below (zQc D B cA (zqI S K)) args s 0 0 (fun q => B ≤ q)) D B cA 3 0 0 S I [(0, .ref (B + 0)), (1, .int a1)] [] 0
  refine zr_iload_n C dyX11_mend_0 rfl 1 rfl ?_
  refine zjn (h (zX p l e (zrm 5 128) s m args below meth c (MQ below (zQc D B cA (zqI S K)) args s 0 0 (fun q => B ≤ q)) D B cA 3 0 0 S I [(0, .ref (B + 0)), (1, .int a1)] [] 11) (fun  h => ?_)) (fun h => ?_)
  · refine zr_aload_n C dyX11_mend_11 rfl 0 rfl ?_
    refine zv_11_126 C hS (st := []) h ⟨Nat.le_of_ble_eq_true rfl, Nat.le_of_ble_eq_true rfl⟩ (Nat.le_of_ble_eq_true rfl) dyX11_mend_12 (fun r_1 hr_1 h => ?_)
    refine zr_astore_n C dyX11_mend_15 rfl (Nat.le_of_ble_eq_true rfl) (lv2 := [(2, .ref (B + r_1)), (0, .ref (B + 0)), (1, .int a1)]) rfl ?_
    refine zr_aload_n C dyX11_mend_16 rfl 0 rfl ?_
    refine zg_11_155 C hr_1 dyX11_mend_17 ?_
    refine zr_if_eq C dyX11_mend_20 (tgt := 26) (by decide) (fun hc_4 => ?_) (fun hc_4 => ?_)
    · replace h := zif_pos hc_4 h
      refine zr_aload_n C dyX11_mend_26 rfl 1 rfl ?_
      refine zg_11_81 C hS dyX11_mend_27 ?_
      refine zr_aload_n C dyX11_mend_30 rfl 0 rfl ?_
      refine zg_11_99 C hr_1 dyX11_mend_31 ?_
      refine zv_11_230 C hS hr_1.2.2.1 (st := []) h ⟨Nat.le_of_ble_eq_true rfl, Nat.le_of_ble_eq_true rfl⟩ (Nat.le_of_ble_eq_true rfl) dyX11_mend_34 (fun I_2 h => ?_)
      refine zr_iload_n C dyX11_mend_37 rfl 2 rfl ?_
      refine zr_if_ne C dyX11_mend_38 (tgt := 51) (by decide) (fun hc_3 => ?_) (fun hc_3 => ?_)
      · replace h := zif_neg hc_3 h
        refine zr_aload_n C dyX11_mend_51 rfl 1 rfl ?_
        refine zg_11_81 C hS dyX11_mend_52 ?_
        refine zg_11_223 C hS dyX11_mend_55 ?_
        exact zr_iret C rfl dyX11_mend_58 ⟨rfl, _, rfl, h⟩
      · replace h := zif_pos hc_3 h
        refine zr_aload_n C dyX11_mend_41 rfl 1 rfl ?_
        refine zg_11_81 C hS dyX11_mend_42 ?_
        refine zg_11_220 C hS dyX11_mend_45 ?_
        refine zr_goto C dyX11_mend_48 (tgt := 58) (by decide) ?_
        exact zr_iret C rfl dyX11_mend_58 ⟨rfl, _, rfl, h⟩
    · replace h := zif_neg hc_4 h
      refine zr_bipush C dyX11_mend_23 zc_b_m2 ?_
      exact zr_iret C rfl dyX11_mend_25 ⟨rfl, _, rfl, h⟩
  refine zr_if_eq C dyX11_mend_1 (tgt := 11) (by decide) (fun hc_6 => ?_) (fun hc_6 => ?_)
  · replace h := zif_pos hc_6 h
    exact h
  · replace h := zif_neg hc_6 h
    refine zr_iload_n C dyX11_mend_4 rfl 1 rfl ?_
    refine zr_iconst C dyX11_mend_5 zc_i_1 ?_
    refine zr_icmp_eq C dyX11_mend_6 (tgt := 11) (by decide) (fun hc_5 => ?_) (fun hc_5 => ?_)
    · replace h := zif_pos hc_5 h
      exact h
    · replace h := zif_neg hc_5 h
      refine zr_iconst C dyX11_mend_9 zc_i_m1 ?_
      exact zr_iret C rfl dyX11_mend_10 ⟨rfl, _, rfl, h⟩
theorem zg_11_237 {p : Program} {l : Launch} {e : Env} {R : Room} {s : State} {m : MethodId} {args : Array Value} {below : List Frame} {meth : Method} {c : Code} {Q : State → Prop} {D : va_G} {B : Nat} {cA : Nat → ClassId} {ad : Nat → Nat} {cc : ByteArray} {nL : Nat} {ret : Option FieldType} {S : List zC} {I : zI} {lv : List (Nat × Value)} {st : List Value} {pc : Nat} (C : zCx p s m args meth c cc nL RX11 ret D B cA ad) (hS : zOkX S) (hd : decode cc pc = .ok (.getfield 237, 3)) (kk : zX p l e R s m args below meth c Q D B cA nL 0 0 S I lv (.ref (B + 27) :: st) (pc + 3)) : zX p l e R s m args below meth c Q D B cA nL 0 0 S I lv (.ref (B + 24) :: st) pc :=
  zr_getr C (ci := 3) (Cn := RX3) (T := TX3) (N := 10) (k := 24) (j := 1) (fs := [some (some 25), some (some 27), some (some 29), some (some 31), some (some 33), some (some 35), some (some 37), some (some 39), some (some 41), none]) rfl zin_3 (Nat.le_of_ble_eq_true rfl) rfl (hS _ _ zs_24) rfl zk_fl_11_237 hd kk
def w_Desk_isEnd (a1 : Int32) (I : zI) (K : Int32 → Prop) : Prop :=
  w_Row_get 27 3400 a1 I (fun r_1 => (if r_1 = 15 then K 1 else K 0))
theorem dyX11_isEnd_0 : decode cX11_isEnd 0 = .ok (.aload_n 0, 1) := by decide +kernel
theorem dyX11_isEnd_1 : decode cX11_isEnd 1 = .ok (.getfield 35, 3) := by decide +kernel
theorem dyX11_isEnd_4 : decode cX11_isEnd 4 = .ok (.getfield 237, 3) := by decide +kernel
theorem dyX11_isEnd_7 : decode cX11_isEnd 7 = .ok (.iload_n 1, 1) := by decide +kernel
theorem dyX11_isEnd_8 : decode cX11_isEnd 8 = .ok (.invokevirtual 166, 3) := by decide +kernel
theorem dyX11_isEnd_11 : decode cX11_isEnd 11 = .ok (.bipush 15, 2) := by decide +kernel
theorem dyX11_isEnd_13 : decode cX11_isEnd 13 = .ok (.if_icmp .ne 7, 3) := by decide +kernel
theorem dyX11_isEnd_16 : decode cX11_isEnd 16 = .ok (.iconst 1, 1) := by decide +kernel
theorem dyX11_isEnd_17 : decode cX11_isEnd 17 = .ok (.goto 4, 3) := by decide +kernel
theorem dyX11_isEnd_20 : decode cX11_isEnd 20 = .ok (.iconst 0, 1) := by decide +kernel
theorem dyX11_isEnd_21 : decode cX11_isEnd 21 = .ok (.ireturn, 1) := by decide +kernel
theorem zsg_yX11_isEnd : yX11_isEnd.cls = RX11 ∧ yX11_isEnd.cls ≠ "java/lang/invoke/MethodHandle" ∧ yX11_isEnd.cls ≠ "java/lang/invoke/VarHandle" ∧ (parseMethodDescriptor yX11_isEnd.desc).map (fun d => d.parameters.length) = some 1 := by decide +kernel
set_option maxRecDepth 20000 in
theorem c_Desk_isEnd {l : Launch} {D : va_G} {B : Nat} {cA : Nat → ClassId} {ad : Nat → Nat} {S : List zC} (hS : zOkX S) {a1 : Int32} {I : zI} {K : Int32 → Prop}  (h : w_Desk_isEnd a1 I K) : Met l yX11_isEnd (zws yX11_isEnd cX11_isEnd 2 (some .boolean)) (zrm 1 21) (zPc D B cA ad [.ref (B + 0), .int a1] S I) (zQc D B cA (zpI S I K)) 0 0 (fun q => B ≤ q) := by
  refine zm_of (cc := cX11_isEnd) (maxL := 2) (ret := (some .boolean)) (by decide +kernel) rfl (Nat.le_of_ble_eq_true rfl) trivial ?_
  intro p e s m args below meth c C _
  unfold w_Desk_isEnd at h
  show zX p l e (zrm 1 21) s m args below meth c (MQ below (zQc D B cA (zpI S I K)) args s 0 0 (fun q => B ≤ q)) D B cA 2 0 0 S I [(0, .ref (B + 0)), (1, .int a1)] [] 0
  refine zr_aload_n C dyX11_isEnd_0 rfl 0 rfl ?_
  refine zg_11_35 C hS dyX11_isEnd_1 ?_
  refine zg_11_237 C hS dyX11_isEnd_4 ?_
  refine zr_iload_n C dyX11_isEnd_7 rfl 1 rfl ?_
  refine zv_11_166 C hS (zIsRow.of hS zir_27) (st := []) h ⟨Nat.le_of_ble_eq_true rfl, Nat.le_of_ble_eq_true rfl⟩ (Nat.le_of_ble_eq_true rfl) dyX11_isEnd_8 (fun r_1 h => ?_)
  refine zr_bipush C dyX11_isEnd_11 zc_b_15 ?_
  refine zr_icmp_ne C dyX11_isEnd_13 (tgt := 20) (by decide) (fun hc_2 => ?_) (fun hc_2 => ?_)
  · replace h := zif_neg hc_2 h
    refine zr_iconst C dyX11_isEnd_20 zc_i_0 ?_
    exact zr_zret C rfl (zb.nar zb_0) dyX11_isEnd_21 ⟨rfl, rfl, _, rfl, h⟩
  · replace h := zif_pos hc_2 h
    refine zr_iconst C dyX11_isEnd_16 zc_i_1 ?_
    refine zr_goto C dyX11_isEnd_17 (tgt := 21) (by decide) ?_
    exact zr_zret C rfl (zb.nar zb_1) dyX11_isEnd_21 ⟨rfl, rfl, _, rfl, h⟩
theorem zv_11_233 {p : Program} {l : Launch} {e : Env} {R : Room} {s : State} {m : MethodId} {args : Array Value} {below : List Frame} {meth : Method} {c : Code} {Q : State → Prop} {D : va_G} {B : Nat} {cA : Nat → ClassId} {ad : Nat → Nat} {cc : ByteArray} {nL : Nat} {ret : Option FieldType} {S : List zC} {I : zI} {lv : List (Nat × Value)} {st : List Value} {pc : Nat} (C : zCx p s m args meth c cc nL RX11 ret D B cA ad) {K : Int32 → Prop} {xa1 : Int32} (hS : zOkX S)  (h : w_Nodes_has xa1 I K) (hR : 0 + 1 ≤ R.frames ∧ 8 + (2 + 11) + (0) ≤ R.locals) (hw : (st.map fun v => v.category).sum ≤ 8) (hd : decode cc pc = .ok (.invokevirtual 233, 3)) (kk : ∀ v, K v → zX p l e R s m args below meth c Q D B cA nL 0 0 S I lv (.int v :: st) (pc + 3)) : zX p l e R s m args below meth c Q D B cA nL 0 0 S I lv (.int xa1 :: .ref (B + 24) :: st) pc :=
  have hf : 0 ≤ R.cells ∧ 0 ≤ R.slots := ⟨Nat.zero_le _, Nat.zero_le _⟩
  zc_VpI C (ci := 3) (q := (RX3, TX3, 10)) (k := 24) (fs := [some (some 25), some (some 27), some (some 29), some (some 31), some (some 33), some (some 35), some (some 37), some (some 39), some (some 41), none]) (As := [.int xa1]) (st := st) rfl (hS _ _ zs_24) (c_Nodes_has hS h) (zgV zk_ml_11_233 zk_im_yX3_has zk_se_yX3_has zk_in_3 zk_cd_yX3_has) zsg_yX3_has hR rfl rfl hw hd hf kk
theorem zg_11_234 {p : Program} {l : Launch} {e : Env} {R : Room} {s : State} {m : MethodId} {args : Array Value} {below : List Frame} {meth : Method} {c : Code} {Q : State → Prop} {D : va_G} {B : Nat} {cA : Nat → ClassId} {ad : Nat → Nat} {cc : ByteArray} {nL : Nat} {ret : Option FieldType} {S : List zC} {I : zI} {lv : List (Nat × Value)} {st : List Value} {pc : Nat} (C : zCx p s m args meth c cc nL RX11 ret D B cA ad) (hS : zOkX S) (hd : decode cc pc = .ok (.getfield 234, 3)) (kk : zX p l e R s m args below meth c Q D B cA nL 0 0 S I lv (.ref (B + 25) :: st) (pc + 3)) : zX p l e R s m args below meth c Q D B cA nL 0 0 S I lv (.ref (B + 24) :: st) pc :=
  zr_getr C (ci := 3) (Cn := RX3) (T := TX3) (N := 10) (k := 24) (j := 0) (fs := [some (some 25), some (some 27), some (some 29), some (some 31), some (some 33), some (some 35), some (some 37), some (some 39), some (some 41), none]) rfl zin_3 (Nat.le_of_ble_eq_true rfl) rfl (hS _ _ zs_24) rfl zk_fl_11_234 hd kk
theorem zv_11_240 {p : Program} {l : Launch} {e : Env} {R : Room} {s : State} {m : MethodId} {args : Array Value} {below : List Frame} {meth : Method} {c : Code} {Q : State → Prop} {D : va_G} {B : Nat} {cA : Nat → ClassId} {ad : Nat → Nat} {cc : ByteArray} {nL : Nat} {ret : Option FieldType} {S : List zC} {I : zI} {lv : List (Nat × Value)} {st : List Value} {pc : Nat} (C : zCx p s m args meth c cc nL RX11 ret D B cA ad) {K : Int32 → Prop} {xa1 : Int32} (hS : zOkX S)  (h : w_Nodes_childrenOf xa1 I K) (hR : 1 + 1 ≤ R.frames ∧ 8 + (2 + 11) + (21) ≤ R.locals) (hw : (st.map fun v => v.category).sum ≤ 8) (hd : decode cc pc = .ok (.invokevirtual 240, 3)) (kk : ∀ v, K v → zX p l e R s m args below meth c Q D B cA nL 0 0 S I lv (.int v :: st) (pc + 3)) : zX p l e R s m args below meth c Q D B cA nL 0 0 S I lv (.int xa1 :: .ref (B + 24) :: st) pc :=
  have hf : 0 ≤ R.cells ∧ 0 ≤ R.slots := ⟨Nat.zero_le _, Nat.zero_le _⟩
  zc_VpI C (ci := 3) (q := (RX3, TX3, 10)) (k := 24) (fs := [some (some 25), some (some 27), some (some 29), some (some 31), some (some 33), some (some 35), some (some 37), some (some 39), some (some 41), none]) (As := [.int xa1]) (st := st) rfl (hS _ _ zs_24) (c_Nodes_childrenOf hS h) (zgV zk_ml_11_240 zk_im_yX3_childrenOf zk_se_yX3_childrenOf zk_in_3 zk_cd_yX3_childrenOf) zsg_yX3_childrenOf hR rfl rfl hw hd hf kk
theorem zg_11_243 {p : Program} {l : Launch} {e : Env} {R : Room} {s : State} {m : MethodId} {args : Array Value} {below : List Frame} {meth : Method} {c : Code} {Q : State → Prop} {D : va_G} {B : Nat} {cA : Nat → ClassId} {ad : Nat → Nat} {cc : ByteArray} {nL : Nat} {ret : Option FieldType} {S : List zC} {I : zI} {lv : List (Nat × Value)} {st : List Value} {pc : Nat} (C : zCx p s m args meth c cc nL RX11 ret D B cA ad) (hS : zOkX S) (hd : decode cc pc = .ok (.getfield 243, 3)) (kk : zX p l e R s m args below meth c Q D B cA nL 0 0 S I lv (.ref (B + 29) :: st) (pc + 3)) : zX p l e R s m args below meth c Q D B cA nL 0 0 S I lv (.ref (B + 24) :: st) pc :=
  zr_getr C (ci := 3) (Cn := RX3) (T := TX3) (N := 10) (k := 24) (j := 2) (fs := [some (some 25), some (some 27), some (some 29), some (some 31), some (some 33), some (some 35), some (some 37), some (some 39), some (some 41), none]) rfl zin_3 (Nat.le_of_ble_eq_true rfl) rfl (hS _ _ zs_24) rfl zk_fl_11_243 hd kk
theorem zg_11_248 {p : Program} {l : Launch} {e : Env} {R : Room} {s : State} {m : MethodId} {args : Array Value} {below : List Frame} {meth : Method} {c : Code} {Q : State → Prop} {D : va_G} {B : Nat} {cA : Nat → ClassId} {ad : Nat → Nat} {cc : ByteArray} {nL : Nat} {ret : Option FieldType} {S : List zC} {I : zI} {lv : List (Nat × Value)} {st : List Value} {pc : Nat} (C : zCx p s m args meth c cc nL RX11 ret D B cA ad) (hS : zOkX S) (hd : decode cc pc = .ok (.getfield 248, 3)) (kk : zX p l e R s m args below meth c Q D B cA nL 0 0 S I lv (.ref (B + 33) :: st) (pc + 3)) : zX p l e R s m args below meth c Q D B cA nL 0 0 S I lv (.ref (B + 24) :: st) pc :=
  zr_getr C (ci := 3) (Cn := RX3) (T := TX3) (N := 10) (k := 24) (j := 4) (fs := [some (some 25), some (some 27), some (some 29), some (some 31), some (some 33), some (some 35), some (some 37), some (some 39), some (some 41), none]) rfl zin_3 (Nat.le_of_ble_eq_true rfl) rfl (hS _ _ zs_24) rfl zk_fl_11_248 hd kk
theorem zv_11_251 {p : Program} {l : Launch} {e : Env} {R : Room} {s : State} {m : MethodId} {args : Array Value} {below : List Frame} {meth : Method} {c : Code} {Q : State → Prop} {D : va_G} {B : Nat} {cA : Nat → ClassId} {ad : Nat → Nat} {cc : ByteArray} {nL : Nat} {ret : Option FieldType} {S : List zC} {I : zI} {lv : List (Nat × Value)} {st : List Value} {pc : Nat} (C : zCx p s m args meth c cc nL RX11 ret D B cA ad) {K : Int32 → Prop} {xa1 : Int32} (hS : zOkX S)  (h : w_Desk_isEnd xa1 I K) (hR : 1 + 1 ≤ R.frames ∧ 8 + (2 + 11) + (21) ≤ R.locals) (hw : (st.map fun v => v.category).sum ≤ 8) (hd : decode cc pc = .ok (.invokevirtual 251, 3)) (kk : ∀ v, K v → zX p l e R s m args below meth c Q D B cA nL 0 0 S I lv (.int v :: st) (pc + 3)) : zX p l e R s m args below meth c Q D B cA nL 0 0 S I lv (.int xa1 :: .ref (B + 0) :: st) pc :=
  have hf : 0 ≤ R.cells ∧ 0 ≤ R.slots := ⟨Nat.zero_le _, Nat.zero_le _⟩
  zc_VpI C (ci := 11) (q := (RX11, TX11, 19)) (k := 0) (fs := [some (some 1), none, some (some 3), some (some 4), none, none, none, none, some (some 22), some (some 24), some (some 43), some (some 64), some (some 69), some (some 88), some (some 97), some (some 100), some (some 109), some (some 111), none]) (As := [.int xa1]) (st := st) rfl (hS _ _ zs_0) (c_Desk_isEnd hS h) (zgV zk_ml_11_251 zk_im_yX11_isEnd zk_se_yX11_isEnd zk_in_11 zk_cd_yX11_isEnd) zsg_yX11_isEnd hR rfl rfl hw hd hf kk
theorem zv_11_254 {p : Program} {l : Launch} {e : Env} {R : Room} {s : State} {m : MethodId} {args : Array Value} {below : List Frame} {meth : Method} {c : Code} {Q : State → Prop} {D : va_G} {B : Nat} {cA : Nat → ClassId} {ad : Nat → Nat} {cc : ByteArray} {nL : Nat} {ret : Option FieldType} {S : List zC} {I : zI} {lv : List (Nat × Value)} {st : List Value} {pc : Nat} (C : zCx p s m args meth c cc nL RX11 ret D B cA ad) {K : Int32 → Prop} {xa1 : Int32} (hS : zOkX S)  (h : w_TreeView_holds xa1 I K) (hR : 1 + 1 ≤ R.frames ∧ 8 + (3 + 11) + (21) ≤ R.locals) (hw : (st.map fun v => v.category).sum ≤ 8) (hd : decode cc pc = .ok (.invokevirtual 254, 3)) (kk : ∀ v, K v → zX p l e R s m args below meth c Q D B cA nL 0 0 S I lv (.int v :: st) (pc + 3)) : zX p l e R s m args below meth c Q D B cA nL 0 0 S I lv (.int xa1 :: .ref (B + 43) :: st) pc :=
  have hf : 0 ≤ R.cells ∧ 0 ≤ R.slots := ⟨Nat.zero_le _, Nat.zero_le _⟩
  zc_VpI C (ci := 9) (q := (RX9, TX9, 16)) (k := 43) (fs := [some (some 24), some (some 44), some (some 46), some (some 48), some (some 50), some (some 52), some (some 54), some (some 56), some (some 58), some (some 60), some (some 62), none, none, none, none, none]) (As := [.int xa1]) (st := st) rfl (hS _ _ zs_43) (c_TreeView_holds hS h) (zgV zk_ml_11_254 zk_im_yX9_holds zk_se_yX9_holds zk_in_9 zk_cd_yX9_holds) zsg_yX9_holds hR rfl rfl hw hd hf kk
theorem zv_11_257 {p : Program} {l : Launch} {e : Env} {R : Room} {s : State} {m : MethodId} {args : Array Value} {below : List Frame} {meth : Method} {c : Code} {Q : State → Prop} {D : va_G} {B : Nat} {cA : Nat → ClassId} {ad : Nat → Nat} {cc : ByteArray} {nL : Nat} {ret : Option FieldType} {S : List zC} {I : zI} {lv : List (Nat × Value)} {st : List Value} {pc : Nat} (C : zCx p s m args meth c cc nL RX11 ret D B cA ad) {K : Int32 → Prop} {xa1 : Int32} (hS : zOkX S)  (h : w_TreeView_parentOf xa1 I K) (hR : 2 + 1 ≤ R.frames ∧ 8 + (2 + 11) + (43) ≤ R.locals) (hw : (st.map fun v => v.category).sum ≤ 8) (hd : decode cc pc = .ok (.invokevirtual 257, 3)) (kk : ∀ v, K v → zX p l e R s m args below meth c Q D B cA nL 0 0 S I lv (.int v :: st) (pc + 3)) : zX p l e R s m args below meth c Q D B cA nL 0 0 S I lv (.int xa1 :: .ref (B + 43) :: st) pc :=
  have hf : 0 ≤ R.cells ∧ 0 ≤ R.slots := ⟨Nat.zero_le _, Nat.zero_le _⟩
  zc_VpI C (ci := 9) (q := (RX9, TX9, 16)) (k := 43) (fs := [some (some 24), some (some 44), some (some 46), some (some 48), some (some 50), some (some 52), some (some 54), some (some 56), some (some 58), some (some 60), some (some 62), none, none, none, none, none]) (As := [.int xa1]) (st := st) rfl (hS _ _ zs_43) (c_TreeView_parentOf hS h) (zgV zk_ml_11_257 zk_im_yX9_parentOf zk_se_yX9_parentOf zk_in_9 zk_cd_yX9_parentOf) zsg_yX9_parentOf hR rfl rfl hw hd hf kk
theorem zg_11_260 {p : Program} {l : Launch} {e : Env} {R : Room} {s : State} {m : MethodId} {args : Array Value} {below : List Frame} {meth : Method} {c : Code} {Q : State → Prop} {D : va_G} {B : Nat} {cA : Nat → ClassId} {ad : Nat → Nat} {cc : ByteArray} {nL : Nat} {ret : Option FieldType} {S : List zC} {I : zI} {lv : List (Nat × Value)} {st : List Value} {pc : Nat} (C : zCx p s m args meth c cc nL RX11 ret D B cA ad) {k : Nat} (hk : zIsMoment S k) (hd : decode cc pc = .ok (.getfield 260, 3)) (kk : zX p l e R s m args below meth c Q D B cA nL 0 0 S I lv (.int (I.1 k 6) :: st) (pc + 3)) : zX p l e R s m args below meth c Q D B cA nL 0 0 S I lv (.ref (B + k) :: st) pc :=
  zr_geti C (ci := 2) (Cn := RX2) (T := TX2) (N := 9) (k := k) (j := 6) (fs := [some (some (k + 1)), none, some (some (k + 3)), none, some (some (k + 14)), some (some (k + 16)), none, none, none]) rfl zin_2 (Nat.le_of_ble_eq_true rfl) rfl hk.1 rfl zk_fl_11_260 hd kk
def w_Desk_node (a1 : Int32) (a2 : Int32) (I : zI) (K : Int32 → Prop) : Prop :=
  w_Nodes_has a1 I (fun r_1 => (if r_1 = 0 then (K (-1000)) else (if a2 = 0 then (w_Row_get 25 3400 a1 I (fun r_3 => K r_3)) else (if a2 = 1 then (w_Row_get 27 3400 a1 I (fun r_5 => K r_5)) else (if a2 = 2 then (w_Nodes_childrenOf a1 I (fun r_7 => K r_7)) else (if a2 = 3 then (w_Row_get 29 3400 a1 I (fun r_9 => K r_9)) else (if a2 = 4 then (w_Row_get 31 3400 a1 I (fun r_11 => K r_11)) else (if a2 = 5 then (w_Row_get 33 3400 a1 I (fun r_13 => K r_13)) else (if a2 = 6 then (w_Desk_isEnd a1 I (fun r_15 => (if r_15 = 0 then (w_TreeView_holds a1 I (fun r_16 => (if r_16 = 0 then K 0 else K 1))) else K 1))) else (if a2 = 7 then (w_TreeView_parentOf a1 I (fun r_20 => K r_20)) else (if a2 = 8 then (w_Desk_isEnd a1 I (fun r_22 => (if r_22 = 0 then (w_TreeView_firstOf a1 I (fun r_23 => K r_23)) else (w_Desk_now I (fun r_24 => K ((I.1 r_24 6) - 1)))))) else (K (-1000)))))))))))))
theorem dyX11_node_0 : decode cX11_node 0 = .ok (.aload_n 0, 1) := by decide +kernel
theorem dyX11_node_1 : decode cX11_node 1 = .ok (.getfield 35, 3) := by decide +kernel
theorem dyX11_node_4 : decode cX11_node 4 = .ok (.iload_n 1, 1) := by decide +kernel
theorem dyX11_node_5 : decode cX11_node 5 = .ok (.invokevirtual 233, 3) := by decide +kernel
theorem dyX11_node_8 : decode cX11_node 8 = .ok (.ifCond .ne 7, 3) := by decide +kernel
theorem dyX11_node_11 : decode cX11_node 11 = .ok (.sipush (-1000), 3) := by decide +kernel
theorem dyX11_node_14 : decode cX11_node 14 = .ok (.ireturn, 1) := by decide +kernel
theorem dyX11_node_15 : decode cX11_node 15 = .ok (.iload_n 2, 1) := by decide +kernel
theorem dyX11_node_16 : decode cX11_node 16 = .ok (.tableswitch 184 0 8 #[52, 64, 76, 85, 97, 109, 121, 146, 155], 52) := by decide +kernel
theorem dyX11_node_68 : decode cX11_node 68 = .ok (.aload_n 0, 1) := by decide +kernel
theorem dyX11_node_69 : decode cX11_node 69 = .ok (.getfield 35, 3) := by decide +kernel
theorem dyX11_node_72 : decode cX11_node 72 = .ok (.getfield 234, 3) := by decide +kernel
theorem dyX11_node_75 : decode cX11_node 75 = .ok (.iload_n 1, 1) := by decide +kernel
theorem dyX11_node_76 : decode cX11_node 76 = .ok (.invokevirtual 166, 3) := by decide +kernel
theorem dyX11_node_79 : decode cX11_node 79 = .ok (.ireturn, 1) := by decide +kernel
theorem dyX11_node_80 : decode cX11_node 80 = .ok (.aload_n 0, 1) := by decide +kernel
theorem dyX11_node_81 : decode cX11_node 81 = .ok (.getfield 35, 3) := by decide +kernel
theorem dyX11_node_84 : decode cX11_node 84 = .ok (.getfield 237, 3) := by decide +kernel
theorem dyX11_node_87 : decode cX11_node 87 = .ok (.iload_n 1, 1) := by decide +kernel
theorem dyX11_node_88 : decode cX11_node 88 = .ok (.invokevirtual 166, 3) := by decide +kernel
theorem dyX11_node_91 : decode cX11_node 91 = .ok (.ireturn, 1) := by decide +kernel
theorem dyX11_node_92 : decode cX11_node 92 = .ok (.aload_n 0, 1) := by decide +kernel
theorem dyX11_node_93 : decode cX11_node 93 = .ok (.getfield 35, 3) := by decide +kernel
theorem dyX11_node_96 : decode cX11_node 96 = .ok (.iload_n 1, 1) := by decide +kernel
theorem dyX11_node_97 : decode cX11_node 97 = .ok (.invokevirtual 240, 3) := by decide +kernel
theorem dyX11_node_100 : decode cX11_node 100 = .ok (.ireturn, 1) := by decide +kernel
theorem dyX11_node_101 : decode cX11_node 101 = .ok (.aload_n 0, 1) := by decide +kernel
theorem dyX11_node_102 : decode cX11_node 102 = .ok (.getfield 35, 3) := by decide +kernel
theorem dyX11_node_105 : decode cX11_node 105 = .ok (.getfield 243, 3) := by decide +kernel
theorem dyX11_node_108 : decode cX11_node 108 = .ok (.iload_n 1, 1) := by decide +kernel
theorem dyX11_node_109 : decode cX11_node 109 = .ok (.invokevirtual 166, 3) := by decide +kernel
theorem dyX11_node_112 : decode cX11_node 112 = .ok (.ireturn, 1) := by decide +kernel
theorem dyX11_node_113 : decode cX11_node 113 = .ok (.aload_n 0, 1) := by decide +kernel
theorem dyX11_node_114 : decode cX11_node 114 = .ok (.getfield 35, 3) := by decide +kernel
theorem dyX11_node_117 : decode cX11_node 117 = .ok (.getfield 246, 3) := by decide +kernel
theorem dyX11_node_120 : decode cX11_node 120 = .ok (.iload_n 1, 1) := by decide +kernel
theorem dyX11_node_121 : decode cX11_node 121 = .ok (.invokevirtual 166, 3) := by decide +kernel
theorem dyX11_node_124 : decode cX11_node 124 = .ok (.ireturn, 1) := by decide +kernel
theorem dyX11_node_125 : decode cX11_node 125 = .ok (.aload_n 0, 1) := by decide +kernel
theorem dyX11_node_126 : decode cX11_node 126 = .ok (.getfield 35, 3) := by decide +kernel
theorem dyX11_node_129 : decode cX11_node 129 = .ok (.getfield 248, 3) := by decide +kernel
theorem dyX11_node_132 : decode cX11_node 132 = .ok (.iload_n 1, 1) := by decide +kernel
theorem dyX11_node_133 : decode cX11_node 133 = .ok (.invokevirtual 166, 3) := by decide +kernel
theorem dyX11_node_136 : decode cX11_node 136 = .ok (.ireturn, 1) := by decide +kernel
theorem dyX11_node_137 : decode cX11_node 137 = .ok (.aload_n 0, 1) := by decide +kernel
theorem dyX11_node_138 : decode cX11_node 138 = .ok (.iload_n 1, 1) := by decide +kernel
theorem dyX11_node_139 : decode cX11_node 139 = .ok (.invokevirtual 251, 3) := by decide +kernel
theorem dyX11_node_142 : decode cX11_node 142 = .ok (.ifCond .ne 14, 3) := by decide +kernel
theorem dyX11_node_145 : decode cX11_node 145 = .ok (.aload_n 0, 1) := by decide +kernel
theorem dyX11_node_146 : decode cX11_node 146 = .ok (.getfield 44, 3) := by decide +kernel
theorem dyX11_node_149 : decode cX11_node 149 = .ok (.iload_n 1, 1) := by decide +kernel
theorem dyX11_node_150 : decode cX11_node 150 = .ok (.invokevirtual 254, 3) := by decide +kernel
theorem dyX11_node_153 : decode cX11_node 153 = .ok (.ifCond .eq 7, 3) := by decide +kernel
theorem dyX11_node_156 : decode cX11_node 156 = .ok (.iconst 1, 1) := by decide +kernel
theorem dyX11_node_157 : decode cX11_node 157 = .ok (.goto 4, 3) := by decide +kernel
theorem dyX11_node_160 : decode cX11_node 160 = .ok (.iconst 0, 1) := by decide +kernel
theorem dyX11_node_161 : decode cX11_node 161 = .ok (.ireturn, 1) := by decide +kernel
theorem dyX11_node_162 : decode cX11_node 162 = .ok (.aload_n 0, 1) := by decide +kernel
theorem dyX11_node_163 : decode cX11_node 163 = .ok (.getfield 44, 3) := by decide +kernel
theorem dyX11_node_166 : decode cX11_node 166 = .ok (.iload_n 1, 1) := by decide +kernel
theorem dyX11_node_167 : decode cX11_node 167 = .ok (.invokevirtual 257, 3) := by decide +kernel
theorem dyX11_node_170 : decode cX11_node 170 = .ok (.ireturn, 1) := by decide +kernel
theorem dyX11_node_171 : decode cX11_node 171 = .ok (.aload_n 0, 1) := by decide +kernel
theorem dyX11_node_172 : decode cX11_node 172 = .ok (.iload_n 1, 1) := by decide +kernel
theorem dyX11_node_173 : decode cX11_node 173 = .ok (.invokevirtual 251, 3) := by decide +kernel
theorem dyX11_node_176 : decode cX11_node 176 = .ok (.ifCond .eq 15, 3) := by decide +kernel
theorem dyX11_node_179 : decode cX11_node 179 = .ok (.aload_n 0, 1) := by decide +kernel
theorem dyX11_node_180 : decode cX11_node 180 = .ok (.invokevirtual 126, 3) := by decide +kernel
theorem dyX11_node_183 : decode cX11_node 183 = .ok (.getfield 260, 3) := by decide +kernel
theorem dyX11_node_186 : decode cX11_node 186 = .ok (.iconst 1, 1) := by decide +kernel
theorem dyX11_node_187 : decode cX11_node 187 = .ok (.isub, 1) := by decide +kernel
theorem dyX11_node_188 : decode cX11_node 188 = .ok (.goto 11, 3) := by decide +kernel
theorem dyX11_node_191 : decode cX11_node 191 = .ok (.aload_n 0, 1) := by decide +kernel
theorem dyX11_node_192 : decode cX11_node 192 = .ok (.getfield 44, 3) := by decide +kernel
theorem dyX11_node_195 : decode cX11_node 195 = .ok (.iload_n 1, 1) := by decide +kernel
theorem dyX11_node_196 : decode cX11_node 196 = .ok (.invokevirtual 263, 3) := by decide +kernel
theorem dyX11_node_199 : decode cX11_node 199 = .ok (.ireturn, 1) := by decide +kernel
theorem dyX11_node_200 : decode cX11_node 200 = .ok (.sipush (-1000), 3) := by decide +kernel
theorem dyX11_node_203 : decode cX11_node 203 = .ok (.ireturn, 1) := by decide +kernel
theorem zsg_yX11_node : yX11_node.cls = RX11 ∧ yX11_node.cls ≠ "java/lang/invoke/MethodHandle" ∧ yX11_node.cls ≠ "java/lang/invoke/VarHandle" ∧ (parseMethodDescriptor yX11_node.desc).map (fun d => d.parameters.length) = some 2 := by decide +kernel
set_option maxRecDepth 20000 in
theorem c_Desk_node {l : Launch} {D : va_G} {B : Nat} {cA : Nat → ClassId} {ad : Nat → Nat} {S : List zC} (hS : zOkX S) {a1 : Int32} {a2 : Int32} {I : zI} {K : Int32 → Prop}  (h : w_Desk_node a1 a2 I K) : Met l yX11_node (zws yX11_node cX11_node 3 (some .int)) (zrm 3 64) (zPc D B cA ad [.ref (B + 0), .int a1, .int a2] S I) (zQc D B cA (zpI S I K)) 0 0 (fun q => B ≤ q) := by
  refine zm_of (cc := cX11_node) (maxL := 3) (ret := (some .int)) (by decide +kernel) rfl (Nat.le_of_ble_eq_true rfl) trivial ?_
  intro p e s m args below meth c C _
  unfold w_Desk_node at h
  show zX p l e (zrm 3 64) s m args below meth c (MQ below (zQc D B cA (zpI S I K)) args s 0 0 (fun q => B ≤ q)) D B cA 3 0 0 S I [(0, .ref (B + 0)), (1, .int a1), (2, .int a2)] [] 0
  refine zr_aload_n C dyX11_node_0 rfl 0 rfl ?_
  refine zg_11_35 C hS dyX11_node_1 ?_
  refine zr_iload_n C dyX11_node_4 rfl 1 rfl ?_
  refine zv_11_233 C hS (st := []) h ⟨Nat.le_of_ble_eq_true rfl, Nat.le_of_ble_eq_true rfl⟩ (Nat.le_of_ble_eq_true rfl) dyX11_node_5 (fun r_1 h => ?_)
  refine zr_if_ne C dyX11_node_8 (tgt := 15) (by decide) (fun hc_26 => ?_) (fun hc_26 => ?_)
  · replace h := zif_neg hc_26 h
    refine zr_iload_n C dyX11_node_15 rfl 2 rfl ?_
    by_cases hc_2 : a2 = 0
    · replace h := zif_pos hc_2 h
      refine zr_tableIn C dyX11_node_16 (by rw [hc_2]; decide) (by rw [hc_2]; decide) (off := 52) (by rw [hc_2]; decide) (tgt := 68) (by decide) ?_
      refine zr_aload_n C dyX11_node_68 rfl 0 rfl ?_
      refine zg_11_35 C hS dyX11_node_69 ?_
      refine zg_11_234 C hS dyX11_node_72 ?_
      refine zr_iload_n C dyX11_node_75 rfl 1 rfl ?_
      refine zv_11_166 C hS (zIsRow.of hS zir_25) (st := []) h ⟨Nat.le_of_ble_eq_true rfl, Nat.le_of_ble_eq_true rfl⟩ (Nat.le_of_ble_eq_true rfl) dyX11_node_76 (fun r_3 h => ?_)
      exact zr_iret C rfl dyX11_node_79 ⟨rfl, rfl, _, rfl, h⟩
    replace h := zif_neg hc_2 h
    by_cases hc_4 : a2 = 1
    · replace h := zif_pos hc_4 h
      refine zr_tableIn C dyX11_node_16 (by rw [hc_4]; decide) (by rw [hc_4]; decide) (off := 64) (by rw [hc_4]; decide) (tgt := 80) (by decide) ?_
      refine zr_aload_n C dyX11_node_80 rfl 0 rfl ?_
      refine zg_11_35 C hS dyX11_node_81 ?_
      refine zg_11_237 C hS dyX11_node_84 ?_
      refine zr_iload_n C dyX11_node_87 rfl 1 rfl ?_
      refine zv_11_166 C hS (zIsRow.of hS zir_27) (st := []) h ⟨Nat.le_of_ble_eq_true rfl, Nat.le_of_ble_eq_true rfl⟩ (Nat.le_of_ble_eq_true rfl) dyX11_node_88 (fun r_5 h => ?_)
      exact zr_iret C rfl dyX11_node_91 ⟨rfl, rfl, _, rfl, h⟩
    replace h := zif_neg hc_4 h
    by_cases hc_6 : a2 = 2
    · replace h := zif_pos hc_6 h
      refine zr_tableIn C dyX11_node_16 (by rw [hc_6]; decide) (by rw [hc_6]; decide) (off := 76) (by rw [hc_6]; decide) (tgt := 92) (by decide) ?_
      refine zr_aload_n C dyX11_node_92 rfl 0 rfl ?_
      refine zg_11_35 C hS dyX11_node_93 ?_
      refine zr_iload_n C dyX11_node_96 rfl 1 rfl ?_
      refine zv_11_240 C hS (st := []) h ⟨Nat.le_of_ble_eq_true rfl, Nat.le_of_ble_eq_true rfl⟩ (Nat.le_of_ble_eq_true rfl) dyX11_node_97 (fun r_7 h => ?_)
      exact zr_iret C rfl dyX11_node_100 ⟨rfl, rfl, _, rfl, h⟩
    replace h := zif_neg hc_6 h
    by_cases hc_8 : a2 = 3
    · replace h := zif_pos hc_8 h
      refine zr_tableIn C dyX11_node_16 (by rw [hc_8]; decide) (by rw [hc_8]; decide) (off := 85) (by rw [hc_8]; decide) (tgt := 101) (by decide) ?_
      refine zr_aload_n C dyX11_node_101 rfl 0 rfl ?_
      refine zg_11_35 C hS dyX11_node_102 ?_
      refine zg_11_243 C hS dyX11_node_105 ?_
      refine zr_iload_n C dyX11_node_108 rfl 1 rfl ?_
      refine zv_11_166 C hS (zIsRow.of hS zir_29) (st := []) h ⟨Nat.le_of_ble_eq_true rfl, Nat.le_of_ble_eq_true rfl⟩ (Nat.le_of_ble_eq_true rfl) dyX11_node_109 (fun r_9 h => ?_)
      exact zr_iret C rfl dyX11_node_112 ⟨rfl, rfl, _, rfl, h⟩
    replace h := zif_neg hc_8 h
    by_cases hc_10 : a2 = 4
    · replace h := zif_pos hc_10 h
      refine zr_tableIn C dyX11_node_16 (by rw [hc_10]; decide) (by rw [hc_10]; decide) (off := 97) (by rw [hc_10]; decide) (tgt := 113) (by decide) ?_
      refine zr_aload_n C dyX11_node_113 rfl 0 rfl ?_
      refine zg_11_35 C hS dyX11_node_114 ?_
      refine zg_11_246 C hS dyX11_node_117 ?_
      refine zr_iload_n C dyX11_node_120 rfl 1 rfl ?_
      refine zv_11_166 C hS (zIsRow.of hS zir_31) (st := []) h ⟨Nat.le_of_ble_eq_true rfl, Nat.le_of_ble_eq_true rfl⟩ (Nat.le_of_ble_eq_true rfl) dyX11_node_121 (fun r_11 h => ?_)
      exact zr_iret C rfl dyX11_node_124 ⟨rfl, rfl, _, rfl, h⟩
    replace h := zif_neg hc_10 h
    by_cases hc_12 : a2 = 5
    · replace h := zif_pos hc_12 h
      refine zr_tableIn C dyX11_node_16 (by rw [hc_12]; decide) (by rw [hc_12]; decide) (off := 109) (by rw [hc_12]; decide) (tgt := 125) (by decide) ?_
      refine zr_aload_n C dyX11_node_125 rfl 0 rfl ?_
      refine zg_11_35 C hS dyX11_node_126 ?_
      refine zg_11_248 C hS dyX11_node_129 ?_
      refine zr_iload_n C dyX11_node_132 rfl 1 rfl ?_
      refine zv_11_166 C hS (zIsRow.of hS zir_33) (st := []) h ⟨Nat.le_of_ble_eq_true rfl, Nat.le_of_ble_eq_true rfl⟩ (Nat.le_of_ble_eq_true rfl) dyX11_node_133 (fun r_13 h => ?_)
      exact zr_iret C rfl dyX11_node_136 ⟨rfl, rfl, _, rfl, h⟩
    replace h := zif_neg hc_12 h
    by_cases hc_14 : a2 = 6
    · replace h := zif_pos hc_14 h
      refine zr_tableIn C dyX11_node_16 (by rw [hc_14]; decide) (by rw [hc_14]; decide) (off := 121) (by rw [hc_14]; decide) (tgt := 137) (by decide) ?_
      refine zr_aload_n C dyX11_node_137 rfl 0 rfl ?_
      refine zr_iload_n C dyX11_node_138 rfl 1 rfl ?_
      refine zv_11_251 C hS (st := []) h ⟨Nat.le_of_ble_eq_true rfl, Nat.le_of_ble_eq_true rfl⟩ (Nat.le_of_ble_eq_true rfl) dyX11_node_139 (fun r_15 h => ?_)
      refine zr_if_ne C dyX11_node_142 (tgt := 156) (by decide) (fun hc_18 => ?_) (fun hc_18 => ?_)
      · replace h := zif_neg hc_18 h
        refine zr_iconst C dyX11_node_156 zc_i_1 ?_
        refine zr_goto C dyX11_node_157 (tgt := 161) (by decide) ?_
        exact zr_iret C rfl dyX11_node_161 ⟨rfl, rfl, _, rfl, h⟩
      · replace h := zif_pos hc_18 h
        refine zr_aload_n C dyX11_node_145 rfl 0 rfl ?_
        refine zg_11_44 C hS dyX11_node_146 ?_
        refine zr_iload_n C dyX11_node_149 rfl 1 rfl ?_
        refine zv_11_254 C hS (st := []) h ⟨Nat.le_of_ble_eq_true rfl, Nat.le_of_ble_eq_true rfl⟩ (Nat.le_of_ble_eq_true rfl) dyX11_node_150 (fun r_16 h => ?_)
        refine zr_if_eq C dyX11_node_153 (tgt := 160) (by decide) (fun hc_17 => ?_) (fun hc_17 => ?_)
        · replace h := zif_pos hc_17 h
          refine zr_iconst C dyX11_node_160 zc_i_0 ?_
          exact zr_iret C rfl dyX11_node_161 ⟨rfl, rfl, _, rfl, h⟩
        · replace h := zif_neg hc_17 h
          refine zr_iconst C dyX11_node_156 zc_i_1 ?_
          refine zr_goto C dyX11_node_157 (tgt := 161) (by decide) ?_
          exact zr_iret C rfl dyX11_node_161 ⟨rfl, rfl, _, rfl, h⟩
    replace h := zif_neg hc_14 h
    by_cases hc_19 : a2 = 7
    · replace h := zif_pos hc_19 h
      refine zr_tableIn C dyX11_node_16 (by rw [hc_19]; decide) (by rw [hc_19]; decide) (off := 146) (by rw [hc_19]; decide) (tgt := 162) (by decide) ?_
      refine zr_aload_n C dyX11_node_162 rfl 0 rfl ?_
      refine zg_11_44 C hS dyX11_node_163 ?_
      refine zr_iload_n C dyX11_node_166 rfl 1 rfl ?_
      refine zv_11_257 C hS (st := []) h ⟨Nat.le_of_ble_eq_true rfl, Nat.le_of_ble_eq_true rfl⟩ (Nat.le_of_ble_eq_true rfl) dyX11_node_167 (fun r_20 h => ?_)
      exact zr_iret C rfl dyX11_node_170 ⟨rfl, rfl, _, rfl, h⟩
    replace h := zif_neg hc_19 h
    by_cases hc_21 : a2 = 8
    · replace h := zif_pos hc_21 h
      refine zr_tableIn C dyX11_node_16 (by rw [hc_21]; decide) (by rw [hc_21]; decide) (off := 155) (by rw [hc_21]; decide) (tgt := 171) (by decide) ?_
      refine zr_aload_n C dyX11_node_171 rfl 0 rfl ?_
      refine zr_iload_n C dyX11_node_172 rfl 1 rfl ?_
      refine zv_11_251 C hS (st := []) h ⟨Nat.le_of_ble_eq_true rfl, Nat.le_of_ble_eq_true rfl⟩ (Nat.le_of_ble_eq_true rfl) dyX11_node_173 (fun r_22 h => ?_)
      refine zr_if_eq C dyX11_node_176 (tgt := 191) (by decide) (fun hc_25 => ?_) (fun hc_25 => ?_)
      · replace h := zif_pos hc_25 h
        refine zr_aload_n C dyX11_node_191 rfl 0 rfl ?_
        refine zg_11_44 C hS dyX11_node_192 ?_
        refine zr_iload_n C dyX11_node_195 rfl 1 rfl ?_
        refine zv_11_263 C hS (st := []) h ⟨Nat.le_of_ble_eq_true rfl, Nat.le_of_ble_eq_true rfl⟩ (Nat.le_of_ble_eq_true rfl) dyX11_node_196 (fun r_23 h => ?_)
        exact zr_iret C rfl dyX11_node_199 ⟨rfl, rfl, _, rfl, h⟩
      · replace h := zif_neg hc_25 h
        refine zr_aload_n C dyX11_node_179 rfl 0 rfl ?_
        refine zv_11_126 C hS (st := []) h ⟨Nat.le_of_ble_eq_true rfl, Nat.le_of_ble_eq_true rfl⟩ (Nat.le_of_ble_eq_true rfl) dyX11_node_180 (fun r_24 hr_24 h => ?_)
        refine zg_11_260 C hr_24 dyX11_node_183 ?_
        refine zr_iconst C dyX11_node_186 zc_i_1 ?_
        refine zr_isub C dyX11_node_187 ?_
        refine zr_goto C dyX11_node_188 (tgt := 199) (by decide) ?_
        exact zr_iret C rfl dyX11_node_199 ⟨rfl, rfl, _, rfl, h⟩
    replace h := zif_neg hc_21 h
    refine zr_tableOut C dyX11_node_16 (ztab_out (fun i h1 h2 => ?_)) (tgt := 200) (by decide) ?_
    · rcases (by omega : i = 0 ∨ i = 1 ∨ i = 2 ∨ i = 3 ∨ i = 4 ∨ i = 5 ∨ i = 6 ∨ i = 7 ∨ i = 8) with rfl | rfl | rfl | rfl | rfl | rfl | rfl | rfl | rfl
      · exact hc_2
      · exact hc_4
      · exact hc_6
      · exact hc_8
      · exact hc_10
      · exact hc_12
      · exact hc_14
      · exact hc_19
      · exact hc_21
    refine zr_sipush C dyX11_node_200 zc_s_m1000 ?_
    exact zr_iret C rfl dyX11_node_203 ⟨rfl, rfl, _, rfl, h⟩
  · replace h := zif_pos hc_26 h
    refine zr_sipush C dyX11_node_11 zc_s_m1000 ?_
    exact zr_iret C rfl dyX11_node_14 ⟨rfl, rfl, _, rfl, h⟩
theorem zv_11_266 {p : Program} {l : Launch} {e : Env} {R : Room} {s : State} {m : MethodId} {args : Array Value} {below : List Frame} {meth : Method} {c : Code} {Q : State → Prop} {D : va_G} {B : Nat} {cA : Nat → ClassId} {ad : Nat → Nat} {cc : ByteArray} {nL : Nat} {ret : Option FieldType} {S : List zC} {I : zI} {lv : List (Nat × Value)} {st : List Value} {pc : Nat} (C : zCx p s m args meth c cc nL RX11 ret D B cA ad) {K : Int32 → Prop} {xa1 : Int32} {xa2 : Int32} (hS : zOkX S)  (h : w_Nodes_childOf xa1 xa2 I K) (hR : 1 + 1 ≤ R.frames ∧ 8 + (3 + 11) + (21) ≤ R.locals) (hw : (st.map fun v => v.category).sum ≤ 8) (hd : decode cc pc = .ok (.invokevirtual 266, 3)) (kk : ∀ v, K v → zX p l e R s m args below meth c Q D B cA nL 0 0 S I lv (.int v :: st) (pc + 3)) : zX p l e R s m args below meth c Q D B cA nL 0 0 S I lv (.int xa2 :: .int xa1 :: .ref (B + 24) :: st) pc :=
  have hf : 0 ≤ R.cells ∧ 0 ≤ R.slots := ⟨Nat.zero_le _, Nat.zero_le _⟩
  zc_VpI C (ci := 3) (q := (RX3, TX3, 10)) (k := 24) (fs := [some (some 25), some (some 27), some (some 29), some (some 31), some (some 33), some (some 35), some (some 37), some (some 39), some (some 41), none]) (As := [.int xa1, .int xa2]) (st := st) rfl (hS _ _ zs_24) (c_Nodes_childOf hS h) (zgV zk_ml_11_266 zk_im_yX3_childOf zk_se_yX3_childOf zk_in_3 zk_cd_yX3_childOf) zsg_yX3_childOf hR rfl rfl hw hd hf kk
def w_Desk_child (a1 : Int32) (a2 : Int32) (I : zI) (K : Int32 → Prop) : Prop :=
  w_Nodes_has a1 I (fun r_1 => (if r_1 = 0 then (K (-1)) else (if a2 < 0 then (K (-1)) else (w_Nodes_childrenOf a1 I (fun r_2 => (if a2 < r_2 then (w_Nodes_childOf a1 a2 I (fun r_3 => K r_3)) else (K (-1))))))))
theorem dyX11_child_0 : decode cX11_child 0 = .ok (.aload_n 0, 1) := by decide +kernel
theorem dyX11_child_1 : decode cX11_child 1 = .ok (.getfield 35, 3) := by decide +kernel
theorem dyX11_child_4 : decode cX11_child 4 = .ok (.iload_n 1, 1) := by decide +kernel
theorem dyX11_child_5 : decode cX11_child 5 = .ok (.invokevirtual 233, 3) := by decide +kernel
theorem dyX11_child_8 : decode cX11_child 8 = .ok (.ifCond .eq 19, 3) := by decide +kernel
theorem dyX11_child_11 : decode cX11_child 11 = .ok (.iload_n 2, 1) := by decide +kernel
theorem dyX11_child_12 : decode cX11_child 12 = .ok (.ifCond .lt 15, 3) := by decide +kernel
theorem dyX11_child_15 : decode cX11_child 15 = .ok (.iload_n 2, 1) := by decide +kernel
theorem dyX11_child_16 : decode cX11_child 16 = .ok (.aload_n 0, 1) := by decide +kernel
theorem dyX11_child_17 : decode cX11_child 17 = .ok (.getfield 35, 3) := by decide +kernel
theorem dyX11_child_20 : decode cX11_child 20 = .ok (.iload_n 1, 1) := by decide +kernel
theorem dyX11_child_21 : decode cX11_child 21 = .ok (.invokevirtual 240, 3) := by decide +kernel
theorem dyX11_child_24 : decode cX11_child 24 = .ok (.if_icmp .lt 5, 3) := by decide +kernel
theorem dyX11_child_27 : decode cX11_child 27 = .ok (.iconst (-1), 1) := by decide +kernel
theorem dyX11_child_28 : decode cX11_child 28 = .ok (.ireturn, 1) := by decide +kernel
theorem dyX11_child_29 : decode cX11_child 29 = .ok (.aload_n 0, 1) := by decide +kernel
theorem dyX11_child_30 : decode cX11_child 30 = .ok (.getfield 35, 3) := by decide +kernel
theorem dyX11_child_33 : decode cX11_child 33 = .ok (.iload_n 1, 1) := by decide +kernel
theorem dyX11_child_34 : decode cX11_child 34 = .ok (.iload_n 2, 1) := by decide +kernel
theorem dyX11_child_35 : decode cX11_child 35 = .ok (.invokevirtual 266, 3) := by decide +kernel
theorem dyX11_child_38 : decode cX11_child 38 = .ok (.ireturn, 1) := by decide +kernel
theorem zsg_yX11_child : yX11_child.cls = RX11 ∧ yX11_child.cls ≠ "java/lang/invoke/MethodHandle" ∧ yX11_child.cls ≠ "java/lang/invoke/VarHandle" ∧ (parseMethodDescriptor yX11_child.desc).map (fun d => d.parameters.length) = some 2 := by decide +kernel
set_option maxRecDepth 20000 in
theorem c_Desk_child {l : Launch} {D : va_G} {B : Nat} {cA : Nat → ClassId} {ad : Nat → Nat} {S : List zC} (hS : zOkX S) {a1 : Int32} {a2 : Int32} {I : zI} {K : Int32 → Prop}  (h : w_Desk_child a1 a2 I K) : Met l yX11_child (zws yX11_child cX11_child 3 (some .int)) (zrm 2 43) (zPc D B cA ad [.ref (B + 0), .int a1, .int a2] S I) (zQc D B cA (zpI S I K)) 0 0 (fun q => B ≤ q) := by
  refine zm_of (cc := cX11_child) (maxL := 3) (ret := (some .int)) (by decide +kernel) rfl (Nat.le_of_ble_eq_true rfl) trivial ?_
  intro p e s m args below meth c C _
  unfold w_Desk_child at h
  show zX p l e (zrm 2 43) s m args below meth c (MQ below (zQc D B cA (zpI S I K)) args s 0 0 (fun q => B ≤ q)) D B cA 3 0 0 S I [(0, .ref (B + 0)), (1, .int a1), (2, .int a2)] [] 0
  refine zr_aload_n C dyX11_child_0 rfl 0 rfl ?_
  refine zg_11_35 C hS dyX11_child_1 ?_
  refine zr_iload_n C dyX11_child_4 rfl 1 rfl ?_
  refine zv_11_233 C hS (st := []) h ⟨Nat.le_of_ble_eq_true rfl, Nat.le_of_ble_eq_true rfl⟩ (Nat.le_of_ble_eq_true rfl) dyX11_child_5 (fun r_1 h => ?_)
  refine zr_if_eq C dyX11_child_8 (tgt := 27) (by decide) (fun hc_6 => ?_) (fun hc_6 => ?_)
  · replace h := zif_pos hc_6 h
    refine zr_iconst C dyX11_child_27 zc_i_m1 ?_
    exact zr_iret C rfl dyX11_child_28 ⟨rfl, rfl, _, rfl, h⟩
  · replace h := zif_neg hc_6 h
    refine zr_iload_n C dyX11_child_11 rfl 2 rfl ?_
    refine zr_if_lt C dyX11_child_12 (tgt := 27) (by decide) (fun hc_5 => ?_) (fun hc_5 => ?_)
    · replace h := zif_pos hc_5 h
      refine zr_iconst C dyX11_child_27 zc_i_m1 ?_
      exact zr_iret C rfl dyX11_child_28 ⟨rfl, rfl, _, rfl, h⟩
    · replace h := zif_neg hc_5 h
      refine zr_iload_n C dyX11_child_15 rfl 2 rfl ?_
      refine zr_aload_n C dyX11_child_16 rfl 0 rfl ?_
      refine zg_11_35 C hS dyX11_child_17 ?_
      refine zr_iload_n C dyX11_child_20 rfl 1 rfl ?_
      refine zv_11_240 C hS (st := [.int a2]) h ⟨Nat.le_of_ble_eq_true rfl, Nat.le_of_ble_eq_true rfl⟩ (Nat.le_of_ble_eq_true rfl) dyX11_child_21 (fun r_2 h => ?_)
      refine zr_icmp_lt C dyX11_child_24 (tgt := 29) (by decide) (fun hc_4 => ?_) (fun hc_4 => ?_)
      · replace h := zif_pos hc_4 h
        refine zr_aload_n C dyX11_child_29 rfl 0 rfl ?_
        refine zg_11_35 C hS dyX11_child_30 ?_
        refine zr_iload_n C dyX11_child_33 rfl 1 rfl ?_
        refine zr_iload_n C dyX11_child_34 rfl 2 rfl ?_
        refine zv_11_266 C hS (st := []) h ⟨Nat.le_of_ble_eq_true rfl, Nat.le_of_ble_eq_true rfl⟩ (Nat.le_of_ble_eq_true rfl) dyX11_child_35 (fun r_3 h => ?_)
        exact zr_iret C rfl dyX11_child_38 ⟨rfl, rfl, _, rfl, h⟩
      · replace h := zif_neg hc_4 h
        refine zr_iconst C dyX11_child_27 zc_i_m1 ?_
        exact zr_iret C rfl dyX11_child_28 ⟨rfl, rfl, _, rfl, h⟩
theorem zv_11_270 {p : Program} {l : Launch} {e : Env} {R : Room} {s : State} {m : MethodId} {args : Array Value} {below : List Frame} {meth : Method} {c : Code} {Q : State → Prop} {D : va_G} {B : Nat} {cA : Nat → ClassId} {ad : Nat → Nat} {cc : ByteArray} {nL : Nat} {ret : Option FieldType} {S : List zC} {I : zI} {lv : List (Nat × Value)} {st : List Value} {pc : Nat} (C : zCx p s m args meth c cc nL RX11 ret D B cA ad) {K : Int32 → Prop} {xa1 : Int32} {xa2 : Int32} (hS : zOkX S)  (h : w_TreeView_sibling xa1 xa2 I K) (hR : 3 + 1 ≤ R.frames ∧ 8 + (7 + 11) + (64) ≤ R.locals) (hw : (st.map fun v => v.category).sum ≤ 8) (hd : decode cc pc = .ok (.invokevirtual 270, 3)) (kk : ∀ v, K v → zX p l e R s m args below meth c Q D B cA nL 0 0 S I lv (.int v :: st) (pc + 3)) : zX p l e R s m args below meth c Q D B cA nL 0 0 S I lv (.int xa2 :: .int xa1 :: .ref (B + 43) :: st) pc :=
  have hf : 0 ≤ R.cells ∧ 0 ≤ R.slots := ⟨Nat.zero_le _, Nat.zero_le _⟩
  zc_VpI C (ci := 9) (q := (RX9, TX9, 16)) (k := 43) (fs := [some (some 24), some (some 44), some (some 46), some (some 48), some (some 50), some (some 52), some (some 54), some (some 56), some (some 58), some (some 60), some (some 62), none, none, none, none, none]) (As := [.int xa1, .int xa2]) (st := st) rfl (hS _ _ zs_43) (c_TreeView_sibling hS h) (zgV zk_ml_11_270 zk_im_yX9_sibling zk_se_yX9_sibling zk_in_9 zk_cd_yX9_sibling) zsg_yX9_sibling hR rfl rfl hw hd hf kk
def w_Desk_beside (a1 : Int32) (I : zI) (K : Int32 → Prop) : Prop :=
  w_TreeView_sibling a1 1 I (fun r_1 => K r_1)
theorem dyX11_beside_0 : decode cX11_beside 0 = .ok (.aload_n 0, 1) := by decide +kernel
theorem dyX11_beside_1 : decode cX11_beside 1 = .ok (.getfield 44, 3) := by decide +kernel
theorem dyX11_beside_4 : decode cX11_beside 4 = .ok (.iload_n 1, 1) := by decide +kernel
theorem dyX11_beside_5 : decode cX11_beside 5 = .ok (.iconst 1, 1) := by decide +kernel
theorem dyX11_beside_6 : decode cX11_beside 6 = .ok (.invokevirtual 270, 3) := by decide +kernel
theorem dyX11_beside_9 : decode cX11_beside 9 = .ok (.ireturn, 1) := by decide +kernel
theorem zsg_yX11_beside : yX11_beside.cls = RX11 ∧ yX11_beside.cls ≠ "java/lang/invoke/MethodHandle" ∧ yX11_beside.cls ≠ "java/lang/invoke/VarHandle" ∧ (parseMethodDescriptor yX11_beside.desc).map (fun d => d.parameters.length) = some 1 := by decide +kernel
set_option maxRecDepth 20000 in
theorem c_Desk_beside {l : Launch} {D : va_G} {B : Nat} {cA : Nat → ClassId} {ad : Nat → Nat} {S : List zC} (hS : zOkX S) {a1 : Int32} {I : zI} {K : Int32 → Prop}  (h : w_Desk_beside a1 I K) : Met l yX11_beside (zws yX11_beside cX11_beside 2 (some .int)) (zrm 4 90) (zPc D B cA ad [.ref (B + 0), .int a1] S I) (zQc D B cA (zpI S I K)) 0 0 (fun q => B ≤ q) := by
  refine zm_of (cc := cX11_beside) (maxL := 2) (ret := (some .int)) (by decide +kernel) rfl (Nat.le_of_ble_eq_true rfl) trivial ?_
  intro p e s m args below meth c C _
  unfold w_Desk_beside at h
  show zX p l e (zrm 4 90) s m args below meth c (MQ below (zQc D B cA (zpI S I K)) args s 0 0 (fun q => B ≤ q)) D B cA 2 0 0 S I [(0, .ref (B + 0)), (1, .int a1)] [] 0
  refine zr_aload_n C dyX11_beside_0 rfl 0 rfl ?_
  refine zg_11_44 C hS dyX11_beside_1 ?_
  refine zr_iload_n C dyX11_beside_4 rfl 1 rfl ?_
  refine zr_iconst C dyX11_beside_5 zc_i_1 ?_
  refine zv_11_270 C hS (st := []) h ⟨Nat.le_of_ble_eq_true rfl, Nat.le_of_ble_eq_true rfl⟩ (Nat.le_of_ble_eq_true rfl) dyX11_beside_6 (fun r_1 h => ?_)
  exact zr_iret C rfl dyX11_beside_9 ⟨rfl, rfl, _, rfl, h⟩
def w_Desk_before (a1 : Int32) (I : zI) (K : Int32 → Prop) : Prop :=
  w_TreeView_sibling a1 (-1) I (fun r_1 => K r_1)
theorem dyX11_before_0 : decode cX11_before 0 = .ok (.aload_n 0, 1) := by decide +kernel
theorem dyX11_before_1 : decode cX11_before 1 = .ok (.getfield 44, 3) := by decide +kernel
theorem dyX11_before_4 : decode cX11_before 4 = .ok (.iload_n 1, 1) := by decide +kernel
theorem dyX11_before_5 : decode cX11_before 5 = .ok (.iconst (-1), 1) := by decide +kernel
theorem dyX11_before_6 : decode cX11_before 6 = .ok (.invokevirtual 270, 3) := by decide +kernel
theorem dyX11_before_9 : decode cX11_before 9 = .ok (.ireturn, 1) := by decide +kernel
theorem zsg_yX11_before : yX11_before.cls = RX11 ∧ yX11_before.cls ≠ "java/lang/invoke/MethodHandle" ∧ yX11_before.cls ≠ "java/lang/invoke/VarHandle" ∧ (parseMethodDescriptor yX11_before.desc).map (fun d => d.parameters.length) = some 1 := by decide +kernel
set_option maxRecDepth 20000 in
theorem c_Desk_before {l : Launch} {D : va_G} {B : Nat} {cA : Nat → ClassId} {ad : Nat → Nat} {S : List zC} (hS : zOkX S) {a1 : Int32} {I : zI} {K : Int32 → Prop}  (h : w_Desk_before a1 I K) : Met l yX11_before (zws yX11_before cX11_before 2 (some .int)) (zrm 4 90) (zPc D B cA ad [.ref (B + 0), .int a1] S I) (zQc D B cA (zpI S I K)) 0 0 (fun q => B ≤ q) := by
  refine zm_of (cc := cX11_before) (maxL := 2) (ret := (some .int)) (by decide +kernel) rfl (Nat.le_of_ble_eq_true rfl) trivial ?_
  intro p e s m args below meth c C _
  unfold w_Desk_before at h
  show zX p l e (zrm 4 90) s m args below meth c (MQ below (zQc D B cA (zpI S I K)) args s 0 0 (fun q => B ≤ q)) D B cA 2 0 0 S I [(0, .ref (B + 0)), (1, .int a1)] [] 0
  refine zr_aload_n C dyX11_before_0 rfl 0 rfl ?_
  refine zg_11_44 C hS dyX11_before_1 ?_
  refine zr_iload_n C dyX11_before_4 rfl 1 rfl ?_
  refine zr_iconst C dyX11_before_5 zc_i_m1 ?_
  refine zv_11_270 C hS (st := []) h ⟨Nat.le_of_ble_eq_true rfl, Nat.le_of_ble_eq_true rfl⟩ (Nat.le_of_ble_eq_true rfl) dyX11_before_6 (fun r_1 h => ?_)
  exact zr_iret C rfl dyX11_before_9 ⟨rfl, rfl, _, rfl, h⟩
def w_Desk_span (a1 : Int32) (a2 : Int32) (I : zI) (K : Int32 → Prop) : Prop :=
  ∀ (P9 : Prop), ((w_TreeView_holds a1 I (fun r_1 => (if r_1 = 0 then (K (-1)) else (w_TreeView_firstOf a1 I (fun r_2 => (if 0 ≤ r_2 then (if a2 = 0 then (w_Desk_startOf a1 I (fun r_5 => K r_5)) else (w_Desk_endOf a1 I (fun r_3 => w_Desk_startOf a1 I (fun r_4 => K (r_3 - r_4))))) else (K (-1)))))))) → P9) → (if a2 = 0 then P9 else (if a2 = 1 then P9 else (K (-1))))
theorem dyX11_span_0 : decode cX11_span 0 = .ok (.iload_n 2, 1) := by decide +kernel
theorem dyX11_span_1 : decode cX11_span 1 = .ok (.ifCond .eq 8, 3) := by decide +kernel
theorem dyX11_span_4 : decode cX11_span 4 = .ok (.iload_n 2, 1) := by decide +kernel
theorem dyX11_span_5 : decode cX11_span 5 = .ok (.iconst 1, 1) := by decide +kernel
theorem dyX11_span_6 : decode cX11_span 6 = .ok (.if_icmp .ne 25, 3) := by decide +kernel
theorem dyX11_span_9 : decode cX11_span 9 = .ok (.aload_n 0, 1) := by decide +kernel
theorem dyX11_span_10 : decode cX11_span 10 = .ok (.getfield 44, 3) := by decide +kernel
theorem dyX11_span_13 : decode cX11_span 13 = .ok (.iload_n 1, 1) := by decide +kernel
theorem dyX11_span_14 : decode cX11_span 14 = .ok (.invokevirtual 254, 3) := by decide +kernel
theorem dyX11_span_17 : decode cX11_span 17 = .ok (.ifCond .eq 14, 3) := by decide +kernel
theorem dyX11_span_20 : decode cX11_span 20 = .ok (.aload_n 0, 1) := by decide +kernel
theorem dyX11_span_21 : decode cX11_span 21 = .ok (.getfield 44, 3) := by decide +kernel
theorem dyX11_span_24 : decode cX11_span 24 = .ok (.iload_n 1, 1) := by decide +kernel
theorem dyX11_span_25 : decode cX11_span 25 = .ok (.invokevirtual 263, 3) := by decide +kernel
theorem dyX11_span_28 : decode cX11_span 28 = .ok (.ifCond .ge 5, 3) := by decide +kernel
theorem dyX11_span_31 : decode cX11_span 31 = .ok (.iconst (-1), 1) := by decide +kernel
theorem dyX11_span_32 : decode cX11_span 32 = .ok (.ireturn, 1) := by decide +kernel
theorem dyX11_span_33 : decode cX11_span 33 = .ok (.iload_n 2, 1) := by decide +kernel
theorem dyX11_span_34 : decode cX11_span 34 = .ok (.ifCond .ne 11, 3) := by decide +kernel
theorem dyX11_span_37 : decode cX11_span 37 = .ok (.aload_n 0, 1) := by decide +kernel
theorem dyX11_span_38 : decode cX11_span 38 = .ok (.iload_n 1, 1) := by decide +kernel
theorem dyX11_span_39 : decode cX11_span 39 = .ok (.invokevirtual 273, 3) := by decide +kernel
theorem dyX11_span_42 : decode cX11_span 42 = .ok (.goto 14, 3) := by decide +kernel
theorem dyX11_span_45 : decode cX11_span 45 = .ok (.aload_n 0, 1) := by decide +kernel
theorem dyX11_span_46 : decode cX11_span 46 = .ok (.iload_n 1, 1) := by decide +kernel
theorem dyX11_span_47 : decode cX11_span 47 = .ok (.invokevirtual 276, 3) := by decide +kernel
theorem dyX11_span_50 : decode cX11_span 50 = .ok (.aload_n 0, 1) := by decide +kernel
theorem dyX11_span_51 : decode cX11_span 51 = .ok (.iload_n 1, 1) := by decide +kernel
theorem dyX11_span_52 : decode cX11_span 52 = .ok (.invokevirtual 273, 3) := by decide +kernel
theorem dyX11_span_55 : decode cX11_span 55 = .ok (.isub, 1) := by decide +kernel
theorem dyX11_span_56 : decode cX11_span 56 = .ok (.ireturn, 1) := by decide +kernel
theorem zsg_yX11_span : yX11_span.cls = RX11 ∧ yX11_span.cls ≠ "java/lang/invoke/MethodHandle" ∧ yX11_span.cls ≠ "java/lang/invoke/VarHandle" ∧ (parseMethodDescriptor yX11_span.desc).map (fun d => d.parameters.length) = some 2 := by decide +kernel
set_option maxRecDepth 20000 in
theorem c_Desk_span {l : Launch} {D : va_G} {B : Nat} {cA : Nat → ClassId} {ad : Nat → Nat} {S : List zC} (hS : zOkX S) {a1 : Int32} {a2 : Int32} {I : zI} {K : Int32 → Prop}  (h : w_Desk_span a1 a2 I K) : Met l yX11_span (zws yX11_span cX11_span 3 (some .int)) (zrm 4 87) (zPc D B cA ad [.ref (B + 0), .int a1, .int a2] S I) (zQc D B cA (zpI S I K)) 0 0 (fun q => B ≤ q) := by
  refine zm_of (cc := cX11_span) (maxL := 3) (ret := (some .int)) (by decide +kernel) rfl (Nat.le_of_ble_eq_true rfl) trivial ?_
  intro p e s m args below meth c C _
  unfold w_Desk_span at h
  show zX p l e (zrm 4 87) s m args below meth c (MQ below (zQc D B cA (zpI S I K)) args s 0 0 (fun q => B ≤ q)) D B cA 3 0 0 S I [(0, .ref (B + 0)), (1, .int a1), (2, .int a2)] [] 0
  refine zr_iload_n C dyX11_span_0 rfl 2 rfl ?_
  refine zjn (h (zX p l e (zrm 4 87) s m args below meth c (MQ below (zQc D B cA (zpI S I K)) args s 0 0 (fun q => B ≤ q)) D B cA 3 0 0 S I [(0, .ref (B + 0)), (1, .int a1), (2, .int a2)] [] 9) (fun  h => ?_)) (fun h => ?_)
  · refine zr_aload_n C dyX11_span_9 rfl 0 rfl ?_
    refine zg_11_44 C hS dyX11_span_10 ?_
    refine zr_iload_n C dyX11_span_13 rfl 1 rfl ?_
    refine zv_11_254 C hS (st := []) h ⟨Nat.le_of_ble_eq_true rfl, Nat.le_of_ble_eq_true rfl⟩ (Nat.le_of_ble_eq_true rfl) dyX11_span_14 (fun r_1 h => ?_)
    refine zr_if_eq C dyX11_span_17 (tgt := 31) (by decide) (fun hc_8 => ?_) (fun hc_8 => ?_)
    · replace h := zif_pos hc_8 h
      refine zr_iconst C dyX11_span_31 zc_i_m1 ?_
      exact zr_iret C rfl dyX11_span_32 ⟨rfl, rfl, _, rfl, h⟩
    · replace h := zif_neg hc_8 h
      refine zr_aload_n C dyX11_span_20 rfl 0 rfl ?_
      refine zg_11_44 C hS dyX11_span_21 ?_
      refine zr_iload_n C dyX11_span_24 rfl 1 rfl ?_
      refine zv_11_263 C hS (st := []) h ⟨Nat.le_of_ble_eq_true rfl, Nat.le_of_ble_eq_true rfl⟩ (Nat.le_of_ble_eq_true rfl) dyX11_span_25 (fun r_2 h => ?_)
      refine zr_if_ge C dyX11_span_28 (tgt := 33) (by decide) (fun hc_7 => ?_) (fun hc_7 => ?_)
      · replace h := zif_pos hc_7 h
        refine zr_iload_n C dyX11_span_33 rfl 2 rfl ?_
        refine zr_if_ne C dyX11_span_34 (tgt := 45) (by decide) (fun hc_6 => ?_) (fun hc_6 => ?_)
        · replace h := zif_neg hc_6 h
          refine zr_aload_n C dyX11_span_45 rfl 0 rfl ?_
          refine zr_iload_n C dyX11_span_46 rfl 1 rfl ?_
          refine zv_11_276 C hS (st := []) h ⟨Nat.le_of_ble_eq_true rfl, Nat.le_of_ble_eq_true rfl⟩ (Nat.le_of_ble_eq_true rfl) dyX11_span_47 (fun r_3 h => ?_)
          refine zr_aload_n C dyX11_span_50 rfl 0 rfl ?_
          refine zr_iload_n C dyX11_span_51 rfl 1 rfl ?_
          refine zv_11_273 C hS (st := [.int r_3]) h ⟨Nat.le_of_ble_eq_true rfl, Nat.le_of_ble_eq_true rfl⟩ (Nat.le_of_ble_eq_true rfl) dyX11_span_52 (fun r_4 h => ?_)
          refine zr_isub C dyX11_span_55 ?_
          exact zr_iret C rfl dyX11_span_56 ⟨rfl, rfl, _, rfl, h⟩
        · replace h := zif_pos hc_6 h
          refine zr_aload_n C dyX11_span_37 rfl 0 rfl ?_
          refine zr_iload_n C dyX11_span_38 rfl 1 rfl ?_
          refine zv_11_273 C hS (st := []) h ⟨Nat.le_of_ble_eq_true rfl, Nat.le_of_ble_eq_true rfl⟩ (Nat.le_of_ble_eq_true rfl) dyX11_span_39 (fun r_5 h => ?_)
          refine zr_goto C dyX11_span_42 (tgt := 56) (by decide) ?_
          exact zr_iret C rfl dyX11_span_56 ⟨rfl, rfl, _, rfl, h⟩
      · replace h := zif_neg hc_7 h
        refine zr_iconst C dyX11_span_31 zc_i_m1 ?_
        exact zr_iret C rfl dyX11_span_32 ⟨rfl, rfl, _, rfl, h⟩
  refine zr_if_eq C dyX11_span_1 (tgt := 9) (by decide) (fun hc_10 => ?_) (fun hc_10 => ?_)
  · replace h := zif_pos hc_10 h
    exact h
  · replace h := zif_neg hc_10 h
    refine zr_iload_n C dyX11_span_4 rfl 2 rfl ?_
    refine zr_iconst C dyX11_span_5 zc_i_1 ?_
    refine zr_icmp_ne C dyX11_span_6 (tgt := 31) (by decide) (fun hc_9 => ?_) (fun hc_9 => ?_)
    · replace h := zif_neg hc_9 h
      refine zr_iconst C dyX11_span_31 zc_i_m1 ?_
      exact zr_iret C rfl dyX11_span_32 ⟨rfl, rfl, _, rfl, h⟩
    · replace h := zif_pos hc_9 h
      exact h
theorem zg_11_279 {p : Program} {l : Launch} {e : Env} {R : Room} {s : State} {m : MethodId} {args : Array Value} {below : List Frame} {meth : Method} {c : Code} {Q : State → Prop} {D : va_G} {B : Nat} {cA : Nat → ClassId} {ad : Nat → Nat} {cc : ByteArray} {nL : Nat} {ret : Option FieldType} {S : List zC} {I : zI} {lv : List (Nat × Value)} {st : List Value} {pc : Nat} (C : zCx p s m args meth c cc nL RX11 ret D B cA ad) (hS : zOkX S) (hd : decode cc pc = .ok (.getfield 279, 3)) (kk : zX p l e R s m args below meth c Q D B cA nL 0 0 S I lv (.ref (B + 60) :: st) (pc + 3)) : zX p l e R s m args below meth c Q D B cA nL 0 0 S I lv (.ref (B + 43) :: st) pc :=
  zr_getr C (ci := 9) (Cn := RX9) (T := TX9) (N := 16) (k := 43) (j := 9) (fs := [some (some 24), some (some 44), some (some 46), some (some 48), some (some 50), some (some 52), some (some 54), some (some 56), some (some 58), some (some 60), some (some 62), none, none, none, none, none]) rfl zin_9 (Nat.le_of_ble_eq_true rfl) rfl (hS _ _ zs_43) rfl zk_fl_11_279 hd kk
def w_Desk_ruled (a1 : Int32) (I : zI) (K : Int32 → Prop) : Prop :=
  (if a1 < 0 then (K (-1)) else (if 11 ≤ a1 then (K (-1)) else (w_Row_get 60 11 a1 I (fun r_1 => K r_1))))
theorem dyX11_ruled_0 : decode cX11_ruled 0 = .ok (.iload_n 1, 1) := by decide +kernel
theorem dyX11_ruled_1 : decode cX11_ruled 1 = .ok (.ifCond .lt 23, 3) := by decide +kernel
theorem dyX11_ruled_4 : decode cX11_ruled 4 = .ok (.iload_n 1, 1) := by decide +kernel
theorem dyX11_ruled_5 : decode cX11_ruled 5 = .ok (.bipush 11, 2) := by decide +kernel
theorem dyX11_ruled_7 : decode cX11_ruled 7 = .ok (.if_icmp .ge 17, 3) := by decide +kernel
theorem dyX11_ruled_10 : decode cX11_ruled 10 = .ok (.aload_n 0, 1) := by decide +kernel
theorem dyX11_ruled_11 : decode cX11_ruled 11 = .ok (.getfield 44, 3) := by decide +kernel
theorem dyX11_ruled_14 : decode cX11_ruled 14 = .ok (.getfield 279, 3) := by decide +kernel
theorem dyX11_ruled_17 : decode cX11_ruled 17 = .ok (.iload_n 1, 1) := by decide +kernel
theorem dyX11_ruled_18 : decode cX11_ruled 18 = .ok (.invokevirtual 166, 3) := by decide +kernel
theorem dyX11_ruled_21 : decode cX11_ruled 21 = .ok (.goto 4, 3) := by decide +kernel
theorem dyX11_ruled_24 : decode cX11_ruled 24 = .ok (.iconst (-1), 1) := by decide +kernel
theorem dyX11_ruled_25 : decode cX11_ruled 25 = .ok (.ireturn, 1) := by decide +kernel
theorem zsg_yX11_ruled : yX11_ruled.cls = RX11 ∧ yX11_ruled.cls ≠ "java/lang/invoke/MethodHandle" ∧ yX11_ruled.cls ≠ "java/lang/invoke/VarHandle" ∧ (parseMethodDescriptor yX11_ruled.desc).map (fun d => d.parameters.length) = some 1 := by decide +kernel
set_option maxRecDepth 20000 in
theorem c_Desk_ruled {l : Launch} {D : va_G} {B : Nat} {cA : Nat → ClassId} {ad : Nat → Nat} {S : List zC} (hS : zOkX S) {a1 : Int32} {I : zI} {K : Int32 → Prop}  (h : w_Desk_ruled a1 I K) : Met l yX11_ruled (zws yX11_ruled cX11_ruled 2 (some .int)) (zrm 1 21) (zPc D B cA ad [.ref (B + 0), .int a1] S I) (zQc D B cA (zpI S I K)) 0 0 (fun q => B ≤ q) := by
  refine zm_of (cc := cX11_ruled) (maxL := 2) (ret := (some .int)) (by decide +kernel) rfl (Nat.le_of_ble_eq_true rfl) trivial ?_
  intro p e s m args below meth c C _
  unfold w_Desk_ruled at h
  show zX p l e (zrm 1 21) s m args below meth c (MQ below (zQc D B cA (zpI S I K)) args s 0 0 (fun q => B ≤ q)) D B cA 2 0 0 S I [(0, .ref (B + 0)), (1, .int a1)] [] 0
  refine zr_iload_n C dyX11_ruled_0 rfl 1 rfl ?_
  refine zr_if_lt C dyX11_ruled_1 (tgt := 24) (by decide) (fun hc_3 => ?_) (fun hc_3 => ?_)
  · replace h := zif_pos hc_3 h
    refine zr_iconst C dyX11_ruled_24 zc_i_m1 ?_
    exact zr_iret C rfl dyX11_ruled_25 ⟨rfl, rfl, _, rfl, h⟩
  · replace h := zif_neg hc_3 h
    refine zr_iload_n C dyX11_ruled_4 rfl 1 rfl ?_
    refine zr_bipush C dyX11_ruled_5 zc_b_11 ?_
    refine zr_icmp_ge C dyX11_ruled_7 (tgt := 24) (by decide) (fun hc_2 => ?_) (fun hc_2 => ?_)
    · replace h := zif_pos hc_2 h
      refine zr_iconst C dyX11_ruled_24 zc_i_m1 ?_
      exact zr_iret C rfl dyX11_ruled_25 ⟨rfl, rfl, _, rfl, h⟩
    · replace h := zif_neg hc_2 h
      refine zr_aload_n C dyX11_ruled_10 rfl 0 rfl ?_
      refine zg_11_44 C hS dyX11_ruled_11 ?_
      refine zg_11_279 C hS dyX11_ruled_14 ?_
      refine zr_iload_n C dyX11_ruled_17 rfl 1 rfl ?_
      refine zv_11_166 C hS (zIsRow.of hS zir_60) (st := []) h ⟨Nat.le_of_ble_eq_true rfl, Nat.le_of_ble_eq_true rfl⟩ (Nat.le_of_ble_eq_true rfl) dyX11_ruled_18 (fun r_1 h => ?_)
      refine zr_goto C dyX11_ruled_21 (tgt := 25) (by decide) ?_
      exact zr_iret C rfl dyX11_ruled_25 ⟨rfl, rfl, _, rfl, h⟩
theorem zv_11_282 {p : Program} {l : Launch} {e : Env} {R : Room} {s : State} {m : MethodId} {args : Array Value} {below : List Frame} {meth : Method} {c : Code} {Q : State → Prop} {D : va_G} {B : Nat} {cA : Nat → ClassId} {ad : Nat → Nat} {cc : ByteArray} {nL : Nat} {ret : Option FieldType} {S : List zC} {I : zI} {lv : List (Nat × Value)} {st : List Value} {pc : Nat} (C : zCx p s m args meth c cc nL RX11 ret D B cA ad) {K : Int32 → Prop} {xa1 : Int32} {xa2 : Int32} (hS : zOkX S)  (h : w_TreeView_lowestOfRule xa1 xa2 I K) (hR : 3 + 1 ≤ R.frames ∧ 8 + (5 + 11) + (64) ≤ R.locals) (hw : (st.map fun v => v.category).sum ≤ 8) (hd : decode cc pc = .ok (.invokevirtual 282, 3)) (kk : ∀ v, K v → zX p l e R s m args below meth c Q D B cA nL 0 0 S I lv (.int v :: st) (pc + 3)) : zX p l e R s m args below meth c Q D B cA nL 0 0 S I lv (.int xa2 :: .int xa1 :: .ref (B + 43) :: st) pc :=
  have hf : 0 ≤ R.cells ∧ 0 ≤ R.slots := ⟨Nat.zero_le _, Nat.zero_le _⟩
  zc_VpI C (ci := 9) (q := (RX9, TX9, 16)) (k := 43) (fs := [some (some 24), some (some 44), some (some 46), some (some 48), some (some 50), some (some 52), some (some 54), some (some 56), some (some 58), some (some 60), some (some 62), none, none, none, none, none]) (As := [.int xa1, .int xa2]) (st := st) rfl (hS _ _ zs_43) (c_TreeView_lowestOfRule hS h) (zgV zk_ml_11_282 zk_im_yX9_lowestOfRule zk_se_yX9_lowestOfRule zk_in_9 zk_cd_yX9_lowestOfRule) zsg_yX9_lowestOfRule hR rfl rfl hw hd hf kk
def w_Desk_above (a1 : Int32) (a2 : Int32) (I : zI) (K : Int32 → Prop) : Prop :=
  w_Desk_now I (fun r_1 => w_Moment_hasGood r_1 a1 I (fun r_2 => (if r_2 = 0 then (K (-1)) else (if a2 < 0 then (K (-1)) else (if a2 < 11 then (w_Row_get (r_1 + 14) 100 a1 I (fun r_3 => w_TreeView_lowestOfRule r_3 a2 I (fun r_4 => K r_4))) else (K (-1)))))))
theorem dyX11_above_0 : decode cX11_above 0 = .ok (.aload_n 0, 1) := by decide +kernel
theorem dyX11_above_1 : decode cX11_above 1 = .ok (.invokevirtual 126, 3) := by decide +kernel
theorem dyX11_above_4 : decode cX11_above 4 = .ok (.astore_n 3, 1) := by decide +kernel
theorem dyX11_above_5 : decode cX11_above 5 = .ok (.aload_n 3, 1) := by decide +kernel
theorem dyX11_above_6 : decode cX11_above 6 = .ok (.iload_n 1, 1) := by decide +kernel
theorem dyX11_above_7 : decode cX11_above 7 = .ok (.invokevirtual 209, 3) := by decide +kernel
theorem dyX11_above_10 : decode cX11_above 10 = .ok (.ifCond .eq 13, 3) := by decide +kernel
theorem dyX11_above_13 : decode cX11_above 13 = .ok (.iload_n 2, 1) := by decide +kernel
theorem dyX11_above_14 : decode cX11_above 14 = .ok (.ifCond .lt 9, 3) := by decide +kernel
theorem dyX11_above_17 : decode cX11_above 17 = .ok (.iload_n 2, 1) := by decide +kernel
theorem dyX11_above_18 : decode cX11_above 18 = .ok (.bipush 11, 2) := by decide +kernel
theorem dyX11_above_20 : decode cX11_above 20 = .ok (.if_icmp .lt 5, 3) := by decide +kernel
theorem dyX11_above_23 : decode cX11_above 23 = .ok (.iconst (-1), 1) := by decide +kernel
theorem dyX11_above_24 : decode cX11_above 24 = .ok (.ireturn, 1) := by decide +kernel
theorem dyX11_above_25 : decode cX11_above 25 = .ok (.aload_n 0, 1) := by decide +kernel
theorem dyX11_above_26 : decode cX11_above 26 = .ok (.getfield 44, 3) := by decide +kernel
theorem dyX11_above_29 : decode cX11_above 29 = .ok (.aload_n 3, 1) := by decide +kernel
theorem dyX11_above_30 : decode cX11_above 30 = .ok (.getfield 115, 3) := by decide +kernel
theorem dyX11_above_33 : decode cX11_above 33 = .ok (.iload_n 1, 1) := by decide +kernel
theorem dyX11_above_34 : decode cX11_above 34 = .ok (.invokevirtual 166, 3) := by decide +kernel
theorem dyX11_above_37 : decode cX11_above 37 = .ok (.iload_n 2, 1) := by decide +kernel
theorem dyX11_above_38 : decode cX11_above 38 = .ok (.invokevirtual 282, 3) := by decide +kernel
theorem dyX11_above_41 : decode cX11_above 41 = .ok (.ireturn, 1) := by decide +kernel
theorem zsg_yX11_above : yX11_above.cls = RX11 ∧ yX11_above.cls ≠ "java/lang/invoke/MethodHandle" ∧ yX11_above.cls ≠ "java/lang/invoke/VarHandle" ∧ (parseMethodDescriptor yX11_above.desc).map (fun d => d.parameters.length) = some 2 := by decide +kernel
set_option maxRecDepth 20000 in
theorem c_Desk_above {l : Launch} {D : va_G} {B : Nat} {cA : Nat → ClassId} {ad : Nat → Nat} {S : List zC} (hS : zOkX S) {a1 : Int32} {a2 : Int32} {I : zI} {K : Int32 → Prop}  (h : w_Desk_above a1 a2 I K) : Met l yX11_above (zws yX11_above cX11_above 4 (some .int)) (zrm 4 88) (zPc D B cA ad [.ref (B + 0), .int a1, .int a2] S I) (zQc D B cA (zpI S I K)) 0 0 (fun q => B ≤ q) := by
  refine zm_of (cc := cX11_above) (maxL := 4) (ret := (some .int)) (by decide +kernel) rfl (Nat.le_of_ble_eq_true rfl) trivial ?_
  intro p e s m args below meth c C _
  unfold w_Desk_above at h
  show zX p l e (zrm 4 88) s m args below meth c (MQ below (zQc D B cA (zpI S I K)) args s 0 0 (fun q => B ≤ q)) D B cA 4 0 0 S I [(0, .ref (B + 0)), (1, .int a1), (2, .int a2)] [] 0
  refine zr_aload_n C dyX11_above_0 rfl 0 rfl ?_
  refine zv_11_126 C hS (st := []) h ⟨Nat.le_of_ble_eq_true rfl, Nat.le_of_ble_eq_true rfl⟩ (Nat.le_of_ble_eq_true rfl) dyX11_above_1 (fun r_1 hr_1 h => ?_)
  refine zr_astore_n C dyX11_above_4 rfl (Nat.le_of_ble_eq_true rfl) (lv2 := [(3, .ref (B + r_1)), (0, .ref (B + 0)), (1, .int a1), (2, .int a2)]) rfl ?_
  refine zr_aload_n C dyX11_above_5 rfl 0 rfl ?_
  refine zr_iload_n C dyX11_above_6 rfl 2 rfl ?_
  refine zv_11_209 C hS hr_1 (st := []) h ⟨Nat.le_of_ble_eq_true rfl, Nat.le_of_ble_eq_true rfl⟩ (Nat.le_of_ble_eq_true rfl) dyX11_above_7 (fun r_2 h => ?_)
  refine zr_if_eq C dyX11_above_10 (tgt := 23) (by decide) (fun hc_7 => ?_) (fun hc_7 => ?_)
  · replace h := zif_pos hc_7 h
    refine zr_iconst C dyX11_above_23 zc_i_m1 ?_
    exact zr_iret C rfl dyX11_above_24 ⟨rfl, rfl, _, rfl, h⟩
  · replace h := zif_neg hc_7 h
    refine zr_iload_n C dyX11_above_13 rfl 3 rfl ?_
    refine zr_if_lt C dyX11_above_14 (tgt := 23) (by decide) (fun hc_6 => ?_) (fun hc_6 => ?_)
    · replace h := zif_pos hc_6 h
      refine zr_iconst C dyX11_above_23 zc_i_m1 ?_
      exact zr_iret C rfl dyX11_above_24 ⟨rfl, rfl, _, rfl, h⟩
    · replace h := zif_neg hc_6 h
      refine zr_iload_n C dyX11_above_17 rfl 3 rfl ?_
      refine zr_bipush C dyX11_above_18 zc_b_11 ?_
      refine zr_icmp_lt C dyX11_above_20 (tgt := 25) (by decide) (fun hc_5 => ?_) (fun hc_5 => ?_)
      · replace h := zif_pos hc_5 h
        refine zr_aload_n C dyX11_above_25 rfl 1 rfl ?_
        refine zg_11_44 C hS dyX11_above_26 ?_
        refine zr_aload_n C dyX11_above_29 rfl 0 rfl ?_
        refine zg_11_115 C hr_1 dyX11_above_30 ?_
        refine zr_iload_n C dyX11_above_33 rfl 2 rfl ?_
        refine zv_11_166 C hS hr_1.2.2.2.1 (st := [.ref (B + 43)]) h ⟨Nat.le_of_ble_eq_true rfl, Nat.le_of_ble_eq_true rfl⟩ (Nat.le_of_ble_eq_true rfl) dyX11_above_34 (fun r_3 h => ?_)
        refine zr_iload_n C dyX11_above_37 rfl 3 rfl ?_
        refine zv_11_282 C hS (st := []) h ⟨Nat.le_of_ble_eq_true rfl, Nat.le_of_ble_eq_true rfl⟩ (Nat.le_of_ble_eq_true rfl) dyX11_above_38 (fun r_4 h => ?_)
        exact zr_iret C rfl dyX11_above_41 ⟨rfl, rfl, _, rfl, h⟩
      · replace h := zif_neg hc_5 h
        refine zr_iconst C dyX11_above_23 zc_i_m1 ?_
        exact zr_iret C rfl dyX11_above_24 ⟨rfl, rfl, _, rfl, h⟩
theorem zv_11_285 {p : Program} {l : Launch} {e : Env} {R : Room} {s : State} {m : MethodId} {args : Array Value} {below : List Frame} {meth : Method} {c : Code} {Q : State → Prop} {D : va_G} {B : Nat} {cA : Nat → ClassId} {ad : Nat → Nat} {cc : ByteArray} {nL : Nat} {ret : Option FieldType} {S : List zC} {I : zI} {lv : List (Nat × Value)} {st : List Value} {pc : Nat} (C : zCx p s m args meth c cc nL RX11 ret D B cA ad) {K : Int32 → Prop} {xa1 : Int32} {xa2 : Int32} (hS : zOkX S)  (h : w_TreeView_lowestOver xa1 xa2 I K) (hR : 3 + 1 ≤ R.frames ∧ 8 + (6 + 11) + (64) ≤ R.locals) (hw : (st.map fun v => v.category).sum ≤ 8) (hd : decode cc pc = .ok (.invokevirtual 285, 3)) (kk : ∀ v, K v → zX p l e R s m args below meth c Q D B cA nL 0 0 S I lv (.int v :: st) (pc + 3)) : zX p l e R s m args below meth c Q D B cA nL 0 0 S I lv (.int xa2 :: .int xa1 :: .ref (B + 43) :: st) pc :=
  have hf : 0 ≤ R.cells ∧ 0 ≤ R.slots := ⟨Nat.zero_le _, Nat.zero_le _⟩
  zc_VpI C (ci := 9) (q := (RX9, TX9, 16)) (k := 43) (fs := [some (some 24), some (some 44), some (some 46), some (some 48), some (some 50), some (some 52), some (some 54), some (some 56), some (some 58), some (some 60), some (some 62), none, none, none, none, none]) (As := [.int xa1, .int xa2]) (st := st) rfl (hS _ _ zs_43) (c_TreeView_lowestOver hS h) (zgV zk_ml_11_285 zk_im_yX9_lowestOver zk_se_yX9_lowestOver zk_in_9 zk_cd_yX9_lowestOver) zsg_yX9_lowestOver hR rfl rfl hw hd hf kk
def w_Desk_common (a1 : Int32) (a2 : Int32) (I : zI) (K : Int32 → Prop) : Prop :=
  w_Desk_now I (fun r_1 => w_Moment_hasGood r_1 a1 I (fun r_2 => (if r_2 = 0 then (K (-1)) else (w_Moment_hasGood r_1 a2 I (fun r_3 => (if r_3 = 0 then (K (-1)) else (w_Row_get (r_1 + 14) 100 a1 I (fun r_4 => (if a1 = a2 then K r_4 else (w_TreeView_lowestOver r_4 a2 I (fun r_5 => K r_5)))))))))))
theorem dyX11_common_0 : decode cX11_common 0 = .ok (.aload_n 0, 1) := by decide +kernel
theorem dyX11_common_1 : decode cX11_common 1 = .ok (.invokevirtual 126, 3) := by decide +kernel
theorem dyX11_common_4 : decode cX11_common 4 = .ok (.astore_n 3, 1) := by decide +kernel
theorem dyX11_common_5 : decode cX11_common 5 = .ok (.aload_n 3, 1) := by decide +kernel
theorem dyX11_common_6 : decode cX11_common 6 = .ok (.iload_n 1, 1) := by decide +kernel
theorem dyX11_common_7 : decode cX11_common 7 = .ok (.invokevirtual 209, 3) := by decide +kernel
theorem dyX11_common_10 : decode cX11_common 10 = .ok (.ifCond .eq 11, 3) := by decide +kernel
theorem dyX11_common_13 : decode cX11_common 13 = .ok (.aload_n 3, 1) := by decide +kernel
theorem dyX11_common_14 : decode cX11_common 14 = .ok (.iload_n 2, 1) := by decide +kernel
theorem dyX11_common_15 : decode cX11_common 15 = .ok (.invokevirtual 209, 3) := by decide +kernel
theorem dyX11_common_18 : decode cX11_common 18 = .ok (.ifCond .ne 5, 3) := by decide +kernel
theorem dyX11_common_21 : decode cX11_common 21 = .ok (.iconst (-1), 1) := by decide +kernel
theorem dyX11_common_22 : decode cX11_common 22 = .ok (.ireturn, 1) := by decide +kernel
theorem dyX11_common_23 : decode cX11_common 23 = .ok (.aload_n 3, 1) := by decide +kernel
theorem dyX11_common_24 : decode cX11_common 24 = .ok (.getfield 115, 3) := by decide +kernel
theorem dyX11_common_27 : decode cX11_common 27 = .ok (.iload_n 1, 1) := by decide +kernel
theorem dyX11_common_28 : decode cX11_common 28 = .ok (.invokevirtual 166, 3) := by decide +kernel
theorem dyX11_common_31 : decode cX11_common 31 = .ok (.istore 4, 2) := by decide +kernel
theorem dyX11_common_33 : decode cX11_common 33 = .ok (.iload_n 1, 1) := by decide +kernel
theorem dyX11_common_34 : decode cX11_common 34 = .ok (.iload_n 2, 1) := by decide +kernel
theorem dyX11_common_35 : decode cX11_common 35 = .ok (.if_icmp .ne 8, 3) := by decide +kernel
theorem dyX11_common_38 : decode cX11_common 38 = .ok (.iload 4, 2) := by decide +kernel
theorem dyX11_common_40 : decode cX11_common 40 = .ok (.goto 13, 3) := by decide +kernel
theorem dyX11_common_43 : decode cX11_common 43 = .ok (.aload_n 0, 1) := by decide +kernel
theorem dyX11_common_44 : decode cX11_common 44 = .ok (.getfield 44, 3) := by decide +kernel
theorem dyX11_common_47 : decode cX11_common 47 = .ok (.iload 4, 2) := by decide +kernel
theorem dyX11_common_49 : decode cX11_common 49 = .ok (.iload_n 2, 1) := by decide +kernel
theorem dyX11_common_50 : decode cX11_common 50 = .ok (.invokevirtual 285, 3) := by decide +kernel
theorem dyX11_common_53 : decode cX11_common 53 = .ok (.ireturn, 1) := by decide +kernel
theorem zsg_yX11_common : yX11_common.cls = RX11 ∧ yX11_common.cls ≠ "java/lang/invoke/MethodHandle" ∧ yX11_common.cls ≠ "java/lang/invoke/VarHandle" ∧ (parseMethodDescriptor yX11_common.desc).map (fun d => d.parameters.length) = some 2 := by decide +kernel
set_option maxRecDepth 20000 in
theorem c_Desk_common {l : Launch} {D : va_G} {B : Nat} {cA : Nat → ClassId} {ad : Nat → Nat} {S : List zC} (hS : zOkX S) {a1 : Int32} {a2 : Int32} {I : zI} {K : Int32 → Prop}  (h : w_Desk_common a1 a2 I K) : Met l yX11_common (zws yX11_common cX11_common 5 (some .int)) (zrm 4 89) (zPc D B cA ad [.ref (B + 0), .int a1, .int a2] S I) (zQc D B cA (zpI S I K)) 0 0 (fun q => B ≤ q) := by
  refine zm_of (cc := cX11_common) (maxL := 5) (ret := (some .int)) (by decide +kernel) rfl (Nat.le_of_ble_eq_true rfl) trivial ?_
  intro p e s m args below meth c C _
  unfold w_Desk_common at h
  show zX p l e (zrm 4 89) s m args below meth c (MQ below (zQc D B cA (zpI S I K)) args s 0 0 (fun q => B ≤ q)) D B cA 5 0 0 S I [(0, .ref (B + 0)), (1, .int a1), (2, .int a2)] [] 0
  refine zr_aload_n C dyX11_common_0 rfl 0 rfl ?_
  refine zv_11_126 C hS (st := []) h ⟨Nat.le_of_ble_eq_true rfl, Nat.le_of_ble_eq_true rfl⟩ (Nat.le_of_ble_eq_true rfl) dyX11_common_1 (fun r_1 hr_1 h => ?_)
  refine zr_astore_n C dyX11_common_4 rfl (Nat.le_of_ble_eq_true rfl) (lv2 := [(3, .ref (B + r_1)), (0, .ref (B + 0)), (1, .int a1), (2, .int a2)]) rfl ?_
  refine zr_aload_n C dyX11_common_5 rfl 0 rfl ?_
  refine zr_iload_n C dyX11_common_6 rfl 2 rfl ?_
  refine zv_11_209 C hS hr_1 (st := []) h ⟨Nat.le_of_ble_eq_true rfl, Nat.le_of_ble_eq_true rfl⟩ (Nat.le_of_ble_eq_true rfl) dyX11_common_7 (fun r_2 h => ?_)
  refine zr_if_eq C dyX11_common_10 (tgt := 21) (by decide) (fun hc_8 => ?_) (fun hc_8 => ?_)
  · replace h := zif_pos hc_8 h
    refine zr_iconst C dyX11_common_21 zc_i_m1 ?_
    exact zr_iret C rfl dyX11_common_22 ⟨rfl, rfl, _, rfl, h⟩
  · replace h := zif_neg hc_8 h
    refine zr_aload_n C dyX11_common_13 rfl 0 rfl ?_
    refine zr_iload_n C dyX11_common_14 rfl 3 rfl ?_
    refine zv_11_209 C hS hr_1 (st := []) h ⟨Nat.le_of_ble_eq_true rfl, Nat.le_of_ble_eq_true rfl⟩ (Nat.le_of_ble_eq_true rfl) dyX11_common_15 (fun r_3 h => ?_)
    refine zr_if_ne C dyX11_common_18 (tgt := 23) (by decide) (fun hc_7 => ?_) (fun hc_7 => ?_)
    · replace h := zif_neg hc_7 h
      refine zr_aload_n C dyX11_common_23 rfl 0 rfl ?_
      refine zg_11_115 C hr_1 dyX11_common_24 ?_
      refine zr_iload_n C dyX11_common_27 rfl 2 rfl ?_
      refine zv_11_166 C hS hr_1.2.2.2.1 (st := []) h ⟨Nat.le_of_ble_eq_true rfl, Nat.le_of_ble_eq_true rfl⟩ (Nat.le_of_ble_eq_true rfl) dyX11_common_28 (fun r_4 h => ?_)
      refine zr_istore C dyX11_common_31 (Nat.le_of_ble_eq_true rfl) (lv2 := [(4, .int r_4), (3, .ref (B + r_1)), (0, .ref (B + 0)), (1, .int a1), (2, .int a2)]) rfl ?_
      refine zr_iload_n C dyX11_common_33 rfl 3 rfl ?_
      refine zr_iload_n C dyX11_common_34 rfl 4 rfl ?_
      refine zr_icmp_ne C dyX11_common_35 (tgt := 43) (by decide) (fun hc_6 => ?_) (fun hc_6 => ?_)
      · replace h := zif_neg hc_6 h
        refine zr_aload_n C dyX11_common_43 rfl 2 rfl ?_
        refine zg_11_44 C hS dyX11_common_44 ?_
        refine zr_iload C dyX11_common_47 0 rfl ?_
        refine zr_iload_n C dyX11_common_49 rfl 4 rfl ?_
        refine zv_11_285 C hS (st := []) h ⟨Nat.le_of_ble_eq_true rfl, Nat.le_of_ble_eq_true rfl⟩ (Nat.le_of_ble_eq_true rfl) dyX11_common_50 (fun r_5 h => ?_)
        exact zr_iret C rfl dyX11_common_53 ⟨rfl, rfl, _, rfl, h⟩
      · replace h := zif_pos hc_6 h
        refine zr_iload C dyX11_common_38 0 rfl ?_
        refine zr_goto C dyX11_common_40 (tgt := 53) (by decide) ?_
        exact zr_iret C rfl dyX11_common_53 ⟨rfl, rfl, _, rfl, h⟩
    · replace h := zif_pos hc_7 h
      refine zr_iconst C dyX11_common_21 zc_i_m1 ?_
      exact zr_iret C rfl dyX11_common_22 ⟨rfl, rfl, _, rfl, h⟩
theorem zv_11_288 {p : Program} {l : Launch} {e : Env} {R : Room} {s : State} {m : MethodId} {args : Array Value} {below : List Frame} {meth : Method} {c : Code} {Q : State → Prop} {D : va_G} {B : Nat} {cA : Nat → ClassId} {ad : Nat → Nat} {cc : ByteArray} {nL : Nat} {ret : Option FieldType} {S : List zC} {I : zI} {lv : List (Nat × Value)} {st : List Value} {pc : Nat} (C : zCx p s m args meth c cc nL RX11 ret D B cA ad) {K : Int32 → Prop} {xa1 : Int32} {xa2 : Int32} (hS : zOkX S)  (h : w_TreeView_wayDown xa1 xa2 I K) (hR : 3 + 1 ≤ R.frames ∧ 8 + (6 + 11) + (64) ≤ R.locals) (hw : (st.map fun v => v.category).sum ≤ 8) (hd : decode cc pc = .ok (.invokevirtual 288, 3)) (kk : ∀ v, K v → zX p l e R s m args below meth c Q D B cA nL 0 0 S I lv (.int v :: st) (pc + 3)) : zX p l e R s m args below meth c Q D B cA nL 0 0 S I lv (.int xa2 :: .int xa1 :: .ref (B + 43) :: st) pc :=
  have hf : 0 ≤ R.cells ∧ 0 ≤ R.slots := ⟨Nat.zero_le _, Nat.zero_le _⟩
  zc_VpI C (ci := 9) (q := (RX9, TX9, 16)) (k := 43) (fs := [some (some 24), some (some 44), some (some 46), some (some 48), some (some 50), some (some 52), some (some 54), some (some 56), some (some 58), some (some 60), some (some 62), none, none, none, none, none]) (As := [.int xa1, .int xa2]) (st := st) rfl (hS _ _ zs_43) (c_TreeView_wayDown hS h) (zgV zk_ml_11_288 zk_im_yX9_wayDown zk_se_yX9_wayDown zk_in_9 zk_cd_yX9_wayDown) zsg_yX9_wayDown hR rfl rfl hw hd hf kk
def w_Desk_path (a1 : Int32) (a2 : Int32) (I : zI) (K : Int32 → Prop) : Prop :=
  w_Desk_now I (fun r_1 => w_Moment_hasGood r_1 a1 I (fun r_2 => (if r_2 = 0 then (K (-1)) else (if a1 = ((I.1 r_1 6) - 1) then (K (-1)) else (w_Row_get (r_1 + 14) 100 a1 I (fun r_3 => w_TreeView_wayDown r_3 a2 I (fun r_4 => K r_4)))))))
theorem dyX11_path_0 : decode cX11_path 0 = .ok (.aload_n 0, 1) := by decide +kernel
theorem dyX11_path_1 : decode cX11_path 1 = .ok (.invokevirtual 126, 3) := by decide +kernel
theorem dyX11_path_4 : decode cX11_path 4 = .ok (.astore_n 3, 1) := by decide +kernel
theorem dyX11_path_5 : decode cX11_path 5 = .ok (.aload_n 3, 1) := by decide +kernel
theorem dyX11_path_6 : decode cX11_path 6 = .ok (.iload_n 1, 1) := by decide +kernel
theorem dyX11_path_7 : decode cX11_path 7 = .ok (.invokevirtual 209, 3) := by decide +kernel
theorem dyX11_path_10 : decode cX11_path 10 = .ok (.ifCond .eq 13, 3) := by decide +kernel
theorem dyX11_path_13 : decode cX11_path 13 = .ok (.iload_n 1, 1) := by decide +kernel
theorem dyX11_path_14 : decode cX11_path 14 = .ok (.aload_n 3, 1) := by decide +kernel
theorem dyX11_path_15 : decode cX11_path 15 = .ok (.getfield 260, 3) := by decide +kernel
theorem dyX11_path_18 : decode cX11_path 18 = .ok (.iconst 1, 1) := by decide +kernel
theorem dyX11_path_19 : decode cX11_path 19 = .ok (.isub, 1) := by decide +kernel
theorem dyX11_path_20 : decode cX11_path 20 = .ok (.if_icmp .ne 5, 3) := by decide +kernel
theorem dyX11_path_23 : decode cX11_path 23 = .ok (.iconst (-1), 1) := by decide +kernel
theorem dyX11_path_24 : decode cX11_path 24 = .ok (.ireturn, 1) := by decide +kernel
theorem dyX11_path_25 : decode cX11_path 25 = .ok (.aload_n 0, 1) := by decide +kernel
theorem dyX11_path_26 : decode cX11_path 26 = .ok (.getfield 44, 3) := by decide +kernel
theorem dyX11_path_29 : decode cX11_path 29 = .ok (.aload_n 3, 1) := by decide +kernel
theorem dyX11_path_30 : decode cX11_path 30 = .ok (.getfield 115, 3) := by decide +kernel
theorem dyX11_path_33 : decode cX11_path 33 = .ok (.iload_n 1, 1) := by decide +kernel
theorem dyX11_path_34 : decode cX11_path 34 = .ok (.invokevirtual 166, 3) := by decide +kernel
theorem dyX11_path_37 : decode cX11_path 37 = .ok (.iload_n 2, 1) := by decide +kernel
theorem dyX11_path_38 : decode cX11_path 38 = .ok (.invokevirtual 288, 3) := by decide +kernel
theorem dyX11_path_41 : decode cX11_path 41 = .ok (.ireturn, 1) := by decide +kernel
theorem zsg_yX11_path : yX11_path.cls = RX11 ∧ yX11_path.cls ≠ "java/lang/invoke/MethodHandle" ∧ yX11_path.cls ≠ "java/lang/invoke/VarHandle" ∧ (parseMethodDescriptor yX11_path.desc).map (fun d => d.parameters.length) = some 2 := by decide +kernel
set_option maxRecDepth 20000 in
theorem c_Desk_path {l : Launch} {D : va_G} {B : Nat} {cA : Nat → ClassId} {ad : Nat → Nat} {S : List zC} (hS : zOkX S) {a1 : Int32} {a2 : Int32} {I : zI} {K : Int32 → Prop}  (h : w_Desk_path a1 a2 I K) : Met l yX11_path (zws yX11_path cX11_path 4 (some .int)) (zrm 4 89) (zPc D B cA ad [.ref (B + 0), .int a1, .int a2] S I) (zQc D B cA (zpI S I K)) 0 0 (fun q => B ≤ q) := by
  refine zm_of (cc := cX11_path) (maxL := 4) (ret := (some .int)) (by decide +kernel) rfl (Nat.le_of_ble_eq_true rfl) trivial ?_
  intro p e s m args below meth c C _
  unfold w_Desk_path at h
  show zX p l e (zrm 4 89) s m args below meth c (MQ below (zQc D B cA (zpI S I K)) args s 0 0 (fun q => B ≤ q)) D B cA 4 0 0 S I [(0, .ref (B + 0)), (1, .int a1), (2, .int a2)] [] 0
  refine zr_aload_n C dyX11_path_0 rfl 0 rfl ?_
  refine zv_11_126 C hS (st := []) h ⟨Nat.le_of_ble_eq_true rfl, Nat.le_of_ble_eq_true rfl⟩ (Nat.le_of_ble_eq_true rfl) dyX11_path_1 (fun r_1 hr_1 h => ?_)
  refine zr_astore_n C dyX11_path_4 rfl (Nat.le_of_ble_eq_true rfl) (lv2 := [(3, .ref (B + r_1)), (0, .ref (B + 0)), (1, .int a1), (2, .int a2)]) rfl ?_
  refine zr_aload_n C dyX11_path_5 rfl 0 rfl ?_
  refine zr_iload_n C dyX11_path_6 rfl 2 rfl ?_
  refine zv_11_209 C hS hr_1 (st := []) h ⟨Nat.le_of_ble_eq_true rfl, Nat.le_of_ble_eq_true rfl⟩ (Nat.le_of_ble_eq_true rfl) dyX11_path_7 (fun r_2 h => ?_)
  refine zr_if_eq C dyX11_path_10 (tgt := 23) (by decide) (fun hc_6 => ?_) (fun hc_6 => ?_)
  · replace h := zif_pos hc_6 h
    refine zr_iconst C dyX11_path_23 zc_i_m1 ?_
    exact zr_iret C rfl dyX11_path_24 ⟨rfl, rfl, _, rfl, h⟩
  · replace h := zif_neg hc_6 h
    refine zr_iload_n C dyX11_path_13 rfl 2 rfl ?_
    refine zr_aload_n C dyX11_path_14 rfl 0 rfl ?_
    refine zg_11_260 C hr_1 dyX11_path_15 ?_
    refine zr_iconst C dyX11_path_18 zc_i_1 ?_
    refine zr_isub C dyX11_path_19 ?_
    refine zr_icmp_ne C dyX11_path_20 (tgt := 25) (by decide) (fun hc_5 => ?_) (fun hc_5 => ?_)
    · replace h := zif_neg hc_5 h
      refine zr_aload_n C dyX11_path_25 rfl 1 rfl ?_
      refine zg_11_44 C hS dyX11_path_26 ?_
      refine zr_aload_n C dyX11_path_29 rfl 0 rfl ?_
      refine zg_11_115 C hr_1 dyX11_path_30 ?_
      refine zr_iload_n C dyX11_path_33 rfl 2 rfl ?_
      refine zv_11_166 C hS hr_1.2.2.2.1 (st := [.ref (B + 43)]) h ⟨Nat.le_of_ble_eq_true rfl, Nat.le_of_ble_eq_true rfl⟩ (Nat.le_of_ble_eq_true rfl) dyX11_path_34 (fun r_3 h => ?_)
      refine zr_iload_n C dyX11_path_37 rfl 3 rfl ?_
      refine zv_11_288 C hS (st := []) h ⟨Nat.le_of_ble_eq_true rfl, Nat.le_of_ble_eq_true rfl⟩ (Nat.le_of_ble_eq_true rfl) dyX11_path_38 (fun r_4 h => ?_)
      exact zr_iret C rfl dyX11_path_41 ⟨rfl, rfl, _, rfl, h⟩
    · replace h := zif_pos hc_5 h
      refine zr_iconst C dyX11_path_23 zc_i_m1 ?_
      exact zr_iret C rfl dyX11_path_24 ⟨rfl, rfl, _, rfl, h⟩
theorem zg_11_291 {p : Program} {l : Launch} {e : Env} {R : Room} {s : State} {m : MethodId} {args : Array Value} {below : List Frame} {meth : Method} {c : Code} {Q : State → Prop} {D : va_G} {B : Nat} {cA : Nat → ClassId} {ad : Nat → Nat} {cc : ByteArray} {nL : Nat} {ret : Option FieldType} {S : List zC} {I : zI} {lv : List (Nat × Value)} {st : List Value} {pc : Nat} (C : zCx p s m args meth c cc nL RX11 ret D B cA ad) (hS : zOkX S) (hd : decode cc pc = .ok (.getfield 291, 3)) (kk : zX p l e R s m args below meth c Q D B cA nL 0 0 S I lv (.int (I.1 0 18) :: st) (pc + 3)) : zX p l e R s m args below meth c Q D B cA nL 0 0 S I lv (.ref (B + 0) :: st) pc :=
  zr_geti C (ci := 11) (Cn := RX11) (T := TX11) (N := 19) (k := 0) (j := 18) (fs := [some (some 1), none, some (some 3), some (some 4), none, none, none, none, some (some 22), some (some 24), some (some 43), some (some 64), some (some 69), some (some 88), some (some 97), some (some 100), some (some 109), some (some 111), none]) rfl zin_11 (Nat.le_of_ble_eq_true rfl) rfl (hS _ _ zs_0) rfl zk_fl_11_291 hd kk
def w_Desk_print (a1 : Int32) (I : zI) (K : Int32 → Prop) : Prop :=
  (if a1 < 0 then (K (-1)) else (if (I.1 0 18) ≤ a1 then (K (-1)) else (w_Row_get 109 700 a1 I (fun r_1 => K r_1))))
theorem dyX11_print_0 : decode cX11_print 0 = .ok (.iload_n 1, 1) := by decide +kernel
theorem dyX11_print_1 : decode cX11_print 1 = .ok (.ifCond .lt 22, 3) := by decide +kernel
theorem dyX11_print_4 : decode cX11_print 4 = .ok (.iload_n 1, 1) := by decide +kernel
theorem dyX11_print_5 : decode cX11_print 5 = .ok (.aload_n 0, 1) := by decide +kernel
theorem dyX11_print_6 : decode cX11_print 6 = .ok (.getfield 291, 3) := by decide +kernel
theorem dyX11_print_9 : decode cX11_print 9 = .ok (.if_icmp .ge 14, 3) := by decide +kernel
theorem dyX11_print_12 : decode cX11_print 12 = .ok (.aload_n 0, 1) := by decide +kernel
theorem dyX11_print_13 : decode cX11_print 13 = .ok (.getfield 85, 3) := by decide +kernel
theorem dyX11_print_16 : decode cX11_print 16 = .ok (.iload_n 1, 1) := by decide +kernel
theorem dyX11_print_17 : decode cX11_print 17 = .ok (.invokevirtual 166, 3) := by decide +kernel
theorem dyX11_print_20 : decode cX11_print 20 = .ok (.goto 4, 3) := by decide +kernel
theorem dyX11_print_23 : decode cX11_print 23 = .ok (.iconst (-1), 1) := by decide +kernel
theorem dyX11_print_24 : decode cX11_print 24 = .ok (.ireturn, 1) := by decide +kernel
theorem zsg_yX11_print : yX11_print.cls = RX11 ∧ yX11_print.cls ≠ "java/lang/invoke/MethodHandle" ∧ yX11_print.cls ≠ "java/lang/invoke/VarHandle" ∧ (parseMethodDescriptor yX11_print.desc).map (fun d => d.parameters.length) = some 1 := by decide +kernel
set_option maxRecDepth 20000 in
theorem c_Desk_print {l : Launch} {D : va_G} {B : Nat} {cA : Nat → ClassId} {ad : Nat → Nat} {S : List zC} (hS : zOkX S) {a1 : Int32} {I : zI} {K : Int32 → Prop}  (h : w_Desk_print a1 I K) : Met l yX11_print (zws yX11_print cX11_print 2 (some .int)) (zrm 1 21) (zPc D B cA ad [.ref (B + 0), .int a1] S I) (zQc D B cA (zpI S I K)) 0 0 (fun q => B ≤ q) := by
  refine zm_of (cc := cX11_print) (maxL := 2) (ret := (some .int)) (by decide +kernel) rfl (Nat.le_of_ble_eq_true rfl) trivial ?_
  intro p e s m args below meth c C _
  unfold w_Desk_print at h
  show zX p l e (zrm 1 21) s m args below meth c (MQ below (zQc D B cA (zpI S I K)) args s 0 0 (fun q => B ≤ q)) D B cA 2 0 0 S I [(0, .ref (B + 0)), (1, .int a1)] [] 0
  refine zr_iload_n C dyX11_print_0 rfl 1 rfl ?_
  refine zr_if_lt C dyX11_print_1 (tgt := 23) (by decide) (fun hc_3 => ?_) (fun hc_3 => ?_)
  · replace h := zif_pos hc_3 h
    refine zr_iconst C dyX11_print_23 zc_i_m1 ?_
    exact zr_iret C rfl dyX11_print_24 ⟨rfl, rfl, _, rfl, h⟩
  · replace h := zif_neg hc_3 h
    refine zr_iload_n C dyX11_print_4 rfl 1 rfl ?_
    refine zr_aload_n C dyX11_print_5 rfl 0 rfl ?_
    refine zg_11_291 C hS dyX11_print_6 ?_
    refine zr_icmp_ge C dyX11_print_9 (tgt := 23) (by decide) (fun hc_2 => ?_) (fun hc_2 => ?_)
    · replace h := zif_pos hc_2 h
      refine zr_iconst C dyX11_print_23 zc_i_m1 ?_
      exact zr_iret C rfl dyX11_print_24 ⟨rfl, rfl, _, rfl, h⟩
    · replace h := zif_neg hc_2 h
      refine zr_aload_n C dyX11_print_12 rfl 0 rfl ?_
      refine zg_11_85 C hS dyX11_print_13 ?_
      refine zr_iload_n C dyX11_print_16 rfl 1 rfl ?_
      refine zv_11_166 C hS (zIsRow.of hS zir_109) (st := []) h ⟨Nat.le_of_ble_eq_true rfl, Nat.le_of_ble_eq_true rfl⟩ (Nat.le_of_ble_eq_true rfl) dyX11_print_17 (fun r_1 h => ?_)
      refine zr_goto C dyX11_print_20 (tgt := 24) (by decide) ?_
      exact zr_iret C rfl dyX11_print_24 ⟨rfl, rfl, _, rfl, h⟩
theorem zg_11_88 {p : Program} {l : Launch} {e : Env} {R : Room} {s : State} {m : MethodId} {args : Array Value} {below : List Frame} {meth : Method} {c : Code} {Q : State → Prop} {D : va_G} {B : Nat} {cA : Nat → ClassId} {ad : Nat → Nat} {cc : ByteArray} {nL : Nat} {ret : Option FieldType} {S : List zC} {I : zI} {lv : List (Nat × Value)} {st : List Value} {pc : Nat} (C : zCx p s m args meth c cc nL RX11 ret D B cA ad) (hS : zOkX S) (hd : decode cc pc = .ok (.getfield 88, 3)) (kk : zX p l e R s m args below meth c Q D B cA nL 0 0 S I lv (.ref (B + 111) :: st) (pc + 3)) : zX p l e R s m args below meth c Q D B cA nL 0 0 S I lv (.ref (B + 0) :: st) pc :=
  zr_getr C (ci := 11) (Cn := RX11) (T := TX11) (N := 19) (k := 0) (j := 17) (fs := [some (some 1), none, some (some 3), some (some 4), none, none, none, none, some (some 22), some (some 24), some (some 43), some (some 64), some (some 69), some (some 88), some (some 97), some (some 100), some (some 109), some (some 111), none]) rfl zin_11 (Nat.le_of_ble_eq_true rfl) rfl (hS _ _ zs_0) rfl zk_fl_11_88 hd kk
def w_Desk_printsAlike (a1 : Int32) (a2 : Int32) (I : zI) (K : Int32 → zI → Prop) : Prop :=
  w_Printer_write a1 109 700 I (fun r_1 I_2 => w_Printer_write a2 111 700 I_2 (fun r_3 I_4 => ∀ (P38 : Int32 → Prop), (∀ (t_5 : Int32), (∀ (P43 : Int32 → Int32 → Prop), (∀ (v5_6 : Int32) (v6_7 : Int32), (∀ (P88 : Prop), ((w_Desk_now I_4 (fun r_8 => w_Printer_write (I_4.1 r_8 7) 109 700 I_4 (fun r_9 I_10 => zb v5_6 ∧ K v5_6 I_10))) → P88) → (if v5_6 = 0 then P88 else (if r_1 ≤ v6_7 then P88 else (w_Row_get 109 700 v6_7 I_4 (fun r_11 => w_Row_get 111 700 v6_7 I_4 (fun r_12 => ∀ (P80 : Int32 → Prop), (∀ (t_13 : Int32), (∀ v6_14, v6_14 = (v6_7 + 1) → P43 t_13 v6_14) → P80 t_13) → (if r_11 = r_12 then P80 1 else P80 0))))))) → P43 v5_6 v6_7) → P43 t_5 0) → P38 t_5) → (if r_1 = r_3 then P38 1 else P38 0)))
theorem dyX11_printsAlike_0 : decode cX11_printsAlike 0 = .ok (.aload_n 0, 1) := by decide +kernel
theorem dyX11_printsAlike_1 : decode cX11_printsAlike 1 = .ok (.getfield 74, 3) := by decide +kernel
theorem dyX11_printsAlike_4 : decode cX11_printsAlike 4 = .ok (.iload_n 1, 1) := by decide +kernel
theorem dyX11_printsAlike_5 : decode cX11_printsAlike 5 = .ok (.aload_n 0, 1) := by decide +kernel
theorem dyX11_printsAlike_6 : decode cX11_printsAlike 6 = .ok (.getfield 85, 3) := by decide +kernel
theorem dyX11_printsAlike_9 : decode cX11_printsAlike 9 = .ok (.invokevirtual 435, 3) := by decide +kernel
theorem dyX11_printsAlike_12 : decode cX11_printsAlike 12 = .ok (.istore_n 3, 1) := by decide +kernel
theorem dyX11_printsAlike_13 : decode cX11_printsAlike 13 = .ok (.aload_n 0, 1) := by decide +kernel
theorem dyX11_printsAlike_14 : decode cX11_printsAlike 14 = .ok (.getfield 74, 3) := by decide +kernel
theorem dyX11_printsAlike_17 : decode cX11_printsAlike 17 = .ok (.iload_n 2, 1) := by decide +kernel
theorem dyX11_printsAlike_18 : decode cX11_printsAlike 18 = .ok (.aload_n 0, 1) := by decide +kernel
theorem dyX11_printsAlike_19 : decode cX11_printsAlike 19 = .ok (.getfield 88, 3) := by decide +kernel
theorem dyX11_printsAlike_22 : decode cX11_printsAlike 22 = .ok (.invokevirtual 435, 3) := by decide +kernel
theorem dyX11_printsAlike_25 : decode cX11_printsAlike 25 = .ok (.istore 4, 2) := by decide +kernel
theorem dyX11_printsAlike_27 : decode cX11_printsAlike 27 = .ok (.iload_n 3, 1) := by decide +kernel
theorem dyX11_printsAlike_28 : decode cX11_printsAlike 28 = .ok (.iload 4, 2) := by decide +kernel
theorem dyX11_printsAlike_30 : decode cX11_printsAlike 30 = .ok (.if_icmp .ne 7, 3) := by decide +kernel
theorem dyX11_printsAlike_33 : decode cX11_printsAlike 33 = .ok (.iconst 1, 1) := by decide +kernel
theorem dyX11_printsAlike_34 : decode cX11_printsAlike 34 = .ok (.goto 4, 3) := by decide +kernel
theorem dyX11_printsAlike_37 : decode cX11_printsAlike 37 = .ok (.iconst 0, 1) := by decide +kernel
theorem dyX11_printsAlike_38 : decode cX11_printsAlike 38 = .ok (.istore 5, 2) := by decide +kernel
theorem dyX11_printsAlike_40 : decode cX11_printsAlike 40 = .ok (.iconst 0, 1) := by decide +kernel
theorem dyX11_printsAlike_41 : decode cX11_printsAlike 41 = .ok (.istore 6, 2) := by decide +kernel
theorem dyX11_printsAlike_43 : decode cX11_printsAlike 43 = .ok (.iload 5, 2) := by decide +kernel
theorem dyX11_printsAlike_45 : decode cX11_printsAlike 45 = .ok (.ifCond .eq 43, 3) := by decide +kernel
theorem dyX11_printsAlike_48 : decode cX11_printsAlike 48 = .ok (.iload 6, 2) := by decide +kernel
theorem dyX11_printsAlike_50 : decode cX11_printsAlike 50 = .ok (.iload_n 3, 1) := by decide +kernel
theorem dyX11_printsAlike_51 : decode cX11_printsAlike 51 = .ok (.if_icmp .ge 37, 3) := by decide +kernel
theorem dyX11_printsAlike_54 : decode cX11_printsAlike 54 = .ok (.aload_n 0, 1) := by decide +kernel
theorem dyX11_printsAlike_55 : decode cX11_printsAlike 55 = .ok (.getfield 85, 3) := by decide +kernel
theorem dyX11_printsAlike_58 : decode cX11_printsAlike 58 = .ok (.iload 6, 2) := by decide +kernel
theorem dyX11_printsAlike_60 : decode cX11_printsAlike 60 = .ok (.invokevirtual 166, 3) := by decide +kernel
theorem dyX11_printsAlike_63 : decode cX11_printsAlike 63 = .ok (.aload_n 0, 1) := by decide +kernel
theorem dyX11_printsAlike_64 : decode cX11_printsAlike 64 = .ok (.getfield 88, 3) := by decide +kernel
theorem dyX11_printsAlike_67 : decode cX11_printsAlike 67 = .ok (.iload 6, 2) := by decide +kernel
theorem dyX11_printsAlike_69 : decode cX11_printsAlike 69 = .ok (.invokevirtual 166, 3) := by decide +kernel
theorem dyX11_printsAlike_72 : decode cX11_printsAlike 72 = .ok (.if_icmp .ne 7, 3) := by decide +kernel
theorem dyX11_printsAlike_75 : decode cX11_printsAlike 75 = .ok (.iconst 1, 1) := by decide +kernel
theorem dyX11_printsAlike_76 : decode cX11_printsAlike 76 = .ok (.goto 4, 3) := by decide +kernel
theorem dyX11_printsAlike_79 : decode cX11_printsAlike 79 = .ok (.iconst 0, 1) := by decide +kernel
theorem dyX11_printsAlike_80 : decode cX11_printsAlike 80 = .ok (.istore 5, 2) := by decide +kernel
theorem dyX11_printsAlike_82 : decode cX11_printsAlike 82 = .ok (.iinc 6 1, 3) := by decide +kernel
theorem dyX11_printsAlike_85 : decode cX11_printsAlike 85 = .ok (.goto (-42), 3) := by decide +kernel
theorem dyX11_printsAlike_88 : decode cX11_printsAlike 88 = .ok (.aload_n 0, 1) := by decide +kernel
theorem dyX11_printsAlike_89 : decode cX11_printsAlike 89 = .ok (.getfield 74, 3) := by decide +kernel
theorem dyX11_printsAlike_92 : decode cX11_printsAlike 92 = .ok (.aload_n 0, 1) := by decide +kernel
theorem dyX11_printsAlike_93 : decode cX11_printsAlike 93 = .ok (.invokevirtual 126, 3) := by decide +kernel
theorem dyX11_printsAlike_96 : decode cX11_printsAlike 96 = .ok (.getfield 352, 3) := by decide +kernel
theorem dyX11_printsAlike_99 : decode cX11_printsAlike 99 = .ok (.aload_n 0, 1) := by decide +kernel
theorem dyX11_printsAlike_100 : decode cX11_printsAlike 100 = .ok (.getfield 85, 3) := by decide +kernel
theorem dyX11_printsAlike_103 : decode cX11_printsAlike 103 = .ok (.invokevirtual 435, 3) := by decide +kernel
theorem dyX11_printsAlike_106 : decode cX11_printsAlike 106 = .ok (.pop, 1) := by decide +kernel
theorem dyX11_printsAlike_107 : decode cX11_printsAlike 107 = .ok (.iload 5, 2) := by decide +kernel
theorem dyX11_printsAlike_109 : decode cX11_printsAlike 109 = .ok (.ireturn, 1) := by decide +kernel
theorem zsg_yX11_printsAlike : yX11_printsAlike.cls = RX11 ∧ yX11_printsAlike.cls ≠ "java/lang/invoke/MethodHandle" ∧ yX11_printsAlike.cls ≠ "java/lang/invoke/VarHandle" ∧ (parseMethodDescriptor yX11_printsAlike.desc).map (fun d => d.parameters.length) = some 2 := by decide +kernel
set_option maxRecDepth 20000 in
theorem c_Desk_printsAlike {l : Launch} {D : va_G} {B : Nat} {cA : Nat → ClassId} {ad : Nat → Nat} {S : List zC} (hS : zOkX S) {a1 : Int32} {a2 : Int32} {I : zI} {K : Int32 → zI → Prop}  (h : w_Desk_printsAlike a1 a2 I K) : Met l yX11_printsAlike (zws yX11_printsAlike cX11_printsAlike 7 (some .boolean)) (zrm 4 91) (zPc D B cA ad [.ref (B + 0), .int a1, .int a2] S I) (zQc D B cA (zqI S K)) 0 0 (fun q => B ≤ q) := by
  refine zm_of (cc := cX11_printsAlike) (maxL := 7) (ret := (some .boolean)) (by decide +kernel) rfl (Nat.le_of_ble_eq_true rfl) trivial ?_
  intro p e s m args below meth c C _
  unfold w_Desk_printsAlike at h
  show zX p l e (zrm 4 91) s m args below meth c (MQ below (zQc D B cA (zqI S K)) args s 0 0 (fun q => B ≤ q)) D B cA 7 0 0 S I [(0, .ref (B + 0)), (1, .int a1), (2, .int a2)] [] 0
  refine zr_aload_n C dyX11_printsAlike_0 rfl 0 rfl ?_
  refine zg_11_74 C hS dyX11_printsAlike_1 ?_
  refine zr_iload_n C dyX11_printsAlike_4 rfl 1 rfl ?_
  refine zr_aload_n C dyX11_printsAlike_5 rfl 0 rfl ?_
  refine zg_11_85 C hS dyX11_printsAlike_6 ?_
  refine zv_11_435 C hS (zIsRow.of hS zir_109) (st := []) h ⟨Nat.le_of_ble_eq_true rfl, Nat.le_of_ble_eq_true rfl⟩ (Nat.le_of_ble_eq_true rfl) dyX11_printsAlike_9 (fun r_1 I_2 h => ?_)
  refine zr_istore_n C dyX11_printsAlike_12 rfl (Nat.le_of_ble_eq_true rfl) (lv2 := [(3, .int r_1), (0, .ref (B + 0)), (1, .int a1), (2, .int a2)]) rfl ?_
  refine zr_aload_n C dyX11_printsAlike_13 rfl 1 rfl ?_
  refine zg_11_74 C hS dyX11_printsAlike_14 ?_
  refine zr_iload_n C dyX11_printsAlike_17 rfl 3 rfl ?_
  refine zr_aload_n C dyX11_printsAlike_18 rfl 1 rfl ?_
  refine zg_11_88 C hS dyX11_printsAlike_19 ?_
  refine zv_11_435 C hS (zIsRow.of hS zir_111) (st := []) h ⟨Nat.le_of_ble_eq_true rfl, Nat.le_of_ble_eq_true rfl⟩ (Nat.le_of_ble_eq_true rfl) dyX11_printsAlike_22 (fun r_3 I_4 h => ?_)
  refine zr_istore C dyX11_printsAlike_25 (Nat.le_of_ble_eq_true rfl) (lv2 := [(4, .int r_3), (3, .int r_1), (0, .ref (B + 0)), (1, .int a1), (2, .int a2)]) rfl ?_
  refine zr_iload_n C dyX11_printsAlike_27 rfl 1 rfl ?_
  refine zr_iload C dyX11_printsAlike_28 0 rfl ?_
  refine zjn (h (fun (t_5 : Int32) => zX p l e (zrm 4 91) s m args below meth c (MQ below (zQc D B cA (zqI S K)) args s 0 0 (fun q => B ≤ q)) D B cA 7 0 0 S I_4 [(3, .int r_1), (0, .ref (B + 0))] [.int t_5] 38) (fun t_5 h => ?_)) (fun h => ?_)
  · refine zr_istore C dyX11_printsAlike_38 (Nat.le_of_ble_eq_true rfl) (lv2 := [(5, .int t_5), (3, .int r_1), (0, .ref (B + 0))]) rfl ?_
    refine zr_iconst C dyX11_printsAlike_40 zc_i_0 ?_
    refine zr_istore C dyX11_printsAlike_41 (Nat.le_of_ble_eq_true rfl) (lv2 := [(6, .int 0), (5, .int t_5), (3, .int r_1), (0, .ref (B + 0))]) rfl ?_
    refine zjn (h (fun (v5_6 : Int32) (v6_7 : Int32) => zX p l e (zrm 4 91) s m args below meth c (MQ below (zQc D B cA (zqI S K)) args s 0 0 (fun q => B ≤ q)) D B cA 7 0 0 S I_4 [(6, .int v6_7), (5, .int v5_6), (3, .int r_1), (0, .ref (B + 0))] [] 43) (fun v5_6 v6_7 h => ?_)) (fun h => ?_)
    · refine zr_iload C dyX11_printsAlike_43 1 rfl ?_
      refine zjn (h (zX p l e (zrm 4 91) s m args below meth c (MQ below (zQc D B cA (zqI S K)) args s 0 0 (fun q => B ≤ q)) D B cA 7 0 0 S I_4 [(5, .int v5_6), (0, .ref (B + 0))] [] 88) (fun  h => ?_)) (fun h => ?_)
      · refine zr_aload_n C dyX11_printsAlike_88 rfl 1 rfl ?_
        refine zg_11_74 C hS dyX11_printsAlike_89 ?_
        refine zr_aload_n C dyX11_printsAlike_92 rfl 1 rfl ?_
        refine zv_11_126 C hS (st := [.ref (B + 97)]) h ⟨Nat.le_of_ble_eq_true rfl, Nat.le_of_ble_eq_true rfl⟩ (Nat.le_of_ble_eq_true rfl) dyX11_printsAlike_93 (fun r_8 hr_8 h => ?_)
        refine zg_11_352 C hr_8 dyX11_printsAlike_96 ?_
        refine zr_aload_n C dyX11_printsAlike_99 rfl 1 rfl ?_
        refine zg_11_85 C hS dyX11_printsAlike_100 ?_
        refine zv_11_435 C hS (zIsRow.of hS zir_109) (st := []) h ⟨Nat.le_of_ble_eq_true rfl, Nat.le_of_ble_eq_true rfl⟩ (Nat.le_of_ble_eq_true rfl) dyX11_printsAlike_103 (fun r_9 I_10 h => ?_)
        refine zr_pop C dyX11_printsAlike_106 rfl ?_
        refine zr_iload C dyX11_printsAlike_107 0 rfl ?_
        exact zr_zret C rfl (zb.nar h.1) dyX11_printsAlike_109 ⟨rfl, _, rfl, h.2⟩
      refine zr_if_eq C dyX11_printsAlike_45 (tgt := 88) (by decide) (fun hc_17 => ?_) (fun hc_17 => ?_)
      · replace h := zif_pos hc_17 h
        refine zr_sub (lv2 := [(5, .int v5_6), (0, .ref (B + 0))]) [1, 3] rfl ?_
        exact h
      · replace h := zif_neg hc_17 h
        refine zr_iload C dyX11_printsAlike_48 0 rfl ?_
        refine zr_iload_n C dyX11_printsAlike_50 rfl 2 rfl ?_
        refine zr_icmp_ge C dyX11_printsAlike_51 (tgt := 88) (by decide) (fun hc_16 => ?_) (fun hc_16 => ?_)
        · replace h := zif_pos hc_16 h
          refine zr_sub (lv2 := [(5, .int v5_6), (0, .ref (B + 0))]) [1, 3] rfl ?_
          exact h
        · replace h := zif_neg hc_16 h
          refine zr_aload_n C dyX11_printsAlike_54 rfl 3 rfl ?_
          refine zg_11_85 C hS dyX11_printsAlike_55 ?_
          refine zr_iload C dyX11_printsAlike_58 0 rfl ?_
          refine zv_11_166 C hS (zIsRow.of hS zir_109) (st := []) h ⟨Nat.le_of_ble_eq_true rfl, Nat.le_of_ble_eq_true rfl⟩ (Nat.le_of_ble_eq_true rfl) dyX11_printsAlike_60 (fun r_11 h => ?_)
          refine zr_aload_n C dyX11_printsAlike_63 rfl 3 rfl ?_
          refine zg_11_88 C hS dyX11_printsAlike_64 ?_
          refine zr_iload C dyX11_printsAlike_67 0 rfl ?_
          refine zv_11_166 C hS (zIsRow.of hS zir_111) (st := [.int r_11]) h ⟨Nat.le_of_ble_eq_true rfl, Nat.le_of_ble_eq_true rfl⟩ (Nat.le_of_ble_eq_true rfl) dyX11_printsAlike_69 (fun r_12 h => ?_)
          refine zjn (h (fun (t_13 : Int32) => zX p l e (zrm 4 91) s m args below meth c (MQ below (zQc D B cA (zqI S K)) args s 0 0 (fun q => B ≤ q)) D B cA 7 0 0 S I_4 [(6, .int v6_7), (3, .int r_1), (0, .ref (B + 0))] [.int t_13] 80) (fun t_13 h => ?_)) (fun h => ?_)
          · refine zr_istore C dyX11_printsAlike_80 (Nat.le_of_ble_eq_true rfl) (lv2 := [(5, .int t_13), (6, .int v6_7), (3, .int r_1), (0, .ref (B + 0))]) rfl ?_
            refine zn_iinc C (fun v6_14 => [(6, .int v6_14), (5, .int t_13), (3, .int r_1), (0, .ref (B + 0))]) dyX11_printsAlike_82 1 rfl zc_i_1 (Nat.le_of_ble_eq_true rfl) (fun _ => rfl) (fun v6_14 ev6_14 => ?_)
            replace h := h v6_14 ev6_14
            refine zr_goto C dyX11_printsAlike_85 (tgt := 43) (by decide) ?_
            exact h
          refine zr_icmp_ne C dyX11_printsAlike_72 (tgt := 79) (by decide) (fun hc_15 => ?_) (fun hc_15 => ?_)
          · replace h := zif_neg hc_15 h
            refine zr_iconst C dyX11_printsAlike_79 zc_i_0 ?_
            refine zr_sub (lv2 := [(6, .int v6_7), (3, .int r_1), (0, .ref (B + 0))]) [0, 2, 3] rfl ?_
            exact h
          · replace h := zif_pos hc_15 h
            refine zr_iconst C dyX11_printsAlike_75 zc_i_1 ?_
            refine zr_goto C dyX11_printsAlike_76 (tgt := 80) (by decide) ?_
            refine zr_sub (lv2 := [(6, .int v6_7), (3, .int r_1), (0, .ref (B + 0))]) [0, 2, 3] rfl ?_
            exact h
    exact h
  refine zr_icmp_ne C dyX11_printsAlike_30 (tgt := 37) (by decide) (fun hc_18 => ?_) (fun hc_18 => ?_)
  · replace h := zif_neg hc_18 h
    refine zr_iconst C dyX11_printsAlike_37 zc_i_0 ?_
    refine zr_sub (lv2 := [(3, .int r_1), (0, .ref (B + 0))]) [1, 2] rfl ?_
    exact h
  · replace h := zif_pos hc_18 h
    refine zr_iconst C dyX11_printsAlike_33 zc_i_1 ?_
    refine zr_goto C dyX11_printsAlike_34 (tgt := 38) (by decide) ?_
    refine zr_sub (lv2 := [(3, .int r_1), (0, .ref (B + 0))]) [1, 2] rfl ?_
    exact h
theorem zv_11_294 {p : Program} {l : Launch} {e : Env} {R : Room} {s : State} {m : MethodId} {args : Array Value} {below : List Frame} {meth : Method} {c : Code} {Q : State → Prop} {D : va_G} {B : Nat} {cA : Nat → ClassId} {ad : Nat → Nat} {cc : ByteArray} {nL : Nat} {ret : Option FieldType} {S : List zC} {I : zI} {lv : List (Nat × Value)} {st : List Value} {pc : Nat} (C : zCx p s m args meth c cc nL RX11 ret D B cA ad) {K : Int32 → Prop} {xa1 : Int32} (hS : zOkX S)  (h : w_TreeView_holdsExpression xa1 I K) (hR : 2 + 1 ≤ R.frames ∧ 8 + (2 + 11) + (43) ≤ R.locals) (hw : (st.map fun v => v.category).sum ≤ 8) (hd : decode cc pc = .ok (.invokevirtual 294, 3)) (kk : ∀ v, K v → zX p l e R s m args below meth c Q D B cA nL 0 0 S I lv (.int v :: st) (pc + 3)) : zX p l e R s m args below meth c Q D B cA nL 0 0 S I lv (.int xa1 :: .ref (B + 43) :: st) pc :=
  have hf : 0 ≤ R.cells ∧ 0 ≤ R.slots := ⟨Nat.zero_le _, Nat.zero_le _⟩
  zc_VpI C (ci := 9) (q := (RX9, TX9, 16)) (k := 43) (fs := [some (some 24), some (some 44), some (some 46), some (some 48), some (some 50), some (some 52), some (some 54), some (some 56), some (some 58), some (some 60), some (some 62), none, none, none, none, none]) (As := [.int xa1]) (st := st) rfl (hS _ _ zs_43) (c_TreeView_holdsExpression hS h) (zgV zk_ml_11_294 zk_im_yX9_holdsExpression zk_se_yX9_holdsExpression zk_in_9 zk_cd_yX9_holdsExpression) zsg_yX9_holdsExpression hR rfl rfl hw hd hf kk
theorem zv_11_297 {p : Program} {l : Launch} {e : Env} {R : Room} {s : State} {m : MethodId} {args : Array Value} {below : List Frame} {meth : Method} {c : Code} {Q : State → Prop} {D : va_G} {B : Nat} {cA : Nat → ClassId} {ad : Nat → Nat} {cc : ByteArray} {nL : Nat} {ret : Option FieldType} {S : List zC} {I : zI} {lv : List (Nat × Value)} {st : List Value} {pc : Nat} (C : zCx p s m args meth c cc nL RX11 ret D B cA ad) {K : Int32 → zI → Prop} {xa1 : Int32} {xa2 : Int32} (hS : zOkX S)  (h : w_Desk_printsAlike xa1 xa2 I K) (hR : 4 + 1 ≤ R.frames ∧ 8 + (7 + 11) + (91) ≤ R.locals) (hw : (st.map fun v => v.category).sum ≤ 8) (hd : decode cc pc = .ok (.invokevirtual 297, 3)) (kk : ∀ v I2, K v I2 → zX p l e R s m args below meth c Q D B cA nL 0 0 S I2 lv (.int v :: st) (pc + 3)) : zX p l e R s m args below meth c Q D B cA nL 0 0 S I lv (.int xa2 :: .int xa1 :: .ref (B + 0) :: st) pc :=
  have hf : 0 ≤ R.cells ∧ 0 ≤ R.slots := ⟨Nat.zero_le _, Nat.zero_le _⟩
  zc_VqI C (ci := 11) (q := (RX11, TX11, 19)) (k := 0) (fs := [some (some 1), none, some (some 3), some (some 4), none, none, none, none, some (some 22), some (some 24), some (some 43), some (some 64), some (some 69), some (some 88), some (some 97), some (some 100), some (some 109), some (some 111), none]) (As := [.int xa1, .int xa2]) (st := st) rfl (hS _ _ zs_0) (c_Desk_printsAlike hS h) (zgV zk_ml_11_297 zk_im_yX11_printsAlike zk_se_yX11_printsAlike zk_in_11 zk_cd_yX11_printsAlike) zsg_yX11_printsAlike hR rfl rfl hw hd hf kk
def w_Desk_alike (a1 : Int32) (a2 : Int32) (I : zI) (K : Int32 → zI → Prop) : Prop :=
  w_TreeView_holdsExpression a1 I (fun r_1 => (if r_1 = 0 then (K (-1) I) else (w_TreeView_holdsExpression a2 I (fun r_2 => (if r_2 = 0 then (K (-1) I) else (w_Desk_printsAlike a1 a2 I (fun r_3 I_4 => (if r_3 = 0 then K 0 I_4 else K 1 I_4))))))))
theorem dyX11_alike_0 : decode cX11_alike 0 = .ok (.aload_n 0, 1) := by decide +kernel
theorem dyX11_alike_1 : decode cX11_alike 1 = .ok (.getfield 44, 3) := by decide +kernel
theorem dyX11_alike_4 : decode cX11_alike 4 = .ok (.iload_n 1, 1) := by decide +kernel
theorem dyX11_alike_5 : decode cX11_alike 5 = .ok (.invokevirtual 294, 3) := by decide +kernel
theorem dyX11_alike_8 : decode cX11_alike 8 = .ok (.ifCond .eq 14, 3) := by decide +kernel
theorem dyX11_alike_11 : decode cX11_alike 11 = .ok (.aload_n 0, 1) := by decide +kernel
theorem dyX11_alike_12 : decode cX11_alike 12 = .ok (.getfield 44, 3) := by decide +kernel
theorem dyX11_alike_15 : decode cX11_alike 15 = .ok (.iload_n 2, 1) := by decide +kernel
theorem dyX11_alike_16 : decode cX11_alike 16 = .ok (.invokevirtual 294, 3) := by decide +kernel
theorem dyX11_alike_19 : decode cX11_alike 19 = .ok (.ifCond .ne 5, 3) := by decide +kernel
theorem dyX11_alike_22 : decode cX11_alike 22 = .ok (.iconst (-1), 1) := by decide +kernel
theorem dyX11_alike_23 : decode cX11_alike 23 = .ok (.ireturn, 1) := by decide +kernel
theorem dyX11_alike_24 : decode cX11_alike 24 = .ok (.aload_n 0, 1) := by decide +kernel
theorem dyX11_alike_25 : decode cX11_alike 25 = .ok (.iload_n 1, 1) := by decide +kernel
theorem dyX11_alike_26 : decode cX11_alike 26 = .ok (.iload_n 2, 1) := by decide +kernel
theorem dyX11_alike_27 : decode cX11_alike 27 = .ok (.invokevirtual 297, 3) := by decide +kernel
theorem dyX11_alike_30 : decode cX11_alike 30 = .ok (.ifCond .eq 7, 3) := by decide +kernel
theorem dyX11_alike_33 : decode cX11_alike 33 = .ok (.iconst 1, 1) := by decide +kernel
theorem dyX11_alike_34 : decode cX11_alike 34 = .ok (.goto 4, 3) := by decide +kernel
theorem dyX11_alike_37 : decode cX11_alike 37 = .ok (.iconst 0, 1) := by decide +kernel
theorem dyX11_alike_38 : decode cX11_alike 38 = .ok (.ireturn, 1) := by decide +kernel
theorem zsg_yX11_alike : yX11_alike.cls = RX11 ∧ yX11_alike.cls ≠ "java/lang/invoke/MethodHandle" ∧ yX11_alike.cls ≠ "java/lang/invoke/VarHandle" ∧ (parseMethodDescriptor yX11_alike.desc).map (fun d => d.parameters.length) = some 2 := by decide +kernel
set_option maxRecDepth 20000 in
theorem c_Desk_alike {l : Launch} {D : va_G} {B : Nat} {cA : Nat → ClassId} {ad : Nat → Nat} {S : List zC} (hS : zOkX S) {a1 : Int32} {a2 : Int32} {I : zI} {K : Int32 → zI → Prop}  (h : w_Desk_alike a1 a2 I K) : Met l yX11_alike (zws yX11_alike cX11_alike 3 (some .int)) (zrm 5 117) (zPc D B cA ad [.ref (B + 0), .int a1, .int a2] S I) (zQc D B cA (zqI S K)) 0 0 (fun q => B ≤ q) := by
  refine zm_of (cc := cX11_alike) (maxL := 3) (ret := (some .int)) (by decide +kernel) rfl (Nat.le_of_ble_eq_true rfl) trivial ?_
  intro p e s m args below meth c C _
  unfold w_Desk_alike at h
  show zX p l e (zrm 5 117) s m args below meth c (MQ below (zQc D B cA (zqI S K)) args s 0 0 (fun q => B ≤ q)) D B cA 3 0 0 S I [(0, .ref (B + 0)), (1, .int a1), (2, .int a2)] [] 0
  refine zr_aload_n C dyX11_alike_0 rfl 0 rfl ?_
  refine zg_11_44 C hS dyX11_alike_1 ?_
  refine zr_iload_n C dyX11_alike_4 rfl 1 rfl ?_
  refine zv_11_294 C hS (st := []) h ⟨Nat.le_of_ble_eq_true rfl, Nat.le_of_ble_eq_true rfl⟩ (Nat.le_of_ble_eq_true rfl) dyX11_alike_5 (fun r_1 h => ?_)
  refine zr_if_eq C dyX11_alike_8 (tgt := 22) (by decide) (fun hc_7 => ?_) (fun hc_7 => ?_)
  · replace h := zif_pos hc_7 h
    refine zr_iconst C dyX11_alike_22 zc_i_m1 ?_
    exact zr_iret C rfl dyX11_alike_23 ⟨rfl, _, rfl, h⟩
  · replace h := zif_neg hc_7 h
    refine zr_aload_n C dyX11_alike_11 rfl 0 rfl ?_
    refine zg_11_44 C hS dyX11_alike_12 ?_
    refine zr_iload_n C dyX11_alike_15 rfl 2 rfl ?_
    refine zv_11_294 C hS (st := []) h ⟨Nat.le_of_ble_eq_true rfl, Nat.le_of_ble_eq_true rfl⟩ (Nat.le_of_ble_eq_true rfl) dyX11_alike_16 (fun r_2 h => ?_)
    refine zr_if_ne C dyX11_alike_19 (tgt := 24) (by decide) (fun hc_6 => ?_) (fun hc_6 => ?_)
    · replace h := zif_neg hc_6 h
      refine zr_aload_n C dyX11_alike_24 rfl 0 rfl ?_
      refine zr_iload_n C dyX11_alike_25 rfl 1 rfl ?_
      refine zr_iload_n C dyX11_alike_26 rfl 2 rfl ?_
      refine zv_11_297 C hS (st := []) h ⟨Nat.le_of_ble_eq_true rfl, Nat.le_of_ble_eq_true rfl⟩ (Nat.le_of_ble_eq_true rfl) dyX11_alike_27 (fun r_3 I_4 h => ?_)
      refine zr_if_eq C dyX11_alike_30 (tgt := 37) (by decide) (fun hc_5 => ?_) (fun hc_5 => ?_)
      · replace h := zif_pos hc_5 h
        refine zr_iconst C dyX11_alike_37 zc_i_0 ?_
        exact zr_iret C rfl dyX11_alike_38 ⟨rfl, _, rfl, h⟩
      · replace h := zif_neg hc_5 h
        refine zr_iconst C dyX11_alike_33 zc_i_1 ?_
        refine zr_goto C dyX11_alike_34 (tgt := 38) (by decide) ?_
        exact zr_iret C rfl dyX11_alike_38 ⟨rfl, _, rfl, h⟩
    · replace h := zif_pos hc_6 h
      refine zr_iconst C dyX11_alike_22 zc_i_m1 ?_
      exact zr_iret C rfl dyX11_alike_23 ⟨rfl, _, rfl, h⟩
theorem zv_11_300 {p : Program} {l : Launch} {e : Env} {R : Room} {s : State} {m : MethodId} {args : Array Value} {below : List Frame} {meth : Method} {c : Code} {Q : State → Prop} {D : va_G} {B : Nat} {cA : Nat → ClassId} {ad : Nat → Nat} {cc : ByteArray} {nL : Nat} {ret : Option FieldType} {S : List zC} {I : zI} {lv : List (Nat × Value)} {st : List Value} {pc : Nat} (C : zCx p s m args meth c cc nL RX11 ret D B cA ad) {K : Int32 → Prop} {xa1 : Int32} (hS : zOkX S)  (h : w_TreeView_readsName xa1 I K) (hR : 2 + 1 ≤ R.frames ∧ 8 + (4 + 11) + (43) ≤ R.locals) (hw : (st.map fun v => v.category).sum ≤ 8) (hd : decode cc pc = .ok (.invokevirtual 300, 3)) (kk : ∀ v, K v → zX p l e R s m args below meth c Q D B cA nL 0 0 S I lv (.int v :: st) (pc + 3)) : zX p l e R s m args below meth c Q D B cA nL 0 0 S I lv (.int xa1 :: .ref (B + 43) :: st) pc :=
  have hf : 0 ≤ R.cells ∧ 0 ≤ R.slots := ⟨Nat.zero_le _, Nat.zero_le _⟩
  zc_VpI C (ci := 9) (q := (RX9, TX9, 16)) (k := 43) (fs := [some (some 24), some (some 44), some (some 46), some (some 48), some (some 50), some (some 52), some (some 54), some (some 56), some (some 58), some (some 60), some (some 62), none, none, none, none, none]) (As := [.int xa1]) (st := st) rfl (hS _ _ zs_43) (c_TreeView_readsName hS h) (zgV zk_ml_11_300 zk_im_yX9_readsName zk_se_yX9_readsName zk_in_9 zk_cd_yX9_readsName) zsg_yX9_readsName hR rfl rfl hw hd hf kk
def w_Desk_firm (a1 : Int32) (I : zI) (K : Int32 → Prop) : Prop :=
  w_TreeView_holdsExpression a1 I (fun r_1 => (if r_1 = 0 then (K (-1)) else (w_TreeView_readsName a1 I (fun r_2 => (if r_2 = 0 then K 1 else K 0)))))
theorem dyX11_firm_0 : decode cX11_firm 0 = .ok (.aload_n 0, 1) := by decide +kernel
theorem dyX11_firm_1 : decode cX11_firm 1 = .ok (.getfield 44, 3) := by decide +kernel
theorem dyX11_firm_4 : decode cX11_firm 4 = .ok (.iload_n 1, 1) := by decide +kernel
theorem dyX11_firm_5 : decode cX11_firm 5 = .ok (.invokevirtual 294, 3) := by decide +kernel
theorem dyX11_firm_8 : decode cX11_firm 8 = .ok (.ifCond .ne 5, 3) := by decide +kernel
theorem dyX11_firm_11 : decode cX11_firm 11 = .ok (.iconst (-1), 1) := by decide +kernel
theorem dyX11_firm_12 : decode cX11_firm 12 = .ok (.ireturn, 1) := by decide +kernel
theorem dyX11_firm_13 : decode cX11_firm 13 = .ok (.aload_n 0, 1) := by decide +kernel
theorem dyX11_firm_14 : decode cX11_firm 14 = .ok (.getfield 44, 3) := by decide +kernel
theorem dyX11_firm_17 : decode cX11_firm 17 = .ok (.iload_n 1, 1) := by decide +kernel
theorem dyX11_firm_18 : decode cX11_firm 18 = .ok (.invokevirtual 300, 3) := by decide +kernel
theorem dyX11_firm_21 : decode cX11_firm 21 = .ok (.ifCond .eq 7, 3) := by decide +kernel
theorem dyX11_firm_24 : decode cX11_firm 24 = .ok (.iconst 0, 1) := by decide +kernel
theorem dyX11_firm_25 : decode cX11_firm 25 = .ok (.goto 4, 3) := by decide +kernel
theorem dyX11_firm_28 : decode cX11_firm 28 = .ok (.iconst 1, 1) := by decide +kernel
theorem dyX11_firm_29 : decode cX11_firm 29 = .ok (.ireturn, 1) := by decide +kernel
theorem zsg_yX11_firm : yX11_firm.cls = RX11 ∧ yX11_firm.cls ≠ "java/lang/invoke/MethodHandle" ∧ yX11_firm.cls ≠ "java/lang/invoke/VarHandle" ∧ (parseMethodDescriptor yX11_firm.desc).map (fun d => d.parameters.length) = some 1 := by decide +kernel
set_option maxRecDepth 20000 in
theorem c_Desk_firm {l : Launch} {D : va_G} {B : Nat} {cA : Nat → ClassId} {ad : Nat → Nat} {S : List zC} (hS : zOkX S) {a1 : Int32} {I : zI} {K : Int32 → Prop}  (h : w_Desk_firm a1 I K) : Met l yX11_firm (zws yX11_firm cX11_firm 2 (some .int)) (zrm 3 66) (zPc D B cA ad [.ref (B + 0), .int a1] S I) (zQc D B cA (zpI S I K)) 0 0 (fun q => B ≤ q) := by
  refine zm_of (cc := cX11_firm) (maxL := 2) (ret := (some .int)) (by decide +kernel) rfl (Nat.le_of_ble_eq_true rfl) trivial ?_
  intro p e s m args below meth c C _
  unfold w_Desk_firm at h
  show zX p l e (zrm 3 66) s m args below meth c (MQ below (zQc D B cA (zpI S I K)) args s 0 0 (fun q => B ≤ q)) D B cA 2 0 0 S I [(0, .ref (B + 0)), (1, .int a1)] [] 0
  refine zr_aload_n C dyX11_firm_0 rfl 0 rfl ?_
  refine zg_11_44 C hS dyX11_firm_1 ?_
  refine zr_iload_n C dyX11_firm_4 rfl 1 rfl ?_
  refine zv_11_294 C hS (st := []) h ⟨Nat.le_of_ble_eq_true rfl, Nat.le_of_ble_eq_true rfl⟩ (Nat.le_of_ble_eq_true rfl) dyX11_firm_5 (fun r_1 h => ?_)
  refine zr_if_ne C dyX11_firm_8 (tgt := 13) (by decide) (fun hc_4 => ?_) (fun hc_4 => ?_)
  · replace h := zif_neg hc_4 h
    refine zr_aload_n C dyX11_firm_13 rfl 0 rfl ?_
    refine zg_11_44 C hS dyX11_firm_14 ?_
    refine zr_iload_n C dyX11_firm_17 rfl 1 rfl ?_
    refine zv_11_300 C hS (st := []) h ⟨Nat.le_of_ble_eq_true rfl, Nat.le_of_ble_eq_true rfl⟩ (Nat.le_of_ble_eq_true rfl) dyX11_firm_18 (fun r_2 h => ?_)
    refine zr_if_eq C dyX11_firm_21 (tgt := 28) (by decide) (fun hc_3 => ?_) (fun hc_3 => ?_)
    · replace h := zif_pos hc_3 h
      refine zr_iconst C dyX11_firm_28 zc_i_1 ?_
      exact zr_iret C rfl dyX11_firm_29 ⟨rfl, rfl, _, rfl, h⟩
    · replace h := zif_neg hc_3 h
      refine zr_iconst C dyX11_firm_24 zc_i_0 ?_
      refine zr_goto C dyX11_firm_25 (tgt := 29) (by decide) ?_
      exact zr_iret C rfl dyX11_firm_29 ⟨rfl, rfl, _, rfl, h⟩
  · replace h := zif_pos hc_4 h
    refine zr_iconst C dyX11_firm_11 zc_i_m1 ?_
    exact zr_iret C rfl dyX11_firm_12 ⟨rfl, rfl, _, rfl, h⟩
def w_Desk_runs  (I : zI) (K : Int32 → Prop) : Prop :=
  K (I.1 43 11)
theorem dyX11_runs_0 : decode cX11_runs 0 = .ok (.aload_n 0, 1) := by decide +kernel
theorem dyX11_runs_1 : decode cX11_runs 1 = .ok (.getfield 44, 3) := by decide +kernel
theorem dyX11_runs_4 : decode cX11_runs 4 = .ok (.getfield 303, 3) := by decide +kernel
theorem dyX11_runs_7 : decode cX11_runs 7 = .ok (.ireturn, 1) := by decide +kernel
theorem zsg_yX11_runs : yX11_runs.cls = RX11 ∧ yX11_runs.cls ≠ "java/lang/invoke/MethodHandle" ∧ yX11_runs.cls ≠ "java/lang/invoke/VarHandle" ∧ (parseMethodDescriptor yX11_runs.desc).map (fun d => d.parameters.length) = some 0 := by decide +kernel
set_option maxRecDepth 20000 in
theorem c_Desk_runs {l : Launch} {D : va_G} {B : Nat} {cA : Nat → ClassId} {ad : Nat → Nat} {S : List zC} (hS : zOkX S)  {I : zI} {K : Int32 → Prop}  (h : w_Desk_runs  I K) : Met l yX11_runs (zws yX11_runs cX11_runs 1 (some .int)) (zrm 0 0) (zPc D B cA ad [.ref (B + 0)] S I) (zQc D B cA (zpI S I K)) 0 0 (fun q => B ≤ q) := by
  refine zm_of (cc := cX11_runs) (maxL := 1) (ret := (some .int)) (by decide +kernel) rfl (Nat.le_of_ble_eq_true rfl) trivial ?_
  intro p e s m args below meth c C _
  unfold w_Desk_runs at h
  show zX p l e (zrm 0 0) s m args below meth c (MQ below (zQc D B cA (zpI S I K)) args s 0 0 (fun q => B ≤ q)) D B cA 1 0 0 S I [(0, .ref (B + 0))] [] 0
  refine zr_aload_n C dyX11_runs_0 rfl 0 rfl ?_
  refine zg_11_44 C hS dyX11_runs_1 ?_
  refine zg_11_303 C hS dyX11_runs_4 ?_
  exact zr_iret C rfl dyX11_runs_7 ⟨rfl, rfl, _, rfl, h⟩
def w_Desk_run (a1 : Int32) (I : zI) (K : Int32 → Prop) : Prop :=
  w_TreeView_hasRun a1 I (fun r_1 => (if r_1 = 0 then (K (-1)) else (w_Row_get 62 100 a1 I (fun r_2 => K r_2))))
theorem dyX11_run_0 : decode cX11_run 0 = .ok (.aload_n 0, 1) := by decide +kernel
theorem dyX11_run_1 : decode cX11_run 1 = .ok (.getfield 44, 3) := by decide +kernel
theorem dyX11_run_4 : decode cX11_run 4 = .ok (.iload_n 1, 1) := by decide +kernel
theorem dyX11_run_5 : decode cX11_run 5 = .ok (.invokevirtual 187, 3) := by decide +kernel
theorem dyX11_run_8 : decode cX11_run 8 = .ok (.ifCond .eq 17, 3) := by decide +kernel
theorem dyX11_run_11 : decode cX11_run 11 = .ok (.aload_n 0, 1) := by decide +kernel
theorem dyX11_run_12 : decode cX11_run 12 = .ok (.getfield 44, 3) := by decide +kernel
theorem dyX11_run_15 : decode cX11_run 15 = .ok (.getfield 306, 3) := by decide +kernel
theorem dyX11_run_18 : decode cX11_run 18 = .ok (.iload_n 1, 1) := by decide +kernel
theorem dyX11_run_19 : decode cX11_run 19 = .ok (.invokevirtual 166, 3) := by decide +kernel
theorem dyX11_run_22 : decode cX11_run 22 = .ok (.goto 4, 3) := by decide +kernel
theorem dyX11_run_25 : decode cX11_run 25 = .ok (.iconst (-1), 1) := by decide +kernel
theorem dyX11_run_26 : decode cX11_run 26 = .ok (.ireturn, 1) := by decide +kernel
theorem zsg_yX11_run : yX11_run.cls = RX11 ∧ yX11_run.cls ≠ "java/lang/invoke/MethodHandle" ∧ yX11_run.cls ≠ "java/lang/invoke/VarHandle" ∧ (parseMethodDescriptor yX11_run.desc).map (fun d => d.parameters.length) = some 1 := by decide +kernel
set_option maxRecDepth 20000 in
theorem c_Desk_run {l : Launch} {D : va_G} {B : Nat} {cA : Nat → ClassId} {ad : Nat → Nat} {S : List zC} (hS : zOkX S) {a1 : Int32} {I : zI} {K : Int32 → Prop}  (h : w_Desk_run a1 I K) : Met l yX11_run (zws yX11_run cX11_run 2 (some .int)) (zrm 1 21) (zPc D B cA ad [.ref (B + 0), .int a1] S I) (zQc D B cA (zpI S I K)) 0 0 (fun q => B ≤ q) := by
  refine zm_of (cc := cX11_run) (maxL := 2) (ret := (some .int)) (by decide +kernel) rfl (Nat.le_of_ble_eq_true rfl) trivial ?_
  intro p e s m args below meth c C _
  unfold w_Desk_run at h
  show zX p l e (zrm 1 21) s m args below meth c (MQ below (zQc D B cA (zpI S I K)) args s 0 0 (fun q => B ≤ q)) D B cA 2 0 0 S I [(0, .ref (B + 0)), (1, .int a1)] [] 0
  refine zr_aload_n C dyX11_run_0 rfl 0 rfl ?_
  refine zg_11_44 C hS dyX11_run_1 ?_
  refine zr_iload_n C dyX11_run_4 rfl 1 rfl ?_
  refine zv_11_187 C hS (st := []) h ⟨Nat.le_of_ble_eq_true rfl, Nat.le_of_ble_eq_true rfl⟩ (Nat.le_of_ble_eq_true rfl) dyX11_run_5 (fun r_1 h => ?_)
  refine zr_if_eq C dyX11_run_8 (tgt := 25) (by decide) (fun hc_3 => ?_) (fun hc_3 => ?_)
  · replace h := zif_pos hc_3 h
    refine zr_iconst C dyX11_run_25 zc_i_m1 ?_
    exact zr_iret C rfl dyX11_run_26 ⟨rfl, rfl, _, rfl, h⟩
  · replace h := zif_neg hc_3 h
    refine zr_aload_n C dyX11_run_11 rfl 0 rfl ?_
    refine zg_11_44 C hS dyX11_run_12 ?_
    refine zg_11_306 C hS dyX11_run_15 ?_
    refine zr_iload_n C dyX11_run_18 rfl 1 rfl ?_
    refine zv_11_166 C hS (zIsRow.of hS zir_62) (st := []) h ⟨Nat.le_of_ble_eq_true rfl, Nat.le_of_ble_eq_true rfl⟩ (Nat.le_of_ble_eq_true rfl) dyX11_run_19 (fun r_2 h => ?_)
    refine zr_goto C dyX11_run_22 (tgt := 26) (by decide) ?_
    exact zr_iret C rfl dyX11_run_26 ⟨rfl, rfl, _, rfl, h⟩
theorem zv_11_312 {p : Program} {l : Launch} {e : Env} {R : Room} {s : State} {m : MethodId} {args : Array Value} {below : List Frame} {meth : Method} {c : Code} {Q : State → Prop} {D : va_G} {B : Nat} {cA : Nat → ClassId} {ad : Nat → Nat} {cc : ByteArray} {nL : Nat} {ret : Option FieldType} {S : List zC} {I : zI} {lv : List (Nat × Value)} {st : List Value} {pc : Nat} (C : zCx p s m args meth c cc nL RX11 ret D B cA ad) {K : Int32 → Prop} {xa1 : Int32} {xa2 : Int32} (hS : zOkX S)  (h : w_TreeView_madeWithin xa1 xa2 I K) (hR : 2 + 1 ≤ R.frames ∧ 8 + (6 + 11) + (43) ≤ R.locals) (hw : (st.map fun v => v.category).sum ≤ 8) (hd : decode cc pc = .ok (.invokevirtual 312, 3)) (kk : ∀ v, K v → zX p l e R s m args below meth c Q D B cA nL 0 0 S I lv (.int v :: st) (pc + 3)) : zX p l e R s m args below meth c Q D B cA nL 0 0 S I lv (.int xa2 :: .int xa1 :: .ref (B + 43) :: st) pc :=
  have hf : 0 ≤ R.cells ∧ 0 ≤ R.slots := ⟨Nat.zero_le _, Nat.zero_le _⟩
  zc_VpI C (ci := 9) (q := (RX9, TX9, 16)) (k := 43) (fs := [some (some 24), some (some 44), some (some 46), some (some 48), some (some 50), some (some 52), some (some 54), some (some 56), some (some 58), some (some 60), some (some 62), none, none, none, none, none]) (As := [.int xa1, .int xa2]) (st := st) rfl (hS _ _ zs_43) (c_TreeView_madeWithin hS h) (zgV zk_ml_11_312 zk_im_yX9_madeWithin zk_se_yX9_madeWithin zk_in_9 zk_cd_yX9_madeWithin) zsg_yX9_madeWithin hR rfl rfl hw hd hf kk
def w_Desk_young (a1 : Int32) (I : zI) (K : Int32 → Prop) : Prop :=
  w_TreeView_hasRun a1 I (fun r_1 => (if r_1 = 0 then (K (-1)) else (w_Row_get 62 100 a1 I (fun r_2 => w_TreeView_madeWithin r_2 (I.1 0 7) I (fun r_3 => K r_3)))))
theorem dyX11_young_0 : decode cX11_young 0 = .ok (.aload_n 0, 1) := by decide +kernel
theorem dyX11_young_1 : decode cX11_young 1 = .ok (.getfield 44, 3) := by decide +kernel
theorem dyX11_young_4 : decode cX11_young 4 = .ok (.iload_n 1, 1) := by decide +kernel
theorem dyX11_young_5 : decode cX11_young 5 = .ok (.invokevirtual 187, 3) := by decide +kernel
theorem dyX11_young_8 : decode cX11_young 8 = .ok (.ifCond .ne 5, 3) := by decide +kernel
theorem dyX11_young_11 : decode cX11_young 11 = .ok (.iconst (-1), 1) := by decide +kernel
theorem dyX11_young_12 : decode cX11_young 12 = .ok (.ireturn, 1) := by decide +kernel
theorem dyX11_young_13 : decode cX11_young 13 = .ok (.aload_n 0, 1) := by decide +kernel
theorem dyX11_young_14 : decode cX11_young 14 = .ok (.getfield 44, 3) := by decide +kernel
theorem dyX11_young_17 : decode cX11_young 17 = .ok (.aload_n 0, 1) := by decide +kernel
theorem dyX11_young_18 : decode cX11_young 18 = .ok (.getfield 44, 3) := by decide +kernel
theorem dyX11_young_21 : decode cX11_young 21 = .ok (.getfield 306, 3) := by decide +kernel
theorem dyX11_young_24 : decode cX11_young 24 = .ok (.iload_n 1, 1) := by decide +kernel
theorem dyX11_young_25 : decode cX11_young 25 = .ok (.invokevirtual 166, 3) := by decide +kernel
theorem dyX11_young_28 : decode cX11_young 28 = .ok (.aload_n 0, 1) := by decide +kernel
theorem dyX11_young_29 : decode cX11_young 29 = .ok (.getfield 309, 3) := by decide +kernel
theorem dyX11_young_32 : decode cX11_young 32 = .ok (.invokevirtual 312, 3) := by decide +kernel
theorem dyX11_young_35 : decode cX11_young 35 = .ok (.ireturn, 1) := by decide +kernel
theorem zsg_yX11_young : yX11_young.cls = RX11 ∧ yX11_young.cls ≠ "java/lang/invoke/MethodHandle" ∧ yX11_young.cls ≠ "java/lang/invoke/VarHandle" ∧ (parseMethodDescriptor yX11_young.desc).map (fun d => d.parameters.length) = some 1 := by decide +kernel
set_option maxRecDepth 20000 in
theorem c_Desk_young {l : Launch} {D : va_G} {B : Nat} {cA : Nat → ClassId} {ad : Nat → Nat} {S : List zC} (hS : zOkX S) {a1 : Int32} {I : zI} {K : Int32 → Prop}  (h : w_Desk_young a1 I K) : Met l yX11_young (zws yX11_young cX11_young 2 (some .int)) (zrm 3 68) (zPc D B cA ad [.ref (B + 0), .int a1] S I) (zQc D B cA (zpI S I K)) 0 0 (fun q => B ≤ q) := by
  refine zm_of (cc := cX11_young) (maxL := 2) (ret := (some .int)) (by decide +kernel) rfl (Nat.le_of_ble_eq_true rfl) trivial ?_
  intro p e s m args below meth c C _
  unfold w_Desk_young at h
  show zX p l e (zrm 3 68) s m args below meth c (MQ below (zQc D B cA (zpI S I K)) args s 0 0 (fun q => B ≤ q)) D B cA 2 0 0 S I [(0, .ref (B + 0)), (1, .int a1)] [] 0
  refine zr_aload_n C dyX11_young_0 rfl 0 rfl ?_
  refine zg_11_44 C hS dyX11_young_1 ?_
  refine zr_iload_n C dyX11_young_4 rfl 1 rfl ?_
  refine zv_11_187 C hS (st := []) h ⟨Nat.le_of_ble_eq_true rfl, Nat.le_of_ble_eq_true rfl⟩ (Nat.le_of_ble_eq_true rfl) dyX11_young_5 (fun r_1 h => ?_)
  refine zr_if_ne C dyX11_young_8 (tgt := 13) (by decide) (fun hc_4 => ?_) (fun hc_4 => ?_)
  · replace h := zif_neg hc_4 h
    refine zr_aload_n C dyX11_young_13 rfl 0 rfl ?_
    refine zg_11_44 C hS dyX11_young_14 ?_
    refine zr_aload_n C dyX11_young_17 rfl 0 rfl ?_
    refine zg_11_44 C hS dyX11_young_18 ?_
    refine zg_11_306 C hS dyX11_young_21 ?_
    refine zr_iload_n C dyX11_young_24 rfl 1 rfl ?_
    refine zv_11_166 C hS (zIsRow.of hS zir_62) (st := [.ref (B + 43)]) h ⟨Nat.le_of_ble_eq_true rfl, Nat.le_of_ble_eq_true rfl⟩ (Nat.le_of_ble_eq_true rfl) dyX11_young_25 (fun r_2 h => ?_)
    refine zr_aload_n C dyX11_young_28 rfl 0 rfl ?_
    refine zg_11_309 C hS dyX11_young_29 ?_
    refine zv_11_312 C hS (st := []) h ⟨Nat.le_of_ble_eq_true rfl, Nat.le_of_ble_eq_true rfl⟩ (Nat.le_of_ble_eq_true rfl) dyX11_young_32 (fun r_3 h => ?_)
    exact zr_iret C rfl dyX11_young_35 ⟨rfl, rfl, _, rfl, h⟩
  · replace h := zif_pos hc_4 h
    refine zr_iconst C dyX11_young_11 zc_i_m1 ?_
    exact zr_iret C rfl dyX11_young_12 ⟨rfl, rfl, _, rfl, h⟩
theorem zg_11_122 {p : Program} {l : Launch} {e : Env} {R : Room} {s : State} {m : MethodId} {args : Array Value} {below : List Frame} {meth : Method} {c : Code} {Q : State → Prop} {D : va_G} {B : Nat} {cA : Nat → ClassId} {ad : Nat → Nat} {cc : ByteArray} {nL : Nat} {ret : Option FieldType} {S : List zC} {I : zI} {lv : List (Nat × Value)} {st : List Value} {pc : Nat} (C : zCx p s m args meth c cc nL RX11 ret D B cA ad) {k : Nat} (hk : zIsMoment S k) (hd : decode cc pc = .ok (.getfield 122, 3)) (kk : zX p l e R s m args below meth c Q D B cA nL 0 0 S I lv (.int (I.1 k 8) :: st) (pc + 3)) : zX p l e R s m args below meth c Q D B cA nL 0 0 S I lv (.ref (B + k) :: st) pc :=
  zr_geti C (ci := 2) (Cn := RX2) (T := TX2) (N := 9) (k := k) (j := 8) (fs := [some (some (k + 1)), none, some (some (k + 3)), none, some (some (k + 14)), some (some (k + 16)), none, none, none]) rfl zin_2 (Nat.le_of_ble_eq_true rfl) rfl hk.1 rfl zk_fl_11_122 hd kk
theorem zv_11_315 {p : Program} {l : Launch} {e : Env} {R : Room} {s : State} {m : MethodId} {args : Array Value} {below : List Frame} {meth : Method} {c : Code} {Q : State → Prop} {D : va_G} {B : Nat} {cA : Nat → ClassId} {ad : Nat → Nat} {cc : ByteArray} {nL : Nat} {ret : Option FieldType} {S : List zC} {I : zI} {lv : List (Nat × Value)} {st : List Value} {pc : Nat} (C : zCx p s m args meth c cc nL RX11 ret D B cA ad) {K : Int32 → Prop} {xa0 : Int32} (hS : zOkX S)  (h : w_Pairs_depthOf xa0 I K) (hR : 0 + 1 ≤ R.frames ∧ 8 + (2 + 11) + (0) ≤ R.locals) (hw : (st.map fun v => v.category).sum ≤ 8) (hd : decode cc pc = .ok (.invokestatic 315, 3)) (kk : ∀ v, K v → zX p l e R s m args below meth c Q D B cA nL 0 0 S I lv (.int v :: st) (pc + 3)) : zX p l e R s m args below meth c Q D B cA nL 0 0 S I lv (.int xa0 :: st) pc :=
  have hf : 0 ≤ R.cells ∧ 0 ≤ R.slots := ⟨Nat.zero_le _, Nat.zero_le _⟩
  zc_SpI C (As := [.int xa0]) (st := st) (c_Pairs_depthOf hS h) (zgM zk_cd_yX4_depthOf) zk_ml_11_315 zk_st_yX4_depthOf zk_in_4 zsg_yX4_depthOf hR rfl rfl hw hd hf kk
def w_Desk_row (a1 : Int32) (I : zI) (K : Int32 → Prop) : Prop :=
  (if a1 = 0 then (w_Desk_now I (fun r_2 => K (I.1 r_2 8))) else (if a1 = 1 then (w_Pairs_depthOf (I.1 43 11) I (fun r_4 => K r_4)) else (K (-1))))
theorem dyX11_row_0 : decode cX11_row 0 = .ok (.iload_n 1, 1) := by decide +kernel
theorem dyX11_row_1 : decode cX11_row 1 = .ok (.lookupswitch 46 #[(0, 27), (1, 35)], 27) := by decide +kernel
theorem dyX11_row_28 : decode cX11_row 28 = .ok (.aload_n 0, 1) := by decide +kernel
theorem dyX11_row_29 : decode cX11_row 29 = .ok (.invokevirtual 126, 3) := by decide +kernel
theorem dyX11_row_32 : decode cX11_row 32 = .ok (.getfield 122, 3) := by decide +kernel
theorem dyX11_row_35 : decode cX11_row 35 = .ok (.ireturn, 1) := by decide +kernel
theorem dyX11_row_36 : decode cX11_row 36 = .ok (.aload_n 0, 1) := by decide +kernel
theorem dyX11_row_37 : decode cX11_row 37 = .ok (.getfield 44, 3) := by decide +kernel
theorem dyX11_row_40 : decode cX11_row 40 = .ok (.getfield 303, 3) := by decide +kernel
theorem dyX11_row_43 : decode cX11_row 43 = .ok (.invokestatic 315, 3) := by decide +kernel
theorem dyX11_row_46 : decode cX11_row 46 = .ok (.ireturn, 1) := by decide +kernel
theorem dyX11_row_47 : decode cX11_row 47 = .ok (.iconst (-1), 1) := by decide +kernel
theorem dyX11_row_48 : decode cX11_row 48 = .ok (.ireturn, 1) := by decide +kernel
theorem zsg_yX11_row : yX11_row.cls = RX11 ∧ yX11_row.cls ≠ "java/lang/invoke/MethodHandle" ∧ yX11_row.cls ≠ "java/lang/invoke/VarHandle" ∧ (parseMethodDescriptor yX11_row.desc).map (fun d => d.parameters.length) = some 1 := by decide +kernel
set_option maxRecDepth 20000 in
theorem c_Desk_row {l : Launch} {D : va_G} {B : Nat} {cA : Nat → ClassId} {ad : Nat → Nat} {S : List zC} (hS : zOkX S) {a1 : Int32} {I : zI} {K : Int32 → Prop}  (h : w_Desk_row a1 I K) : Met l yX11_row (zws yX11_row cX11_row 2 (some .int)) (zrm 1 21) (zPc D B cA ad [.ref (B + 0), .int a1] S I) (zQc D B cA (zpI S I K)) 0 0 (fun q => B ≤ q) := by
  refine zm_of (cc := cX11_row) (maxL := 2) (ret := (some .int)) (by decide +kernel) rfl (Nat.le_of_ble_eq_true rfl) trivial ?_
  intro p e s m args below meth c C _
  unfold w_Desk_row at h
  show zX p l e (zrm 1 21) s m args below meth c (MQ below (zQc D B cA (zpI S I K)) args s 0 0 (fun q => B ≤ q)) D B cA 2 0 0 S I [(0, .ref (B + 0)), (1, .int a1)] [] 0
  refine zr_iload_n C dyX11_row_0 rfl 1 rfl ?_
  by_cases hc_1 : a1 = 0
  · replace h := zif_pos hc_1 h
    refine zr_lookup C dyX11_row_1 (by decide) (off := 27) (by rw [hc_1]; decide) (tgt := 28) (by decide) ?_
    refine zr_aload_n C dyX11_row_28 rfl 0 rfl ?_
    refine zv_11_126 C hS (st := []) h ⟨Nat.le_of_ble_eq_true rfl, Nat.le_of_ble_eq_true rfl⟩ (Nat.le_of_ble_eq_true rfl) dyX11_row_29 (fun r_2 hr_2 h => ?_)
    refine zg_11_122 C hr_2 dyX11_row_32 ?_
    exact zr_iret C rfl dyX11_row_35 ⟨rfl, rfl, _, rfl, h⟩
  replace h := zif_neg hc_1 h
  by_cases hc_3 : a1 = 1
  · replace h := zif_pos hc_3 h
    refine zr_lookup C dyX11_row_1 (by decide) (off := 35) (by rw [hc_3]; decide) (tgt := 36) (by decide) ?_
    refine zr_aload_n C dyX11_row_36 rfl 0 rfl ?_
    refine zg_11_44 C hS dyX11_row_37 ?_
    refine zg_11_303 C hS dyX11_row_40 ?_
    refine zv_11_315 C hS (st := []) h ⟨Nat.le_of_ble_eq_true rfl, Nat.le_of_ble_eq_true rfl⟩ (Nat.le_of_ble_eq_true rfl) dyX11_row_43 (fun r_4 h => ?_)
    exact zr_iret C rfl dyX11_row_46 ⟨rfl, rfl, _, rfl, h⟩
  replace h := zif_neg hc_3 h
  refine zr_lookup C dyX11_row_1 (by decide) (off := 46) (by show Op.lookupswitch.offset [(0, 27), (1, 35)] 46 a1.toInt = _; rw [lv_osw hc_1 (by decide), lv_osw hc_3 (by decide)]; rfl) (tgt := 47) (by decide) ?_
  refine zr_iconst C dyX11_row_47 zc_i_m1 ?_
  exact zr_iret C rfl dyX11_row_48 ⟨rfl, rfl, _, rfl, h⟩
theorem zg_11_319 {p : Program} {l : Launch} {e : Env} {R : Room} {s : State} {m : MethodId} {args : Array Value} {below : List Frame} {meth : Method} {c : Code} {Q : State → Prop} {D : va_G} {B : Nat} {cA : Nat → ClassId} {ad : Nat → Nat} {cc : ByteArray} {nL : Nat} {ret : Option FieldType} {S : List zC} {I : zI} {lv : List (Nat × Value)} {st : List Value} {pc : Nat} (C : zCx p s m args meth c cc nL RX11 ret D B cA ad) (hS : zOkX S) (hd : decode cc pc = .ok (.getfield 319, 3)) (kk : zX p l e R s m args below meth c Q D B cA nL 0 0 S I lv (.ref (B + 89) :: st) (pc + 3)) : zX p l e R s m args below meth c Q D B cA nL 0 0 S I lv (.ref (B + 88) :: st) pc :=
  zr_getr C (ci := 4) (Cn := RX4) (T := TX4) (N := 5) (k := 88) (j := 0) (fs := [some (some 89), some (some 91), some (some 93), some (some 95), none]) rfl zin_4 (Nat.le_of_ble_eq_true rfl) rfl (hS _ _ zs_88) rfl zk_fl_11_319 hd kk
theorem zg_11_322 {p : Program} {l : Launch} {e : Env} {R : Room} {s : State} {m : MethodId} {args : Array Value} {below : List Frame} {meth : Method} {c : Code} {Q : State → Prop} {D : va_G} {B : Nat} {cA : Nat → ClassId} {ad : Nat → Nat} {cc : ByteArray} {nL : Nat} {ret : Option FieldType} {S : List zC} {I : zI} {lv : List (Nat × Value)} {st : List Value} {pc : Nat} (C : zCx p s m args meth c cc nL RX11 ret D B cA ad) (hS : zOkX S) (hd : decode cc pc = .ok (.getfield 322, 3)) (kk : zX p l e R s m args below meth c Q D B cA nL 0 0 S I lv (.ref (B + 91) :: st) (pc + 3)) : zX p l e R s m args below meth c Q D B cA nL 0 0 S I lv (.ref (B + 88) :: st) pc :=
  zr_getr C (ci := 4) (Cn := RX4) (T := TX4) (N := 5) (k := 88) (j := 1) (fs := [some (some 89), some (some 91), some (some 93), some (some 95), none]) rfl zin_4 (Nat.le_of_ble_eq_true rfl) rfl (hS _ _ zs_88) rfl zk_fl_11_322 hd kk
def w_Desk_pair (a1 : Int32) (a2 : Int32) (I : zI) (K : Int32 → Prop) : Prop :=
  (if a1 < 0 then (K (-1)) else (if a1 < (I.1 88 4) then (if a2 = 0 then (w_Row_get 89 4000 a1 I (fun r_2 => K r_2)) else (if a2 = 1 then (w_Row_get 91 4000 a1 I (fun r_4 => K r_4)) else (K (-1)))) else (K (-1))))
theorem dyX11_pair_0 : decode cX11_pair 0 = .ok (.iload_n 1, 1) := by decide +kernel
theorem dyX11_pair_1 : decode cX11_pair 1 = .ok (.ifCond .lt 14, 3) := by decide +kernel
theorem dyX11_pair_4 : decode cX11_pair 4 = .ok (.iload_n 1, 1) := by decide +kernel
theorem dyX11_pair_5 : decode cX11_pair 5 = .ok (.aload_n 0, 1) := by decide +kernel
theorem dyX11_pair_6 : decode cX11_pair 6 = .ok (.getfield 67, 3) := by decide +kernel
theorem dyX11_pair_9 : decode cX11_pair 9 = .ok (.getfield 318, 3) := by decide +kernel
theorem dyX11_pair_12 : decode cX11_pair 12 = .ok (.if_icmp .lt 5, 3) := by decide +kernel
theorem dyX11_pair_15 : decode cX11_pair 15 = .ok (.iconst (-1), 1) := by decide +kernel
theorem dyX11_pair_16 : decode cX11_pair 16 = .ok (.ireturn, 1) := by decide +kernel
theorem dyX11_pair_17 : decode cX11_pair 17 = .ok (.iload_n 2, 1) := by decide +kernel
theorem dyX11_pair_18 : decode cX11_pair 18 = .ok (.lookupswitch 50 #[(0, 26), (1, 38)], 26) := by decide +kernel
theorem dyX11_pair_44 : decode cX11_pair 44 = .ok (.aload_n 0, 1) := by decide +kernel
theorem dyX11_pair_45 : decode cX11_pair 45 = .ok (.getfield 67, 3) := by decide +kernel
theorem dyX11_pair_48 : decode cX11_pair 48 = .ok (.getfield 319, 3) := by decide +kernel
theorem dyX11_pair_51 : decode cX11_pair 51 = .ok (.iload_n 1, 1) := by decide +kernel
theorem dyX11_pair_52 : decode cX11_pair 52 = .ok (.invokevirtual 166, 3) := by decide +kernel
theorem dyX11_pair_55 : decode cX11_pair 55 = .ok (.ireturn, 1) := by decide +kernel
theorem dyX11_pair_56 : decode cX11_pair 56 = .ok (.aload_n 0, 1) := by decide +kernel
theorem dyX11_pair_57 : decode cX11_pair 57 = .ok (.getfield 67, 3) := by decide +kernel
theorem dyX11_pair_60 : decode cX11_pair 60 = .ok (.getfield 322, 3) := by decide +kernel
theorem dyX11_pair_63 : decode cX11_pair 63 = .ok (.iload_n 1, 1) := by decide +kernel
theorem dyX11_pair_64 : decode cX11_pair 64 = .ok (.invokevirtual 166, 3) := by decide +kernel
theorem dyX11_pair_67 : decode cX11_pair 67 = .ok (.ireturn, 1) := by decide +kernel
theorem dyX11_pair_68 : decode cX11_pair 68 = .ok (.iconst (-1), 1) := by decide +kernel
theorem dyX11_pair_69 : decode cX11_pair 69 = .ok (.ireturn, 1) := by decide +kernel
theorem zsg_yX11_pair : yX11_pair.cls = RX11 ∧ yX11_pair.cls ≠ "java/lang/invoke/MethodHandle" ∧ yX11_pair.cls ≠ "java/lang/invoke/VarHandle" ∧ (parseMethodDescriptor yX11_pair.desc).map (fun d => d.parameters.length) = some 2 := by decide +kernel
set_option maxRecDepth 20000 in
theorem c_Desk_pair {l : Launch} {D : va_G} {B : Nat} {cA : Nat → ClassId} {ad : Nat → Nat} {S : List zC} (hS : zOkX S) {a1 : Int32} {a2 : Int32} {I : zI} {K : Int32 → Prop}  (h : w_Desk_pair a1 a2 I K) : Met l yX11_pair (zws yX11_pair cX11_pair 3 (some .int)) (zrm 1 21) (zPc D B cA ad [.ref (B + 0), .int a1, .int a2] S I) (zQc D B cA (zpI S I K)) 0 0 (fun q => B ≤ q) := by
  refine zm_of (cc := cX11_pair) (maxL := 3) (ret := (some .int)) (by decide +kernel) rfl (Nat.le_of_ble_eq_true rfl) trivial ?_
  intro p e s m args below meth c C _
  unfold w_Desk_pair at h
  show zX p l e (zrm 1 21) s m args below meth c (MQ below (zQc D B cA (zpI S I K)) args s 0 0 (fun q => B ≤ q)) D B cA 3 0 0 S I [(0, .ref (B + 0)), (1, .int a1), (2, .int a2)] [] 0
  refine zr_iload_n C dyX11_pair_0 rfl 1 rfl ?_
  refine zr_if_lt C dyX11_pair_1 (tgt := 15) (by decide) (fun hc_6 => ?_) (fun hc_6 => ?_)
  · replace h := zif_pos hc_6 h
    refine zr_iconst C dyX11_pair_15 zc_i_m1 ?_
    exact zr_iret C rfl dyX11_pair_16 ⟨rfl, rfl, _, rfl, h⟩
  · replace h := zif_neg hc_6 h
    refine zr_iload_n C dyX11_pair_4 rfl 1 rfl ?_
    refine zr_aload_n C dyX11_pair_5 rfl 0 rfl ?_
    refine zg_11_67 C hS dyX11_pair_6 ?_
    refine zg_11_318 C hS dyX11_pair_9 ?_
    refine zr_icmp_lt C dyX11_pair_12 (tgt := 17) (by decide) (fun hc_5 => ?_) (fun hc_5 => ?_)
    · replace h := zif_pos hc_5 h
      refine zr_iload_n C dyX11_pair_17 rfl 2 rfl ?_
      by_cases hc_1 : a2 = 0
      · replace h := zif_pos hc_1 h
        refine zr_lookup C dyX11_pair_18 (by decide) (off := 26) (by rw [hc_1]; decide) (tgt := 44) (by decide) ?_
        refine zr_aload_n C dyX11_pair_44 rfl 0 rfl ?_
        refine zg_11_67 C hS dyX11_pair_45 ?_
        refine zg_11_319 C hS dyX11_pair_48 ?_
        refine zr_iload_n C dyX11_pair_51 rfl 1 rfl ?_
        refine zv_11_166 C hS (zIsRow.of hS zir_89) (st := []) h ⟨Nat.le_of_ble_eq_true rfl, Nat.le_of_ble_eq_true rfl⟩ (Nat.le_of_ble_eq_true rfl) dyX11_pair_52 (fun r_2 h => ?_)
        exact zr_iret C rfl dyX11_pair_55 ⟨rfl, rfl, _, rfl, h⟩
      replace h := zif_neg hc_1 h
      by_cases hc_3 : a2 = 1
      · replace h := zif_pos hc_3 h
        refine zr_lookup C dyX11_pair_18 (by decide) (off := 38) (by rw [hc_3]; decide) (tgt := 56) (by decide) ?_
        refine zr_aload_n C dyX11_pair_56 rfl 0 rfl ?_
        refine zg_11_67 C hS dyX11_pair_57 ?_
        refine zg_11_322 C hS dyX11_pair_60 ?_
        refine zr_iload_n C dyX11_pair_63 rfl 1 rfl ?_
        refine zv_11_166 C hS (zIsRow.of hS zir_91) (st := []) h ⟨Nat.le_of_ble_eq_true rfl, Nat.le_of_ble_eq_true rfl⟩ (Nat.le_of_ble_eq_true rfl) dyX11_pair_64 (fun r_4 h => ?_)
        exact zr_iret C rfl dyX11_pair_67 ⟨rfl, rfl, _, rfl, h⟩
      replace h := zif_neg hc_3 h
      refine zr_lookup C dyX11_pair_18 (by decide) (off := 50) (by show Op.lookupswitch.offset [(0, 26), (1, 38)] 50 a2.toInt = _; rw [lv_osw hc_1 (by decide), lv_osw hc_3 (by decide)]; rfl) (tgt := 68) (by decide) ?_
      refine zr_iconst C dyX11_pair_68 zc_i_m1 ?_
      exact zr_iret C rfl dyX11_pair_69 ⟨rfl, rfl, _, rfl, h⟩
    · replace h := zif_neg hc_5 h
      refine zr_iconst C dyX11_pair_15 zc_i_m1 ?_
      exact zr_iret C rfl dyX11_pair_16 ⟨rfl, rfl, _, rfl, h⟩
def w_Desk_isGoodName (a1 : Int32) (I : zI) (K : Int32 → Prop) : Prop :=
  w_Desk_now I (fun r_1 => w_Moment_hasGood r_1 a1 I (fun r_2 => (if r_2 = 0 then K 0 else (w_Row_get (r_1 + 14) 100 a1 I (fun r_3 => w_Row_get 27 3400 r_3 I (fun r_4 => (if r_4 = 5 then K 1 else K 0)))))))
theorem dyX11_isGoodName_0 : decode cX11_isGoodName 0 = .ok (.aload_n 0, 1) := by decide +kernel
theorem dyX11_isGoodName_1 : decode cX11_isGoodName 1 = .ok (.invokevirtual 126, 3) := by decide +kernel
theorem dyX11_isGoodName_4 : decode cX11_isGoodName 4 = .ok (.astore_n 2, 1) := by decide +kernel
theorem dyX11_isGoodName_5 : decode cX11_isGoodName 5 = .ok (.aload_n 2, 1) := by decide +kernel
theorem dyX11_isGoodName_6 : decode cX11_isGoodName 6 = .ok (.iload_n 1, 1) := by decide +kernel
theorem dyX11_isGoodName_7 : decode cX11_isGoodName 7 = .ok (.invokevirtual 209, 3) := by decide +kernel
theorem dyX11_isGoodName_10 : decode cX11_isGoodName 10 = .ok (.ifCond .eq 29, 3) := by decide +kernel
theorem dyX11_isGoodName_13 : decode cX11_isGoodName 13 = .ok (.aload_n 0, 1) := by decide +kernel
theorem dyX11_isGoodName_14 : decode cX11_isGoodName 14 = .ok (.getfield 35, 3) := by decide +kernel
theorem dyX11_isGoodName_17 : decode cX11_isGoodName 17 = .ok (.getfield 237, 3) := by decide +kernel
theorem dyX11_isGoodName_20 : decode cX11_isGoodName 20 = .ok (.aload_n 2, 1) := by decide +kernel
theorem dyX11_isGoodName_21 : decode cX11_isGoodName 21 = .ok (.getfield 115, 3) := by decide +kernel
theorem dyX11_isGoodName_24 : decode cX11_isGoodName 24 = .ok (.iload_n 1, 1) := by decide +kernel
theorem dyX11_isGoodName_25 : decode cX11_isGoodName 25 = .ok (.invokevirtual 166, 3) := by decide +kernel
theorem dyX11_isGoodName_28 : decode cX11_isGoodName 28 = .ok (.invokevirtual 166, 3) := by decide +kernel
theorem dyX11_isGoodName_31 : decode cX11_isGoodName 31 = .ok (.iconst 5, 1) := by decide +kernel
theorem dyX11_isGoodName_32 : decode cX11_isGoodName 32 = .ok (.if_icmp .ne 7, 3) := by decide +kernel
theorem dyX11_isGoodName_35 : decode cX11_isGoodName 35 = .ok (.iconst 1, 1) := by decide +kernel
theorem dyX11_isGoodName_36 : decode cX11_isGoodName 36 = .ok (.goto 4, 3) := by decide +kernel
theorem dyX11_isGoodName_39 : decode cX11_isGoodName 39 = .ok (.iconst 0, 1) := by decide +kernel
theorem dyX11_isGoodName_40 : decode cX11_isGoodName 40 = .ok (.ireturn, 1) := by decide +kernel
theorem zsg_yX11_isGoodName : yX11_isGoodName.cls = RX11 ∧ yX11_isGoodName.cls ≠ "java/lang/invoke/MethodHandle" ∧ yX11_isGoodName.cls ≠ "java/lang/invoke/VarHandle" ∧ (parseMethodDescriptor yX11_isGoodName.desc).map (fun d => d.parameters.length) = some 1 := by decide +kernel
set_option maxRecDepth 20000 in
theorem c_Desk_isGoodName {l : Launch} {D : va_G} {B : Nat} {cA : Nat → ClassId} {ad : Nat → Nat} {S : List zC} (hS : zOkX S) {a1 : Int32} {I : zI} {K : Int32 → Prop}  (h : w_Desk_isGoodName a1 I K) : Met l yX11_isGoodName (zws yX11_isGoodName cX11_isGoodName 3 (some .boolean)) (zrm 1 21) (zPc D B cA ad [.ref (B + 0), .int a1] S I) (zQc D B cA (zpI S I K)) 0 0 (fun q => B ≤ q) := by
  refine zm_of (cc := cX11_isGoodName) (maxL := 3) (ret := (some .boolean)) (by decide +kernel) rfl (Nat.le_of_ble_eq_true rfl) trivial ?_
  intro p e s m args below meth c C _
  unfold w_Desk_isGoodName at h
  show zX p l e (zrm 1 21) s m args below meth c (MQ below (zQc D B cA (zpI S I K)) args s 0 0 (fun q => B ≤ q)) D B cA 3 0 0 S I [(0, .ref (B + 0)), (1, .int a1)] [] 0
  refine zr_aload_n C dyX11_isGoodName_0 rfl 0 rfl ?_
  refine zv_11_126 C hS (st := []) h ⟨Nat.le_of_ble_eq_true rfl, Nat.le_of_ble_eq_true rfl⟩ (Nat.le_of_ble_eq_true rfl) dyX11_isGoodName_1 (fun r_1 hr_1 h => ?_)
  refine zr_astore_n C dyX11_isGoodName_4 rfl (Nat.le_of_ble_eq_true rfl) (lv2 := [(2, .ref (B + r_1)), (0, .ref (B + 0)), (1, .int a1)]) rfl ?_
  refine zr_aload_n C dyX11_isGoodName_5 rfl 0 rfl ?_
  refine zr_iload_n C dyX11_isGoodName_6 rfl 2 rfl ?_
  refine zv_11_209 C hS hr_1 (st := []) h ⟨Nat.le_of_ble_eq_true rfl, Nat.le_of_ble_eq_true rfl⟩ (Nat.le_of_ble_eq_true rfl) dyX11_isGoodName_7 (fun r_2 h => ?_)
  refine zr_if_eq C dyX11_isGoodName_10 (tgt := 39) (by decide) (fun hc_6 => ?_) (fun hc_6 => ?_)
  · replace h := zif_pos hc_6 h
    refine zr_iconst C dyX11_isGoodName_39 zc_i_0 ?_
    exact zr_zret C rfl (zb.nar zb_0) dyX11_isGoodName_40 ⟨rfl, rfl, _, rfl, h⟩
  · replace h := zif_neg hc_6 h
    refine zr_aload_n C dyX11_isGoodName_13 rfl 1 rfl ?_
    refine zg_11_35 C hS dyX11_isGoodName_14 ?_
    refine zg_11_237 C hS dyX11_isGoodName_17 ?_
    refine zr_aload_n C dyX11_isGoodName_20 rfl 0 rfl ?_
    refine zg_11_115 C hr_1 dyX11_isGoodName_21 ?_
    refine zr_iload_n C dyX11_isGoodName_24 rfl 2 rfl ?_
    refine zv_11_166 C hS hr_1.2.2.2.1 (st := [.ref (B + 27)]) h ⟨Nat.le_of_ble_eq_true rfl, Nat.le_of_ble_eq_true rfl⟩ (Nat.le_of_ble_eq_true rfl) dyX11_isGoodName_25 (fun r_3 h => ?_)
    refine zv_11_166 C hS (zIsRow.of hS zir_27) (st := []) h ⟨Nat.le_of_ble_eq_true rfl, Nat.le_of_ble_eq_true rfl⟩ (Nat.le_of_ble_eq_true rfl) dyX11_isGoodName_28 (fun r_4 h => ?_)
    refine zr_iconst C dyX11_isGoodName_31 zc_i_5 ?_
    refine zr_icmp_ne C dyX11_isGoodName_32 (tgt := 39) (by decide) (fun hc_5 => ?_) (fun hc_5 => ?_)
    · replace h := zif_neg hc_5 h
      refine zr_iconst C dyX11_isGoodName_39 zc_i_0 ?_
      exact zr_zret C rfl (zb.nar zb_0) dyX11_isGoodName_40 ⟨rfl, rfl, _, rfl, h⟩
    · replace h := zif_pos hc_5 h
      refine zr_iconst C dyX11_isGoodName_35 zc_i_1 ?_
      refine zr_goto C dyX11_isGoodName_36 (tgt := 40) (by decide) ?_
      exact zr_zret C rfl (zb.nar zb_1) dyX11_isGoodName_40 ⟨rfl, rfl, _, rfl, h⟩
theorem zv_11_325 {p : Program} {l : Launch} {e : Env} {R : Room} {s : State} {m : MethodId} {args : Array Value} {below : List Frame} {meth : Method} {c : Code} {Q : State → Prop} {D : va_G} {B : Nat} {cA : Nat → ClassId} {ad : Nat → Nat} {cc : ByteArray} {nL : Nat} {ret : Option FieldType} {S : List zC} {I : zI} {lv : List (Nat × Value)} {st : List Value} {pc : Nat} (C : zCx p s m args meth c cc nL RX11 ret D B cA ad) {K : Int32 → Prop} {xa1 : Int32} (hS : zOkX S)  (h : w_Desk_isGoodName xa1 I K) (hR : 1 + 1 ≤ R.frames ∧ 8 + (3 + 11) + (21) ≤ R.locals) (hw : (st.map fun v => v.category).sum ≤ 8) (hd : decode cc pc = .ok (.invokevirtual 325, 3)) (kk : ∀ v, K v → zX p l e R s m args below meth c Q D B cA nL 0 0 S I lv (.int v :: st) (pc + 3)) : zX p l e R s m args below meth c Q D B cA nL 0 0 S I lv (.int xa1 :: .ref (B + 0) :: st) pc :=
  have hf : 0 ≤ R.cells ∧ 0 ≤ R.slots := ⟨Nat.zero_le _, Nat.zero_le _⟩
  zc_VpI C (ci := 11) (q := (RX11, TX11, 19)) (k := 0) (fs := [some (some 1), none, some (some 3), some (some 4), none, none, none, none, some (some 22), some (some 24), some (some 43), some (some 64), some (some 69), some (some 88), some (some 97), some (some 100), some (some 109), some (some 111), none]) (As := [.int xa1]) (st := st) rfl (hS _ _ zs_0) (c_Desk_isGoodName hS h) (zgV zk_ml_11_325 zk_im_yX11_isGoodName zk_se_yX11_isGoodName zk_in_11 zk_cd_yX11_isGoodName) zsg_yX11_isGoodName hR rfl rfl hw hd hf kk
theorem zv_11_328 {p : Program} {l : Launch} {e : Env} {R : Room} {s : State} {m : MethodId} {args : Array Value} {below : List Frame} {meth : Method} {c : Code} {Q : State → Prop} {D : va_G} {B : Nat} {cA : Nat → ClassId} {ad : Nat → Nat} {cc : ByteArray} {nL : Nat} {ret : Option FieldType} {S : List zC} {I : zI} {lv : List (Nat × Value)} {st : List Value} {pc : Nat} (C : zCx p s m args meth c cc nL RX11 ret D B cA ad) {K : Int32 → Prop} {xa1 : Int32} (hS : zOkX S)  (h : w_Runner_valueOf xa1 I K) (hR : 1 + 1 ≤ R.frames ∧ 8 + (2 + 11) + (21) ≤ R.locals) (hw : (st.map fun v => v.category).sum ≤ 8) (hd : decode cc pc = .ok (.invokevirtual 328, 3)) (kk : ∀ v, K v → zX p l e R s m args below meth c Q D B cA nL 0 0 S I lv (.int v :: st) (pc + 3)) : zX p l e R s m args below meth c Q D B cA nL 0 0 S I lv (.int xa1 :: .ref (B + 69) :: st) pc :=
  have hf : 0 ≤ R.cells ∧ 0 ≤ R.slots := ⟨Nat.zero_le _, Nat.zero_le _⟩
  zc_VpI C (ci := 7) (q := (RX7, TX7, 17)) (k := 69) (fs := [some (some 24), some (some 43), some (some 70), some (some 72), some (some 74), some (some 76), some (some 78), some (some 80), some (some 82), some (some 84), some (some 86), none, none, none, none, none, none]) (As := [.int xa1]) (st := st) rfl (hS _ _ zs_69) (c_Runner_valueOf hS h) (zgV zk_ml_11_328 zk_im_yX7_valueOf zk_se_yX7_valueOf zk_in_7 zk_cd_yX7_valueOf) zsg_yX7_valueOf hR rfl rfl hw hd hf kk
def w_Desk_value (a1 : Int32) (I : zI) (K : Int32 → Prop) : Prop :=
  w_Desk_isGoodName a1 I (fun r_1 => (if r_1 = 0 then K 0 else (w_Runner_valueOf a1 I (fun r_2 => K r_2))))
theorem dyX11_value_0 : decode cX11_value 0 = .ok (.aload_n 0, 1) := by decide +kernel
theorem dyX11_value_1 : decode cX11_value 1 = .ok (.iload_n 1, 1) := by decide +kernel
theorem dyX11_value_2 : decode cX11_value 2 = .ok (.invokevirtual 325, 3) := by decide +kernel
theorem dyX11_value_5 : decode cX11_value 5 = .ok (.ifCond .eq 14, 3) := by decide +kernel
theorem dyX11_value_8 : decode cX11_value 8 = .ok (.aload_n 0, 1) := by decide +kernel
theorem dyX11_value_9 : decode cX11_value 9 = .ok (.getfield 60, 3) := by decide +kernel
theorem dyX11_value_12 : decode cX11_value 12 = .ok (.iload_n 1, 1) := by decide +kernel
theorem dyX11_value_13 : decode cX11_value 13 = .ok (.invokevirtual 328, 3) := by decide +kernel
theorem dyX11_value_16 : decode cX11_value 16 = .ok (.goto 4, 3) := by decide +kernel
theorem dyX11_value_19 : decode cX11_value 19 = .ok (.iconst 0, 1) := by decide +kernel
theorem dyX11_value_20 : decode cX11_value 20 = .ok (.ireturn, 1) := by decide +kernel
theorem zsg_yX11_value : yX11_value.cls = RX11 ∧ yX11_value.cls ≠ "java/lang/invoke/MethodHandle" ∧ yX11_value.cls ≠ "java/lang/invoke/VarHandle" ∧ (parseMethodDescriptor yX11_value.desc).map (fun d => d.parameters.length) = some 1 := by decide +kernel
set_option maxRecDepth 20000 in
theorem c_Desk_value {l : Launch} {D : va_G} {B : Nat} {cA : Nat → ClassId} {ad : Nat → Nat} {S : List zC} (hS : zOkX S) {a1 : Int32} {I : zI} {K : Int32 → Prop}  (h : w_Desk_value a1 I K) : Met l yX11_value (zws yX11_value cX11_value 2 (some .int)) (zrm 2 43) (zPc D B cA ad [.ref (B + 0), .int a1] S I) (zQc D B cA (zpI S I K)) 0 0 (fun q => B ≤ q) := by
  refine zm_of (cc := cX11_value) (maxL := 2) (ret := (some .int)) (by decide +kernel) rfl (Nat.le_of_ble_eq_true rfl) trivial ?_
  intro p e s m args below meth c C _
  unfold w_Desk_value at h
  show zX p l e (zrm 2 43) s m args below meth c (MQ below (zQc D B cA (zpI S I K)) args s 0 0 (fun q => B ≤ q)) D B cA 2 0 0 S I [(0, .ref (B + 0)), (1, .int a1)] [] 0
  refine zr_aload_n C dyX11_value_0 rfl 0 rfl ?_
  refine zr_iload_n C dyX11_value_1 rfl 1 rfl ?_
  refine zv_11_325 C hS (st := []) h ⟨Nat.le_of_ble_eq_true rfl, Nat.le_of_ble_eq_true rfl⟩ (Nat.le_of_ble_eq_true rfl) dyX11_value_2 (fun r_1 h => ?_)
  refine zr_if_eq C dyX11_value_5 (tgt := 19) (by decide) (fun hc_3 => ?_) (fun hc_3 => ?_)
  · replace h := zif_pos hc_3 h
    refine zr_iconst C dyX11_value_19 zc_i_0 ?_
    exact zr_iret C rfl dyX11_value_20 ⟨rfl, rfl, _, rfl, h⟩
  · replace h := zif_neg hc_3 h
    refine zr_aload_n C dyX11_value_8 rfl 0 rfl ?_
    refine zg_11_60 C hS dyX11_value_9 ?_
    refine zr_iload_n C dyX11_value_12 rfl 1 rfl ?_
    refine zv_11_328 C hS (st := []) h ⟨Nat.le_of_ble_eq_true rfl, Nat.le_of_ble_eq_true rfl⟩ (Nat.le_of_ble_eq_true rfl) dyX11_value_13 (fun r_2 h => ?_)
    refine zr_goto C dyX11_value_16 (tgt := 20) (by decide) ?_
    exact zr_iret C rfl dyX11_value_20 ⟨rfl, rfl, _, rfl, h⟩
theorem zg_11_331 {p : Program} {l : Launch} {e : Env} {R : Room} {s : State} {m : MethodId} {args : Array Value} {below : List Frame} {meth : Method} {c : Code} {Q : State → Prop} {D : va_G} {B : Nat} {cA : Nat → ClassId} {ad : Nat → Nat} {cc : ByteArray} {nL : Nat} {ret : Option FieldType} {S : List zC} {I : zI} {lv : List (Nat × Value)} {st : List Value} {pc : Nat} (C : zCx p s m args meth c cc nL RX11 ret D B cA ad) (hS : zOkX S) (hd : decode cc pc = .ok (.getfield 331, 3)) (kk : zX p l e R s m args below meth c Q D B cA nL 0 0 S I lv (.ref (B + 82) :: st) (pc + 3)) : zX p l e R s m args below meth c Q D B cA nL 0 0 S I lv (.ref (B + 69) :: st) pc :=
  zr_getr C (ci := 7) (Cn := RX7) (T := TX7) (N := 17) (k := 69) (j := 8) (fs := [some (some 24), some (some 43), some (some 70), some (some 72), some (some 74), some (some 76), some (some 78), some (some 80), some (some 82), some (some 84), some (some 86), none, none, none, none, none, none]) rfl zin_7 (Nat.le_of_ble_eq_true rfl) rfl (hS _ _ zs_69) rfl zk_fl_11_331 hd kk
theorem zg_11_334 {p : Program} {l : Launch} {e : Env} {R : Room} {s : State} {m : MethodId} {args : Array Value} {below : List Frame} {meth : Method} {c : Code} {Q : State → Prop} {D : va_G} {B : Nat} {cA : Nat → ClassId} {ad : Nat → Nat} {cc : ByteArray} {nL : Nat} {ret : Option FieldType} {S : List zC} {I : zI} {lv : List (Nat × Value)} {st : List Value} {pc : Nat} (C : zCx p s m args meth c cc nL RX11 ret D B cA ad) (hS : zOkX S) (hd : decode cc pc = .ok (.getfield 334, 3)) (kk : zX p l e R s m args below meth c Q D B cA nL 0 0 S I lv (.ref (B + 46) :: st) (pc + 3)) : zX p l e R s m args below meth c Q D B cA nL 0 0 S I lv (.ref (B + 43) :: st) pc :=
  zr_getr C (ci := 9) (Cn := RX9) (T := TX9) (N := 16) (k := 43) (j := 2) (fs := [some (some 24), some (some 44), some (some 46), some (some 48), some (some 50), some (some 52), some (some 54), some (some 56), some (some 58), some (some 60), some (some 62), none, none, none, none, none]) rfl zin_9 (Nat.le_of_ble_eq_true rfl) rfl (hS _ _ zs_43) rfl zk_fl_11_334 hd kk
def w_Desk_worth (a1 : Int32) (I : zI) (K : Int32 → Prop) : Prop :=
  w_TreeView_holdsExpression a1 I (fun r_1 => (if r_1 = 0 then K 0 else (w_Row_get 46 3400 a1 I (fun r_2 => w_Row_get 82 400 r_2 I (fun r_3 => K r_3)))))
theorem dyX11_worth_0 : decode cX11_worth 0 = .ok (.aload_n 0, 1) := by decide +kernel
theorem dyX11_worth_1 : decode cX11_worth 1 = .ok (.getfield 44, 3) := by decide +kernel
theorem dyX11_worth_4 : decode cX11_worth 4 = .ok (.iload_n 1, 1) := by decide +kernel
theorem dyX11_worth_5 : decode cX11_worth 5 = .ok (.invokevirtual 294, 3) := by decide +kernel
theorem dyX11_worth_8 : decode cX11_worth 8 = .ok (.ifCond .eq 27, 3) := by decide +kernel
theorem dyX11_worth_11 : decode cX11_worth 11 = .ok (.aload_n 0, 1) := by decide +kernel
theorem dyX11_worth_12 : decode cX11_worth 12 = .ok (.getfield 60, 3) := by decide +kernel
theorem dyX11_worth_15 : decode cX11_worth 15 = .ok (.getfield 331, 3) := by decide +kernel
theorem dyX11_worth_18 : decode cX11_worth 18 = .ok (.aload_n 0, 1) := by decide +kernel
theorem dyX11_worth_19 : decode cX11_worth 19 = .ok (.getfield 44, 3) := by decide +kernel
theorem dyX11_worth_22 : decode cX11_worth 22 = .ok (.getfield 334, 3) := by decide +kernel
theorem dyX11_worth_25 : decode cX11_worth 25 = .ok (.iload_n 1, 1) := by decide +kernel
theorem dyX11_worth_26 : decode cX11_worth 26 = .ok (.invokevirtual 166, 3) := by decide +kernel
theorem dyX11_worth_29 : decode cX11_worth 29 = .ok (.invokevirtual 166, 3) := by decide +kernel
theorem dyX11_worth_32 : decode cX11_worth 32 = .ok (.goto 4, 3) := by decide +kernel
theorem dyX11_worth_35 : decode cX11_worth 35 = .ok (.iconst 0, 1) := by decide +kernel
theorem dyX11_worth_36 : decode cX11_worth 36 = .ok (.ireturn, 1) := by decide +kernel
theorem zsg_yX11_worth : yX11_worth.cls = RX11 ∧ yX11_worth.cls ≠ "java/lang/invoke/MethodHandle" ∧ yX11_worth.cls ≠ "java/lang/invoke/VarHandle" ∧ (parseMethodDescriptor yX11_worth.desc).map (fun d => d.parameters.length) = some 1 := by decide +kernel
set_option maxRecDepth 20000 in
theorem c_Desk_worth {l : Launch} {D : va_G} {B : Nat} {cA : Nat → ClassId} {ad : Nat → Nat} {S : List zC} (hS : zOkX S) {a1 : Int32} {I : zI} {K : Int32 → Prop}  (h : w_Desk_worth a1 I K) : Met l yX11_worth (zws yX11_worth cX11_worth 2 (some .int)) (zrm 3 64) (zPc D B cA ad [.ref (B + 0), .int a1] S I) (zQc D B cA (zpI S I K)) 0 0 (fun q => B ≤ q) := by
  refine zm_of (cc := cX11_worth) (maxL := 2) (ret := (some .int)) (by decide +kernel) rfl (Nat.le_of_ble_eq_true rfl) trivial ?_
  intro p e s m args below meth c C _
  unfold w_Desk_worth at h
  show zX p l e (zrm 3 64) s m args below meth c (MQ below (zQc D B cA (zpI S I K)) args s 0 0 (fun q => B ≤ q)) D B cA 2 0 0 S I [(0, .ref (B + 0)), (1, .int a1)] [] 0
  refine zr_aload_n C dyX11_worth_0 rfl 0 rfl ?_
  refine zg_11_44 C hS dyX11_worth_1 ?_
  refine zr_iload_n C dyX11_worth_4 rfl 1 rfl ?_
  refine zv_11_294 C hS (st := []) h ⟨Nat.le_of_ble_eq_true rfl, Nat.le_of_ble_eq_true rfl⟩ (Nat.le_of_ble_eq_true rfl) dyX11_worth_5 (fun r_1 h => ?_)
  refine zr_if_eq C dyX11_worth_8 (tgt := 35) (by decide) (fun hc_4 => ?_) (fun hc_4 => ?_)
  · replace h := zif_pos hc_4 h
    refine zr_iconst C dyX11_worth_35 zc_i_0 ?_
    exact zr_iret C rfl dyX11_worth_36 ⟨rfl, rfl, _, rfl, h⟩
  · replace h := zif_neg hc_4 h
    refine zr_aload_n C dyX11_worth_11 rfl 0 rfl ?_
    refine zg_11_60 C hS dyX11_worth_12 ?_
    refine zg_11_331 C hS dyX11_worth_15 ?_
    refine zr_aload_n C dyX11_worth_18 rfl 0 rfl ?_
    refine zg_11_44 C hS dyX11_worth_19 ?_
    refine zg_11_334 C hS dyX11_worth_22 ?_
    refine zr_iload_n C dyX11_worth_25 rfl 1 rfl ?_
    refine zv_11_166 C hS (zIsRow.of hS zir_46) (st := [.ref (B + 82)]) h ⟨Nat.le_of_ble_eq_true rfl, Nat.le_of_ble_eq_true rfl⟩ (Nat.le_of_ble_eq_true rfl) dyX11_worth_26 (fun r_2 h => ?_)
    refine zv_11_166 C hS (zIsRow.of hS zir_82) (st := []) h ⟨Nat.le_of_ble_eq_true rfl, Nat.le_of_ble_eq_true rfl⟩ (Nat.le_of_ble_eq_true rfl) dyX11_worth_29 (fun r_3 h => ?_)
    refine zr_goto C dyX11_worth_32 (tgt := 36) (by decide) ?_
    exact zr_iret C rfl dyX11_worth_36 ⟨rfl, rfl, _, rfl, h⟩
theorem zg_11_337 {p : Program} {l : Launch} {e : Env} {R : Room} {s : State} {m : MethodId} {args : Array Value} {below : List Frame} {meth : Method} {c : Code} {Q : State → Prop} {D : va_G} {B : Nat} {cA : Nat → ClassId} {ad : Nat → Nat} {cc : ByteArray} {nL : Nat} {ret : Option FieldType} {S : List zC} {I : zI} {lv : List (Nat × Value)} {st : List Value} {pc : Nat} (C : zCx p s m args meth c cc nL RX11 ret D B cA ad) (hS : zOkX S) (hd : decode cc pc = .ok (.getfield 337, 3)) (kk : zX p l e R s m args below meth c Q D B cA nL 0 0 S I lv (.ref (B + 80) :: st) (pc + 3)) : zX p l e R s m args below meth c Q D B cA nL 0 0 S I lv (.ref (B + 69) :: st) pc :=
  zr_getr C (ci := 7) (Cn := RX7) (T := TX7) (N := 17) (k := 69) (j := 7) (fs := [some (some 24), some (some 43), some (some 70), some (some 72), some (some 74), some (some 76), some (some 78), some (some 80), some (some 82), some (some 84), some (some 86), none, none, none, none, none, none]) rfl zin_7 (Nat.le_of_ble_eq_true rfl) rfl (hS _ _ zs_69) rfl zk_fl_11_337 hd kk
def w_Desk_uses (a1 : Int32) (I : zI) (K : Int32 → Prop) : Prop :=
  w_Desk_isGoodName a1 I (fun r_1 => (if r_1 = 0 then (K (-1)) else (w_Row_get 80 100 a1 I (fun r_2 => K r_2))))
theorem dyX11_uses_0 : decode cX11_uses 0 = .ok (.aload_n 0, 1) := by decide +kernel
theorem dyX11_uses_1 : decode cX11_uses 1 = .ok (.iload_n 1, 1) := by decide +kernel
theorem dyX11_uses_2 : decode cX11_uses 2 = .ok (.invokevirtual 325, 3) := by decide +kernel
theorem dyX11_uses_5 : decode cX11_uses 5 = .ok (.ifCond .eq 17, 3) := by decide +kernel
theorem dyX11_uses_8 : decode cX11_uses 8 = .ok (.aload_n 0, 1) := by decide +kernel
theorem dyX11_uses_9 : decode cX11_uses 9 = .ok (.getfield 60, 3) := by decide +kernel
theorem dyX11_uses_12 : decode cX11_uses 12 = .ok (.getfield 337, 3) := by decide +kernel
theorem dyX11_uses_15 : decode cX11_uses 15 = .ok (.iload_n 1, 1) := by decide +kernel
theorem dyX11_uses_16 : decode cX11_uses 16 = .ok (.invokevirtual 166, 3) := by decide +kernel
theorem dyX11_uses_19 : decode cX11_uses 19 = .ok (.goto 4, 3) := by decide +kernel
theorem dyX11_uses_22 : decode cX11_uses 22 = .ok (.iconst (-1), 1) := by decide +kernel
theorem dyX11_uses_23 : decode cX11_uses 23 = .ok (.ireturn, 1) := by decide +kernel
theorem zsg_yX11_uses : yX11_uses.cls = RX11 ∧ yX11_uses.cls ≠ "java/lang/invoke/MethodHandle" ∧ yX11_uses.cls ≠ "java/lang/invoke/VarHandle" ∧ (parseMethodDescriptor yX11_uses.desc).map (fun d => d.parameters.length) = some 1 := by decide +kernel
set_option maxRecDepth 20000 in
theorem c_Desk_uses {l : Launch} {D : va_G} {B : Nat} {cA : Nat → ClassId} {ad : Nat → Nat} {S : List zC} (hS : zOkX S) {a1 : Int32} {I : zI} {K : Int32 → Prop}  (h : w_Desk_uses a1 I K) : Met l yX11_uses (zws yX11_uses cX11_uses 2 (some .int)) (zrm 2 43) (zPc D B cA ad [.ref (B + 0), .int a1] S I) (zQc D B cA (zpI S I K)) 0 0 (fun q => B ≤ q) := by
  refine zm_of (cc := cX11_uses) (maxL := 2) (ret := (some .int)) (by decide +kernel) rfl (Nat.le_of_ble_eq_true rfl) trivial ?_
  intro p e s m args below meth c C _
  unfold w_Desk_uses at h
  show zX p l e (zrm 2 43) s m args below meth c (MQ below (zQc D B cA (zpI S I K)) args s 0 0 (fun q => B ≤ q)) D B cA 2 0 0 S I [(0, .ref (B + 0)), (1, .int a1)] [] 0
  refine zr_aload_n C dyX11_uses_0 rfl 0 rfl ?_
  refine zr_iload_n C dyX11_uses_1 rfl 1 rfl ?_
  refine zv_11_325 C hS (st := []) h ⟨Nat.le_of_ble_eq_true rfl, Nat.le_of_ble_eq_true rfl⟩ (Nat.le_of_ble_eq_true rfl) dyX11_uses_2 (fun r_1 h => ?_)
  refine zr_if_eq C dyX11_uses_5 (tgt := 22) (by decide) (fun hc_3 => ?_) (fun hc_3 => ?_)
  · replace h := zif_pos hc_3 h
    refine zr_iconst C dyX11_uses_22 zc_i_m1 ?_
    exact zr_iret C rfl dyX11_uses_23 ⟨rfl, rfl, _, rfl, h⟩
  · replace h := zif_neg hc_3 h
    refine zr_aload_n C dyX11_uses_8 rfl 0 rfl ?_
    refine zg_11_60 C hS dyX11_uses_9 ?_
    refine zg_11_337 C hS dyX11_uses_12 ?_
    refine zr_iload_n C dyX11_uses_15 rfl 1 rfl ?_
    refine zv_11_166 C hS (zIsRow.of hS zir_80) (st := []) h ⟨Nat.le_of_ble_eq_true rfl, Nat.le_of_ble_eq_true rfl⟩ (Nat.le_of_ble_eq_true rfl) dyX11_uses_16 (fun r_2 h => ?_)
    refine zr_goto C dyX11_uses_19 (tgt := 23) (by decide) ?_
    exact zr_iret C rfl dyX11_uses_23 ⟨rfl, rfl, _, rfl, h⟩
theorem zv_11_340 {p : Program} {l : Launch} {e : Env} {R : Room} {s : State} {m : MethodId} {args : Array Value} {below : List Frame} {meth : Method} {c : Code} {Q : State → Prop} {D : va_G} {B : Nat} {cA : Nat → ClassId} {ad : Nat → Nat} {cc : ByteArray} {nL : Nat} {ret : Option FieldType} {S : List zC} {I : zI} {lv : List (Nat × Value)} {st : List Value} {pc : Nat} (C : zCx p s m args meth c cc nL RX11 ret D B cA ad) {K : Int32 → Prop} {xa1 : Int32} (hS : zOkX S)  (h : w_Runner_timesSet xa1 I K) (hR : 1 + 1 ≤ R.frames ∧ 8 + (2 + 11) + (21) ≤ R.locals) (hw : (st.map fun v => v.category).sum ≤ 8) (hd : decode cc pc = .ok (.invokevirtual 340, 3)) (kk : ∀ v, K v → zX p l e R s m args below meth c Q D B cA nL 0 0 S I lv (.int v :: st) (pc + 3)) : zX p l e R s m args below meth c Q D B cA nL 0 0 S I lv (.int xa1 :: .ref (B + 69) :: st) pc :=
  have hf : 0 ≤ R.cells ∧ 0 ≤ R.slots := ⟨Nat.zero_le _, Nat.zero_le _⟩
  zc_VpI C (ci := 7) (q := (RX7, TX7, 17)) (k := 69) (fs := [some (some 24), some (some 43), some (some 70), some (some 72), some (some 74), some (some 76), some (some 78), some (some 80), some (some 82), some (some 84), some (some 86), none, none, none, none, none, none]) (As := [.int xa1]) (st := st) rfl (hS _ _ zs_69) (c_Runner_timesSet hS h) (zgV zk_ml_11_340 zk_im_yX7_timesSet zk_se_yX7_timesSet zk_in_7 zk_cd_yX7_timesSet) zsg_yX7_timesSet hR rfl rfl hw hd hf kk
def w_Desk_sets (a1 : Int32) (I : zI) (K : Int32 → Prop) : Prop :=
  w_Desk_isGoodName a1 I (fun r_1 => (if r_1 = 0 then K 0 else (w_Runner_timesSet a1 I (fun r_2 => K r_2))))
theorem dyX11_sets_0 : decode cX11_sets 0 = .ok (.aload_n 0, 1) := by decide +kernel
theorem dyX11_sets_1 : decode cX11_sets 1 = .ok (.iload_n 1, 1) := by decide +kernel
theorem dyX11_sets_2 : decode cX11_sets 2 = .ok (.invokevirtual 325, 3) := by decide +kernel
theorem dyX11_sets_5 : decode cX11_sets 5 = .ok (.ifCond .eq 14, 3) := by decide +kernel
theorem dyX11_sets_8 : decode cX11_sets 8 = .ok (.aload_n 0, 1) := by decide +kernel
theorem dyX11_sets_9 : decode cX11_sets 9 = .ok (.getfield 60, 3) := by decide +kernel
theorem dyX11_sets_12 : decode cX11_sets 12 = .ok (.iload_n 1, 1) := by decide +kernel
theorem dyX11_sets_13 : decode cX11_sets 13 = .ok (.invokevirtual 340, 3) := by decide +kernel
theorem dyX11_sets_16 : decode cX11_sets 16 = .ok (.goto 4, 3) := by decide +kernel
theorem dyX11_sets_19 : decode cX11_sets 19 = .ok (.iconst 0, 1) := by decide +kernel
theorem dyX11_sets_20 : decode cX11_sets 20 = .ok (.ireturn, 1) := by decide +kernel
theorem zsg_yX11_sets : yX11_sets.cls = RX11 ∧ yX11_sets.cls ≠ "java/lang/invoke/MethodHandle" ∧ yX11_sets.cls ≠ "java/lang/invoke/VarHandle" ∧ (parseMethodDescriptor yX11_sets.desc).map (fun d => d.parameters.length) = some 1 := by decide +kernel
set_option maxRecDepth 20000 in
theorem c_Desk_sets {l : Launch} {D : va_G} {B : Nat} {cA : Nat → ClassId} {ad : Nat → Nat} {S : List zC} (hS : zOkX S) {a1 : Int32} {I : zI} {K : Int32 → Prop}  (h : w_Desk_sets a1 I K) : Met l yX11_sets (zws yX11_sets cX11_sets 2 (some .int)) (zrm 2 43) (zPc D B cA ad [.ref (B + 0), .int a1] S I) (zQc D B cA (zpI S I K)) 0 0 (fun q => B ≤ q) := by
  refine zm_of (cc := cX11_sets) (maxL := 2) (ret := (some .int)) (by decide +kernel) rfl (Nat.le_of_ble_eq_true rfl) trivial ?_
  intro p e s m args below meth c C _
  unfold w_Desk_sets at h
  show zX p l e (zrm 2 43) s m args below meth c (MQ below (zQc D B cA (zpI S I K)) args s 0 0 (fun q => B ≤ q)) D B cA 2 0 0 S I [(0, .ref (B + 0)), (1, .int a1)] [] 0
  refine zr_aload_n C dyX11_sets_0 rfl 0 rfl ?_
  refine zr_iload_n C dyX11_sets_1 rfl 1 rfl ?_
  refine zv_11_325 C hS (st := []) h ⟨Nat.le_of_ble_eq_true rfl, Nat.le_of_ble_eq_true rfl⟩ (Nat.le_of_ble_eq_true rfl) dyX11_sets_2 (fun r_1 h => ?_)
  refine zr_if_eq C dyX11_sets_5 (tgt := 19) (by decide) (fun hc_3 => ?_) (fun hc_3 => ?_)
  · replace h := zif_pos hc_3 h
    refine zr_iconst C dyX11_sets_19 zc_i_0 ?_
    exact zr_iret C rfl dyX11_sets_20 ⟨rfl, rfl, _, rfl, h⟩
  · replace h := zif_neg hc_3 h
    refine zr_aload_n C dyX11_sets_8 rfl 0 rfl ?_
    refine zg_11_60 C hS dyX11_sets_9 ?_
    refine zr_iload_n C dyX11_sets_12 rfl 1 rfl ?_
    refine zv_11_340 C hS (st := []) h ⟨Nat.le_of_ble_eq_true rfl, Nat.le_of_ble_eq_true rfl⟩ (Nat.le_of_ble_eq_true rfl) dyX11_sets_13 (fun r_2 h => ?_)
    refine zr_goto C dyX11_sets_16 (tgt := 20) (by decide) ?_
    exact zr_iret C rfl dyX11_sets_20 ⟨rfl, rfl, _, rfl, h⟩
theorem zg_11_343 {p : Program} {l : Launch} {e : Env} {R : Room} {s : State} {m : MethodId} {args : Array Value} {below : List Frame} {meth : Method} {c : Code} {Q : State → Prop} {D : va_G} {B : Nat} {cA : Nat → ClassId} {ad : Nat → Nat} {cc : ByteArray} {nL : Nat} {ret : Option FieldType} {S : List zC} {I : zI} {lv : List (Nat × Value)} {st : List Value} {pc : Nat} (C : zCx p s m args meth c cc nL RX11 ret D B cA ad) (hS : zOkX S) (hd : decode cc pc = .ok (.getfield 343, 3)) (kk : zX p l e R s m args below meth c Q D B cA nL 0 0 S I lv (.int (I.1 69 12) :: st) (pc + 3)) : zX p l e R s m args below meth c Q D B cA nL 0 0 S I lv (.ref (B + 69) :: st) pc :=
  zr_geti C (ci := 7) (Cn := RX7) (T := TX7) (N := 17) (k := 69) (j := 12) (fs := [some (some 24), some (some 43), some (some 70), some (some 72), some (some 74), some (some 76), some (some 78), some (some 80), some (some 82), some (some 84), some (some 86), none, none, none, none, none, none]) rfl zin_7 (Nat.le_of_ble_eq_true rfl) rfl (hS _ _ zs_69) rfl zk_fl_11_343 hd kk
theorem zg_11_346 {p : Program} {l : Launch} {e : Env} {R : Room} {s : State} {m : MethodId} {args : Array Value} {below : List Frame} {meth : Method} {c : Code} {Q : State → Prop} {D : va_G} {B : Nat} {cA : Nat → ClassId} {ad : Nat → Nat} {cc : ByteArray} {nL : Nat} {ret : Option FieldType} {S : List zC} {I : zI} {lv : List (Nat × Value)} {st : List Value} {pc : Nat} (C : zCx p s m args meth c cc nL RX11 ret D B cA ad) (hS : zOkX S) (hd : decode cc pc = .ok (.getfield 346, 3)) (kk : zX p l e R s m args below meth c Q D B cA nL 0 0 S I lv (.ref (B + 44) :: st) (pc + 3)) : zX p l e R s m args below meth c Q D B cA nL 0 0 S I lv (.ref (B + 43) :: st) pc :=
  zr_getr C (ci := 9) (Cn := RX9) (T := TX9) (N := 16) (k := 43) (j := 1) (fs := [some (some 24), some (some 44), some (some 46), some (some 48), some (some 50), some (some 52), some (some 54), some (some 56), some (some 58), some (some 60), some (some 62), none, none, none, none, none]) rfl zin_9 (Nat.le_of_ble_eq_true rfl) rfl (hS _ _ zs_43) rfl zk_fl_11_346 hd kk
theorem zg_11_349 {p : Program} {l : Launch} {e : Env} {R : Room} {s : State} {m : MethodId} {args : Array Value} {below : List Frame} {meth : Method} {c : Code} {Q : State → Prop} {D : va_G} {B : Nat} {cA : Nat → ClassId} {ad : Nat → Nat} {cc : ByteArray} {nL : Nat} {ret : Option FieldType} {S : List zC} {I : zI} {lv : List (Nat × Value)} {st : List Value} {pc : Nat} (C : zCx p s m args meth c cc nL RX11 ret D B cA ad) (hS : zOkX S) (hd : decode cc pc = .ok (.getfield 349, 3)) (kk : zX p l e R s m args below meth c Q D B cA nL 0 0 S I lv (.int (I.1 69 13) :: st) (pc + 3)) : zX p l e R s m args below meth c Q D B cA nL 0 0 S I lv (.ref (B + 69) :: st) pc :=
  zr_geti C (ci := 7) (Cn := RX7) (T := TX7) (N := 17) (k := 69) (j := 13) (fs := [some (some 24), some (some 43), some (some 70), some (some 72), some (some 74), some (some 76), some (some 78), some (some 80), some (some 82), some (some 84), some (some 86), none, none, none, none, none, none]) rfl zin_7 (Nat.le_of_ble_eq_true rfl) rfl (hS _ _ zs_69) rfl zk_fl_11_349 hd kk
def w_Desk_idle (a1 : Int32) (I : zI) (K : Int32 → Prop) : Prop :=
  (if a1 = 0 then (K (I.1 69 12)) else (if a1 = 1 then (if (I.1 69 12) = 0 then (K (-2)) else (w_Row_get 44 400 (I.1 69 13) I (fun r_3 => K r_3))) else (K (-1))))
theorem dyX11_idle_0 : decode cX11_idle 0 = .ok (.iload_n 1, 1) := by decide +kernel
theorem dyX11_idle_1 : decode cX11_idle 1 = .ok (.lookupswitch 68 #[(0, 27), (1, 35)], 27) := by decide +kernel
theorem dyX11_idle_28 : decode cX11_idle 28 = .ok (.aload_n 0, 1) := by decide +kernel
theorem dyX11_idle_29 : decode cX11_idle 29 = .ok (.getfield 60, 3) := by decide +kernel
theorem dyX11_idle_32 : decode cX11_idle 32 = .ok (.getfield 343, 3) := by decide +kernel
theorem dyX11_idle_35 : decode cX11_idle 35 = .ok (.ireturn, 1) := by decide +kernel
theorem dyX11_idle_36 : decode cX11_idle 36 = .ok (.aload_n 0, 1) := by decide +kernel
theorem dyX11_idle_37 : decode cX11_idle 37 = .ok (.getfield 60, 3) := by decide +kernel
theorem dyX11_idle_40 : decode cX11_idle 40 = .ok (.getfield 343, 3) := by decide +kernel
theorem dyX11_idle_43 : decode cX11_idle 43 = .ok (.ifCond .ne 8, 3) := by decide +kernel
theorem dyX11_idle_46 : decode cX11_idle 46 = .ok (.bipush (-2), 2) := by decide +kernel
theorem dyX11_idle_48 : decode cX11_idle 48 = .ok (.goto 20, 3) := by decide +kernel
theorem dyX11_idle_51 : decode cX11_idle 51 = .ok (.aload_n 0, 1) := by decide +kernel
theorem dyX11_idle_52 : decode cX11_idle 52 = .ok (.getfield 44, 3) := by decide +kernel
theorem dyX11_idle_55 : decode cX11_idle 55 = .ok (.getfield 346, 3) := by decide +kernel
theorem dyX11_idle_58 : decode cX11_idle 58 = .ok (.aload_n 0, 1) := by decide +kernel
theorem dyX11_idle_59 : decode cX11_idle 59 = .ok (.getfield 60, 3) := by decide +kernel
theorem dyX11_idle_62 : decode cX11_idle 62 = .ok (.getfield 349, 3) := by decide +kernel
theorem dyX11_idle_65 : decode cX11_idle 65 = .ok (.invokevirtual 166, 3) := by decide +kernel
theorem dyX11_idle_68 : decode cX11_idle 68 = .ok (.ireturn, 1) := by decide +kernel
theorem dyX11_idle_69 : decode cX11_idle 69 = .ok (.iconst (-1), 1) := by decide +kernel
theorem dyX11_idle_70 : decode cX11_idle 70 = .ok (.ireturn, 1) := by decide +kernel
theorem zsg_yX11_idle : yX11_idle.cls = RX11 ∧ yX11_idle.cls ≠ "java/lang/invoke/MethodHandle" ∧ yX11_idle.cls ≠ "java/lang/invoke/VarHandle" ∧ (parseMethodDescriptor yX11_idle.desc).map (fun d => d.parameters.length) = some 1 := by decide +kernel
set_option maxRecDepth 20000 in
theorem c_Desk_idle {l : Launch} {D : va_G} {B : Nat} {cA : Nat → ClassId} {ad : Nat → Nat} {S : List zC} (hS : zOkX S) {a1 : Int32} {I : zI} {K : Int32 → Prop}  (h : w_Desk_idle a1 I K) : Met l yX11_idle (zws yX11_idle cX11_idle 2 (some .int)) (zrm 1 21) (zPc D B cA ad [.ref (B + 0), .int a1] S I) (zQc D B cA (zpI S I K)) 0 0 (fun q => B ≤ q) := by
  refine zm_of (cc := cX11_idle) (maxL := 2) (ret := (some .int)) (by decide +kernel) rfl (Nat.le_of_ble_eq_true rfl) trivial ?_
  intro p e s m args below meth c C _
  unfold w_Desk_idle at h
  show zX p l e (zrm 1 21) s m args below meth c (MQ below (zQc D B cA (zpI S I K)) args s 0 0 (fun q => B ≤ q)) D B cA 2 0 0 S I [(0, .ref (B + 0)), (1, .int a1)] [] 0
  refine zr_iload_n C dyX11_idle_0 rfl 1 rfl ?_
  by_cases hc_1 : a1 = 0
  · replace h := zif_pos hc_1 h
    refine zr_lookup C dyX11_idle_1 (by decide) (off := 27) (by rw [hc_1]; decide) (tgt := 28) (by decide) ?_
    refine zr_aload_n C dyX11_idle_28 rfl 0 rfl ?_
    refine zg_11_60 C hS dyX11_idle_29 ?_
    refine zg_11_343 C hS dyX11_idle_32 ?_
    exact zr_iret C rfl dyX11_idle_35 ⟨rfl, rfl, _, rfl, h⟩
  replace h := zif_neg hc_1 h
  by_cases hc_2 : a1 = 1
  · replace h := zif_pos hc_2 h
    refine zr_lookup C dyX11_idle_1 (by decide) (off := 35) (by rw [hc_2]; decide) (tgt := 36) (by decide) ?_
    refine zr_aload_n C dyX11_idle_36 rfl 0 rfl ?_
    refine zg_11_60 C hS dyX11_idle_37 ?_
    refine zg_11_343 C hS dyX11_idle_40 ?_
    refine zr_if_ne C dyX11_idle_43 (tgt := 51) (by decide) (fun hc_4 => ?_) (fun hc_4 => ?_)
    · replace h := zif_neg hc_4 h
      refine zr_aload_n C dyX11_idle_51 rfl 0 rfl ?_
      refine zg_11_44 C hS dyX11_idle_52 ?_
      refine zg_11_346 C hS dyX11_idle_55 ?_
      refine zr_aload_n C dyX11_idle_58 rfl 0 rfl ?_
      refine zg_11_60 C hS dyX11_idle_59 ?_
      refine zg_11_349 C hS dyX11_idle_62 ?_
      refine zv_11_166 C hS (zIsRow.of hS zir_44) (st := []) h ⟨Nat.le_of_ble_eq_true rfl, Nat.le_of_ble_eq_true rfl⟩ (Nat.le_of_ble_eq_true rfl) dyX11_idle_65 (fun r_3 h => ?_)
      exact zr_iret C rfl dyX11_idle_68 ⟨rfl, rfl, _, rfl, h⟩
    · replace h := zif_pos hc_4 h
      refine zr_bipush C dyX11_idle_46 zc_b_m2 ?_
      refine zr_goto C dyX11_idle_48 (tgt := 68) (by decide) ?_
      exact zr_iret C rfl dyX11_idle_68 ⟨rfl, rfl, _, rfl, h⟩
  replace h := zif_neg hc_2 h
  refine zr_lookup C dyX11_idle_1 (by decide) (off := 68) (by show Op.lookupswitch.offset [(0, 27), (1, 35)] 68 a1.toInt = _; rw [lv_osw hc_1 (by decide), lv_osw hc_2 (by decide)]; rfl) (tgt := 69) (by decide) ?_
  refine zr_iconst C dyX11_idle_69 zc_i_m1 ?_
  exact zr_iret C rfl dyX11_idle_70 ⟨rfl, rfl, _, rfl, h⟩
