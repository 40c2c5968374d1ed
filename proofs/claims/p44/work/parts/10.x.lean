def w_Desk_redo  (I : zI) (K : Int32 → zI → Prop) : Prop :=
  (if (I.1 0 6) = 0 then K 0 I else (∀ I_1, I_1 = (zu I 0 6 ((I.1 0 6) - 1)) → ∀ I_2, I_2 = (zu I_1 0 5 ((I_1.1 0 5) + 1)) → w_Desk_nextSlot I_2 (fun r_3 => ∀ I_4, I_4 = (zu I_2 0 4 r_3) → w_Desk_now I_4 (fun r_5 => w_Desk_lookAt r_5 0 I_4 (fun I_6 => K 1 I_6)))))
theorem dyX11_redo_0 : decode cX11_redo 0 = .ok (.aload_n 0, 1) := by decide +kernel
theorem dyX11_redo_1 : decode cX11_redo 1 = .ok (.getfield 199, 3) := by decide +kernel
theorem dyX11_redo_4 : decode cX11_redo 4 = .ok (.ifCond .ne 5, 3) := by decide +kernel
theorem dyX11_redo_7 : decode cX11_redo 7 = .ok (.iconst 0, 1) := by decide +kernel
theorem dyX11_redo_8 : decode cX11_redo 8 = .ok (.ireturn, 1) := by decide +kernel
theorem dyX11_redo_9 : decode cX11_redo 9 = .ok (.aload_n 0, 1) := by decide +kernel
theorem dyX11_redo_10 : decode cX11_redo 10 = .ok (.dup, 1) := by decide +kernel
theorem dyX11_redo_11 : decode cX11_redo 11 = .ok (.getfield 199, 3) := by decide +kernel
theorem dyX11_redo_14 : decode cX11_redo 14 = .ok (.iconst 1, 1) := by decide +kernel
theorem dyX11_redo_15 : decode cX11_redo 15 = .ok (.isub, 1) := by decide +kernel
theorem dyX11_redo_16 : decode cX11_redo 16 = .ok (.putfield 199, 3) := by decide +kernel
theorem dyX11_redo_19 : decode cX11_redo 19 = .ok (.aload_n 0, 1) := by decide +kernel
theorem dyX11_redo_20 : decode cX11_redo 20 = .ok (.dup, 1) := by decide +kernel
theorem dyX11_redo_21 : decode cX11_redo 21 = .ok (.getfield 196, 3) := by decide +kernel
theorem dyX11_redo_24 : decode cX11_redo 24 = .ok (.iconst 1, 1) := by decide +kernel
theorem dyX11_redo_25 : decode cX11_redo 25 = .ok (.iadd, 1) := by decide +kernel
theorem dyX11_redo_26 : decode cX11_redo 26 = .ok (.putfield 196, 3) := by decide +kernel
theorem dyX11_redo_29 : decode cX11_redo 29 = .ok (.aload_n 0, 1) := by decide +kernel
theorem dyX11_redo_30 : decode cX11_redo 30 = .ok (.aload_n 0, 1) := by decide +kernel
theorem dyX11_redo_31 : decode cX11_redo 31 = .ok (.invokevirtual 205, 3) := by decide +kernel
theorem dyX11_redo_34 : decode cX11_redo 34 = .ok (.putfield 202, 3) := by decide +kernel
theorem dyX11_redo_37 : decode cX11_redo 37 = .ok (.aload_n 0, 1) := by decide +kernel
theorem dyX11_redo_38 : decode cX11_redo 38 = .ok (.aload_n 0, 1) := by decide +kernel
theorem dyX11_redo_39 : decode cX11_redo 39 = .ok (.invokevirtual 126, 3) := by decide +kernel
theorem dyX11_redo_42 : decode cX11_redo 42 = .ok (.iconst 0, 1) := by decide +kernel
theorem dyX11_redo_43 : decode cX11_redo 43 = .ok (.invokevirtual 134, 3) := by decide +kernel
theorem dyX11_redo_46 : decode cX11_redo 46 = .ok (.iconst 1, 1) := by decide +kernel
theorem dyX11_redo_47 : decode cX11_redo 47 = .ok (.ireturn, 1) := by decide +kernel
theorem zsg_yX11_redo : yX11_redo.cls = RX11 ∧ yX11_redo.cls ≠ "java/lang/invoke/MethodHandle" ∧ yX11_redo.cls ≠ "java/lang/invoke/VarHandle" ∧ (parseMethodDescriptor yX11_redo.desc).map (fun d => d.parameters.length) = some 0 := by decide +kernel
set_option maxRecDepth 20000 in
theorem c_Desk_redo {l : Launch} {D : va_G} {B : Nat} {cA : Nat → ClassId} {ad : Nat → Nat} {S : List zC} (hS : zOkX S)  {I : zI} {K : Int32 → zI → Prop}  (h : w_Desk_redo  I K) : Met l yX11_redo (zws yX11_redo cX11_redo 1 (some .boolean)) (zrm 6 141) (zPc D B cA ad [.ref (B + 0)] S I) (zQc D B cA (zqI S K)) 0 0 (fun q => B ≤ q) := by
  refine zm_of (cc := cX11_redo) (maxL := 1) (ret := (some .boolean)) (by decide +kernel) rfl (Nat.le_of_ble_eq_true rfl) trivial ?_
  intro p e s m args below meth c C _
  unfold w_Desk_redo at h
  show zX p l e (zrm 6 141) s m args below meth c (MQ below (zQc D B cA (zqI S K)) args s 0 0 (fun q => B ≤ q)) D B cA 1 0 0 S I [(0, .ref (B + 0))] [] 0
  refine zr_aload_n C dyX11_redo_0 rfl 0 rfl ?_
  refine zg_11_199 C hS dyX11_redo_1 ?_
  refine zr_if_ne C dyX11_redo_4 (tgt := 9) (by decide) (fun hc_7 => ?_) (fun hc_7 => ?_)
  · replace h := zif_neg hc_7 h
    refine zr_aload_n C dyX11_redo_9 rfl 0 rfl ?_
    refine zr_dup C dyX11_redo_10 rfl ?_
    refine zg_11_199 C hS dyX11_redo_11 ?_
    refine zr_iconst C dyX11_redo_14 zc_i_1 ?_
    refine zr_isub C dyX11_redo_15 ?_
    refine zp_11_199 C hS dyX11_redo_16 ?_
    refine zn_mem C (fun I_1 eI_1 => ?_)
    replace h := h I_1 eI_1
    refine zr_aload_n C dyX11_redo_19 rfl 0 rfl ?_
    refine zr_dup C dyX11_redo_20 rfl ?_
    refine zg_11_196 C hS dyX11_redo_21 ?_
    refine zr_iconst C dyX11_redo_24 zc_i_1 ?_
    refine zr_iadd C dyX11_redo_25 ?_
    refine zp_11_196 C hS dyX11_redo_26 ?_
    refine zn_mem C (fun I_2 eI_2 => ?_)
    replace h := h I_2 eI_2
    refine zr_aload_n C dyX11_redo_29 rfl 0 rfl ?_
    refine zr_aload_n C dyX11_redo_30 rfl 0 rfl ?_
    refine zv_11_205 C hS (st := [.ref (B + 0)]) h ⟨Nat.le_of_ble_eq_true rfl, Nat.le_of_ble_eq_true rfl⟩ (Nat.le_of_ble_eq_true rfl) dyX11_redo_31 (fun r_3 h => ?_)
    refine zp_11_202 C hS dyX11_redo_34 ?_
    refine zn_mem C (fun I_4 eI_4 => ?_)
    replace h := h I_4 eI_4
    refine zr_aload_n C dyX11_redo_37 rfl 0 rfl ?_
    refine zr_aload_n C dyX11_redo_38 rfl 0 rfl ?_
    refine zv_11_126 C hS (st := [.ref (B + 0)]) h ⟨Nat.le_of_ble_eq_true rfl, Nat.le_of_ble_eq_true rfl⟩ (Nat.le_of_ble_eq_true rfl) dyX11_redo_39 (fun r_5 hr_5 h => ?_)
    refine zr_iconst C dyX11_redo_42 zc_i_0 ?_
    refine zv_11_134 C hS hr_5 (st := []) h ⟨Nat.le_of_ble_eq_true rfl, Nat.le_of_ble_eq_true rfl⟩ (Nat.le_of_ble_eq_true rfl) dyX11_redo_43 (fun I_6 h => ?_)
    refine zr_iconst C dyX11_redo_46 zc_i_1 ?_
    exact zr_zret C rfl (zb.nar zb_1) dyX11_redo_47 ⟨rfl, _, rfl, h⟩
  · replace h := zif_pos hc_7 h
    refine zr_iconst C dyX11_redo_7 zc_i_0 ?_
    exact zr_zret C rfl (zb.nar zb_0) dyX11_redo_8 ⟨rfl, _, rfl, h⟩
def w_Desk_text (a1 : Int32) (I : zI) (K : Int32 → Prop) : Prop :=
  w_Desk_now I (fun r_1 => (if a1 < 0 then (K (-1)) else (if (I.1 r_1 1) ≤ a1 then (K (-1)) else (w_Row_get (r_1 + 1) 300 a1 I (fun r_2 => K r_2)))))
theorem dyX11_text_0 : decode cX11_text 0 = .ok (.aload_n 0, 1) := by decide +kernel
theorem dyX11_text_1 : decode cX11_text 1 = .ok (.invokevirtual 126, 3) := by decide +kernel
theorem dyX11_text_4 : decode cX11_text 4 = .ok (.astore_n 2, 1) := by decide +kernel
theorem dyX11_text_5 : decode cX11_text 5 = .ok (.iload_n 1, 1) := by decide +kernel
theorem dyX11_text_6 : decode cX11_text 6 = .ok (.ifCond .lt 22, 3) := by decide +kernel
theorem dyX11_text_9 : decode cX11_text 9 = .ok (.iload_n 1, 1) := by decide +kernel
theorem dyX11_text_10 : decode cX11_text 10 = .ok (.aload_n 2, 1) := by decide +kernel
theorem dyX11_text_11 : decode cX11_text 11 = .ok (.getfield 144, 3) := by decide +kernel
theorem dyX11_text_14 : decode cX11_text 14 = .ok (.if_icmp .ge 14, 3) := by decide +kernel
theorem dyX11_text_17 : decode cX11_text 17 = .ok (.aload_n 2, 1) := by decide +kernel
theorem dyX11_text_18 : decode cX11_text 18 = .ok (.getfield 103, 3) := by decide +kernel
theorem dyX11_text_21 : decode cX11_text 21 = .ok (.iload_n 1, 1) := by decide +kernel
theorem dyX11_text_22 : decode cX11_text 22 = .ok (.invokevirtual 166, 3) := by decide +kernel
theorem dyX11_text_25 : decode cX11_text 25 = .ok (.goto 4, 3) := by decide +kernel
theorem dyX11_text_28 : decode cX11_text 28 = .ok (.iconst (-1), 1) := by decide +kernel
theorem dyX11_text_29 : decode cX11_text 29 = .ok (.ireturn, 1) := by decide +kernel
theorem zsg_yX11_text : yX11_text.cls = RX11 ∧ yX11_text.cls ≠ "java/lang/invoke/MethodHandle" ∧ yX11_text.cls ≠ "java/lang/invoke/VarHandle" ∧ (parseMethodDescriptor yX11_text.desc).map (fun d => d.parameters.length) = some 1 := by decide +kernel
set_option maxRecDepth 20000 in
theorem c_Desk_text {l : Launch} {D : va_G} {B : Nat} {cA : Nat → ClassId} {ad : Nat → Nat} {S : List zC} (hS : zOkX S) {a1 : Int32} {I : zI} {K : Int32 → Prop}  (h : w_Desk_text a1 I K) : Met l yX11_text (zws yX11_text cX11_text 3 (some .int)) (zrm 1 21) (zPc D B cA ad [.ref (B + 0), .int a1] S I) (zQc D B cA (zpI S I K)) 0 0 (fun q => B ≤ q) := by
  refine zm_of (cc := cX11_text) (maxL := 3) (ret := (some .int)) (by decide +kernel) rfl (Nat.le_of_ble_eq_true rfl) trivial ?_
  intro p e s m args below meth c C _
  unfold w_Desk_text at h
  show zX p l e (zrm 1 21) s m args below meth c (MQ below (zQc D B cA (zpI S I K)) args s 0 0 (fun q => B ≤ q)) D B cA 3 0 0 S I [(0, .ref (B + 0)), (1, .int a1)] [] 0
  refine zr_aload_n C dyX11_text_0 rfl 0 rfl ?_
  refine zv_11_126 C hS (st := []) h ⟨Nat.le_of_ble_eq_true rfl, Nat.le_of_ble_eq_true rfl⟩ (Nat.le_of_ble_eq_true rfl) dyX11_text_1 (fun r_1 hr_1 h => ?_)
  refine zr_astore_n C dyX11_text_4 rfl (Nat.le_of_ble_eq_true rfl) (lv2 := [(2, .ref (B + r_1)), (0, .ref (B + 0)), (1, .int a1)]) rfl ?_
  refine zr_iload_n C dyX11_text_5 rfl 2 rfl ?_
  refine zr_if_lt C dyX11_text_6 (tgt := 28) (by decide) (fun hc_4 => ?_) (fun hc_4 => ?_)
  · replace h := zif_pos hc_4 h
    refine zr_iconst C dyX11_text_28 zc_i_m1 ?_
    exact zr_iret C rfl dyX11_text_29 ⟨rfl, rfl, _, rfl, h⟩
  · replace h := zif_neg hc_4 h
    refine zr_iload_n C dyX11_text_9 rfl 2 rfl ?_
    refine zr_aload_n C dyX11_text_10 rfl 0 rfl ?_
    refine zg_11_144 C hr_1 dyX11_text_11 ?_
    refine zr_icmp_ge C dyX11_text_14 (tgt := 28) (by decide) (fun hc_3 => ?_) (fun hc_3 => ?_)
    · replace h := zif_pos hc_3 h
      refine zr_iconst C dyX11_text_28 zc_i_m1 ?_
      exact zr_iret C rfl dyX11_text_29 ⟨rfl, rfl, _, rfl, h⟩
    · replace h := zif_neg hc_3 h
      refine zr_aload_n C dyX11_text_17 rfl 0 rfl ?_
      refine zg_11_103 C hr_1 dyX11_text_18 ?_
      refine zr_iload_n C dyX11_text_21 rfl 2 rfl ?_
      refine zv_11_166 C hS hr_1.2.1 (st := []) h ⟨Nat.le_of_ble_eq_true rfl, Nat.le_of_ble_eq_true rfl⟩ (Nat.le_of_ble_eq_true rfl) dyX11_text_22 (fun r_2 h => ?_)
      refine zr_goto C dyX11_text_25 (tgt := 29) (by decide) ?_
      exact zr_iret C rfl dyX11_text_29 ⟨rfl, rfl, _, rfl, h⟩
def w_Desk_token (a1 : Int32) (a2 : Int32) (I : zI) (K : Int32 → Prop) : Prop :=
  w_Desk_now I (fun r_1 => w_Tokens_has (r_1 + 3) a1 I (fun r_2 => (if r_2 = 0 then (K (-1)) else (if a2 = 0 then (w_Row_get (r_1 + 3 + 1) 100 a1 I (fun r_4 => K r_4)) else (if a2 = 1 then (w_Row_get (r_1 + 3 + 3) 100 a1 I (fun r_6 => K r_6)) else (if a2 = 2 then (w_Row_get (r_1 + 3 + 5) 100 a1 I (fun r_8 => K r_8)) else (K (-1))))))))
theorem dyX11_token_0 : decode cX11_token 0 = .ok (.aload_n 0, 1) := by decide +kernel
theorem dyX11_token_1 : decode cX11_token 1 = .ok (.invokevirtual 126, 3) := by decide +kernel
theorem dyX11_token_4 : decode cX11_token 4 = .ok (.getfield 99, 3) := by decide +kernel
theorem dyX11_token_7 : decode cX11_token 7 = .ok (.astore_n 3, 1) := by decide +kernel
theorem dyX11_token_8 : decode cX11_token 8 = .ok (.aload_n 3, 1) := by decide +kernel
theorem dyX11_token_9 : decode cX11_token 9 = .ok (.iload_n 1, 1) := by decide +kernel
theorem dyX11_token_10 : decode cX11_token 10 = .ok (.invokevirtual 159, 3) := by decide +kernel
theorem dyX11_token_13 : decode cX11_token 13 = .ok (.ifCond .ne 5, 3) := by decide +kernel
theorem dyX11_token_16 : decode cX11_token 16 = .ok (.iconst (-1), 1) := by decide +kernel
theorem dyX11_token_17 : decode cX11_token 17 = .ok (.ireturn, 1) := by decide +kernel
theorem dyX11_token_18 : decode cX11_token 18 = .ok (.iload_n 2, 1) := by decide +kernel
theorem dyX11_token_19 : decode cX11_token 19 = .ok (.tableswitch 52 0 2 #[25, 34, 43], 25) := by decide +kernel
theorem dyX11_token_44 : decode cX11_token 44 = .ok (.aload_n 3, 1) := by decide +kernel
theorem dyX11_token_45 : decode cX11_token 45 = .ok (.getfield 163, 3) := by decide +kernel
theorem dyX11_token_48 : decode cX11_token 48 = .ok (.iload_n 1, 1) := by decide +kernel
theorem dyX11_token_49 : decode cX11_token 49 = .ok (.invokevirtual 166, 3) := by decide +kernel
theorem dyX11_token_52 : decode cX11_token 52 = .ok (.ireturn, 1) := by decide +kernel
theorem dyX11_token_53 : decode cX11_token 53 = .ok (.aload_n 3, 1) := by decide +kernel
theorem dyX11_token_54 : decode cX11_token 54 = .ok (.getfield 181, 3) := by decide +kernel
theorem dyX11_token_57 : decode cX11_token 57 = .ok (.iload_n 1, 1) := by decide +kernel
theorem dyX11_token_58 : decode cX11_token 58 = .ok (.invokevirtual 166, 3) := by decide +kernel
theorem dyX11_token_61 : decode cX11_token 61 = .ok (.ireturn, 1) := by decide +kernel
theorem dyX11_token_62 : decode cX11_token 62 = .ok (.aload_n 3, 1) := by decide +kernel
theorem dyX11_token_63 : decode cX11_token 63 = .ok (.getfield 184, 3) := by decide +kernel
theorem dyX11_token_66 : decode cX11_token 66 = .ok (.iload_n 1, 1) := by decide +kernel
theorem dyX11_token_67 : decode cX11_token 67 = .ok (.invokevirtual 166, 3) := by decide +kernel
theorem dyX11_token_70 : decode cX11_token 70 = .ok (.ireturn, 1) := by decide +kernel
theorem dyX11_token_71 : decode cX11_token 71 = .ok (.iconst (-1), 1) := by decide +kernel
theorem dyX11_token_72 : decode cX11_token 72 = .ok (.ireturn, 1) := by decide +kernel
theorem zsg_yX11_token : yX11_token.cls = RX11 ∧ yX11_token.cls ≠ "java/lang/invoke/MethodHandle" ∧ yX11_token.cls ≠ "java/lang/invoke/VarHandle" ∧ (parseMethodDescriptor yX11_token.desc).map (fun d => d.parameters.length) = some 2 := by decide +kernel
set_option maxRecDepth 20000 in
theorem c_Desk_token {l : Launch} {D : va_G} {B : Nat} {cA : Nat → ClassId} {ad : Nat → Nat} {S : List zC} (hS : zOkX S) {a1 : Int32} {a2 : Int32} {I : zI} {K : Int32 → Prop}  (h : w_Desk_token a1 a2 I K) : Met l yX11_token (zws yX11_token cX11_token 4 (some .int)) (zrm 1 21) (zPc D B cA ad [.ref (B + 0), .int a1, .int a2] S I) (zQc D B cA (zpI S I K)) 0 0 (fun q => B ≤ q) := by
  refine zm_of (cc := cX11_token) (maxL := 4) (ret := (some .int)) (by decide +kernel) rfl (Nat.le_of_ble_eq_true rfl) trivial ?_
  intro p e s m args below meth c C _
  unfold w_Desk_token at h
  show zX p l e (zrm 1 21) s m args below meth c (MQ below (zQc D B cA (zpI S I K)) args s 0 0 (fun q => B ≤ q)) D B cA 4 0 0 S I [(0, .ref (B + 0)), (1, .int a1), (2, .int a2)] [] 0
  refine zr_aload_n C dyX11_token_0 rfl 0 rfl ?_
  refine zv_11_126 C hS (st := []) h ⟨Nat.le_of_ble_eq_true rfl, Nat.le_of_ble_eq_true rfl⟩ (Nat.le_of_ble_eq_true rfl) dyX11_token_1 (fun r_1 hr_1 h => ?_)
  refine zg_11_99 C hr_1 dyX11_token_4 ?_
  refine zr_astore_n C dyX11_token_7 rfl (Nat.le_of_ble_eq_true rfl) (lv2 := [(3, .ref (B + (r_1 + 3))), (0, .ref (B + 0)), (1, .int a1), (2, .int a2)]) rfl ?_
  refine zr_aload_n C dyX11_token_8 rfl 0 rfl ?_
  refine zr_iload_n C dyX11_token_9 rfl 2 rfl ?_
  refine zv_11_159 C hS hr_1.2.2.1 (st := []) h ⟨Nat.le_of_ble_eq_true rfl, Nat.le_of_ble_eq_true rfl⟩ (Nat.le_of_ble_eq_true rfl) dyX11_token_10 (fun r_2 h => ?_)
  refine zr_if_ne C dyX11_token_13 (tgt := 18) (by decide) (fun hc_9 => ?_) (fun hc_9 => ?_)
  · replace h := zif_neg hc_9 h
    refine zr_iload_n C dyX11_token_18 rfl 3 rfl ?_
    by_cases hc_3 : a2 = 0
    · replace h := zif_pos hc_3 h
      refine zr_tableIn C dyX11_token_19 (by rw [hc_3]; decide) (by rw [hc_3]; decide) (off := 25) (by rw [hc_3]; decide) (tgt := 44) (by decide) ?_
      refine zr_aload_n C dyX11_token_44 rfl 0 rfl ?_
      refine zg_11_163 C hr_1.2.2.1 dyX11_token_45 ?_
      refine zr_iload_n C dyX11_token_48 rfl 2 rfl ?_
      refine zv_11_166 C hS hr_1.2.2.1.2.1 (st := []) h ⟨Nat.le_of_ble_eq_true rfl, Nat.le_of_ble_eq_true rfl⟩ (Nat.le_of_ble_eq_true rfl) dyX11_token_49 (fun r_4 h => ?_)
      exact zr_iret C rfl dyX11_token_52 ⟨rfl, rfl, _, rfl, h⟩
    replace h := zif_neg hc_3 h
    by_cases hc_5 : a2 = 1
    · replace h := zif_pos hc_5 h
      refine zr_tableIn C dyX11_token_19 (by rw [hc_5]; decide) (by rw [hc_5]; decide) (off := 34) (by rw [hc_5]; decide) (tgt := 53) (by decide) ?_
      refine zr_aload_n C dyX11_token_53 rfl 0 rfl ?_
      refine zg_11_181 C hr_1.2.2.1 dyX11_token_54 ?_
      refine zr_iload_n C dyX11_token_57 rfl 2 rfl ?_
      refine zv_11_166 C hS hr_1.2.2.1.2.2.1 (st := []) h ⟨Nat.le_of_ble_eq_true rfl, Nat.le_of_ble_eq_true rfl⟩ (Nat.le_of_ble_eq_true rfl) dyX11_token_58 (fun r_6 h => ?_)
      exact zr_iret C rfl dyX11_token_61 ⟨rfl, rfl, _, rfl, h⟩
    replace h := zif_neg hc_5 h
    by_cases hc_7 : a2 = 2
    · replace h := zif_pos hc_7 h
      refine zr_tableIn C dyX11_token_19 (by rw [hc_7]; decide) (by rw [hc_7]; decide) (off := 43) (by rw [hc_7]; decide) (tgt := 62) (by decide) ?_
      refine zr_aload_n C dyX11_token_62 rfl 0 rfl ?_
      refine zg_11_184 C hr_1.2.2.1 dyX11_token_63 ?_
      refine zr_iload_n C dyX11_token_66 rfl 2 rfl ?_
      refine zv_11_166 C hS hr_1.2.2.1.2.2.2.1 (st := []) h ⟨Nat.le_of_ble_eq_true rfl, Nat.le_of_ble_eq_true rfl⟩ (Nat.le_of_ble_eq_true rfl) dyX11_token_67 (fun r_8 h => ?_)
      exact zr_iret C rfl dyX11_token_70 ⟨rfl, rfl, _, rfl, h⟩
    replace h := zif_neg hc_7 h
    refine zr_tableOut C dyX11_token_19 (ztab_out (fun i h1 h2 => ?_)) (tgt := 71) (by decide) ?_
    · rcases (by omega : i = 0 ∨ i = 1 ∨ i = 2) with rfl | rfl | rfl
      · exact hc_3
      · exact hc_5
      · exact hc_7
    refine zr_iconst C dyX11_token_71 zc_i_m1 ?_
    exact zr_iret C rfl dyX11_token_72 ⟨rfl, rfl, _, rfl, h⟩
  · replace h := zif_pos hc_9 h
    refine zr_iconst C dyX11_token_16 zc_i_m1 ?_
    exact zr_iret C rfl dyX11_token_17 ⟨rfl, rfl, _, rfl, h⟩
theorem zv_11_209 {p : Program} {l : Launch} {e : Env} {R : Room} {s : State} {m : MethodId} {args : Array Value} {below : List Frame} {meth : Method} {c : Code} {Q : State → Prop} {D : va_G} {B : Nat} {cA : Nat → ClassId} {ad : Nat → Nat} {cc : ByteArray} {nL : Nat} {ret : Option FieldType} {S : List zC} {I : zI} {lv : List (Nat × Value)} {st : List Value} {pc : Nat} (C : zCx p s m args meth c cc nL RX11 ret D B cA ad) {K : Int32 → Prop} {xk : Nat} {xa1 : Int32} (hS : zOkX S) (xhk : zIsMoment S xk) (h : w_Moment_hasGood xk xa1 I K) (hR : 0 + 1 ≤ R.frames ∧ 8 + (2 + 11) + (0) ≤ R.locals) (hw : (st.map fun v => v.category).sum ≤ 8) (hd : decode cc pc = .ok (.invokevirtual 209, 3)) (kk : ∀ v, K v → zX p l e R s m args below meth c Q D B cA nL 0 0 S I lv (.int v :: st) (pc + 3)) : zX p l e R s m args below meth c Q D B cA nL 0 0 S I lv (.int xa1 :: .ref (B + xk) :: st) pc :=
  have hf : 0 ≤ R.cells ∧ 0 ≤ R.slots := ⟨Nat.zero_le _, Nat.zero_le _⟩
  zc_VpI C (ci := 2) (q := (RX2, TX2, 9)) (k := xk) (fs := [some (some (xk + 1)), none, some (some (xk + 3)), none, some (some (xk + 14)), some (some (xk + 16)), none, none, none]) (As := [.int xa1]) (st := st) rfl xhk.1 (c_Moment_hasGood hS xhk h) (zgV zk_ml_11_209 zk_im_yX2_hasGood zk_se_yX2_hasGood zk_in_2 zk_cd_yX2_hasGood) zsg_yX2_hasGood hR rfl rfl hw hd hf kk
def w_Desk_good (a1 : Int32) (I : zI) (K : Int32 → Prop) : Prop :=
  w_Desk_now I (fun r_1 => w_Moment_hasGood r_1 a1 I (fun r_2 => (if r_2 = 0 then (K (-1)) else (w_Row_get (r_1 + 14) 100 a1 I (fun r_3 => K r_3)))))
theorem dyX11_good_0 : decode cX11_good 0 = .ok (.aload_n 0, 1) := by decide +kernel
theorem dyX11_good_1 : decode cX11_good 1 = .ok (.invokevirtual 126, 3) := by decide +kernel
theorem dyX11_good_4 : decode cX11_good 4 = .ok (.astore_n 2, 1) := by decide +kernel
theorem dyX11_good_5 : decode cX11_good 5 = .ok (.aload_n 2, 1) := by decide +kernel
theorem dyX11_good_6 : decode cX11_good 6 = .ok (.iload_n 1, 1) := by decide +kernel
theorem dyX11_good_7 : decode cX11_good 7 = .ok (.invokevirtual 209, 3) := by decide +kernel
theorem dyX11_good_10 : decode cX11_good 10 = .ok (.ifCond .eq 14, 3) := by decide +kernel
theorem dyX11_good_13 : decode cX11_good 13 = .ok (.aload_n 2, 1) := by decide +kernel
theorem dyX11_good_14 : decode cX11_good 14 = .ok (.getfield 115, 3) := by decide +kernel
theorem dyX11_good_17 : decode cX11_good 17 = .ok (.iload_n 1, 1) := by decide +kernel
theorem dyX11_good_18 : decode cX11_good 18 = .ok (.invokevirtual 166, 3) := by decide +kernel
theorem dyX11_good_21 : decode cX11_good 21 = .ok (.goto 4, 3) := by decide +kernel
theorem dyX11_good_24 : decode cX11_good 24 = .ok (.iconst (-1), 1) := by decide +kernel
theorem dyX11_good_25 : decode cX11_good 25 = .ok (.ireturn, 1) := by decide +kernel
theorem zsg_yX11_good : yX11_good.cls = RX11 ∧ yX11_good.cls ≠ "java/lang/invoke/MethodHandle" ∧ yX11_good.cls ≠ "java/lang/invoke/VarHandle" ∧ (parseMethodDescriptor yX11_good.desc).map (fun d => d.parameters.length) = some 1 := by decide +kernel
set_option maxRecDepth 20000 in
theorem c_Desk_good {l : Launch} {D : va_G} {B : Nat} {cA : Nat → ClassId} {ad : Nat → Nat} {S : List zC} (hS : zOkX S) {a1 : Int32} {I : zI} {K : Int32 → Prop}  (h : w_Desk_good a1 I K) : Met l yX11_good (zws yX11_good cX11_good 3 (some .int)) (zrm 1 21) (zPc D B cA ad [.ref (B + 0), .int a1] S I) (zQc D B cA (zpI S I K)) 0 0 (fun q => B ≤ q) := by
  refine zm_of (cc := cX11_good) (maxL := 3) (ret := (some .int)) (by decide +kernel) rfl (Nat.le_of_ble_eq_true rfl) trivial ?_
  intro p e s m args below meth c C _
  unfold w_Desk_good at h
  show zX p l e (zrm 1 21) s m args below meth c (MQ below (zQc D B cA (zpI S I K)) args s 0 0 (fun q => B ≤ q)) D B cA 3 0 0 S I [(0, .ref (B + 0)), (1, .int a1)] [] 0
  refine zr_aload_n C dyX11_good_0 rfl 0 rfl ?_
  refine zv_11_126 C hS (st := []) h ⟨Nat.le_of_ble_eq_true rfl, Nat.le_of_ble_eq_true rfl⟩ (Nat.le_of_ble_eq_true rfl) dyX11_good_1 (fun r_1 hr_1 h => ?_)
  refine zr_astore_n C dyX11_good_4 rfl (Nat.le_of_ble_eq_true rfl) (lv2 := [(2, .ref (B + r_1)), (0, .ref (B + 0)), (1, .int a1)]) rfl ?_
  refine zr_aload_n C dyX11_good_5 rfl 0 rfl ?_
  refine zr_iload_n C dyX11_good_6 rfl 2 rfl ?_
  refine zv_11_209 C hS hr_1 (st := []) h ⟨Nat.le_of_ble_eq_true rfl, Nat.le_of_ble_eq_true rfl⟩ (Nat.le_of_ble_eq_true rfl) dyX11_good_7 (fun r_2 h => ?_)
  refine zr_if_eq C dyX11_good_10 (tgt := 24) (by decide) (fun hc_4 => ?_) (fun hc_4 => ?_)
  · replace h := zif_pos hc_4 h
    refine zr_iconst C dyX11_good_24 zc_i_m1 ?_
    exact zr_iret C rfl dyX11_good_25 ⟨rfl, rfl, _, rfl, h⟩
  · replace h := zif_neg hc_4 h
    refine zr_aload_n C dyX11_good_13 rfl 0 rfl ?_
    refine zg_11_115 C hr_1 dyX11_good_14 ?_
    refine zr_iload_n C dyX11_good_17 rfl 2 rfl ?_
    refine zv_11_166 C hS hr_1.2.2.2.1 (st := []) h ⟨Nat.le_of_ble_eq_true rfl, Nat.le_of_ble_eq_true rfl⟩ (Nat.le_of_ble_eq_true rfl) dyX11_good_18 (fun r_3 h => ?_)
    refine zr_goto C dyX11_good_21 (tgt := 25) (by decide) ?_
    exact zr_iret C rfl dyX11_good_25 ⟨rfl, rfl, _, rfl, h⟩
theorem zg_11_215 {p : Program} {l : Launch} {e : Env} {R : Room} {s : State} {m : MethodId} {args : Array Value} {below : List Frame} {meth : Method} {c : Code} {Q : State → Prop} {D : va_G} {B : Nat} {cA : Nat → ClassId} {ad : Nat → Nat} {cc : ByteArray} {nL : Nat} {ret : Option FieldType} {S : List zC} {I : zI} {lv : List (Nat × Value)} {st : List Value} {pc : Nat} (C : zCx p s m args meth c cc nL RX11 ret D B cA ad) (hS : zOkX S) (hd : decode cc pc = .ok (.getfield 215, 3)) (kk : zX p l e R s m args below meth c Q D B cA nL 0 0 S I lv (.int (I.1 43 12) :: st) (pc + 3)) : zX p l e R s m args below meth c Q D B cA nL 0 0 S I lv (.ref (B + 43) :: st) pc :=
  zr_geti C (ci := 9) (Cn := RX9) (T := TX9) (N := 16) (k := 43) (j := 12) (fs := [some (some 24), some (some 44), some (some 46), some (some 48), some (some 50), some (some 52), some (some 54), some (some 56), some (some 58), some (some 60), some (some 62), none, none, none, none, none]) rfl zin_9 (Nat.le_of_ble_eq_true rfl) rfl (hS _ _ zs_43) rfl zk_fl_11_215 hd kk
def w_Desk_fresh  (I : zI) (K : Int32 → Prop) : Prop :=
  K (I.1 43 12)
theorem dyX11_fresh_0 : decode cX11_fresh 0 = .ok (.aload_n 0, 1) := by decide +kernel
theorem dyX11_fresh_1 : decode cX11_fresh 1 = .ok (.getfield 44, 3) := by decide +kernel
theorem dyX11_fresh_4 : decode cX11_fresh 4 = .ok (.getfield 215, 3) := by decide +kernel
theorem dyX11_fresh_7 : decode cX11_fresh 7 = .ok (.ireturn, 1) := by decide +kernel
theorem zsg_yX11_fresh : yX11_fresh.cls = RX11 ∧ yX11_fresh.cls ≠ "java/lang/invoke/MethodHandle" ∧ yX11_fresh.cls ≠ "java/lang/invoke/VarHandle" ∧ (parseMethodDescriptor yX11_fresh.desc).map (fun d => d.parameters.length) = some 0 := by decide +kernel
set_option maxRecDepth 20000 in
theorem c_Desk_fresh {l : Launch} {D : va_G} {B : Nat} {cA : Nat → ClassId} {ad : Nat → Nat} {S : List zC} (hS : zOkX S)  {I : zI} {K : Int32 → Prop}  (h : w_Desk_fresh  I K) : Met l yX11_fresh (zws yX11_fresh cX11_fresh 1 (some .int)) (zrm 0 0) (zPc D B cA ad [.ref (B + 0)] S I) (zQc D B cA (zpI S I K)) 0 0 (fun q => B ≤ q) := by
  refine zm_of (cc := cX11_fresh) (maxL := 1) (ret := (some .int)) (by decide +kernel) rfl (Nat.le_of_ble_eq_true rfl) trivial ?_
  intro p e s m args below meth c C _
  unfold w_Desk_fresh at h
  show zX p l e (zrm 0 0) s m args below meth c (MQ below (zQc D B cA (zpI S I K)) args s 0 0 (fun q => B ≤ q)) D B cA 1 0 0 S I [(0, .ref (B + 0))] [] 0
  refine zr_aload_n C dyX11_fresh_0 rfl 0 rfl ?_
  refine zg_11_44 C hS dyX11_fresh_1 ?_
  refine zg_11_215 C hS dyX11_fresh_4 ?_
  exact zr_iret C rfl dyX11_fresh_7 ⟨rfl, rfl, _, rfl, h⟩
theorem zg_11_81 {p : Program} {l : Launch} {e : Env} {R : Room} {s : State} {m : MethodId} {args : Array Value} {below : List Frame} {meth : Method} {c : Code} {Q : State → Prop} {D : va_G} {B : Nat} {cA : Nat → ClassId} {ad : Nat → Nat} {cc : ByteArray} {nL : Nat} {ret : Option FieldType} {S : List zC} {I : zI} {lv : List (Nat × Value)} {st : List Value} {pc : Nat} (C : zCx p s m args meth c cc nL RX11 ret D B cA ad) (hS : zOkX S) (hd : decode cc pc = .ok (.getfield 81, 3)) (kk : zX p l e R s m args below meth c Q D B cA nL 0 0 S I lv (.ref (B + 100) :: st) (pc + 3)) : zX p l e R s m args below meth c Q D B cA nL 0 0 S I lv (.ref (B + 0) :: st) pc :=
  zr_getr C (ci := 11) (Cn := RX11) (T := TX11) (N := 19) (k := 0) (j := 15) (fs := [some (some 1), none, some (some 3), some (some 4), none, none, none, none, some (some 22), some (some 24), some (some 43), some (some 64), some (some 69), some (some 88), some (some 97), some (some 100), some (some 109), some (some 111), none]) rfl zin_11 (Nat.le_of_ble_eq_true rfl) rfl (hS _ _ zs_0) rfl zk_fl_11_81 hd kk
theorem zv_11_216 {p : Program} {l : Launch} {e : Env} {R : Room} {s : State} {m : MethodId} {args : Array Value} {below : List Frame} {meth : Method} {c : Code} {Q : State → Prop} {D : va_G} {B : Nat} {cA : Nat → ClassId} {ad : Nat → Nat} {cc : ByteArray} {nL : Nat} {ret : Option FieldType} {S : List zC} {I : zI} {lv : List (Nat × Value)} {st : List Value} {pc : Nat} (C : zCx p s m args meth c cc nL RX11 ret D B cA ad) {K : zI → Prop} {xa1 : Nat} (hS : zOkX S) (xha1 : zIsTokens S xa1) (h : w_Adviser_findWay xa1 I K) (hR : 4 + 1 ≤ R.frames ∧ 8 + (6 + 11) + (104) ≤ R.locals) (hw : (st.map fun v => v.category).sum ≤ 8) (hd : decode cc pc = .ok (.invokevirtual 216, 3)) (kk : ∀ I2, K I2 → zX p l e R s m args below meth c Q D B cA nL 0 0 S I2 lv st (pc + 3)) : zX p l e R s m args below meth c Q D B cA nL 0 0 S I lv (.ref (B + xa1) :: .ref (B + 100) :: st) pc :=
  have hf : 0 ≤ R.cells ∧ 0 ≤ R.slots := ⟨Nat.zero_le _, Nat.zero_le _⟩
  zc_VqV C (ci := 0) (q := (RX0, TX0, 5)) (k := 100) (fs := [some (some 101), some (some 104), some (some 107), none, none]) (As := [.ref (B + xa1)]) (st := st) rfl (hS _ _ zs_100) (c_Adviser_findWay hS xha1 h) (zgV zk_ml_11_216 zk_im_yX0_findWay zk_se_yX0_findWay zk_in_0 zk_cd_yX0_findWay) zsg_yX0_findWay hR rfl rfl hw hd hf kk
theorem zg_11_223 {p : Program} {l : Launch} {e : Env} {R : Room} {s : State} {m : MethodId} {args : Array Value} {below : List Frame} {meth : Method} {c : Code} {Q : State → Prop} {D : va_G} {B : Nat} {cA : Nat → ClassId} {ad : Nat → Nat} {cc : ByteArray} {nL : Nat} {ret : Option FieldType} {S : List zC} {I : zI} {lv : List (Nat × Value)} {st : List Value} {pc : Nat} (C : zCx p s m args meth c cc nL RX11 ret D B cA ad) (hS : zOkX S) (hd : decode cc pc = .ok (.getfield 223, 3)) (kk : zX p l e R s m args below meth c Q D B cA nL 0 0 S I lv (.int (I.1 100 4) :: st) (pc + 3)) : zX p l e R s m args below meth c Q D B cA nL 0 0 S I lv (.ref (B + 100) :: st) pc :=
  zr_geti C (ci := 0) (Cn := RX0) (T := TX0) (N := 5) (k := 100) (j := 4) (fs := [some (some 101), some (some 104), some (some 107), none, none]) rfl zin_0 (Nat.le_of_ble_eq_true rfl) rfl (hS _ _ zs_100) rfl zk_fl_11_223 hd kk
theorem zg_11_220 {p : Program} {l : Launch} {e : Env} {R : Room} {s : State} {m : MethodId} {args : Array Value} {below : List Frame} {meth : Method} {c : Code} {Q : State → Prop} {D : va_G} {B : Nat} {cA : Nat → ClassId} {ad : Nat → Nat} {cc : ByteArray} {nL : Nat} {ret : Option FieldType} {S : List zC} {I : zI} {lv : List (Nat × Value)} {st : List Value} {pc : Nat} (C : zCx p s m args meth c cc nL RX11 ret D B cA ad) (hS : zOkX S) (hd : decode cc pc = .ok (.getfield 220, 3)) (kk : zX p l e R s m args below meth c Q D B cA nL 0 0 S I lv (.int (I.1 100 3) :: st) (pc + 3)) : zX p l e R s m args below meth c Q D B cA nL 0 0 S I lv (.ref (B + 100) :: st) pc :=
  zr_geti C (ci := 0) (Cn := RX0) (T := TX0) (N := 5) (k := 100) (j := 3) (fs := [some (some 101), some (some 104), some (some 107), none, none]) rfl zin_0 (Nat.le_of_ble_eq_true rfl) rfl (hS _ _ zs_100) rfl zk_fl_11_220 hd kk
def w_Desk_inTheWay (a1 : Int32) (I : zI) (K : Int32 → zI → Prop) : Prop :=
  ∀ (P11 : Prop), ((w_Desk_now I (fun r_1 => (if (I.1 r_1 3) = 0 then (w_Adviser_findWay (r_1 + 3) I (fun I_2 => (if a1 = 0 then (K (I_2.1 100 3) I_2) else (K (I_2.1 100 4) I_2)))) else (K (-2) I)))) → P11) → (if a1 = 0 then P11 else (if a1 = 1 then P11 else (K (-1) I)))
theorem dyX11_inTheWay_0 : decode cX11_inTheWay 0 = .ok (.iload_n 1, 1) := by decide +kernel
theorem dyX11_inTheWay_1 : decode cX11_inTheWay 1 = .ok (.ifCond .eq 10, 3) := by decide +kernel
theorem dyX11_inTheWay_4 : decode cX11_inTheWay 4 = .ok (.iload_n 1, 1) := by decide +kernel
theorem dyX11_inTheWay_5 : decode cX11_inTheWay 5 = .ok (.iconst 1, 1) := by decide +kernel
theorem dyX11_inTheWay_6 : decode cX11_inTheWay 6 = .ok (.if_icmp .eq 5, 3) := by decide +kernel
theorem dyX11_inTheWay_9 : decode cX11_inTheWay 9 = .ok (.iconst (-1), 1) := by decide +kernel
theorem dyX11_inTheWay_10 : decode cX11_inTheWay 10 = .ok (.ireturn, 1) := by decide +kernel
theorem dyX11_inTheWay_11 : decode cX11_inTheWay 11 = .ok (.aload_n 0, 1) := by decide +kernel
theorem dyX11_inTheWay_12 : decode cX11_inTheWay 12 = .ok (.invokevirtual 126, 3) := by decide +kernel
theorem dyX11_inTheWay_15 : decode cX11_inTheWay 15 = .ok (.astore_n 2, 1) := by decide +kernel
theorem dyX11_inTheWay_16 : decode cX11_inTheWay 16 = .ok (.aload_n 2, 1) := by decide +kernel
theorem dyX11_inTheWay_17 : decode cX11_inTheWay 17 = .ok (.getfield 155, 3) := by decide +kernel
theorem dyX11_inTheWay_20 : decode cX11_inTheWay 20 = .ok (.ifCond .eq 6, 3) := by decide +kernel
theorem dyX11_inTheWay_23 : decode cX11_inTheWay 23 = .ok (.bipush (-2), 2) := by decide +kernel
theorem dyX11_inTheWay_25 : decode cX11_inTheWay 25 = .ok (.ireturn, 1) := by decide +kernel
theorem dyX11_inTheWay_26 : decode cX11_inTheWay 26 = .ok (.aload_n 0, 1) := by decide +kernel
theorem dyX11_inTheWay_27 : decode cX11_inTheWay 27 = .ok (.getfield 81, 3) := by decide +kernel
theorem dyX11_inTheWay_30 : decode cX11_inTheWay 30 = .ok (.aload_n 2, 1) := by decide +kernel
theorem dyX11_inTheWay_31 : decode cX11_inTheWay 31 = .ok (.getfield 99, 3) := by decide +kernel
theorem dyX11_inTheWay_34 : decode cX11_inTheWay 34 = .ok (.invokevirtual 216, 3) := by decide +kernel
theorem dyX11_inTheWay_37 : decode cX11_inTheWay 37 = .ok (.iload_n 1, 1) := by decide +kernel
theorem dyX11_inTheWay_38 : decode cX11_inTheWay 38 = .ok (.ifCond .ne 13, 3) := by decide +kernel
theorem dyX11_inTheWay_41 : decode cX11_inTheWay 41 = .ok (.aload_n 0, 1) := by decide +kernel
theorem dyX11_inTheWay_42 : decode cX11_inTheWay 42 = .ok (.getfield 81, 3) := by decide +kernel
theorem dyX11_inTheWay_45 : decode cX11_inTheWay 45 = .ok (.getfield 220, 3) := by decide +kernel
theorem dyX11_inTheWay_48 : decode cX11_inTheWay 48 = .ok (.goto 10, 3) := by decide +kernel
theorem dyX11_inTheWay_51 : decode cX11_inTheWay 51 = .ok (.aload_n 0, 1) := by decide +kernel
theorem dyX11_inTheWay_52 : decode cX11_inTheWay 52 = .ok (.getfield 81, 3) := by decide +kernel
theorem dyX11_inTheWay_55 : decode cX11_inTheWay 55 = .ok (.getfield 223, 3) := by decide +kernel
theorem dyX11_inTheWay_58 : decode cX11_inTheWay 58 = .ok (.ireturn, 1) := by decide +kernel
theorem zsg_yX11_inTheWay : yX11_inTheWay.cls = RX11 ∧ yX11_inTheWay.cls ≠ "java/lang/invoke/MethodHandle" ∧ yX11_inTheWay.cls ≠ "java/lang/invoke/VarHandle" ∧ (parseMethodDescriptor yX11_inTheWay.desc).map (fun d => d.parameters.length) = some 1 := by decide +kernel
set_option maxRecDepth 20000 in
theorem c_Desk_inTheWay {l : Launch} {D : va_G} {B : Nat} {cA : Nat → ClassId} {ad : Nat → Nat} {S : List zC} (hS : zOkX S) {a1 : Int32} {I : zI} {K : Int32 → zI → Prop}  (h : w_Desk_inTheWay a1 I K) : Met l yX11_inTheWay (zws yX11_inTheWay cX11_inTheWay 3 (some .int)) (zrm 5 129) (zPc D B cA ad [.ref (B + 0), .int a1] S I) (zQc D B cA (zqI S K)) 0 0 (fun q => B ≤ q) := by
  refine zm_of (cc := cX11_inTheWay) (maxL := 3) (ret := (some .int)) (by decide +kernel) rfl (Nat.le_of_ble_eq_true rfl) trivial ?_
  intro p e s m args below meth c C _
  unfold w_Desk_inTheWay at h
  show zX p l e (zrm 5 129) s m args below meth c (MQ below (zQc D B cA (zqI S K)) args s 0 0 (fun q => B ≤ q)) D B cA 3 0 0 S I [(0, .ref (B + 0)), (1, .int a1)] [] 0
  refine zr_iload_n C dyX11_inTheWay_0 rfl 1 rfl ?_
  refine zjn (h (zX p l e (zrm 5 129) s m args below meth c (MQ below (zQc D B cA (zqI S K)) args s 0 0 (fun q => B ≤ q)) D B cA 3 0 0 S I [(0, .ref (B + 0)), (1, .int a1)] [] 11) (fun  h => ?_)) (fun h => ?_)
  · refine zr_aload_n C dyX11_inTheWay_11 rfl 0 rfl ?_
    refine zv_11_126 C hS (st := []) h ⟨Nat.le_of_ble_eq_true rfl, Nat.le_of_ble_eq_true rfl⟩ (Nat.le_of_ble_eq_true rfl) dyX11_inTheWay_12 (fun r_1 hr_1 h => ?_)
    refine zr_astore_n C dyX11_inTheWay_15 rfl (Nat.le_of_ble_eq_true rfl) (lv2 := [(2, .ref (B + r_1)), (0, .ref (B + 0)), (1, .int a1)]) rfl ?_
    refine zr_aload_n C dyX11_inTheWay_16 rfl 0 rfl ?_
    refine zg_11_155 C hr_1 dyX11_inTheWay_17 ?_
    refine zr_if_eq C dyX11_inTheWay_20 (tgt := 26) (by decide) (fun hc_4 => ?_) (fun hc_4 => ?_)
    · replace h := zif_pos hc_4 h
      refine zr_aload_n C dyX11_inTheWay_26 rfl 1 rfl ?_
      refine zg_11_81 C hS dyX11_inTheWay_27 ?_
      refine zr_aload_n C dyX11_inTheWay_30 rfl 0 rfl ?_
      refine zg_11_99 C hr_1 dyX11_inTheWay_31 ?_
      refine zv_11_216 C hS hr_1.2.2.1 (st := []) h ⟨Nat.le_of_ble_eq_true rfl, Nat.le_of_ble_eq_true rfl⟩ (Nat.le_of_ble_eq_true rfl) dyX11_inTheWay_34 (fun I_2 h => ?_)
      refine zr_iload_n C dyX11_inTheWay_37 rfl 2 rfl ?_
      refine zr_if_ne C dyX11_inTheWay_38 (tgt := 51) (by decide) (fun hc_3 => ?_) (fun hc_3 => ?_)
      · replace h := zif_neg hc_3 h
        refine zr_aload_n C dyX11_inTheWay_51 rfl 1 rfl ?_
        refine zg_11_81 C hS dyX11_inTheWay_52 ?_
        refine zg_11_223 C hS dyX11_inTheWay_55 ?_
        exact zr_iret C rfl dyX11_inTheWay_58 ⟨rfl, _, rfl, h⟩
      · replace h := zif_pos hc_3 h
        refine zr_aload_n C dyX11_inTheWay_41 rfl 1 rfl ?_
        refine zg_11_81 C hS dyX11_inTheWay_42 ?_
        refine zg_11_220 C hS dyX11_inTheWay_45 ?_
        refine zr_goto C dyX11_inTheWay_48 (tgt := 58) (by decide) ?_
        exact zr_iret C rfl dyX11_inTheWay_58 ⟨rfl, _, rfl, h⟩
    · replace h := zif_neg hc_4 h
      refine zr_bipush C dyX11_inTheWay_23 zc_b_m2 ?_
      exact zr_iret C rfl dyX11_inTheWay_25 ⟨rfl, _, rfl, h⟩
  refine zr_if_eq C dyX11_inTheWay_1 (tgt := 11) (by decide) (fun hc_6 => ?_) (fun hc_6 => ?_)
  · replace h := zif_pos hc_6 h
    exact h
  · replace h := zif_neg hc_6 h
    refine zr_iload_n C dyX11_inTheWay_4 rfl 1 rfl ?_
    refine zr_iconst C dyX11_inTheWay_5 zc_i_1 ?_
    refine zr_icmp_eq C dyX11_inTheWay_6 (tgt := 11) (by decide) (fun hc_5 => ?_) (fun hc_5 => ?_)
    · replace h := zif_pos hc_5 h
      exact h
    · replace h := zif_neg hc_5 h
      refine zr_iconst C dyX11_inTheWay_9 zc_i_m1 ?_
      exact zr_iret C rfl dyX11_inTheWay_10 ⟨rfl, _, rfl, h⟩
theorem zv_11_226 {p : Program} {l : Launch} {e : Env} {R : Room} {s : State} {m : MethodId} {args : Array Value} {below : List Frame} {meth : Method} {c : Code} {Q : State → Prop} {D : va_G} {B : Nat} {cA : Nat → ClassId} {ad : Nat → Nat} {cc : ByteArray} {nL : Nat} {ret : Option FieldType} {S : List zC} {I : zI} {lv : List (Nat × Value)} {st : List Value} {pc : Nat} (C : zCx p s m args meth c cc nL RX11 ret D B cA ad) {K : Int32 → zI → Prop} {xa1 : Nat} (hS : zOkX S) (xha1 : zIsTokens S xa1) (h : w_Adviser_kindsInPlace xa1 I K) (hR : 5 + 1 ≤ R.frames ∧ 8 + (4 + 11) + (126) ≤ R.locals) (hw : (st.map fun v => v.category).sum ≤ 8) (hd : decode cc pc = .ok (.invokevirtual 226, 3)) (kk : ∀ v I2, K v I2 → zX p l e R s m args below meth c Q D B cA nL 0 0 S I2 lv (.int v :: st) (pc + 3)) : zX p l e R s m args below meth c Q D B cA nL 0 0 S I lv (.ref (B + xa1) :: .ref (B + 100) :: st) pc :=
  have hf : 0 ≤ R.cells ∧ 0 ≤ R.slots := ⟨Nat.zero_le _, Nat.zero_le _⟩
  zc_VqI C (ci := 0) (q := (RX0, TX0, 5)) (k := 100) (fs := [some (some 101), some (some 104), some (some 107), none, none]) (As := [.ref (B + xa1)]) (st := st) rfl (hS _ _ zs_100) (c_Adviser_kindsInPlace hS xha1 h) (zgV zk_ml_11_226 zk_im_yX0_kindsInPlace zk_se_yX0_kindsInPlace zk_in_0 zk_cd_yX0_kindsInPlace) zsg_yX0_kindsInPlace hR rfl rfl hw hd hf kk
def w_Desk_expected  (I : zI) (K : Int32 → zI → Prop) : Prop :=
  w_Desk_now I (fun r_1 => (if (I.1 r_1 3) = 0 then (w_Adviser_kindsInPlace (r_1 + 3) I (fun r_2 I_3 => K r_2 I_3)) else (K (-2) I)))
theorem dyX11_expected_0 : decode cX11_expected 0 = .ok (.aload_n 0, 1) := by decide +kernel
theorem dyX11_expected_1 : decode cX11_expected 1 = .ok (.invokevirtual 126, 3) := by decide +kernel
theorem dyX11_expected_4 : decode cX11_expected 4 = .ok (.astore_n 1, 1) := by decide +kernel
theorem dyX11_expected_5 : decode cX11_expected 5 = .ok (.aload_n 1, 1) := by decide +kernel
theorem dyX11_expected_6 : decode cX11_expected 6 = .ok (.getfield 155, 3) := by decide +kernel
theorem dyX11_expected_9 : decode cX11_expected 9 = .ok (.ifCond .eq 8, 3) := by decide +kernel
theorem dyX11_expected_12 : decode cX11_expected 12 = .ok (.bipush (-2), 2) := by decide +kernel
theorem dyX11_expected_14 : decode cX11_expected 14 = .ok (.goto 14, 3) := by decide +kernel
theorem dyX11_expected_17 : decode cX11_expected 17 = .ok (.aload_n 0, 1) := by decide +kernel
theorem dyX11_expected_18 : decode cX11_expected 18 = .ok (.getfield 81, 3) := by decide +kernel
theorem dyX11_expected_21 : decode cX11_expected 21 = .ok (.aload_n 1, 1) := by decide +kernel
theorem dyX11_expected_22 : decode cX11_expected 22 = .ok (.getfield 99, 3) := by decide +kernel
theorem dyX11_expected_25 : decode cX11_expected 25 = .ok (.invokevirtual 226, 3) := by decide +kernel
theorem dyX11_expected_28 : decode cX11_expected 28 = .ok (.ireturn, 1) := by decide +kernel
theorem zsg_yX11_expected : yX11_expected.cls = RX11 ∧ yX11_expected.cls ≠ "java/lang/invoke/MethodHandle" ∧ yX11_expected.cls ≠ "java/lang/invoke/VarHandle" ∧ (parseMethodDescriptor yX11_expected.desc).map (fun d => d.parameters.length) = some 0 := by decide +kernel
set_option maxRecDepth 20000 in
theorem c_Desk_expected {l : Launch} {D : va_G} {B : Nat} {cA : Nat → ClassId} {ad : Nat → Nat} {S : List zC} (hS : zOkX S)  {I : zI} {K : Int32 → zI → Prop}  (h : w_Desk_expected  I K) : Met l yX11_expected (zws yX11_expected cX11_expected 2 (some .int)) (zrm 6 149) (zPc D B cA ad [.ref (B + 0)] S I) (zQc D B cA (zqI S K)) 0 0 (fun q => B ≤ q) := by
  refine zm_of (cc := cX11_expected) (maxL := 2) (ret := (some .int)) (by decide +kernel) rfl (Nat.le_of_ble_eq_true rfl) trivial ?_
  intro p e s m args below meth c C _
  unfold w_Desk_expected at h
  show zX p l e (zrm 6 149) s m args below meth c (MQ below (zQc D B cA (zqI S K)) args s 0 0 (fun q => B ≤ q)) D B cA 2 0 0 S I [(0, .ref (B + 0))] [] 0
  refine zr_aload_n C dyX11_expected_0 rfl 0 rfl ?_
  refine zv_11_126 C hS (st := []) h ⟨Nat.le_of_ble_eq_true rfl, Nat.le_of_ble_eq_true rfl⟩ (Nat.le_of_ble_eq_true rfl) dyX11_expected_1 (fun r_1 hr_1 h => ?_)
  refine zr_astore_n C dyX11_expected_4 rfl (Nat.le_of_ble_eq_true rfl) (lv2 := [(1, .ref (B + r_1)), (0, .ref (B + 0))]) rfl ?_
  refine zr_aload_n C dyX11_expected_5 rfl 0 rfl ?_
  refine zg_11_155 C hr_1 dyX11_expected_6 ?_
  refine zr_if_eq C dyX11_expected_9 (tgt := 17) (by decide) (fun hc_4 => ?_) (fun hc_4 => ?_)
  · replace h := zif_pos hc_4 h
    refine zr_aload_n C dyX11_expected_17 rfl 1 rfl ?_
    refine zg_11_81 C hS dyX11_expected_18 ?_
    refine zr_aload_n C dyX11_expected_21 rfl 0 rfl ?_
    refine zg_11_99 C hr_1 dyX11_expected_22 ?_
    refine zv_11_226 C hS hr_1.2.2.1 (st := []) h ⟨Nat.le_of_ble_eq_true rfl, Nat.le_of_ble_eq_true rfl⟩ (Nat.le_of_ble_eq_true rfl) dyX11_expected_25 (fun r_2 I_3 h => ?_)
    exact zr_iret C rfl dyX11_expected_28 ⟨rfl, _, rfl, h⟩
  · replace h := zif_neg hc_4 h
    refine zr_bipush C dyX11_expected_12 zc_b_m2 ?_
    refine zr_goto C dyX11_expected_14 (tgt := 28) (by decide) ?_
    exact zr_iret C rfl dyX11_expected_28 ⟨rfl, _, rfl, h⟩
theorem zv_11_230 {p : Program} {l : Launch} {e : Env} {R : Room} {s : State} {m : MethodId} {args : Array Value} {below : List Frame} {meth : Method} {c : Code} {Q : State → Prop} {D : va_G} {B : Nat} {cA : Nat → ClassId} {ad : Nat → Nat} {cc : ByteArray} {nL : Nat} {ret : Option FieldType} {S : List zC} {I : zI} {lv : List (Nat × Value)} {st : List Value} {pc : Nat} (C : zCx p s m args meth c cc nL RX11 ret D B cA ad) {K : zI → Prop} {xa1 : Nat} (hS : zOkX S) (xha1 : zIsTokens S xa1) (h : w_Adviser_findMend xa1 I K) (hR : 4 + 1 ≤ R.frames ∧ 8 + (5 + 11) + (104) ≤ R.locals) (hw : (st.map fun v => v.category).sum ≤ 8) (hd : decode cc pc = .ok (.invokevirtual 230, 3)) (kk : ∀ I2, K I2 → zX p l e R s m args below meth c Q D B cA nL 0 0 S I2 lv st (pc + 3)) : zX p l e R s m args below meth c Q D B cA nL 0 0 S I lv (.ref (B + xa1) :: .ref (B + 100) :: st) pc :=
  have hf : 0 ≤ R.cells ∧ 0 ≤ R.slots := ⟨Nat.zero_le _, Nat.zero_le _⟩
  zc_VqV C (ci := 0) (q := (RX0, TX0, 5)) (k := 100) (fs := [some (some 101), some (some 104), some (some 107), none, none]) (As := [.ref (B + xa1)]) (st := st) rfl (hS _ _ zs_100) (c_Adviser_findMend hS xha1 h) (zgV zk_ml_11_230 zk_im_yX0_findMend zk_se_yX0_findMend zk_in_0 zk_cd_yX0_findMend) zsg_yX0_findMend hR rfl rfl hw hd hf kk
def w_Desk_mend (a1 : Int32) (I : zI) (K : Int32 → zI → Prop) : Prop :=
  ∀ (P11 : Prop), ((w_Desk_now I (fun r_1 => (if (I.1 r_1 3) = 0 then (w_Adviser_findMend (r_1 + 3) I (fun I_2 => (if a1 = 0 then (K (I_2.1 100 3) I_2) else (K (I_2.1 100 4) I_2)))) else (K (-2) I)))) → P11) → (if a1 = 0 then P11 else (if a1 = 1 then P11 else (K (-1) I)))
theorem dyX11_mend_0 : decode cX11_mend 0 = .ok (.iload_n 1, 1) := by decide +kernel
theorem dyX11_mend_1 : decode cX11_mend 1 = .ok (.ifCond .eq 10, 3) := by decide +kernel
theorem dyX11_mend_4 : decode cX11_mend 4 = .ok (.iload_n 1, 1) := by decide +kernel
theorem dyX11_mend_5 : decode cX11_mend 5 = .ok (.iconst 1, 1) := by decide +kernel
theorem dyX11_mend_6 : decode cX11_mend 6 = .ok (.if_icmp .eq 5, 3) := by decide +kernel
theorem dyX11_mend_9 : decode cX11_mend 9 = .ok (.iconst (-1), 1) := by decide +kernel
theorem dyX11_mend_10 : decode cX11_mend 10 = .ok (.ireturn, 1) := by decide +kernel
theorem dyX11_mend_11 : decode cX11_mend 11 = .ok (.aload_n 0, 1) := by decide +kernel
theorem dyX11_mend_12 : decode cX11_mend 12 = .ok (.invokevirtual 126, 3) := by decide +kernel
theorem dyX11_mend_15 : decode cX11_mend 15 = .ok (.astore_n 2, 1) := by decide +kernel
theorem dyX11_mend_16 : decode cX11_mend 16 = .ok (.aload_n 2, 1) := by decide +kernel
theorem dyX11_mend_17 : decode cX11_mend 17 = .ok (.getfield 155, 3) := by decide +kernel
theorem dyX11_mend_20 : decode cX11_mend 20 = .ok (.ifCond .eq 6, 3) := by decide +kernel
theorem dyX11_mend_23 : decode cX11_mend 23 = .ok (.bipush (-2), 2) := by decide +kernel
theorem dyX11_mend_25 : decode cX11_mend 25 = .ok (.ireturn, 1) := by decide +kernel
theorem dyX11_mend_26 : decode cX11_mend 26 = .ok (.aload_n 0, 1) := by decide +kernel
theorem dyX11_mend_27 : decode cX11_mend 27 = .ok (.getfield 81, 3) := by decide +kernel
theorem dyX11_mend_30 : decode cX11_mend 30 = .ok (.aload_n 2, 1) := by decide +kernel
theorem dyX11_mend_31 : decode cX11_mend 31 = .ok (.getfield 99, 3) := by decide +kernel
theorem dyX11_mend_34 : decode cX11_mend 34 = .ok (.invokevirtual 230, 3) := by decide +kernel
theorem dyX11_mend_37 : decode cX11_mend 37 = .ok (.iload_n 1, 1) := by decide +kernel
theorem dyX11_mend_38 : decode cX11_mend 38 = .ok (.ifCond .ne 13, 3) := by decide +kernel
theorem dyX11_mend_41 : decode cX11_mend 41 = .ok (.aload_n 0, 1) := by decide +kernel
theorem dyX11_mend_42 : decode cX11_mend 42 = .ok (.getfield 81, 3) := by decide +kernel
theorem dyX11_mend_45 : decode cX11_mend 45 = .ok (.getfield 220, 3) := by decide +kernel
theorem dyX11_mend_48 : decode cX11_mend 48 = .ok (.goto 10, 3) := by decide +kernel
theorem dyX11_mend_51 : decode cX11_mend 51 = .ok (.aload_n 0, 1) := by decide +kernel
theorem dyX11_mend_52 : decode cX11_mend 52 = .ok (.getfield 81, 3) := by decide +kernel
theorem dyX11_mend_55 : decode cX11_mend 55 = .ok (.getfield 223, 3) := by decide +kernel
theorem dyX11_mend_58 : decode cX11_mend 58 = .ok (.ireturn, 1) := by decide +kernel
theorem zsg_yX11_mend : yX11_mend.cls = RX11 ∧ yX11_mend.cls ≠ "java/lang/invoke/MethodHandle" ∧ yX11_mend.cls ≠ "java/lang/invoke/VarHandle" ∧ (parseMethodDescriptor yX11_mend.desc).map (fun d => d.parameters.length) = some 1 := by decide +kernel
set_option maxRecDepth 20000 in
theorem c_Desk_mend {l : Launch} {D : va_G} {B : Nat} {cA : Nat → ClassId} {ad : Nat → Nat} {S : List zC} (hS : zOkX S) {a1 : Int32} {I : zI} {K : Int32 → zI → Prop}  (h : w_Desk_mend a1 I K) : Met l yX11_mend (zws yX11_mend cX11_mend 3 (some .int)) (zrm 5 128) (zPc D B cA ad [.ref (B + 0), .int a1] S I) (zQc D B cA (zqI S K)) 0 0 (fun q => B ≤ q) := by
  refine zm_of (cc := cX11_mend) (maxL := 3) (ret := (some .int)) (by decide +kernel) rfl (Nat.le_of_ble_eq_true rfl) trivial ?_
  intro p e s m args below meth c C _
  unfold w_Desk_mend at h
  show zX p l e (zrm 5 128) s m args below meth c (MQ below (zQc D B cA (zqI S K)) args s 0 0 (fun q => B ≤ q)) D B cA 3 0 0 S I [(0, .ref (B + 0)), (1, .int a1)] [] 0
  refine zr_iload_n C dyX11_mend_0 rfl 1 rfl ?_
  refine zjn (h (zX p l e (zrm 5 128) s m args below meth c (MQ below (zQc D B cA (zqI S K)) args s 0 0 (fun q => B ≤ q)) D B cA 3 0 0 S I [(0, .ref (B + 0)), (1, .int a1)] [] 11) (fun  h => ?_)) (fun h => ?_)
  · refine zr_aload_n C dyX11_mend_11 rfl 0 rfl ?_
    refine zv_11_126 C hS (st := []) h ⟨Nat.le_of_ble_eq_true rfl, Nat.le_of_ble_eq_true rfl⟩ (Nat.le_of_ble_eq_true rfl) dyX11_mend_12 (fun r_1 hr_1 h => ?_)
    refine zr_astore_n C dyX11_mend_15 rfl (Nat.le_of_ble_eq_true rfl) (lv2 := [(2, .ref (B + r_1)), (0, .ref (B + 0)), (1, .int a1)]) rfl ?_
    refine zr_aload_n C dyX11_mend_16 rfl 0 rfl ?_
    refine zg_11_155 C hr_1 dyX11_mend_17 ?_
    refine zr_if_eq C dyX11_mend_20 (tgt := 26) (by decide) (fun hc_4 => ?_) (fun hc_4 => ?_)
    · replace h := zif_pos hc_4 h
      refine zr_aload_n C dyX11_mend_26 rfl 1 rfl ?_
      refine zg_11_81 C hS dyX11_mend_27 ?_
      refine zr_aload_n C dyX11_mend_30 rfl 0 rfl ?_
      refine zg_11_99 C hr_1 dyX11_mend_31 ?_
      refine zv_11_230 C hS hr_1.2.2.1 (st := []) h ⟨Nat.le_of_ble_eq_true rfl, Nat.le_of_ble_eq_true rfl⟩ (Nat.le_of_ble_eq_true rfl) dyX11_mend_34 (fun I_2 h => ?_)
      refine zr_iload_n C dyX11_mend_37 rfl 2 rfl ?_
      refine zr_if_ne C dyX11_mend_38 (tgt := 51) (by decide) (fun hc_3 => ?_) (fun hc_3 => ?_)
      · replace h := zif_neg hc_3 h
        refine zr_aload_n C dyX11_mend_51 rfl 1 rfl ?_
        refine zg_11_81 C hS dyX11_mend_52 ?_
        refine zg_11_223 C hS dyX11_mend_55 ?_
        exact zr_iret C rfl dyX11_mend_58 ⟨rfl, _, rfl, h⟩
      · replace h := zif_pos hc_3 h
        refine zr_aload_n C dyX11_mend_41 rfl 1 rfl ?_
        refine zg_11_81 C hS dyX11_mend_42 ?_
        refine zg_11_220 C hS dyX11_mend_45 ?_
        refine zr_goto C dyX11_mend_48 (tgt := 58) (by decide) ?_
        exact zr_iret C rfl dyX11_mend_58 ⟨rfl, _, rfl, h⟩
    · replace h := zif_neg hc_4 h
      refine zr_bipush C dyX11_mend_23 zc_b_m2 ?_
      exact zr_iret C rfl dyX11_mend_25 ⟨rfl, _, rfl, h⟩
  refine zr_if_eq C dyX11_mend_1 (tgt := 11) (by decide) (fun hc_6 => ?_) (fun hc_6 => ?_)
  · replace h := zif_pos hc_6 h
    exact h
  · replace h := zif_neg hc_6 h
    refine zr_iload_n C dyX11_mend_4 rfl 1 rfl ?_
    refine zr_iconst C dyX11_mend_5 zc_i_1 ?_
    refine zr_icmp_eq C dyX11_mend_6 (tgt := 11) (by decide) (fun hc_5 => ?_) (fun hc_5 => ?_)
    · replace h := zif_pos hc_5 h
      exact h
    · replace h := zif_neg hc_5 h
      refine zr_iconst C dyX11_mend_9 zc_i_m1 ?_
      exact zr_iret C rfl dyX11_mend_10 ⟨rfl, _, rfl, h⟩
theorem zg_11_237 {p : Program} {l : Launch} {e : Env} {R : Room} {s : State} {m : MethodId} {args : Array Value} {below : List Frame} {meth : Method} {c : Code} {Q : State → Prop} {D : va_G} {B : Nat} {cA : Nat → ClassId} {ad : Nat → Nat} {cc : ByteArray} {nL : Nat} {ret : Option FieldType} {S : List zC} {I : zI} {lv : List (Nat × Value)} {st : List Value} {pc : Nat} (C : zCx p s m args meth c cc nL RX11 ret D B cA ad) (hS : zOkX S) (hd : decode cc pc = .ok (.getfield 237, 3)) (kk : zX p l e R s m args below meth c Q D B cA nL 0 0 S I lv (.ref (B + 27) :: st) (pc + 3)) : zX p l e R s m args below meth c Q D B cA nL 0 0 S I lv (.ref (B + 24) :: st) pc :=
  zr_getr C (ci := 3) (Cn := RX3) (T := TX3) (N := 10) (k := 24) (j := 1) (fs := [some (some 25), some (some 27), some (some 29), some (some 31), some (some 33), some (some 35), some (some 37), some (some 39), some (some 41), none]) rfl zin_3 (Nat.le_of_ble_eq_true rfl) rfl (hS _ _ zs_24) rfl zk_fl_11_237 hd kk
def w_Desk_isEnd (a1 : Int32) (I : zI) (K : Int32 → Prop) : Prop :=
  w_Row_get 27 3400 a1 I (fun r_1 => (if r_1 = 15 then K 1 else K 0))
theorem dyX11_isEnd_0 : decode cX11_isEnd 0 = .ok (.aload_n 0, 1) := by decide +kernel
theorem dyX11_isEnd_1 : decode cX11_isEnd 1 = .ok (.getfield 35, 3) := by decide +kernel
theorem dyX11_isEnd_4 : decode cX11_isEnd 4 = .ok (.getfield 237, 3) := by decide +kernel
theorem dyX11_isEnd_7 : decode cX11_isEnd 7 = .ok (.iload_n 1, 1) := by decide +kernel
theorem dyX11_isEnd_8 : decode cX11_isEnd 8 = .ok (.invokevirtual 166, 3) := by decide +kernel
theorem dyX11_isEnd_11 : decode cX11_isEnd 11 = .ok (.bipush 15, 2) := by decide +kernel
theorem dyX11_isEnd_13 : decode cX11_isEnd 13 = .ok (.if_icmp .ne 7, 3) := by decide +kernel
theorem dyX11_isEnd_16 : decode cX11_isEnd 16 = .ok (.iconst 1, 1) := by decide +kernel
theorem dyX11_isEnd_17 : decode cX11_isEnd 17 = .ok (.goto 4, 3) := by decide +kernel
theorem dyX11_isEnd_20 : decode cX11_isEnd 20 = .ok (.iconst 0, 1) := by decide +kernel
theorem dyX11_isEnd_21 : decode cX11_isEnd 21 = .ok (.ireturn, 1) := by decide +kernel
theorem zsg_yX11_isEnd : yX11_isEnd.cls = RX11 ∧ yX11_isEnd.cls ≠ "java/lang/invoke/MethodHandle" ∧ yX11_isEnd.cls ≠ "java/lang/invoke/VarHandle" ∧ (parseMethodDescriptor yX11_isEnd.desc).map (fun d => d.parameters.length) = some 1 := by decide +kernel
set_option maxRecDepth 20000 in
theorem c_Desk_isEnd {l : Launch} {D : va_G} {B : Nat} {cA : Nat → ClassId} {ad : Nat → Nat} {S : List zC} (hS : zOkX S) {a1 : Int32} {I : zI} {K : Int32 → Prop}  (h : w_Desk_isEnd a1 I K) : Met l yX11_isEnd (zws yX11_isEnd cX11_isEnd 2 (some .boolean)) (zrm 1 21) (zPc D B cA ad [.ref (B + 0), .int a1] S I) (zQc D B cA (zpI S I K)) 0 0 (fun q => B ≤ q) := by
  refine zm_of (cc := cX11_isEnd) (maxL := 2) (ret := (some .boolean)) (by decide +kernel) rfl (Nat.le_of_ble_eq_true rfl) trivial ?_
  intro p e s m args below meth c C _
  unfold w_Desk_isEnd at h
  show zX p l e (zrm 1 21) s m args below meth c (MQ below (zQc D B cA (zpI S I K)) args s 0 0 (fun q => B ≤ q)) D B cA 2 0 0 S I [(0, .ref (B + 0)), (1, .int a1)] [] 0
  refine zr_aload_n C dyX11_isEnd_0 rfl 0 rfl ?_
  refine zg_11_35 C hS dyX11_isEnd_1 ?_
  refine zg_11_237 C hS dyX11_isEnd_4 ?_
  refine zr_iload_n C dyX11_isEnd_7 rfl 1 rfl ?_
  refine zv_11_166 C hS (zIsRow.of hS zir_27) (st := []) h ⟨Nat.le_of_ble_eq_true rfl, Nat.le_of_ble_eq_true rfl⟩ (Nat.le_of_ble_eq_true rfl) dyX11_isEnd_8 (fun r_1 h => ?_)
  refine zr_bipush C dyX11_isEnd_11 zc_b_15 ?_
  refine zr_icmp_ne C dyX11_isEnd_13 (tgt := 20) (by decide) (fun hc_2 => ?_) (fun hc_2 => ?_)
  · replace h := zif_neg hc_2 h
    refine zr_iconst C dyX11_isEnd_20 zc_i_0 ?_
    exact zr_zret C rfl (zb.nar zb_0) dyX11_isEnd_21 ⟨rfl, rfl, _, rfl, h⟩
  · replace h := zif_pos hc_2 h
    refine zr_iconst C dyX11_isEnd_16 zc_i_1 ?_
    refine zr_goto C dyX11_isEnd_17 (tgt := 21) (by decide) ?_
    exact zr_zret C rfl (zb.nar zb_1) dyX11_isEnd_21 ⟨rfl, rfl, _, rfl, h⟩
theorem zv_11_233 {p : Program} {l : Launch} {e : Env} {R : Room} {s : State} {m : MethodId} {args : Array Value} {below : List Frame} {meth : Method} {c : Code} {Q : State → Prop} {D : va_G} {B : Nat} {cA : Nat → ClassId} {ad : Nat → Nat} {cc : ByteArray} {nL : Nat} {ret : Option FieldType} {S : List zC} {I : zI} {lv : List (Nat × Value)} {st : List Value} {pc : Nat} (C : zCx p s m args meth c cc nL RX11 ret D B cA ad) {K : Int32 → Prop} {xa1 : Int32} (hS : zOkX S)  (h : w_Nodes_has xa1 I K) (hR : 0 + 1 ≤ R.frames ∧ 8 + (2 + 11) + (0) ≤ R.locals) (hw : (st.map fun v => v.category).sum ≤ 8) (hd : decode cc pc = .ok (.invokevirtual 233, 3)) (kk : ∀ v, K v → zX p l e R s m args below meth c Q D B cA nL 0 0 S I lv (.int v :: st) (pc + 3)) : zX p l e R s m args below meth c Q D B cA nL 0 0 S I lv (.int xa1 :: .ref (B + 24) :: st) pc :=
  have hf : 0 ≤ R.cells ∧ 0 ≤ R.slots := ⟨Nat.zero_le _, Nat.zero_le _⟩
  zc_VpI C (ci := 3) (q := (RX3, TX3, 10)) (k := 24) (fs := [some (some 25), some (some 27), some (some 29), some (some 31), some (some 33), some (some 35), some (some 37), some (some 39), some (some 41), none]) (As := [.int xa1]) (st := st) rfl (hS _ _ zs_24) (c_Nodes_has hS h) (zgV zk_ml_11_233 zk_im_yX3_has zk_se_yX3_has zk_in_3 zk_cd_yX3_has) zsg_yX3_has hR rfl rfl hw hd hf kk
theorem zg_11_234 {p : Program} {l : Launch} {e : Env} {R : Room} {s : State} {m : MethodId} {args : Array Value} {below : List Frame} {meth : Method} {c : Code} {Q : State → Prop} {D : va_G} {B : Nat} {cA : Nat → ClassId} {ad : Nat → Nat} {cc : ByteArray} {nL : Nat} {ret : Option FieldType} {S : List zC} {I : zI} {lv : List (Nat × Value)} {st : List Value} {pc : Nat} (C : zCx p s m args meth c cc nL RX11 ret D B cA ad) (hS : zOkX S) (hd : decode cc pc = .ok (.getfield 234, 3)) (kk : zX p l e R s m args below meth c Q D B cA nL 0 0 S I lv (.ref (B + 25) :: st) (pc + 3)) : zX p l e R s m args below meth c Q D B cA nL 0 0 S I lv (.ref (B + 24) :: st) pc :=
  zr_getr C (ci := 3) (Cn := RX3) (T := TX3) (N := 10) (k := 24) (j := 0) (fs := [some (some 25), some (some 27), some (some 29), some (some 31), some (some 33), some (some 35), some (some 37), some (some 39), some (some 41), none]) rfl zin_3 (Nat.le_of_ble_eq_true rfl) rfl (hS _ _ zs_24) rfl zk_fl_11_234 hd kk
theorem zv_11_240 {p : Program} {l : Launch} {e : Env} {R : Room} {s : State} {m : MethodId} {args : Array Value} {below : List Frame} {meth : Method} {c : Code} {Q : State → Prop} {D : va_G} {B : Nat} {cA : Nat → ClassId} {ad : Nat → Nat} {cc : ByteArray} {nL : Nat} {ret : Option FieldType} {S : List zC} {I : zI} {lv : List (Nat × Value)} {st : List Value} {pc : Nat} (C : zCx p s m args meth c cc nL RX11 ret D B cA ad) {K : Int32 → Prop} {xa1 : Int32} (hS : zOkX S)  (h : w_Nodes_childrenOf xa1 I K) (hR : 1 + 1 ≤ R.frames ∧ 8 + (2 + 11) + (21) ≤ R.locals) (hw : (st.map fun v => v.category).sum ≤ 8) (hd : decode cc pc = .ok (.invokevirtual 240, 3)) (kk : ∀ v, K v → zX p l e R s m args below meth c Q D B cA nL 0 0 S I lv (.int v :: st) (pc + 3)) : zX p l e R s m args below meth c Q D B cA nL 0 0 S I lv (.int xa1 :: .ref (B + 24) :: st) pc :=
  have hf : 0 ≤ R.cells ∧ 0 ≤ R.slots := ⟨Nat.zero_le _, Nat.zero_le _⟩
  zc_VpI C (ci := 3) (q := (RX3, TX3, 10)) (k := 24) (fs := [some (some 25), some (some 27), some (some 29), some (some 31), some (some 33), some (some 35), some (some 37), some (some 39), some (some 41), none]) (As := [.int xa1]) (st := st) rfl (hS _ _ zs_24) (c_Nodes_childrenOf hS h) (zgV zk_ml_11_240 zk_im_yX3_childrenOf zk_se_yX3_childrenOf zk_in_3 zk_cd_yX3_childrenOf) zsg_yX3_childrenOf hR rfl rfl hw hd hf kk
theorem zg_11_243 {p : Program} {l : Launch} {e : Env} {R : Room} {s : State} {m : MethodId} {args : Array Value} {below : List Frame} {meth : Method} {c : Code} {Q : State → Prop} {D : va_G} {B : Nat} {cA : Nat → ClassId} {ad : Nat → Nat} {cc : ByteArray} {nL : Nat} {ret : Option FieldType} {S : List zC} {I : zI} {lv : List (Nat × Value)} {st : List Value} {pc : Nat} (C : zCx p s m args meth c cc nL RX11 ret D B cA ad) (hS : zOkX S) (hd : decode cc pc = .ok (.getfield 243, 3)) (kk : zX p l e R s m args below meth c Q D B cA nL 0 0 S I lv (.ref (B + 29) :: st) (pc + 3)) : zX p l e R s m args below meth c Q D B cA nL 0 0 S I lv (.ref (B + 24) :: st) pc :=
  zr_getr C (ci := 3) (Cn := RX3) (T := TX3) (N := 10) (k := 24) (j := 2) (fs := [some (some 25), some (some 27), some (some 29), some (some 31), some (some 33), some (some 35), some (some 37), some (some 39), some (some 41), none]) rfl zin_3 (Nat.le_of_ble_eq_true rfl) rfl (hS _ _ zs_24) rfl zk_fl_11_243 hd kk
theorem zg_11_248 {p : Program} {l : Launch} {e : Env} {R : Room} {s : State} {m : MethodId} {args : Array Value} {below : List Frame} {meth : Method} {c : Code} {Q : State → Prop} {D : va_G} {B : Nat} {cA : Nat → ClassId} {ad : Nat → Nat} {cc : ByteArray} {nL : Nat} {ret : Option FieldType} {S : List zC} {I : zI} {lv : List (Nat × Value)} {st : List Value} {pc : Nat} (C : zCx p s m args meth c cc nL RX11 ret D B cA ad) (hS : zOkX S) (hd : decode cc pc = .ok (.getfield 248, 3)) (kk : zX p l e R s m args below meth c Q D B cA nL 0 0 S I lv (.ref (B + 33) :: st) (pc + 3)) : zX p l e R s m args below meth c Q D B cA nL 0 0 S I lv (.ref (B + 24) :: st) pc :=
  zr_getr C (ci := 3) (Cn := RX3) (T := TX3) (N := 10) (k := 24) (j := 4) (fs := [some (some 25), some (some 27), some (some 29), some (some 31), some (some 33), some (some 35), some (some 37), some (some 39), some (some 41), none]) rfl zin_3 (Nat.le_of_ble_eq_true rfl) rfl (hS _ _ zs_24) rfl zk_fl_11_248 hd kk
theorem zv_11_251 {p : Program} {l : Launch} {e : Env} {R : Room} {s : State} {m : MethodId} {args : Array Value} {below : List Frame} {meth : Method} {c : Code} {Q : State → Prop} {D : va_G} {B : Nat} {cA : Nat → ClassId} {ad : Nat → Nat} {cc : ByteArray} {nL : Nat} {ret : Option FieldType} {S : List zC} {I : zI} {lv : List (Nat × Value)} {st : List Value} {pc : Nat} (C : zCx p s m args meth c cc nL RX11 ret D B cA ad) {K : Int32 → Prop} {xa1 : Int32} (hS : zOkX S)  (h : w_Desk_isEnd xa1 I K) (hR : 1 + 1 ≤ R.frames ∧ 8 + (2 + 11) + (21) ≤ R.locals) (hw : (st.map fun v => v.category).sum ≤ 8) (hd : decode cc pc = .ok (.invokevirtual 251, 3)) (kk : ∀ v, K v → zX p l e R s m args below meth c Q D B cA nL 0 0 S I lv (.int v :: st) (pc + 3)) : zX p l e R s m args below meth c Q D B cA nL 0 0 S I lv (.int xa1 :: .ref (B + 0) :: st) pc :=
  have hf : 0 ≤ R.cells ∧ 0 ≤ R.slots := ⟨Nat.zero_le _, Nat.zero_le _⟩
  zc_VpI C (ci := 11) (q := (RX11, TX11, 19)) (k := 0) (fs := [some (some 1), none, some (some 3), some (some 4), none, none, none, none, some (some 22), some (some 24), some (some 43), some (some 64), some (some 69), some (some 88), some (some 97), some (some 100), some (some 109), some (some 111), none]) (As := [.int xa1]) (st := st) rfl (hS _ _ zs_0) (c_Desk_isEnd hS h) (zgV zk_ml_11_251 zk_im_yX11_isEnd zk_se_yX11_isEnd zk_in_11 zk_cd_yX11_isEnd) zsg_yX11_isEnd hR rfl rfl hw hd hf kk
theorem zv_11_254 {p : Program} {l : Launch} {e : Env} {R : Room} {s : State} {m : MethodId} {args : Array Value} {below : List Frame} {meth : Method} {c : Code} {Q : State → Prop} {D : va_G} {B : Nat} {cA : Nat → ClassId} {ad : Nat → Nat} {cc : ByteArray} {nL : Nat} {ret : Option FieldType} {S : List zC} {I : zI} {lv : List (Nat × Value)} {st : List Value} {pc : Nat} (C : zCx p s m args meth c cc nL RX11 ret D B cA ad) {K : Int32 → Prop} {xa1 : Int32} (hS : zOkX S)  (h : w_TreeView_holds xa1 I K) (hR : 1 + 1 ≤ R.frames ∧ 8 + (3 + 11) + (21) ≤ R.locals) (hw : (st.map fun v => v.category).sum ≤ 8) (hd : decode cc pc = .ok (.invokevirtual 254, 3)) (kk : ∀ v, K v → zX p l e R s m args below meth c Q D B cA nL 0 0 S I lv (.int v :: st) (pc + 3)) : zX p l e R s m args below meth c Q D B cA nL 0 0 S I lv (.int xa1 :: .ref (B + 43) :: st) pc :=
  have hf : 0 ≤ R.cells ∧ 0 ≤ R.slots := ⟨Nat.zero_le _, Nat.zero_le _⟩
  zc_VpI C (ci := 9) (q := (RX9, TX9, 16)) (k := 43) (fs := [some (some 24), some (some 44), some (some 46), some (some 48), some (some 50), some (some 52), some (some 54), some (some 56), some (some 58), some (some 60), some (some 62), none, none, none, none, none]) (As := [.int xa1]) (st := st) rfl (hS _ _ zs_43) (c_TreeView_holds hS h) (zgV zk_ml_11_254 zk_im_yX9_holds zk_se_yX9_holds zk_in_9 zk_cd_yX9_holds) zsg_yX9_holds hR rfl rfl hw hd hf kk
theorem zv_11_257 {p : Program} {l : Launch} {e : Env} {R : Room} {s : State} {m : MethodId} {args : Array Value} {below : List Frame} {meth : Method} {c : Code} {Q : State → Prop} {D : va_G} {B : Nat} {cA : Nat → ClassId} {ad : Nat → Nat} {cc : ByteArray} {nL : Nat} {ret : Option FieldType} {S : List zC} {I : zI} {lv : List (Nat × Value)} {st : List Value} {pc : Nat} (C : zCx p s m args meth c cc nL RX11 ret D B cA ad) {K : Int32 → Prop} {xa1 : Int32} (hS : zOkX S)  (h : w_TreeView_parentOf xa1 I K) (hR : 2 + 1 ≤ R.frames ∧ 8 + (2 + 11) + (43) ≤ R.locals) (hw : (st.map fun v => v.category).sum ≤ 8) (hd : decode cc pc = .ok (.invokevirtual 257, 3)) (kk : ∀ v, K v → zX p l e R s m args below meth c Q D B cA nL 0 0 S I lv (.int v :: st) (pc + 3)) : zX p l e R s m args below meth c Q D B cA nL 0 0 S I lv (.int xa1 :: .ref (B + 43) :: st) pc :=
  have hf : 0 ≤ R.cells ∧ 0 ≤ R.slots := ⟨Nat.zero_le _, Nat.zero_le _⟩
  zc_VpI C (ci := 9) (q := (RX9, TX9, 16)) (k := 43) (fs := [some (some 24), some (some 44), some (some 46), some (some 48), some (some 50), some (some 52), some (some 54), some (some 56), some (some 58), some (some 60), some (some 62), none, none, none, none, none]) (As := [.int xa1]) (st := st) rfl (hS _ _ zs_43) (c_TreeView_parentOf hS h) (zgV zk_ml_11_257 zk_im_yX9_parentOf zk_se_yX9_parentOf zk_in_9 zk_cd_yX9_parentOf) zsg_yX9_parentOf hR rfl rfl hw hd hf kk
theorem zg_11_260 {p : Program} {l : Launch} {e : Env} {R : Room} {s : State} {m : MethodId} {args : Array Value} {below : List Frame} {meth : Method} {c : Code} {Q : State → Prop} {D : va_G} {B : Nat} {cA : Nat → ClassId} {ad : Nat → Nat} {cc : ByteArray} {nL : Nat} {ret : Option FieldType} {S : List zC} {I : zI} {lv : List (Nat × Value)} {st : List Value} {pc : Nat} (C : zCx p s m args meth c cc nL RX11 ret D B cA ad) {k : Nat} (hk : zIsMoment S k) (hd : decode cc pc = .ok (.getfield 260, 3)) (kk : zX p l e R s m args below meth c Q D B cA nL 0 0 S I lv (.int (I.1 k 6) :: st) (pc + 3)) : zX p l e R s m args below meth c Q D B cA nL 0 0 S I lv (.ref (B + k) :: st) pc :=
  zr_geti C (ci := 2) (Cn := RX2) (T := TX2) (N := 9) (k := k) (j := 6) (fs := [some (some (k + 1)), none, some (some (k + 3)), none, some (some (k + 14)), some (some (k + 16)), none, none, none]) rfl zin_2 (Nat.le_of_ble_eq_true rfl) rfl hk.1 rfl zk_fl_11_260 hd kk
def w_Desk_node (a1 : Int32) (a2 : Int32) (I : zI) (K : Int32 → Prop) : Prop :=
  w_Nodes_has a1 I (fun r_1 => (if r_1 = 0 then (K (-1000)) else (if a2 = 0 then (w_Row_get 25 3400 a1 I (fun r_3 => K r_3)) else (if a2 = 1 then (w_Row_get 27 3400 a1 I (fun r_5 => K r_5)) else (if a2 = 2 then (w_Nodes_childrenOf a1 I (fun r_7 => K r_7)) else (if a2 = 3 then (w_Row_get 29 3400 a1 I (fun r_9 => K r_9)) else (if a2 = 4 then (w_Row_get 31 3400 a1 I (fun r_11 => K r_11)) else (if a2 = 5 then (w_Row_get 33 3400 a1 I (fun r_13 => K r_13)) else (if a2 = 6 then (w_Desk_isEnd a1 I (fun r_15 => (if r_15 = 0 then (w_TreeView_holds a1 I (fun r_16 => (if r_16 = 0 then K 0 else K 1))) else K 1))) else (if a2 = 7 then (w_TreeView_parentOf a1 I (fun r_20 => K r_20)) else (if a2 = 8 then (w_Desk_isEnd a1 I (fun r_22 => (if r_22 = 0 then (w_TreeView_firstOf a1 I (fun r_23 => K r_23)) else (w_Desk_now I (fun r_24 => K ((I.1 r_24 6) - 1)))))) else (K (-1000)))))))))))))
theorem dyX11_node_0 : decode cX11_node 0 = .ok (.aload_n 0, 1) := by decide +kernel
theorem dyX11_node_1 : decode cX11_node 1 = .ok (.getfield 35, 3) := by decide +kernel
theorem dyX11_node_4 : decode cX11_node 4 = .ok (.iload_n 1, 1) := by decide +kernel
theorem dyX11_node_5 : decode cX11_node 5 = .ok (.invokevirtual 233, 3) := by decide +kernel
theorem dyX11_node_8 : decode cX11_node 8 = .ok (.ifCond .ne 7, 3) := by decide +kernel
theorem dyX11_node_11 : decode cX11_node 11 = .ok (.sipush (-1000), 3) := by decide +kernel
theorem dyX11_node_14 : decode cX11_node 14 = .ok (.ireturn, 1) := by decide +kernel
theorem dyX11_node_15 : decode cX11_node 15 = .ok (.iload_n 2, 1) := by decide +kernel
theorem dyX11_node_16 : decode cX11_node 16 = .ok (.tableswitch 184 0 8 #[52, 64, 76, 85, 97, 109, 121, 146, 155], 52) := by decide +kernel
theorem dyX11_node_68 : decode cX11_node 68 = .ok (.aload_n 0, 1) := by decide +kernel
theorem dyX11_node_69 : decode cX11_node 69 = .ok (.getfield 35, 3) := by decide +kernel
theorem dyX11_node_72 : decode cX11_node 72 = .ok (.getfield 234, 3) := by decide +kernel
theorem dyX11_node_75 : decode cX11_node 75 = .ok (.iload_n 1, 1) := by decide +kernel
theorem dyX11_node_76 : decode cX11_node 76 = .ok (.invokevirtual 166, 3) := by decide +kernel
theorem dyX11_node_79 : decode cX11_node 79 = .ok (.ireturn, 1) := by decide +kernel
theorem dyX11_node_80 : decode cX11_node 80 = .ok (.aload_n 0, 1) := by decide +kernel
theorem dyX11_node_81 : decode cX11_node 81 = .ok (.getfield 35, 3) := by decide +kernel
theorem dyX11_node_84 : decode cX11_node 84 = .ok (.getfield 237, 3) := by decide +kernel
theorem dyX11_node_87 : decode cX11_node 87 = .ok (.iload_n 1, 1) := by decide +kernel
theorem dyX11_node_88 : decode cX11_node 88 = .ok (.invokevirtual 166, 3) := by decide +kernel
theorem dyX11_node_91 : decode cX11_node 91 = .ok (.ireturn, 1) := by decide +kernel
theorem dyX11_node_92 : decode cX11_node 92 = .ok (.aload_n 0, 1) := by decide +kernel
theorem dyX11_node_93 : decode cX11_node 93 = .ok (.getfield 35, 3) := by decide +kernel
theorem dyX11_node_96 : decode cX11_node 96 = .ok (.iload_n 1, 1) := by decide +kernel
theorem dyX11_node_97 : decode cX11_node 97 = .ok (.invokevirtual 240, 3) := by decide +kernel
theorem dyX11_node_100 : decode cX11_node 100 = .ok (.ireturn, 1) := by decide +kernel
theorem dyX11_node_101 : decode cX11_node 101 = .ok (.aload_n 0, 1) := by decide +kernel
theorem dyX11_node_102 : decode cX11_node 102 = .ok (.getfield 35, 3) := by decide +kernel
theorem dyX11_node_105 : decode cX11_node 105 = .ok (.getfield 243, 3) := by decide +kernel
theorem dyX11_node_108 : decode cX11_node 108 = .ok (.iload_n 1, 1) := by decide +kernel
theorem dyX11_node_109 : decode cX11_node 109 = .ok (.invokevirtual 166, 3) := by decide +kernel
theorem dyX11_node_112 : decode cX11_node 112 = .ok (.ireturn, 1) := by decide +kernel
theorem dyX11_node_113 : decode cX11_node 113 = .ok (.aload_n 0, 1) := by decide +kernel
theorem dyX11_node_114 : decode cX11_node 114 = .ok (.getfield 35, 3) := by decide +kernel
theorem dyX11_node_117 : decode cX11_node 117 = .ok (.getfield 246, 3) := by decide +kernel
theorem dyX11_node_120 : decode cX11_node 120 = .ok (.iload_n 1, 1) := by decide +kernel
theorem dyX11_node_121 : decode cX11_node 121 = .ok (.invokevirtual 166, 3) := by decide +kernel
theorem dyX11_node_124 : decode cX11_node 124 = .ok (.ireturn, 1) := by decide +kernel
theorem dyX11_node_125 : decode cX11_node 125 = .ok (.aload_n 0, 1) := by decide +kernel
theorem dyX11_node_126 : decode cX11_node 126 = .ok (.getfield 35, 3) := by decide +kernel
theorem dyX11_node_129 : decode cX11_node 129 = .ok (.getfield 248, 3) := by decide +kernel
theorem dyX11_node_132 : decode cX11_node 132 = .ok (.iload_n 1, 1) := by decide +kernel
theorem dyX11_node_133 : decode cX11_node 133 = .ok (.invokevirtual 166, 3) := by decide +kernel
theorem dyX11_node_136 : decode cX11_node 136 = .ok (.ireturn, 1) := by decide +kernel
theorem dyX11_node_137 : decode cX11_node 137 = .ok (.aload_n 0, 1) := by decide +kernel
theorem dyX11_node_138 : decode cX11_node 138 = .ok (.iload_n 1, 1) := by decide +kernel
theorem dyX11_node_139 : decode cX11_node 139 = .ok (.invokevirtual 251, 3) := by decide +kernel
theorem dyX11_node_142 : decode cX11_node 142 = .ok (.ifCond .ne 14, 3) := by decide +kernel
theorem dyX11_node_145 : decode cX11_node 145 = .ok (.aload_n 0, 1) := by decide +kernel
theorem dyX11_node_146 : decode cX11_node 146 = .ok (.getfield 44, 3) := by decide +kernel
theorem dyX11_node_149 : decode cX11_node 149 = .ok (.iload_n 1, 1) := by decide +kernel
theorem dyX11_node_150 : decode cX11_node 150 = .ok (.invokevirtual 254, 3) := by decide +kernel
theorem dyX11_node_153 : decode cX11_node 153 = .ok (.ifCond .eq 7, 3) := by decide +kernel
theorem dyX11_node_156 : decode cX11_node 156 = .ok (.iconst 1, 1) := by decide +kernel
theorem dyX11_node_157 : decode cX11_node 157 = .ok (.goto 4, 3) := by decide +kernel
theorem dyX11_node_160 : decode cX11_node 160 = .ok (.iconst 0, 1) := by decide +kernel
theorem dyX11_node_161 : decode cX11_node 161 = .ok (.ireturn, 1) := by decide +kernel
theorem dyX11_node_162 : decode cX11_node 162 = .ok (.aload_n 0, 1) := by decide +kernel
theorem dyX11_node_163 : decode cX11_node 163 = .ok (.getfield 44, 3) := by decide +kernel
theorem dyX11_node_166 : decode cX11_node 166 = .ok (.iload_n 1, 1) := by decide +kernel
theorem dyX11_node_167 : decode cX11_node 167 = .ok (.invokevirtual 257, 3) := by decide +kernel
theorem dyX11_node_170 : decode cX11_node 170 = .ok (.ireturn, 1) := by decide +kernel
theorem dyX11_node_171 : decode cX11_node 171 = .ok (.aload_n 0, 1) := by decide +kernel
theorem dyX11_node_172 : decode cX11_node 172 = .ok (.iload_n 1, 1) := by decide +kernel
theorem dyX11_node_173 : decode cX11_node 173 = .ok (.invokevirtual 251, 3) := by decide +kernel
theorem dyX11_node_176 : decode cX11_node 176 = .ok (.ifCond .eq 15, 3) := by decide +kernel
theorem dyX11_node_179 : decode cX11_node 179 = .ok (.aload_n 0, 1) := by decide +kernel
theorem dyX11_node_180 : decode cX11_node 180 = .ok (.invokevirtual 126, 3) := by decide +kernel
theorem dyX11_node_183 : decode cX11_node 183 = .ok (.getfield 260, 3) := by decide +kernel
theorem dyX11_node_186 : decode cX11_node 186 = .ok (.iconst 1, 1) := by decide +kernel
theorem dyX11_node_187 : decode cX11_node 187 = .ok (.isub, 1) := by decide +kernel
theorem dyX11_node_188 : decode cX11_node 188 = .ok (.goto 11, 3) := by decide +kernel
theorem dyX11_node_191 : decode cX11_node 191 = .ok (.aload_n 0, 1) := by decide +kernel
theorem dyX11_node_192 : decode cX11_node 192 = .ok (.getfield 44, 3) := by decide +kernel
theorem dyX11_node_195 : decode cX11_node 195 = .ok (.iload_n 1, 1) := by decide +kernel
theorem dyX11_node_196 : decode cX11_node 196 = .ok (.invokevirtual 263, 3) := by decide +kernel
theorem dyX11_node_199 : decode cX11_node 199 = .ok (.ireturn, 1) := by decide +kernel
theorem dyX11_node_200 : decode cX11_node 200 = .ok (.sipush (-1000), 3) := by decide +kernel
theorem dyX11_node_203 : decode cX11_node 203 = .ok (.ireturn, 1) := by decide +kernel
theorem zsg_yX11_node : yX11_node.cls = RX11 ∧ yX11_node.cls ≠ "java/lang/invoke/MethodHandle" ∧ yX11_node.cls ≠ "java/lang/invoke/VarHandle" ∧ (parseMethodDescriptor yX11_node.desc).map (fun d => d.parameters.length) = some 2 := by decide +kernel
set_option maxRecDepth 20000 in
theorem c_Desk_node {l : Launch} {D : va_G} {B : Nat} {cA : Nat → ClassId} {ad : Nat → Nat} {S : List zC} (hS : zOkX S) {a1 : Int32} {a2 : Int32} {I : zI} {K : Int32 → Prop}  (h : w_Desk_node a1 a2 I K) : Met l yX11_node (zws yX11_node cX11_node 3 (some .int)) (zrm 3 64) (zPc D B cA ad [.ref (B + 0), .int a1, .int a2] S I) (zQc D B cA (zpI S I K)) 0 0 (fun q => B ≤ q) := by
  refine zm_of (cc := cX11_node) (maxL := 3) (ret := (some .int)) (by decide +kernel) rfl (Nat.le_of_ble_eq_true rfl) trivial ?_
  intro p e s m args below meth c C _
  unfold w_Desk_node at h
  show zX p l e (zrm 3 64) s m args below meth c (MQ below (zQc D B cA (zpI S I K)) args s 0 0 (fun q => B ≤ q)) D B cA 3 0 0 S I [(0, .ref (B + 0)), (1, .int a1), (2, .int a2)] [] 0
  refine zr_aload_n C dyX11_node_0 rfl 0 rfl ?_
  refine zg_11_35 C hS dyX11_node_1 ?_
  refine zr_iload_n C dyX11_node_4 rfl 1 rfl ?_
  refine zv_11_233 C hS (st := []) h ⟨Nat.le_of_ble_eq_true rfl, Nat.le_of_ble_eq_true rfl⟩ (Nat.le_of_ble_eq_true rfl) dyX11_node_5 (fun r_1 h => ?_)
  refine zr_if_ne C dyX11_node_8 (tgt := 15) (by decide) (fun hc_26 => ?_) (fun hc_26 => ?_)
  · replace h := zif_neg hc_26 h
    refine zr_iload_n C dyX11_node_15 rfl 2 rfl ?_
    by_cases hc_2 : a2 = 0
    · replace h := zif_pos hc_2 h
      refine zr_tableIn C dyX11_node_16 (by rw [hc_2]; decide) (by rw [hc_2]; decide) (off := 52) (by rw [hc_2]; decide) (tgt := 68) (by decide) ?_
      refine zr_aload_n C dyX11_node_68 rfl 0 rfl ?_
      refine zg_11_35 C hS dyX11_node_69 ?_
      refine zg_11_234 C hS dyX11_node_72 ?_
      refine zr_iload_n C dyX11_node_75 rfl 1 rfl ?_
      refine zv_11_166 C hS (zIsRow.of hS zir_25) (st := []) h ⟨Nat.le_of_ble_eq_true rfl, Nat.le_of_ble_eq_true rfl⟩ (Nat.le_of_ble_eq_true rfl) dyX11_node_76 (fun r_3 h => ?_)
      exact zr_iret C rfl dyX11_node_79 ⟨rfl, rfl, _, rfl, h⟩
    replace h := zif_neg hc_2 h
    by_cases hc_4 : a2 = 1
    · replace h := zif_pos hc_4 h
      refine zr_tableIn C dyX11_node_16 (by rw [hc_4]; decide) (by rw [hc_4]; decide) (off := 64) (by rw [hc_4]; decide) (tgt := 80) (by decide) ?_
      refine zr_aload_n C dyX11_node_80 rfl 0 rfl ?_
      refine zg_11_35 C hS dyX11_node_81 ?_
      refine zg_11_237 C hS dyX11_node_84 ?_
      refine zr_iload_n C dyX11_node_87 rfl 1 rfl ?_
      refine zv_11_166 C hS (zIsRow.of hS zir_27) (st := []) h ⟨Nat.le_of_ble_eq_true rfl, Nat.le_of_ble_eq_true rfl⟩ (Nat.le_of_ble_eq_true rfl) dyX11_node_88 (fun r_5 h => ?_)
      exact zr_iret C rfl dyX11_node_91 ⟨rfl, rfl, _, rfl, h⟩
    replace h := zif_neg hc_4 h
    by_cases hc_6 : a2 = 2
    · replace h := zif_pos hc_6 h
      refine zr_tableIn C dyX11_node_16 (by rw [hc_6]; decide) (by rw [hc_6]; decide) (off := 76) (by rw [hc_6]; decide) (tgt := 92) (by decide) ?_
      refine zr_aload_n C dyX11_node_92 rfl 0 rfl ?_
      refine zg_11_35 C hS dyX11_node_93 ?_
      refine zr_iload_n C dyX11_node_96 rfl 1 rfl ?_
      refine zv_11_240 C hS (st := []) h ⟨Nat.le_of_ble_eq_true rfl, Nat.le_of_ble_eq_true rfl⟩ (Nat.le_of_ble_eq_true rfl) dyX11_node_97 (fun r_7 h => ?_)
      exact zr_iret C rfl dyX11_node_100 ⟨rfl, rfl, _, rfl, h⟩
    replace h := zif_neg hc_6 h
    by_cases hc_8 : a2 = 3
    · replace h := zif_pos hc_8 h
      refine zr_tableIn C dyX11_node_16 (by rw [hc_8]; decide) (by rw [hc_8]; decide) (off := 85) (by rw [hc_8]; decide) (tgt := 101) (by decide) ?_
      refine zr_aload_n C dyX11_node_101 rfl 0 rfl ?_
      refine zg_11_35 C hS dyX11_node_102 ?_
      refine zg_11_243 C hS dyX11_node_105 ?_
      refine zr_iload_n C dyX11_node_108 rfl 1 rfl ?_
      refine zv_11_166 C hS (zIsRow.of hS zir_29) (st := []) h ⟨Nat.le_of_ble_eq_true rfl, Nat.le_of_ble_eq_true rfl⟩ (Nat.le_of_ble_eq_true rfl) dyX11_node_109 (fun r_9 h => ?_)
      exact zr_iret C rfl dyX11_node_112 ⟨rfl, rfl, _, rfl, h⟩
    replace h := zif_neg hc_8 h
    by_cases hc_10 : a2 = 4
    · replace h := zif_pos hc_10 h
      refine zr_tableIn C dyX11_node_16 (by rw [hc_10]; decide) (by rw [hc_10]; decide) (off := 97) (by rw [hc_10]; decide) (tgt := 113) (by decide) ?_
      refine zr_aload_n C dyX11_node_113 rfl 0 rfl ?_
      refine zg_11_35 C hS dyX11_node_114 ?_
      refine zg_11_246 C hS dyX11_node_117 ?_
      refine zr_iload_n C dyX11_node_120 rfl 1 rfl ?_
      refine zv_11_166 C hS (zIsRow.of hS zir_31) (st := []) h ⟨Nat.le_of_ble_eq_true rfl, Nat.le_of_ble_eq_true rfl⟩ (Nat.le_of_ble_eq_true rfl) dyX11_node_121 (fun r_11 h => ?_)
      exact zr_iret C rfl dyX11_node_124 ⟨rfl, rfl, _, rfl, h⟩
    replace h := zif_neg hc_10 h
    by_cases hc_12 : a2 = 5
    · replace h := zif_pos hc_12 h
      refine zr_tableIn C dyX11_node_16 (by rw [hc_12]; decide) (by rw [hc_12]; decide) (off := 109) (by rw [hc_12]; decide) (tgt := 125) (by decide) ?_
      refine zr_aload_n C dyX11_node_125 rfl 0 rfl ?_
      refine zg_11_35 C hS dyX11_node_126 ?_
      refine zg_11_248 C hS dyX11_node_129 ?_
      refine zr_iload_n C dyX11_node_132 rfl 1 rfl ?_
      refine zv_11_166 C hS (zIsRow.of hS zir_33) (st := []) h ⟨Nat.le_of_ble_eq_true rfl, Nat.le_of_ble_eq_true rfl⟩ (Nat.le_of_ble_eq_true rfl) dyX11_node_133 (fun r_13 h => ?_)
      exact zr_iret C rfl dyX11_node_136 ⟨rfl, rfl, _, rfl, h⟩
    replace h := zif_neg hc_12 h
    by_cases hc_14 : a2 = 6
    · replace h := zif_pos hc_14 h
      refine zr_tableIn C dyX11_node_16 (by rw [hc_14]; decide) (by rw [hc_14]; decide) (off := 121) (by rw [hc_14]; decide) (tgt := 137) (by decide) ?_
      refine zr_aload_n C dyX11_node_137 rfl 0 rfl ?_
      refine zr_iload_n C dyX11_node_138 rfl 1 rfl ?_
      refine zv_11_251 C hS (st := []) h ⟨Nat.le_of_ble_eq_true rfl, Nat.le_of_ble_eq_true rfl⟩ (Nat.le_of_ble_eq_true rfl) dyX11_node_139 (fun r_15 h => ?_)
      refine zr_if_ne C dyX11_node_142 (tgt := 156) (by decide) (fun hc_18 => ?_) (fun hc_18 => ?_)
      · replace h := zif_neg hc_18 h
        refine zr_iconst C dyX11_node_156 zc_i_1 ?_
        refine zr_goto C dyX11_node_157 (tgt := 161) (by decide) ?_
        exact zr_iret C rfl dyX11_node_161 ⟨rfl, rfl, _, rfl, h⟩
      · replace h := zif_pos hc_18 h
        refine zr_aload_n C dyX11_node_145 rfl 0 rfl ?_
        refine zg_11_44 C hS dyX11_node_146 ?_
        refine zr_iload_n C dyX11_node_149 rfl 1 rfl ?_
        refine zv_11_254 C hS (st := []) h ⟨Nat.le_of_ble_eq_true rfl, Nat.le_of_ble_eq_true rfl⟩ (Nat.le_of_ble_eq_true rfl) dyX11_node_150 (fun r_16 h => ?_)
        refine zr_if_eq C dyX11_node_153 (tgt := 160) (by decide) (fun hc_17 => ?_) (fun hc_17 => ?_)
        · replace h := zif_pos hc_17 h
          refine zr_iconst C dyX11_node_160 zc_i_0 ?_
          exact zr_iret C rfl dyX11_node_161 ⟨rfl, rfl, _, rfl, h⟩
        · replace h := zif_neg hc_17 h
          refine zr_iconst C dyX11_node_156 zc_i_1 ?_
          refine zr_goto C dyX11_node_157 (tgt := 161) (by decide) ?_
          exact zr_iret C rfl dyX11_node_161 ⟨rfl, rfl, _, rfl, h⟩
    replace h := zif_neg hc_14 h
    by_cases hc_19 : a2 = 7
    · replace h := zif_pos hc_19 h
      refine zr_tableIn C dyX11_node_16 (by rw [hc_19]; decide) (by rw [hc_19]; decide) (off := 146) (by rw [hc_19]; decide) (tgt := 162) (by decide) ?_
      refine zr_aload_n C dyX11_node_162 rfl 0 rfl ?_
      refine zg_11_44 C hS dyX11_node_163 ?_
      refine zr_iload_n C dyX11_node_166 rfl 1 rfl ?_
      refine zv_11_257 C hS (st := []) h ⟨Nat.le_of_ble_eq_true rfl, Nat.le_of_ble_eq_true rfl⟩ (Nat.le_of_ble_eq_true rfl) dyX11_node_167 (fun r_20 h => ?_)
      exact zr_iret C rfl dyX11_node_170 ⟨rfl, rfl, _, rfl, h⟩
    replace h := zif_neg hc_19 h
    by_cases hc_21 : a2 = 8
    · replace h := zif_pos hc_21 h
      refine zr_tableIn C dyX11_node_16 (by rw [hc_21]; decide) (by rw [hc_21]; decide) (off := 155) (by rw [hc_21]; decide) (tgt := 171) (by decide) ?_
      refine zr_aload_n C dyX11_node_171 rfl 0 rfl ?_
      refine zr_iload_n C dyX11_node_172 rfl 1 rfl ?_
      refine zv_11_251 C hS (st := []) h ⟨Nat.le_of_ble_eq_true rfl, Nat.le_of_ble_eq_true rfl⟩ (Nat.le_of_ble_eq_true rfl) dyX11_node_173 (fun r_22 h => ?_)
      refine zr_if_eq C dyX11_node_176 (tgt := 191) (by decide) (fun hc_25 => ?_) (fun hc_25 => ?_)
      · replace h := zif_pos hc_25 h
        refine zr_aload_n C dyX11_node_191 rfl 0 rfl ?_
        refine zg_11_44 C hS dyX11_node_192 ?_
        refine zr_iload_n C dyX11_node_195 rfl 1 rfl ?_
        refine zv_11_263 C hS (st := []) h ⟨Nat.le_of_ble_eq_true rfl, Nat.le_of_ble_eq_true rfl⟩ (Nat.le_of_ble_eq_true rfl) dyX11_node_196 (fun r_23 h => ?_)
        exact zr_iret C rfl dyX11_node_199 ⟨rfl, rfl, _, rfl, h⟩
      · replace h := zif_neg hc_25 h
        refine zr_aload_n C dyX11_node_179 rfl 0 rfl ?_
        refine zv_11_126 C hS (st := []) h ⟨Nat.le_of_ble_eq_true rfl, Nat.le_of_ble_eq_true rfl⟩ (Nat.le_of_ble_eq_true rfl) dyX11_node_180 (fun r_24 hr_24 h => ?_)
        refine zg_11_260 C hr_24 dyX11_node_183 ?_
        refine zr_iconst C dyX11_node_186 zc_i_1 ?_
        refine zr_isub C dyX11_node_187 ?_
        refine zr_goto C dyX11_node_188 (tgt := 199) (by decide) ?_
        exact zr_iret C rfl dyX11_node_199 ⟨rfl, rfl, _, rfl, h⟩
    replace h := zif_neg hc_21 h
    refine zr_tableOut C dyX11_node_16 (ztab_out (fun i h1 h2 => ?_)) (tgt := 200) (by decide) ?_
    · rcases (by omega : i = 0 ∨ i = 1 ∨ i = 2 ∨ i = 3 ∨ i = 4 ∨ i = 5 ∨ i = 6 ∨ i = 7 ∨ i = 8) with rfl | rfl | rfl | rfl | rfl | rfl | rfl | rfl | rfl
      · exact hc_2
      · exact hc_4
      · exact hc_6
      · exact hc_8
      · exact hc_10
      · exact hc_12
      · exact hc_14
      · exact hc_19
      · exact hc_21
    refine zr_sipush C dyX11_node_200 zc_s_m1000 ?_
    exact zr_iret C rfl dyX11_node_203 ⟨rfl, rfl, _, rfl, h⟩
  · replace h := zif_pos hc_26 h
    refine zr_sipush C dyX11_node_11 zc_s_m1000 ?_
    exact zr_iret C rfl dyX11_node_14 ⟨rfl, rfl, _, rfl, h⟩
theorem zv_11_266 {p : Program} {l : Launch} {e : Env} {R : Room} {s : State} {m : MethodId} {args : Array Value} {below : List Frame} {meth : Method} {c : Code} {Q : State → Prop} {D : va_G} {B : Nat} {cA : Nat → ClassId} {ad : Nat → Nat} {cc : ByteArray} {nL : Nat} {ret : Option FieldType} {S : List zC} {I : zI} {lv : List (Nat × Value)} {st : List Value} {pc : Nat} (C : zCx p s m args meth c cc nL RX11 ret D B cA ad) {K : Int32 → Prop} {xa1 : Int32} {xa2 : Int32} (hS : zOkX S)  (h : w_Nodes_childOf xa1 xa2 I K) (hR : 1 + 1 ≤ R.frames ∧ 8 + (3 + 11) + (21) ≤ R.locals) (hw : (st.map fun v => v.category).sum ≤ 8) (hd : decode cc pc = .ok (.invokevirtual 266, 3)) (kk : ∀ v, K v → zX p l e R s m args below meth c Q D B cA nL 0 0 S I lv (.int v :: st) (pc + 3)) : zX p l e R s m args below meth c Q D B cA nL 0 0 S I lv (.int xa2 :: .int xa1 :: .ref (B + 24) :: st) pc :=
  have hf : 0 ≤ R.cells ∧ 0 ≤ R.slots := ⟨Nat.zero_le _, Nat.zero_le _⟩
  zc_VpI C (ci := 3) (q := (RX3, TX3, 10)) (k := 24) (fs := [some (some 25), some (some 27), some (some 29), some (some 31), some (some 33), some (some 35), some (some 37), some (some 39), some (some 41), none]) (As := [.int xa1, .int xa2]) (st := st) rfl (hS _ _ zs_24) (c_Nodes_childOf hS h) (zgV zk_ml_11_266 zk_im_yX3_childOf zk_se_yX3_childOf zk_in_3 zk_cd_yX3_childOf) zsg_yX3_childOf hR rfl rfl hw hd hf kk
def w_Desk_child (a1 : Int32) (a2 : Int32) (I : zI) (K : Int32 → Prop) : Prop :=
  w_Nodes_has a1 I (fun r_1 => (if r_1 = 0 then (K (-1)) else (if a2 < 0 then (K (-1)) else (w_Nodes_childrenOf a1 I (fun r_2 => (if a2 < r_2 then (w_Nodes_childOf a1 a2 I (fun r_3 => K r_3)) else (K (-1))))))))
theorem dyX11_child_0 : decode cX11_child 0 = .ok (.aload_n 0, 1) := by decide +kernel
theorem dyX11_child_1 : decode cX11_child 1 = .ok (.getfield 35, 3) := by decide +kernel
theorem dyX11_child_4 : decode cX11_child 4 = .ok (.iload_n 1, 1) := by decide +kernel
theorem dyX11_child_5 : decode cX11_child 5 = .ok (.invokevirtual 233, 3) := by decide +kernel
theorem dyX11_child_8 : decode cX11_child 8 = .ok (.ifCond .eq 19, 3) := by decide +kernel
theorem dyX11_child_11 : decode cX11_child 11 = .ok (.iload_n 2, 1) := by decide +kernel
theorem dyX11_child_12 : decode cX11_child 12 = .ok (.ifCond .lt 15, 3) := by decide +kernel
theorem dyX11_child_15 : decode cX11_child 15 = .ok (.iload_n 2, 1) := by decide +kernel
theorem dyX11_child_16 : decode cX11_child 16 = .ok (.aload_n 0, 1) := by decide +kernel
theorem dyX11_child_17 : decode cX11_child 17 = .ok (.getfield 35, 3) := by decide +kernel
theorem dyX11_child_20 : decode cX11_child 20 = .ok (.iload_n 1, 1) := by decide +kernel
theorem dyX11_child_21 : decode cX11_child 21 = .ok (.invokevirtual 240, 3) := by decide +kernel
theorem dyX11_child_24 : decode cX11_child 24 = .ok (.if_icmp .lt 5, 3) := by decide +kernel
theorem dyX11_child_27 : decode cX11_child 27 = .ok (.iconst (-1), 1) := by decide +kernel
theorem dyX11_child_28 : decode cX11_child 28 = .ok (.ireturn, 1) := by decide +kernel
theorem dyX11_child_29 : decode cX11_child 29 = .ok (.aload_n 0, 1) := by decide +kernel
theorem dyX11_child_30 : decode cX11_child 30 = .ok (.getfield 35, 3) := by decide +kernel
theorem dyX11_child_33 : decode cX11_child 33 = .ok (.iload_n 1, 1) := by decide +kernel
theorem dyX11_child_34 : decode cX11_child 34 = .ok (.iload_n 2, 1) := by decide +kernel
theorem dyX11_child_35 : decode cX11_child 35 = .ok (.invokevirtual 266, 3) := by decide +kernel
theorem dyX11_child_38 : decode cX11_child 38 = .ok (.ireturn, 1) := by decide +kernel
theorem zsg_yX11_child : yX11_child.cls = RX11 ∧ yX11_child.cls ≠ "java/lang/invoke/MethodHandle" ∧ yX11_child.cls ≠ "java/lang/invoke/VarHandle" ∧ (parseMethodDescriptor yX11_child.desc).map (fun d => d.parameters.length) = some 2 := by decide +kernel
set_option maxRecDepth 20000 in
theorem c_Desk_child {l : Launch} {D : va_G} {B : Nat} {cA : Nat → ClassId} {ad : Nat → Nat} {S : List zC} (hS : zOkX S) {a1 : Int32} {a2 : Int32} {I : zI} {K : Int32 → Prop}  (h : w_Desk_child a1 a2 I K) : Met l yX11_child (zws yX11_child cX11_child 3 (some .int)) (zrm 2 43) (zPc D B cA ad [.ref (B + 0), .int a1, .int a2] S I) (zQc D B cA (zpI S I K)) 0 0 (fun q => B ≤ q) := by
  refine zm_of (cc := cX11_child) (maxL := 3) (ret := (some .int)) (by decide +kernel) rfl (Nat.le_of_ble_eq_true rfl) trivial ?_
  intro p e s m args below meth c C _
  unfold w_Desk_child at h
  show zX p l e (zrm 2 43) s m args below meth c (MQ below (zQc D B cA (zpI S I K)) args s 0 0 (fun q => B ≤ q)) D B cA 3 0 0 S I [(0, .ref (B + 0)), (1, .int a1), (2, .int a2)] [] 0
  refine zr_aload_n C dyX11_child_0 rfl 0 rfl ?_
  refine zg_11_35 C hS dyX11_child_1 ?_
  refine zr_iload_n C dyX11_child_4 rfl 1 rfl ?_
  refine zv_11_233 C hS (st := []) h ⟨Nat.le_of_ble_eq_true rfl, Nat.le_of_ble_eq_true rfl⟩ (Nat.le_of_ble_eq_true rfl) dyX11_child_5 (fun r_1 h => ?_)
  refine zr_if_eq C dyX11_child_8 (tgt := 27) (by decide) (fun hc_6 => ?_) (fun hc_6 => ?_)
  · replace h := zif_pos hc_6 h
    refine zr_iconst C dyX11_child_27 zc_i_m1 ?_
    exact zr_iret C rfl dyX11_child_28 ⟨rfl, rfl, _, rfl, h⟩
  · replace h := zif_neg hc_6 h
    refine zr_iload_n C dyX11_child_11 rfl 2 rfl ?_
    refine zr_if_lt C dyX11_child_12 (tgt := 27) (by decide) (fun hc_5 => ?_) (fun hc_5 => ?_)
    · replace h := zif_pos hc_5 h
      refine zr_iconst C dyX11_child_27 zc_i_m1 ?_
      exact zr_iret C rfl dyX11_child_28 ⟨rfl, rfl, _, rfl, h⟩
    · replace h := zif_neg hc_5 h
      refine zr_iload_n C dyX11_child_15 rfl 2 rfl ?_
      refine zr_aload_n C dyX11_child_16 rfl 0 rfl ?_
      refine zg_11_35 C hS dyX11_child_17 ?_
      refine zr_iload_n C dyX11_child_20 rfl 1 rfl ?_
      refine zv_11_240 C hS (st := [.int a2]) h ⟨Nat.le_of_ble_eq_true rfl, Nat.le_of_ble_eq_true rfl⟩ (Nat.le_of_ble_eq_true rfl) dyX11_child_21 (fun r_2 h => ?_)
      refine zr_icmp_lt C dyX11_child_24 (tgt := 29) (by decide) (fun hc_4 => ?_) (fun hc_4 => ?_)
      · replace h := zif_pos hc_4 h
        refine zr_aload_n C dyX11_child_29 rfl 0 rfl ?_
        refine zg_11_35 C hS dyX11_child_30 ?_
        refine zr_iload_n C dyX11_child_33 rfl 1 rfl ?_
        refine zr_iload_n C dyX11_child_34 rfl 2 rfl ?_
        refine zv_11_266 C hS (st := []) h ⟨Nat.le_of_ble_eq_true rfl, Nat.le_of_ble_eq_true rfl⟩ (Nat.le_of_ble_eq_true rfl) dyX11_child_35 (fun r_3 h => ?_)
        exact zr_iret C rfl dyX11_child_38 ⟨rfl, rfl, _, rfl, h⟩
      · replace h := zif_neg hc_4 h
        refine zr_iconst C dyX11_child_27 zc_i_m1 ?_
        exact zr_iret C rfl dyX11_child_28 ⟨rfl, rfl, _, rfl, h⟩
theorem zv_11_270 {p : Program} {l : Launch} {e : Env} {R : Room} {s : State} {m : MethodId} {args : Array Value} {below : List Frame} {meth : Method} {c : Code} {Q : State → Prop} {D : va_G} {B : Nat} {cA : Nat → ClassId} {ad : Nat → Nat} {cc : ByteArray} {nL : Nat} {ret : Option FieldType} {S : List zC} {I : zI} {lv : List (Nat × Value)} {st : List Value} {pc : Nat} (C : zCx p s m args meth c cc nL RX11 ret D B cA ad) {K : Int32 → Prop} {xa1 : Int32} {xa2 : Int32} (hS : zOkX S)  (h : w_TreeView_sibling xa1 xa2 I K) (hR : 3 + 1 ≤ R.frames ∧ 8 + (7 + 11) + (64) ≤ R.locals) (hw : (st.map fun v => v.category).sum ≤ 8) (hd : decode cc pc = .ok (.invokevirtual 270, 3)) (kk : ∀ v, K v → zX p l e R s m args below meth c Q D B cA nL 0 0 S I lv (.int v :: st) (pc + 3)) : zX p l e R s m args below meth c Q D B cA nL 0 0 S I lv (.int xa2 :: .int xa1 :: .ref (B + 43) :: st) pc :=
  have hf : 0 ≤ R.cells ∧ 0 ≤ R.slots := ⟨Nat.zero_le _, Nat.zero_le _⟩
  zc_VpI C (ci := 9) (q := (RX9, TX9, 16)) (k := 43) (fs := [some (some 24), some (some 44), some (some 46), some (some 48), some (some 50), some (some 52), some (some 54), some (some 56), some (some 58), some (some 60), some (some 62), none, none, none, none, none]) (As := [.int xa1, .int xa2]) (st := st) rfl (hS _ _ zs_43) (c_TreeView_sibling hS h) (zgV zk_ml_11_270 zk_im_yX9_sibling zk_se_yX9_sibling zk_in_9 zk_cd_yX9_sibling) zsg_yX9_sibling hR rfl rfl hw hd hf kk
def w_Desk_beside (a1 : Int32) (I : zI) (K : Int32 → Prop) : Prop :=
  w_TreeView_sibling a1 1 I (fun r_1 => K r_1)
theorem dyX11_beside_0 : decode cX11_beside 0 = .ok (.aload_n 0, 1) := by decide +kernel
theorem dyX11_beside_1 : decode cX11_beside 1 = .ok (.getfield 44, 3) := by decide +kernel
theorem dyX11_beside_4 : decode cX11_beside 4 = .ok (.iload_n 1, 1) := by decide +kernel
theorem dyX11_beside_5 : decode cX11_beside 5 = .ok (.iconst 1, 1) := by decide +kernel
theorem dyX11_beside_6 : decode cX11_beside 6 = .ok (.invokevirtual 270, 3) := by decide +kernel
theorem dyX11_beside_9 : decode cX11_beside 9 = .ok (.ireturn, 1) := by decide +kernel
theorem zsg_yX11_beside : yX11_beside.cls = RX11 ∧ yX11_beside.cls ≠ "java/lang/invoke/MethodHandle" ∧ yX11_beside.cls ≠ "java/lang/invoke/VarHandle" ∧ (parseMethodDescriptor yX11_beside.desc).map (fun d => d.parameters.length) = some 1 := by decide +kernel
set_option maxRecDepth 20000 in
theorem c_Desk_beside {l : Launch} {D : va_G} {B : Nat} {cA : Nat → ClassId} {ad : Nat → Nat} {S : List zC} (hS : zOkX S) {a1 : Int32} {I : zI} {K : Int32 → Prop}  (h : w_Desk_beside a1 I K) : Met l yX11_beside (zws yX11_beside cX11_beside 2 (some .int)) (zrm 4 90) (zPc D B cA ad [.ref (B + 0), .int a1] S I) (zQc D B cA (zpI S I K)) 0 0 (fun q => B ≤ q) := by
  refine zm_of (cc := cX11_beside) (maxL := 2) (ret := (some .int)) (by decide +kernel) rfl (Nat.le_of_ble_eq_true rfl) trivial ?_
  intro p e s m args below meth c C _
  unfold w_Desk_beside at h
  show zX p l e (zrm 4 90) s m args below meth c (MQ below (zQc D B cA (zpI S I K)) args s 0 0 (fun q => B ≤ q)) D B cA 2 0 0 S I [(0, .ref (B + 0)), (1, .int a1)] [] 0
  refine zr_aload_n C dyX11_beside_0 rfl 0 rfl ?_
  refine zg_11_44 C hS dyX11_beside_1 ?_
  refine zr_iload_n C dyX11_beside_4 rfl 1 rfl ?_
  refine zr_iconst C dyX11_beside_5 zc_i_1 ?_
  refine zv_11_270 C hS (st := []) h ⟨Nat.le_of_ble_eq_true rfl, Nat.le_of_ble_eq_true rfl⟩ (Nat.le_of_ble_eq_true rfl) dyX11_beside_6 (fun r_1 h => ?_)
  exact zr_iret C rfl dyX11_beside_9 ⟨rfl, rfl, _, rfl, h⟩
def w_Desk_before (a1 : Int32) (I : zI) (K : Int32 → Prop) : Prop :=
  w_TreeView_sibling a1 (-1) I (fun r_1 => K r_1)
theorem dyX11_before_0 : decode cX11_before 0 = .ok (.aload_n 0, 1) := by decide +kernel
theorem dyX11_before_1 : decode cX11_before 1 = .ok (.getfield 44, 3) := by decide +kernel
theorem dyX11_before_4 : decode cX11_before 4 = .ok (.iload_n 1, 1) := by decide +kernel
theorem dyX11_before_5 : decode cX11_before 5 = .ok (.iconst (-1), 1) := by decide +kernel
theorem dyX11_before_6 : decode cX11_before 6 = .ok (.invokevirtual 270, 3) := by decide +kernel
theorem dyX11_before_9 : decode cX11_before 9 = .ok (.ireturn, 1) := by decide +kernel
theorem zsg_yX11_before : yX11_before.cls = RX11 ∧ yX11_before.cls ≠ "java/lang/invoke/MethodHandle" ∧ yX11_before.cls ≠ "java/lang/invoke/VarHandle" ∧ (parseMethodDescriptor yX11_before.desc).map (fun d => d.parameters.length) = some 1 := by decide +kernel
set_option maxRecDepth 20000 in
theorem c_Desk_before {l : Launch} {D : va_G} {B : Nat} {cA : Nat → ClassId} {ad : Nat → Nat} {S : List zC} (hS : zOkX S) {a1 : Int32} {I : zI} {K : Int32 → Prop}  (h : w_Desk_before a1 I K) : Met l yX11_before (zws yX11_before cX11_before 2 (some .int)) (zrm 4 90) (zPc D B cA ad [.ref (B + 0), .int a1] S I) (zQc D B cA (zpI S I K)) 0 0 (fun q => B ≤ q) := by
  refine zm_of (cc := cX11_before) (maxL := 2) (ret := (some .int)) (by decide +kernel) rfl (Nat.le_of_ble_eq_true rfl) trivial ?_
  intro p e s m args below meth c C _
  unfold w_Desk_before at h
  show zX p l e (zrm 4 90) s m args below meth c (MQ below (zQc D B cA (zpI S I K)) args s 0 0 (fun q => B ≤ q)) D B cA 2 0 0 S I [(0, .ref (B + 0)), (1, .int a1)] [] 0
  refine zr_aload_n C dyX11_before_0 rfl 0 rfl ?_
  refine zg_11_44 C hS dyX11_before_1 ?_
  refine zr_iload_n C dyX11_before_4 rfl 1 rfl ?_
  refine zr_iconst C dyX11_before_5 zc_i_m1 ?_
  refine zv_11_270 C hS (st := []) h ⟨Nat.le_of_ble_eq_true rfl, Nat.le_of_ble_eq_true rfl⟩ (Nat.le_of_ble_eq_true rfl) dyX11_before_6 (fun r_1 h => ?_)
  exact zr_iret C rfl dyX11_before_9 ⟨rfl, rfl, _, rfl, h⟩
def w_Desk_span (a1 : Int32) (a2 : Int32) (I : zI) (K : Int32 → Prop) : Prop :=
  ∀ (P9 : Prop), ((w_TreeView_holds a1 I (fun r_1 => (if r_1 = 0 then (K (-1)) else (w_TreeView_firstOf a1 I (fun r_2 => (if 0 ≤ r_2 then (if a2 = 0 then (w_Desk_startOf a1 I (fun r_5 => K r_5)) else (w_Desk_endOf a1 I (fun r_3 => w_Desk_startOf a1 I (fun r_4 => K (r_3 - r_4))))) else (K (-1)))))))) → P9) → (if a2 = 0 then P9 else (if a2 = 1 then P9 else (K (-1))))
theorem dyX11_span_0 : decode cX11_span 0 = .ok (.iload_n 2, 1) := by decide +kernel
theorem dyX11_span_1 : decode cX11_span 1 = .ok (.ifCond .eq 8, 3) := by decide +kernel
theorem dyX11_span_4 : decode cX11_span 4 = .ok (.iload_n 2, 1) := by decide +kernel
theorem dyX11_span_5 : decode cX11_span 5 = .ok (.iconst 1, 1) := by decide +kernel
theorem dyX11_span_6 : decode cX11_span 6 = .ok (.if_icmp .ne 25, 3) := by decide +kernel
theorem dyX11_span_9 : decode cX11_span 9 = .ok (.aload_n 0, 1) := by decide +kernel
theorem dyX11_span_10 : decode cX11_span 10 = .ok (.getfield 44, 3) := by decide +kernel
theorem dyX11_span_13 : decode cX11_span 13 = .ok (.iload_n 1, 1) := by decide +kernel
theorem dyX11_span_14 : decode cX11_span 14 = .ok (.invokevirtual 254, 3) := by decide +kernel
theorem dyX11_span_17 : decode cX11_span 17 = .ok (.ifCond .eq 14, 3) := by decide +kernel
theorem dyX11_span_20 : decode cX11_span 20 = .ok (.aload_n 0, 1) := by decide +kernel
theorem dyX11_span_21 : decode cX11_span 21 = .ok (.getfield 44, 3) := by decide +kernel
theorem dyX11_span_24 : decode cX11_span 24 = .ok (.iload_n 1, 1) := by decide +kernel
theorem dyX11_span_25 : decode cX11_span 25 = .ok (.invokevirtual 263, 3) := by decide +kernel
theorem dyX11_span_28 : decode cX11_span 28 = .ok (.ifCond .ge 5, 3) := by decide +kernel
theorem dyX11_span_31 : decode cX11_span 31 = .ok (.iconst (-1), 1) := by decide +kernel
theorem dyX11_span_32 : decode cX11_span 32 = .ok (.ireturn, 1) := by decide +kernel
theorem dyX11_span_33 : decode cX11_span 33 = .ok (.iload_n 2, 1) := by decide +kernel
theorem dyX11_span_34 : decode cX11_span 34 = .ok (.ifCond .ne 11, 3) := by decide +kernel
theorem dyX11_span_37 : decode cX11_span 37 = .ok (.aload_n 0, 1) := by decide +kernel
theorem dyX11_span_38 : decode cX11_span 38 = .ok (.iload_n 1, 1) := by decide +kernel
theorem dyX11_span_39 : decode cX11_span 39 = .ok (.invokevirtual 273, 3) := by decide +kernel
theorem dyX11_span_42 : decode cX11_span 42 = .ok (.goto 14, 3) := by decide +kernel
theorem dyX11_span_45 : decode cX11_span 45 = .ok (.aload_n 0, 1) := by decide +kernel
theorem dyX11_span_46 : decode cX11_span 46 = .ok (.iload_n 1, 1) := by decide +kernel
theorem dyX11_span_47 : decode cX11_span 47 = .ok (.invokevirtual 276, 3) := by decide +kernel
theorem dyX11_span_50 : decode cX11_span 50 = .ok (.aload_n 0, 1) := by decide +kernel
theorem dyX11_span_51 : decode cX11_span 51 = .ok (.iload_n 1, 1) := by decide +kernel
theorem dyX11_span_52 : decode cX11_span 52 = .ok (.invokevirtual 273, 3) := by decide +kernel
theorem dyX11_span_55 : decode cX11_span 55 = .ok (.isub, 1) := by decide +kernel
theorem dyX11_span_56 : decode cX11_span 56 = .ok (.ireturn, 1) := by decide +kernel
theorem zsg_yX11_span : yX11_span.cls = RX11 ∧ yX11_span.cls ≠ "java/lang/invoke/MethodHandle" ∧ yX11_span.cls ≠ "java/lang/invoke/VarHandle" ∧ (parseMethodDescriptor yX11_span.desc).map (fun d => d.parameters.length) = some 2 := by decide +kernel
set_option maxRecDepth 20000 in
theorem c_Desk_span {l : Launch} {D : va_G} {B : Nat} {cA : Nat → ClassId} {ad : Nat → Nat} {S : List zC} (hS : zOkX S) {a1 : Int32} {a2 : Int32} {I : zI} {K : Int32 → Prop}  (h : w_Desk_span a1 a2 I K) : Met l yX11_span (zws yX11_span cX11_span 3 (some .int)) (zrm 4 87) (zPc D B cA ad [.ref (B + 0), .int a1, .int a2] S I) (zQc D B cA (zpI S I K)) 0 0 (fun q => B ≤ q) := by
  refine zm_of (cc := cX11_span) (maxL := 3) (ret := (some .int)) (by decide +kernel) rfl (Nat.le_of_ble_eq_true rfl) trivial ?_
  intro p e s m args below meth c C _
  unfold w_Desk_span at h
  show zX p l e (zrm 4 87) s m args below meth c (MQ below (zQc D B cA (zpI S I K)) args s 0 0 (fun q => B ≤ q)) D B cA 3 0 0 S I [(0, .ref (B + 0)), (1, .int a1), (2, .int a2)] [] 0
  refine zr_iload_n C dyX11_span_0 rfl 2 rfl ?_
  refine zjn (h (zX p l e (zrm 4 87) s m args below meth c (MQ below (zQc D B cA (zpI S I K)) args s 0 0 (fun q => B ≤ q)) D B cA 3 0 0 S I [(0, .ref (B + 0)), (1, .int a1), (2, .int a2)] [] 9) (fun  h => ?_)) (fun h => ?_)
  · refine zr_aload_n C dyX11_span_9 rfl 0 rfl ?_
    refine zg_11_44 C hS dyX11_span_10 ?_
    refine zr_iload_n C dyX11_span_13 rfl 1 rfl ?_
    refine zv_11_254 C hS (st := []) h ⟨Nat.le_of_ble_eq_true rfl, Nat.le_of_ble_eq_true rfl⟩ (Nat.le_of_ble_eq_true rfl) dyX11_span_14 (fun r_1 h => ?_)
    refine zr_if_eq C dyX11_span_17 (tgt := 31) (by decide) (fun hc_8 => ?_) (fun hc_8 => ?_)
    · replace h := zif_pos hc_8 h
      refine zr_iconst C dyX11_span_31 zc_i_m1 ?_
      exact zr_iret C rfl dyX11_span_32 ⟨rfl, rfl, _, rfl, h⟩
    · replace h := zif_neg hc_8 h
      refine zr_aload_n C dyX11_span_20 rfl 0 rfl ?_
      refine zg_11_44 C hS dyX11_span_21 ?_
      refine zr_iload_n C dyX11_span_24 rfl 1 rfl ?_
      refine zv_11_263 C hS (st := []) h ⟨Nat.le_of_ble_eq_true rfl, Nat.le_of_ble_eq_true rfl⟩ (Nat.le_of_ble_eq_true rfl) dyX11_span_25 (fun r_2 h => ?_)
      refine zr_if_ge C dyX11_span_28 (tgt := 33) (by decide) (fun hc_7 => ?_) (fun hc_7 => ?_)
      · replace h := zif_pos hc_7 h
        refine zr_iload_n C dyX11_span_33 rfl 2 rfl ?_
        refine zr_if_ne C dyX11_span_34 (tgt := 45) (by decide) (fun hc_6 => ?_) (fun hc_6 => ?_)
        · replace h := zif_neg hc_6 h
          refine zr_aload_n C dyX11_span_45 rfl 0 rfl ?_
          refine zr_iload_n C dyX11_span_46 rfl 1 rfl ?_
          refine zv_11_276 C hS (st := []) h ⟨Nat.le_of_ble_eq_true rfl, Nat.le_of_ble_eq_true rfl⟩ (Nat.le_of_ble_eq_true rfl) dyX11_span_47 (fun r_3 h => ?_)
          refine zr_aload_n C dyX11_span_50 rfl 0 rfl ?_
          refine zr_iload_n C dyX11_span_51 rfl 1 rfl ?_
          refine zv_11_273 C hS (st := [.int r_3]) h ⟨Nat.le_of_ble_eq_true rfl, Nat.le_of_ble_eq_true rfl⟩ (Nat.le_of_ble_eq_true rfl) dyX11_span_52 (fun r_4 h => ?_)
          refine zr_isub C dyX11_span_55 ?_
          exact zr_iret C rfl dyX11_span_56 ⟨rfl, rfl, _, rfl, h⟩
        · replace h := zif_pos hc_6 h
          refine zr_aload_n C dyX11_span_37 rfl 0 rfl ?_
          refine zr_iload_n C dyX11_span_38 rfl 1 rfl ?_
          refine zv_11_273 C hS (st := []) h ⟨Nat.le_of_ble_eq_true rfl, Nat.le_of_ble_eq_true rfl⟩ (Nat.le_of_ble_eq_true rfl) dyX11_span_39 (fun r_5 h => ?_)
          refine zr_goto C dyX11_span_42 (tgt := 56) (by decide) ?_
          exact zr_iret C rfl dyX11_span_56 ⟨rfl, rfl, _, rfl, h⟩
      · replace h := zif_neg hc_7 h
        refine zr_iconst C dyX11_span_31 zc_i_m1 ?_
        exact zr_iret C rfl dyX11_span_32 ⟨rfl, rfl, _, rfl, h⟩
  refine zr_if_eq C dyX11_span_1 (tgt := 9) (by decide) (fun hc_10 => ?_) (fun hc_10 => ?_)
  · replace h := zif_pos hc_10 h
    exact h
  · replace h := zif_neg hc_10 h
    refine zr_iload_n C dyX11_span_4 rfl 2 rfl ?_
    refine zr_iconst C dyX11_span_5 zc_i_1 ?_
    refine zr_icmp_ne C dyX11_span_6 (tgt := 31) (by decide) (fun hc_9 => ?_) (fun hc_9 => ?_)
    · replace h := zif_neg hc_9 h
      refine zr_iconst C dyX11_span_31 zc_i_m1 ?_
      exact zr_iret C rfl dyX11_span_32 ⟨rfl, rfl, _, rfl, h⟩
    · replace h := zif_pos hc_9 h
      exact h
theorem zg_11_279 {p : Program} {l : Launch} {e : Env} {R : Room} {s : State} {m : MethodId} {args : Array Value} {below : List Frame} {meth : Method} {c : Code} {Q : State → Prop} {D : va_G} {B : Nat} {cA : Nat → ClassId} {ad : Nat → Nat} {cc : ByteArray} {nL : Nat} {ret : Option FieldType} {S : List zC} {I : zI} {lv : List (Nat × Value)} {st : List Value} {pc : Nat} (C : zCx p s m args meth c cc nL RX11 ret D B cA ad) (hS : zOkX S) (hd : decode cc pc = .ok (.getfield 279, 3)) (kk : zX p l e R s m args below meth c Q D B cA nL 0 0 S I lv (.ref (B + 60) :: st) (pc + 3)) : zX p l e R s m args below meth c Q D B cA nL 0 0 S I lv (.ref (B + 43) :: st) pc :=
  zr_getr C (ci := 9) (Cn := RX9) (T := TX9) (N := 16) (k := 43) (j := 9) (fs := [some (some 24), some (some 44), some (some 46), some (some 48), some (some 50), some (some 52), some (some 54), some (some 56), some (some 58), some (some 60), some (some 62), none, none, none, none, none]) rfl zin_9 (Nat.le_of_ble_eq_true rfl) rfl (hS _ _ zs_43) rfl zk_fl_11_279 hd kk
theorem zg_11_291 {p : Program} {l : Launch} {e : Env} {R : Room} {s : State} {m : MethodId} {args : Array Value} {below : List Frame} {meth : Method} {c : Code} {Q : State → Prop} {D : va_G} {B : Nat} {cA : Nat → ClassId} {ad : Nat → Nat} {cc : ByteArray} {nL : Nat} {ret : Option FieldType} {S : List zC} {I : zI} {lv : List (Nat × Value)} {st : List Value} {pc : Nat} (C : zCx p s m args meth c cc nL RX11 ret D B cA ad) (hS : zOkX S) (hd : decode cc pc = .ok (.getfield 291, 3)) (kk : zX p l e R s m args below meth c Q D B cA nL 0 0 S I lv (.int (I.1 0 18) :: st) (pc + 3)) : zX p l e R s m args below meth c Q D B cA nL 0 0 S I lv (.ref (B + 0) :: st) pc :=
  zr_geti C (ci := 11) (Cn := RX11) (T := TX11) (N := 19) (k := 0) (j := 18) (fs := [some (some 1), none, some (some 3), some (some 4), none, none, none, none, some (some 22), some (some 24), some (some 43), some (some 64), some (some 69), some (some 88), some (some 97), some (some 100), some (some 109), some (some 111), none]) rfl zin_11 (Nat.le_of_ble_eq_true rfl) rfl (hS _ _ zs_0) rfl zk_fl_11_291 hd kk
def w_Desk_print (a1 : Int32) (I : zI) (K : Int32 → Prop) : Prop :=
  (if a1 < 0 then (K (-1)) else (if (I.1 0 18) ≤ a1 then (K (-1)) else (w_Row_get 109 700 a1 I (fun r_1 => K r_1))))
theorem dyX11_print_0 : decode cX11_print 0 = .ok (.iload_n 1, 1) := by decide +kernel
theorem dyX11_print_1 : decode cX11_print 1 = .ok (.ifCond .lt 22, 3) := by decide +kernel
theorem dyX11_print_4 : decode cX11_print 4 = .ok (.iload_n 1, 1) := by decide +kernel
theorem dyX11_print_5 : decode cX11_print 5 = .ok (.aload_n 0, 1) := by decide +kernel
theorem dyX11_print_6 : decode cX11_print 6 = .ok (.getfield 291, 3) := by decide +kernel
theorem dyX11_print_9 : decode cX11_print 9 = .ok (.if_icmp .ge 14, 3) := by decide +kernel
theorem dyX11_print_12 : decode cX11_print 12 = .ok (.aload_n 0, 1) := by decide +kernel
theorem dyX11_print_13 : decode cX11_print 13 = .ok (.getfield 85, 3) := by decide +kernel
theorem dyX11_print_16 : decode cX11_print 16 = .ok (.iload_n 1, 1) := by decide +kernel
theorem dyX11_print_17 : decode cX11_print 17 = .ok (.invokevirtual 166, 3) := by decide +kernel
theorem dyX11_print_20 : decode cX11_print 20 = .ok (.goto 4, 3) := by decide +kernel
theorem dyX11_print_23 : decode cX11_print 23 = .ok (.iconst (-1), 1) := by decide +kernel
theorem dyX11_print_24 : decode cX11_print 24 = .ok (.ireturn, 1) := by decide +kernel
theorem zsg_yX11_print : yX11_print.cls = RX11 ∧ yX11_print.cls ≠ "java/lang/invoke/MethodHandle" ∧ yX11_print.cls ≠ "java/lang/invoke/VarHandle" ∧ (parseMethodDescriptor yX11_print.desc).map (fun d => d.parameters.length) = some 1 := by decide +kernel
set_option maxRecDepth 20000 in
theorem c_Desk_print {l : Launch} {D : va_G} {B : Nat} {cA : Nat → ClassId} {ad : Nat → Nat} {S : List zC} (hS : zOkX S) {a1 : Int32} {I : zI} {K : Int32 → Prop}  (h : w_Desk_print a1 I K) : Met l yX11_print (zws yX11_print cX11_print 2 (some .int)) (zrm 1 21) (zPc D B cA ad [.ref (B + 0), .int a1] S I) (zQc D B cA (zpI S I K)) 0 0 (fun q => B ≤ q) := by
  refine zm_of (cc := cX11_print) (maxL := 2) (ret := (some .int)) (by decide +kernel) rfl (Nat.le_of_ble_eq_true rfl) trivial ?_
  intro p e s m args below meth c C _
  unfold w_Desk_print at h
  show zX p l e (zrm 1 21) s m args below meth c (MQ below (zQc D B cA (zpI S I K)) args s 0 0 (fun q => B ≤ q)) D B cA 2 0 0 S I [(0, .ref (B + 0)), (1, .int a1)] [] 0
  refine zr_iload_n C dyX11_print_0 rfl 1 rfl ?_
  refine zr_if_lt C dyX11_print_1 (tgt := 23) (by decide) (fun hc_3 => ?_) (fun hc_3 => ?_)
  · replace h := zif_pos hc_3 h
    refine zr_iconst C dyX11_print_23 zc_i_m1 ?_
    exact zr_iret C rfl dyX11_print_24 ⟨rfl, rfl, _, rfl, h⟩
  · replace h := zif_neg hc_3 h
    refine zr_iload_n C dyX11_print_4 rfl 1 rfl ?_
    refine zr_aload_n C dyX11_print_5 rfl 0 rfl ?_
    refine zg_11_291 C hS dyX11_print_6 ?_
    refine zr_icmp_ge C dyX11_print_9 (tgt := 23) (by decide) (fun hc_2 => ?_) (fun hc_2 => ?_)
    · replace h := zif_pos hc_2 h
      refine zr_iconst C dyX11_print_23 zc_i_m1 ?_
      exact zr_iret C rfl dyX11_print_24 ⟨rfl, rfl, _, rfl, h⟩
    · replace h := zif_neg hc_2 h
      refine zr_aload_n C dyX11_print_12 rfl 0 rfl ?_
      refine zg_11_85 C hS dyX11_print_13 ?_
      refine zr_iload_n C dyX11_print_16 rfl 1 rfl ?_
      refine zv_11_166 C hS (zIsRow.of hS zir_109) (st := []) h ⟨Nat.le_of_ble_eq_true rfl, Nat.le_of_ble_eq_true rfl⟩ (Nat.le_of_ble_eq_true rfl) dyX11_print_17 (fun r_1 h => ?_)
      refine zr_goto C dyX11_print_20 (tgt := 24) (by decide) ?_
      exact zr_iret C rfl dyX11_print_24 ⟨rfl, rfl, _, rfl, h⟩
def w_Desk_runs  (I : zI) (K : Int32 → Prop) : Prop :=
  K (I.1 43 11)
theorem dyX11_runs_0 : decode cX11_runs 0 = .ok (.aload_n 0, 1) := by decide +kernel
theorem dyX11_runs_1 : decode cX11_runs 1 = .ok (.getfield 44, 3) := by decide +kernel
theorem dyX11_runs_4 : decode cX11_runs 4 = .ok (.getfield 303, 3) := by decide +kernel
theorem dyX11_runs_7 : decode cX11_runs 7 = .ok (.ireturn, 1) := by decide +kernel
theorem zsg_yX11_runs : yX11_runs.cls = RX11 ∧ yX11_runs.cls ≠ "java/lang/invoke/MethodHandle" ∧ yX11_runs.cls ≠ "java/lang/invoke/VarHandle" ∧ (parseMethodDescriptor yX11_runs.desc).map (fun d => d.parameters.length) = some 0 := by decide +kernel
set_option maxRecDepth 20000 in
theorem c_Desk_runs {l : Launch} {D : va_G} {B : Nat} {cA : Nat → ClassId} {ad : Nat → Nat} {S : List zC} (hS : zOkX S)  {I : zI} {K : Int32 → Prop}  (h : w_Desk_runs  I K) : Met l yX11_runs (zws yX11_runs cX11_runs 1 (some .int)) (zrm 0 0) (zPc D B cA ad [.ref (B + 0)] S I) (zQc D B cA (zpI S I K)) 0 0 (fun q => B ≤ q) := by
  refine zm_of (cc := cX11_runs) (maxL := 1) (ret := (some .int)) (by decide +kernel) rfl (Nat.le_of_ble_eq_true rfl) trivial ?_
  intro p e s m args below meth c C _
  unfold w_Desk_runs at h
  show zX p l e (zrm 0 0) s m args below meth c (MQ below (zQc D B cA (zpI S I K)) args s 0 0 (fun q => B ≤ q)) D B cA 1 0 0 S I [(0, .ref (B + 0))] [] 0
  refine zr_aload_n C dyX11_runs_0 rfl 0 rfl ?_
  refine zg_11_44 C hS dyX11_runs_1 ?_
  refine zg_11_303 C hS dyX11_runs_4 ?_
  exact zr_iret C rfl dyX11_runs_7 ⟨rfl, rfl, _, rfl, h⟩
def w_Desk_run (a1 : Int32) (I : zI) (K : Int32 → Prop) : Prop :=
  w_TreeView_hasRun a1 I (fun r_1 => (if r_1 = 0 then (K (-1)) else (w_Row_get 62 100 a1 I (fun r_2 => K r_2))))
theorem dyX11_run_0 : decode cX11_run 0 = .ok (.aload_n 0, 1) := by decide +kernel
theorem dyX11_run_1 : decode cX11_run 1 = .ok (.getfield 44, 3) := by decide +kernel
theorem dyX11_run_4 : decode cX11_run 4 = .ok (.iload_n 1, 1) := by decide +kernel
theorem dyX11_run_5 : decode cX11_run 5 = .ok (.invokevirtual 187, 3) := by decide +kernel
theorem dyX11_run_8 : decode cX11_run 8 = .ok (.ifCond .eq 17, 3) := by decide +kernel
theorem dyX11_run_11 : decode cX11_run 11 = .ok (.aload_n 0, 1) := by decide +kernel
theorem dyX11_run_12 : decode cX11_run 12 = .ok (.getfield 44, 3) := by decide +kernel
theorem dyX11_run_15 : decode cX11_run 15 = .ok (.getfield 306, 3) := by decide +kernel
theorem dyX11_run_18 : decode cX11_run 18 = .ok (.iload_n 1, 1) := by decide +kernel
theorem dyX11_run_19 : decode cX11_run 19 = .ok (.invokevirtual 166, 3) := by decide +kernel
theorem dyX11_run_22 : decode cX11_run 22 = .ok (.goto 4, 3) := by decide +kernel
theorem dyX11_run_25 : decode cX11_run 25 = .ok (.iconst (-1), 1) := by decide +kernel
theorem dyX11_run_26 : decode cX11_run 26 = .ok (.ireturn, 1) := by decide +kernel
theorem zsg_yX11_run : yX11_run.cls = RX11 ∧ yX11_run.cls ≠ "java/lang/invoke/MethodHandle" ∧ yX11_run.cls ≠ "java/lang/invoke/VarHandle" ∧ (parseMethodDescriptor yX11_run.desc).map (fun d => d.parameters.length) = some 1 := by decide +kernel
set_option maxRecDepth 20000 in
theorem c_Desk_run {l : Launch} {D : va_G} {B : Nat} {cA : Nat → ClassId} {ad : Nat → Nat} {S : List zC} (hS : zOkX S) {a1 : Int32} {I : zI} {K : Int32 → Prop}  (h : w_Desk_run a1 I K) : Met l yX11_run (zws yX11_run cX11_run 2 (some .int)) (zrm 1 21) (zPc D B cA ad [.ref (B + 0), .int a1] S I) (zQc D B cA (zpI S I K)) 0 0 (fun q => B ≤ q) := by
  refine zm_of (cc := cX11_run) (maxL := 2) (ret := (some .int)) (by decide +kernel) rfl (Nat.le_of_ble_eq_true rfl) trivial ?_
  intro p e s m args below meth c C _
  unfold w_Desk_run at h
  show zX p l e (zrm 1 21) s m args below meth c (MQ below (zQc D B cA (zpI S I K)) args s 0 0 (fun q => B ≤ q)) D B cA 2 0 0 S I [(0, .ref (B + 0)), (1, .int a1)] [] 0
  refine zr_aload_n C dyX11_run_0 rfl 0 rfl ?_
  refine zg_11_44 C hS dyX11_run_1 ?_
  refine zr_iload_n C dyX11_run_4 rfl 1 rfl ?_
  refine zv_11_187 C hS (st := []) h ⟨Nat.le_of_ble_eq_true rfl, Nat.le_of_ble_eq_true rfl⟩ (Nat.le_of_ble_eq_true rfl) dyX11_run_5 (fun r_1 h => ?_)
  refine zr_if_eq C dyX11_run_8 (tgt := 25) (by decide) (fun hc_3 => ?_) (fun hc_3 => ?_)
  · replace h := zif_pos hc_3 h
    refine zr_iconst C dyX11_run_25 zc_i_m1 ?_
    exact zr_iret C rfl dyX11_run_26 ⟨rfl, rfl, _, rfl, h⟩
  · replace h := zif_neg hc_3 h
    refine zr_aload_n C dyX11_run_11 rfl 0 rfl ?_
    refine zg_11_44 C hS dyX11_run_12 ?_
    refine zg_11_306 C hS dyX11_run_15 ?_
    refine zr_iload_n C dyX11_run_18 rfl 1 rfl ?_
    refine zv_11_166 C hS (zIsRow.of hS zir_62) (st := []) h ⟨Nat.le_of_ble_eq_true rfl, Nat.le_of_ble_eq_true rfl⟩ (Nat.le_of_ble_eq_true rfl) dyX11_run_19 (fun r_2 h => ?_)
    refine zr_goto C dyX11_run_22 (tgt := 26) (by decide) ?_
    exact zr_iret C rfl dyX11_run_26 ⟨rfl, rfl, _, rfl, h⟩
theorem zv_11_312 {p : Program} {l : Launch} {e : Env} {R : Room} {s : State} {m : MethodId} {args : Array Value} {below : List Frame} {meth : Method} {c : Code} {Q : State → Prop} {D : va_G} {B : Nat} {cA : Nat → ClassId} {ad : Nat → Nat} {cc : ByteArray} {nL : Nat} {ret : Option FieldType} {S : List zC} {I : zI} {lv : List (Nat × Value)} {st : List Value} {pc : Nat} (C : zCx p s m args meth c cc nL RX11 ret D B cA ad) {K : Int32 → Prop} {xa1 : Int32} {xa2 : Int32} (hS : zOkX S)  (h : w_TreeView_madeWithin xa1 xa2 I K) (hR : 2 + 1 ≤ R.frames ∧ 8 + (6 + 11) + (43) ≤ R.locals) (hw : (st.map fun v => v.category).sum ≤ 8) (hd : decode cc pc = .ok (.invokevirtual 312, 3)) (kk : ∀ v, K v → zX p l e R s m args below meth c Q D B cA nL 0 0 S I lv (.int v :: st) (pc + 3)) : zX p l e R s m args below meth c Q D B cA nL 0 0 S I lv (.int xa2 :: .int xa1 :: .ref (B + 43) :: st) pc :=
  have hf : 0 ≤ R.cells ∧ 0 ≤ R.slots := ⟨Nat.zero_le _, Nat.zero_le _⟩
  zc_VpI C (ci := 9) (q := (RX9, TX9, 16)) (k := 43) (fs := [some (some 24), some (some 44), some (some 46), some (some 48), some (some 50), some (some 52), some (some 54), some (some 56), some (some 58), some (some 60), some (some 62), none, none, none, none, none]) (As := [.int xa1, .int xa2]) (st := st) rfl (hS _ _ zs_43) (c_TreeView_madeWithin hS h) (zgV zk_ml_11_312 zk_im_yX9_madeWithin zk_se_yX9_madeWithin zk_in_9 zk_cd_yX9_madeWithin) zsg_yX9_madeWithin hR rfl rfl hw hd hf kk
def w_Desk_isGoodName (a1 : Int32) (I : zI) (K : Int32 → Prop) : Prop :=
  w_Desk_now I (fun r_1 => w_Moment_hasGood r_1 a1 I (fun r_2 => (if r_2 = 0 then K 0 else (w_Row_get (r_1 + 14) 100 a1 I (fun r_3 => w_Row_get 27 3400 r_3 I (fun r_4 => (if r_4 = 5 then K 1 else K 0)))))))
theorem dyX11_isGoodName_0 : decode cX11_isGoodName 0 = .ok (.aload_n 0, 1) := by decide +kernel
theorem dyX11_isGoodName_1 : decode cX11_isGoodName 1 = .ok (.invokevirtual 126, 3) := by decide +kernel
theorem dyX11_isGoodName_4 : decode cX11_isGoodName 4 = .ok (.astore_n 2, 1) := by decide +kernel
theorem dyX11_isGoodName_5 : decode cX11_isGoodName 5 = .ok (.aload_n 2, 1) := by decide +kernel
theorem dyX11_isGoodName_6 : decode cX11_isGoodName 6 = .ok (.iload_n 1, 1) := by decide +kernel
theorem dyX11_isGoodName_7 : decode cX11_isGoodName 7 = .ok (.invokevirtual 209, 3) := by decide +kernel
theorem dyX11_isGoodName_10 : decode cX11_isGoodName 10 = .ok (.ifCond .eq 29, 3) := by decide +kernel
theorem dyX11_isGoodName_13 : decode cX11_isGoodName 13 = .ok (.aload_n 0, 1) := by decide +kernel
theorem dyX11_isGoodName_14 : decode cX11_isGoodName 14 = .ok (.getfield 35, 3) := by decide +kernel
theorem dyX11_isGoodName_17 : decode cX11_isGoodName 17 = .ok (.getfield 237, 3) := by decide +kernel
theorem dyX11_isGoodName_20 : decode cX11_isGoodName 20 = .ok (.aload_n 2, 1) := by decide +kernel
theorem dyX11_isGoodName_21 : decode cX11_isGoodName 21 = .ok (.getfield 115, 3) := by decide +kernel
theorem dyX11_isGoodName_24 : decode cX11_isGoodName 24 = .ok (.iload_n 1, 1) := by decide +kernel
theorem dyX11_isGoodName_25 : decode cX11_isGoodName 25 = .ok (.invokevirtual 166, 3) := by decide +kernel
theorem dyX11_isGoodName_28 : decode cX11_isGoodName 28 = .ok (.invokevirtual 166, 3) := by decide +kernel
theorem dyX11_isGoodName_31 : decode cX11_isGoodName 31 = .ok (.iconst 5, 1) := by decide +kernel
theorem dyX11_isGoodName_32 : decode cX11_isGoodName 32 = .ok (.if_icmp .ne 7, 3) := by decide +kernel
theorem dyX11_isGoodName_35 : decode cX11_isGoodName 35 = .ok (.iconst 1, 1) := by decide +kernel
theorem dyX11_isGoodName_36 : decode cX11_isGoodName 36 = .ok (.goto 4, 3) := by decide +kernel
theorem dyX11_isGoodName_39 : decode cX11_isGoodName 39 = .ok (.iconst 0, 1) := by decide +kernel
theorem dyX11_isGoodName_40 : decode cX11_isGoodName 40 = .ok (.ireturn, 1) := by decide +kernel
theorem zsg_yX11_isGoodName : yX11_isGoodName.cls = RX11 ∧ yX11_isGoodName.cls ≠ "java/lang/invoke/MethodHandle" ∧ yX11_isGoodName.cls ≠ "java/lang/invoke/VarHandle" ∧ (parseMethodDescriptor yX11_isGoodName.desc).map (fun d => d.parameters.length) = some 1 := by decide +kernel
set_option maxRecDepth 20000 in
theorem c_Desk_isGoodName {l : Launch} {D : va_G} {B : Nat} {cA : Nat → ClassId} {ad : Nat → Nat} {S : List zC} (hS : zOkX S) {a1 : Int32} {I : zI} {K : Int32 → Prop}  (h : w_Desk_isGoodName a1 I K) : Met l yX11_isGoodName (zws yX11_isGoodName cX11_isGoodName 3 (some .boolean)) (zrm 1 21) (zPc D B cA ad [.ref (B + 0), .int a1] S I) (zQc D B cA (zpI S I K)) 0 0 (fun q => B ≤ q) := by
  refine zm_of (cc := cX11_isGoodName) (maxL := 3) (ret := (some .boolean)) (by decide +kernel) rfl (Nat.le_of_ble_eq_true rfl) trivial ?_
  intro p e s m args below meth c C _
  unfold w_Desk_isGoodName at h
  show zX p l e (zrm 1 21) s m args below meth c (MQ below (zQc D B cA (zpI S I K)) args s 0 0 (fun q => B ≤ q)) D B cA 3 0 0 S I [(0, .ref (B + 0)), (1, .int a1)] [] 0
  refine zr_aload_n C dyX11_isGoodName_0 rfl 0 rfl ?_
  refine zv_11_126 C hS (st := []) h ⟨Nat.le_of_ble_eq_true rfl, Nat.le_of_ble_eq_true rfl⟩ (Nat.le_of_ble_eq_true rfl) dyX11_isGoodName_1 (fun r_1 hr_1 h => ?_)
  refine zr_astore_n C dyX11_isGoodName_4 rfl (Nat.le_of_ble_eq_true rfl) (lv2 := [(2, .ref (B + r_1)), (0, .ref (B + 0)), (1, .int a1)]) rfl ?_
  refine zr_aload_n C dyX11_isGoodName_5 rfl 0 rfl ?_
  refine zr_iload_n C dyX11_isGoodName_6 rfl 2 rfl ?_
  refine zv_11_209 C hS hr_1 (st := []) h ⟨Nat.le_of_ble_eq_true rfl, Nat.le_of_ble_eq_true rfl⟩ (Nat.le_of_ble_eq_true rfl) dyX11_isGoodName_7 (fun r_2 h => ?_)
  refine zr_if_eq C dyX11_isGoodName_10 (tgt := 39) (by decide) (fun hc_6 => ?_) (fun hc_6 => ?_)
  · replace h := zif_pos hc_6 h
    refine zr_iconst C dyX11_isGoodName_39 zc_i_0 ?_
    exact zr_zret C rfl (zb.nar zb_0) dyX11_isGoodName_40 ⟨rfl, rfl, _, rfl, h⟩
  · replace h := zif_neg hc_6 h
    refine zr_aload_n C dyX11_isGoodName_13 rfl 1 rfl ?_
    refine zg_11_35 C hS dyX11_isGoodName_14 ?_
    refine zg_11_237 C hS dyX11_isGoodName_17 ?_
    refine zr_aload_n C dyX11_isGoodName_20 rfl 0 rfl ?_
    refine zg_11_115 C hr_1 dyX11_isGoodName_21 ?_
    refine zr_iload_n C dyX11_isGoodName_24 rfl 2 rfl ?_
    refine zv_11_166 C hS hr_1.2.2.2.1 (st := [.ref (B + 27)]) h ⟨Nat.le_of_ble_eq_true rfl, Nat.le_of_ble_eq_true rfl⟩ (Nat.le_of_ble_eq_true rfl) dyX11_isGoodName_25 (fun r_3 h => ?_)
    refine zv_11_166 C hS (zIsRow.of hS zir_27) (st := []) h ⟨Nat.le_of_ble_eq_true rfl, Nat.le_of_ble_eq_true rfl⟩ (Nat.le_of_ble_eq_true rfl) dyX11_isGoodName_28 (fun r_4 h => ?_)
    refine zr_iconst C dyX11_isGoodName_31 zc_i_5 ?_
    refine zr_icmp_ne C dyX11_isGoodName_32 (tgt := 39) (by decide) (fun hc_5 => ?_) (fun hc_5 => ?_)
    · replace h := zif_neg hc_5 h
      refine zr_iconst C dyX11_isGoodName_39 zc_i_0 ?_
      exact zr_zret C rfl (zb.nar zb_0) dyX11_isGoodName_40 ⟨rfl, rfl, _, rfl, h⟩
    · replace h := zif_pos hc_5 h
      refine zr_iconst C dyX11_isGoodName_35 zc_i_1 ?_
      refine zr_goto C dyX11_isGoodName_36 (tgt := 40) (by decide) ?_
      exact zr_zret C rfl (zb.nar zb_1) dyX11_isGoodName_40 ⟨rfl, rfl, _, rfl, h⟩
theorem zv_11_325 {p : Program} {l : Launch} {e : Env} {R : Room} {s : State} {m : MethodId} {args : Array Value} {below : List Frame} {meth : Method} {c : Code} {Q : State → Prop} {D : va_G} {B : Nat} {cA : Nat → ClassId} {ad : Nat → Nat} {cc : ByteArray} {nL : Nat} {ret : Option FieldType} {S : List zC} {I : zI} {lv : List (Nat × Value)} {st : List Value} {pc : Nat} (C : zCx p s m args meth c cc nL RX11 ret D B cA ad) {K : Int32 → Prop} {xa1 : Int32} (hS : zOkX S)  (h : w_Desk_isGoodName xa1 I K) (hR : 1 + 1 ≤ R.frames ∧ 8 + (3 + 11) + (21) ≤ R.locals) (hw : (st.map fun v => v.category).sum ≤ 8) (hd : decode cc pc = .ok (.invokevirtual 325, 3)) (kk : ∀ v, K v → zX p l e R s m args below meth c Q D B cA nL 0 0 S I lv (.int v :: st) (pc + 3)) : zX p l e R s m args below meth c Q D B cA nL 0 0 S I lv (.int xa1 :: .ref (B + 0) :: st) pc :=
  have hf : 0 ≤ R.cells ∧ 0 ≤ R.slots := ⟨Nat.zero_le _, Nat.zero_le _⟩
  zc_VpI C (ci := 11) (q := (RX11, TX11, 19)) (k := 0) (fs := [some (some 1), none, some (some 3), some (some 4), none, none, none, none, some (some 22), some (some 24), some (some 43), some (some 64), some (some 69), some (some 88), some (some 97), some (some 100), some (some 109), some (some 111), none]) (As := [.int xa1]) (st := st) rfl (hS _ _ zs_0) (c_Desk_isGoodName hS h) (zgV zk_ml_11_325 zk_im_yX11_isGoodName zk_se_yX11_isGoodName zk_in_11 zk_cd_yX11_isGoodName) zsg_yX11_isGoodName hR rfl rfl hw hd hf kk
theorem zv_11_328 {p : Program} {l : Launch} {e : Env} {R : Room} {s : State} {m : MethodId} {args : Array Value} {below : List Frame} {meth : Method} {c : Code} {Q : State → Prop} {D : va_G} {B : Nat} {cA : Nat → ClassId} {ad : Nat → Nat} {cc : ByteArray} {nL : Nat} {ret : Option FieldType} {S : List zC} {I : zI} {lv : List (Nat × Value)} {st : List Value} {pc : Nat} (C : zCx p s m args meth c cc nL RX11 ret D B cA ad) {K : Int32 → Prop} {xa1 : Int32} (hS : zOkX S)  (h : w_Runner_valueOf xa1 I K) (hR : 1 + 1 ≤ R.frames ∧ 8 + (2 + 11) + (21) ≤ R.locals) (hw : (st.map fun v => v.category).sum ≤ 8) (hd : decode cc pc = .ok (.invokevirtual 328, 3)) (kk : ∀ v, K v → zX p l e R s m args below meth c Q D B cA nL 0 0 S I lv (.int v :: st) (pc + 3)) : zX p l e R s m args below meth c Q D B cA nL 0 0 S I lv (.int xa1 :: .ref (B + 69) :: st) pc :=
  have hf : 0 ≤ R.cells ∧ 0 ≤ R.slots := ⟨Nat.zero_le _, Nat.zero_le _⟩
  zc_VpI C (ci := 7) (q := (RX7, TX7, 17)) (k := 69) (fs := [some (some 24), some (some 43), some (some 70), some (some 72), some (some 74), some (some 76), some (some 78), some (some 80), some (some 82), some (some 84), some (some 86), none, none, none, none, none, none]) (As := [.int xa1]) (st := st) rfl (hS _ _ zs_69) (c_Runner_valueOf hS h) (zgV zk_ml_11_328 zk_im_yX7_valueOf zk_se_yX7_valueOf zk_in_7 zk_cd_yX7_valueOf) zsg_yX7_valueOf hR rfl rfl hw hd hf kk
def w_Desk_value (a1 : Int32) (I : zI) (K : Int32 → Prop) : Prop :=
  w_Desk_isGoodName a1 I (fun r_1 => (if r_1 = 0 then K 0 else (w_Runner_valueOf a1 I (fun r_2 => K r_2))))
theorem dyX11_value_0 : decode cX11_value 0 = .ok (.aload_n 0, 1) := by decide +kernel
theorem dyX11_value_1 : decode cX11_value 1 = .ok (.iload_n 1, 1) := by decide +kernel
theorem dyX11_value_2 : decode cX11_value 2 = .ok (.invokevirtual 325, 3) := by decide +kernel
theorem dyX11_value_5 : decode cX11_value 5 = .ok (.ifCond .eq 14, 3) := by decide +kernel
theorem dyX11_value_8 : decode cX11_value 8 = .ok (.aload_n 0, 1) := by decide +kernel
theorem dyX11_value_9 : decode cX11_value 9 = .ok (.getfield 60, 3) := by decide +kernel
theorem dyX11_value_12 : decode cX11_value 12 = .ok (.iload_n 1, 1) := by decide +kernel
theorem dyX11_value_13 : decode cX11_value 13 = .ok (.invokevirtual 328, 3) := by decide +kernel
theorem dyX11_value_16 : decode cX11_value 16 = .ok (.goto 4, 3) := by decide +kernel
theorem dyX11_value_19 : decode cX11_value 19 = .ok (.iconst 0, 1) := by decide +kernel
theorem dyX11_value_20 : decode cX11_value 20 = .ok (.ireturn, 1) := by decide +kernel
theorem zsg_yX11_value : yX11_value.cls = RX11 ∧ yX11_value.cls ≠ "java/lang/invoke/MethodHandle" ∧ yX11_value.cls ≠ "java/lang/invoke/VarHandle" ∧ (parseMethodDescriptor yX11_value.desc).map (fun d => d.parameters.length) = some 1 := by decide +kernel
set_option maxRecDepth 20000 in
theorem c_Desk_value {l : Launch} {D : va_G} {B : Nat} {cA : Nat → ClassId} {ad : Nat → Nat} {S : List zC} (hS : zOkX S) {a1 : Int32} {I : zI} {K : Int32 → Prop}  (h : w_Desk_value a1 I K) : Met l yX11_value (zws yX11_value cX11_value 2 (some .int)) (zrm 2 43) (zPc D B cA ad [.ref (B + 0), .int a1] S I) (zQc D B cA (zpI S I K)) 0 0 (fun q => B ≤ q) := by
  refine zm_of (cc := cX11_value) (maxL := 2) (ret := (some .int)) (by decide +kernel) rfl (Nat.le_of_ble_eq_true rfl) trivial ?_
  intro p e s m args below meth c C _
  unfold w_Desk_value at h
  show zX p l e (zrm 2 43) s m args below meth c (MQ below (zQc D B cA (zpI S I K)) args s 0 0 (fun q => B ≤ q)) D B cA 2 0 0 S I [(0, .ref (B + 0)), (1, .int a1)] [] 0
  refine zr_aload_n C dyX11_value_0 rfl 0 rfl ?_
  refine zr_iload_n C dyX11_value_1 rfl 1 rfl ?_
  refine zv_11_325 C hS (st := []) h ⟨Nat.le_of_ble_eq_true rfl, Nat.le_of_ble_eq_true rfl⟩ (Nat.le_of_ble_eq_true rfl) dyX11_value_2 (fun r_1 h => ?_)
  refine zr_if_eq C dyX11_value_5 (tgt := 19) (by decide) (fun hc_3 => ?_) (fun hc_3 => ?_)
  · replace h := zif_pos hc_3 h
    refine zr_iconst C dyX11_value_19 zc_i_0 ?_
    exact zr_iret C rfl dyX11_value_20 ⟨rfl, rfl, _, rfl, h⟩
  · replace h := zif_neg hc_3 h
    refine zr_aload_n C dyX11_value_8 rfl 0 rfl ?_
    refine zg_11_60 C hS dyX11_value_9 ?_
    refine zr_iload_n C dyX11_value_12 rfl 1 rfl ?_
    refine zv_11_328 C hS (st := []) h ⟨Nat.le_of_ble_eq_true rfl, Nat.le_of_ble_eq_true rfl⟩ (Nat.le_of_ble_eq_true rfl) dyX11_value_13 (fun r_2 h => ?_)
    refine zr_goto C dyX11_value_16 (tgt := 20) (by decide) ?_
    exact zr_iret C rfl dyX11_value_20 ⟨rfl, rfl, _, rfl, h⟩
theorem zv_11_340 {p : Program} {l : Launch} {e : Env} {R : Room} {s : State} {m : MethodId} {args : Array Value} {below : List Frame} {meth : Method} {c : Code} {Q : State → Prop} {D : va_G} {B : Nat} {cA : Nat → ClassId} {ad : Nat → Nat} {cc : ByteArray} {nL : Nat} {ret : Option FieldType} {S : List zC} {I : zI} {lv : List (Nat × Value)} {st : List Value} {pc : Nat} (C : zCx p s m args meth c cc nL RX11 ret D B cA ad) {K : Int32 → Prop} {xa1 : Int32} (hS : zOkX S)  (h : w_Runner_timesSet xa1 I K) (hR : 1 + 1 ≤ R.frames ∧ 8 + (2 + 11) + (21) ≤ R.locals) (hw : (st.map fun v => v.category).sum ≤ 8) (hd : decode cc pc = .ok (.invokevirtual 340, 3)) (kk : ∀ v, K v → zX p l e R s m args below meth c Q D B cA nL 0 0 S I lv (.int v :: st) (pc + 3)) : zX p l e R s m args below meth c Q D B cA nL 0 0 S I lv (.int xa1 :: .ref (B + 69) :: st) pc :=
  have hf : 0 ≤ R.cells ∧ 0 ≤ R.slots := ⟨Nat.zero_le _, Nat.zero_le _⟩
  zc_VpI C (ci := 7) (q := (RX7, TX7, 17)) (k := 69) (fs := [some (some 24), some (some 43), some (some 70), some (some 72), some (some 74), some (some 76), some (some 78), some (some 80), some (some 82), some (some 84), some (some 86), none, none, none, none, none, none]) (As := [.int xa1]) (st := st) rfl (hS _ _ zs_69) (c_Runner_timesSet hS h) (zgV zk_ml_11_340 zk_im_yX7_timesSet zk_se_yX7_timesSet zk_in_7 zk_cd_yX7_timesSet) zsg_yX7_timesSet hR rfl rfl hw hd hf kk
def w_Desk_sets (a1 : Int32) (I : zI) (K : Int32 → Prop) : Prop :=
  w_Desk_isGoodName a1 I (fun r_1 => (if r_1 = 0 then K 0 else (w_Runner_timesSet a1 I (fun r_2 => K r_2))))
theorem dyX11_sets_0 : decode cX11_sets 0 = .ok (.aload_n 0, 1) := by decide +kernel
theorem dyX11_sets_1 : decode cX11_sets 1 = .ok (.iload_n 1, 1) := by decide +kernel
theorem dyX11_sets_2 : decode cX11_sets 2 = .ok (.invokevirtual 325, 3) := by decide +kernel
theorem dyX11_sets_5 : decode cX11_sets 5 = .ok (.ifCond .eq 14, 3) := by decide +kernel
theorem dyX11_sets_8 : decode cX11_sets 8 = .ok (.aload_n 0, 1) := by decide +kernel
theorem dyX11_sets_9 : decode cX11_sets 9 = .ok (.getfield 60, 3) := by decide +kernel
theorem dyX11_sets_12 : decode cX11_sets 12 = .ok (.iload_n 1, 1) := by decide +kernel
theorem dyX11_sets_13 : decode cX11_sets 13 = .ok (.invokevirtual 340, 3) := by decide +kernel
theorem dyX11_sets_16 : decode cX11_sets 16 = .ok (.goto 4, 3) := by decide +kernel
theorem dyX11_sets_19 : decode cX11_sets 19 = .ok (.iconst 0, 1) := by decide +kernel
theorem dyX11_sets_20 : decode cX11_sets 20 = .ok (.ireturn, 1) := by decide +kernel
theorem zsg_yX11_sets : yX11_sets.cls = RX11 ∧ yX11_sets.cls ≠ "java/lang/invoke/MethodHandle" ∧ yX11_sets.cls ≠ "java/lang/invoke/VarHandle" ∧ (parseMethodDescriptor yX11_sets.desc).map (fun d => d.parameters.length) = some 1 := by decide +kernel
set_option maxRecDepth 20000 in
theorem c_Desk_sets {l : Launch} {D : va_G} {B : Nat} {cA : Nat → ClassId} {ad : Nat → Nat} {S : List zC} (hS : zOkX S) {a1 : Int32} {I : zI} {K : Int32 → Prop}  (h : w_Desk_sets a1 I K) : Met l yX11_sets (zws yX11_sets cX11_sets 2 (some .int)) (zrm 2 43) (zPc D B cA ad [.ref (B + 0), .int a1] S I) (zQc D B cA (zpI S I K)) 0 0 (fun q => B ≤ q) := by
  refine zm_of (cc := cX11_sets) (maxL := 2) (ret := (some .int)) (by decide +kernel) rfl (Nat.le_of_ble_eq_true rfl) trivial ?_
  intro p e s m args below meth c C _
  unfold w_Desk_sets at h
  show zX p l e (zrm 2 43) s m args below meth c (MQ below (zQc D B cA (zpI S I K)) args s 0 0 (fun q => B ≤ q)) D B cA 2 0 0 S I [(0, .ref (B + 0)), (1, .int a1)] [] 0
  refine zr_aload_n C dyX11_sets_0 rfl 0 rfl ?_
  refine zr_iload_n C dyX11_sets_1 rfl 1 rfl ?_
  refine zv_11_325 C hS (st := []) h ⟨Nat.le_of_ble_eq_true rfl, Nat.le_of_ble_eq_true rfl⟩ (Nat.le_of_ble_eq_true rfl) dyX11_sets_2 (fun r_1 h => ?_)
  refine zr_if_eq C dyX11_sets_5 (tgt := 19) (by decide) (fun hc_3 => ?_) (fun hc_3 => ?_)
  · replace h := zif_pos hc_3 h
    refine zr_iconst C dyX11_sets_19 zc_i_0 ?_
    exact zr_iret C rfl dyX11_sets_20 ⟨rfl, rfl, _, rfl, h⟩
  · replace h := zif_neg hc_3 h
    refine zr_aload_n C dyX11_sets_8 rfl 0 rfl ?_
    refine zg_11_60 C hS dyX11_sets_9 ?_
    refine zr_iload_n C dyX11_sets_12 rfl 1 rfl ?_
    refine zv_11_340 C hS (st := []) h ⟨Nat.le_of_ble_eq_true rfl, Nat.le_of_ble_eq_true rfl⟩ (Nat.le_of_ble_eq_true rfl) dyX11_sets_13 (fun r_2 h => ?_)
    refine zr_goto C dyX11_sets_16 (tgt := 20) (by decide) ?_
    exact zr_iret C rfl dyX11_sets_20 ⟨rfl, rfl, _, rfl, h⟩
theorem zg_11_343 {p : Program} {l : Launch} {e : Env} {R : Room} {s : State} {m : MethodId} {args : Array Value} {below : List Frame} {meth : Method} {c : Code} {Q : State → Prop} {D : va_G} {B : Nat} {cA : Nat → ClassId} {ad : Nat → Nat} {cc : ByteArray} {nL : Nat} {ret : Option FieldType} {S : List zC} {I : zI} {lv : List (Nat × Value)} {st : List Value} {pc : Nat} (C : zCx p s m args meth c cc nL RX11 ret D B cA ad) (hS : zOkX S) (hd : decode cc pc = .ok (.getfield 343, 3)) (kk : zX p l e R s m args below meth c Q D B cA nL 0 0 S I lv (.int (I.1 69 12) :: st) (pc + 3)) : zX p l e R s m args below meth c Q D B cA nL 0 0 S I lv (.ref (B + 69) :: st) pc :=
  zr_geti C (ci := 7) (Cn := RX7) (T := TX7) (N := 17) (k := 69) (j := 12) (fs := [some (some 24), some (some 43), some (some 70), some (some 72), some (some 74), some (some 76), some (some 78), some (some 80), some (some 82), some (some 84), some (some 86), none, none, none, none, none, none]) rfl zin_7 (Nat.le_of_ble_eq_true rfl) rfl (hS _ _ zs_69) rfl zk_fl_11_343 hd kk
theorem zg_11_346 {p : Program} {l : Launch} {e : Env} {R : Room} {s : State} {m : MethodId} {args : Array Value} {below : List Frame} {meth : Method} {c : Code} {Q : State → Prop} {D : va_G} {B : Nat} {cA : Nat → ClassId} {ad : Nat → Nat} {cc : ByteArray} {nL : Nat} {ret : Option FieldType} {S : List zC} {I : zI} {lv : List (Nat × Value)} {st : List Value} {pc : Nat} (C : zCx p s m args meth c cc nL RX11 ret D B cA ad) (hS : zOkX S) (hd : decode cc pc = .ok (.getfield 346, 3)) (kk : zX p l e R s m args below meth c Q D B cA nL 0 0 S I lv (.ref (B + 44) :: st) (pc + 3)) : zX p l e R s m args below meth c Q D B cA nL 0 0 S I lv (.ref (B + 43) :: st) pc :=
  zr_getr C (ci := 9) (Cn := RX9) (T := TX9) (N := 16) (k := 43) (j := 1) (fs := [some (some 24), some (some 44), some (some 46), some (some 48), some (some 50), some (some 52), some (some 54), some (some 56), some (some 58), some (some 60), some (some 62), none, none, none, none, none]) rfl zin_9 (Nat.le_of_ble_eq_true rfl) rfl (hS _ _ zs_43) rfl zk_fl_11_346 hd kk
theorem zg_11_349 {p : Program} {l : Launch} {e : Env} {R : Room} {s : State} {m : MethodId} {args : Array Value} {below : List Frame} {meth : Method} {c : Code} {Q : State → Prop} {D : va_G} {B : Nat} {cA : Nat → ClassId} {ad : Nat → Nat} {cc : ByteArray} {nL : Nat} {ret : Option FieldType} {S : List zC} {I : zI} {lv : List (Nat × Value)} {st : List Value} {pc : Nat} (C : zCx p s m args meth c cc nL RX11 ret D B cA ad) (hS : zOkX S) (hd : decode cc pc = .ok (.getfield 349, 3)) (kk : zX p l e R s m args below meth c Q D B cA nL 0 0 S I lv (.int (I.1 69 13) :: st) (pc + 3)) : zX p l e R s m args below meth c Q D B cA nL 0 0 S I lv (.ref (B + 69) :: st) pc :=
  zr_geti C (ci := 7) (Cn := RX7) (T := TX7) (N := 17) (k := 69) (j := 13) (fs := [some (some 24), some (some 43), some (some 70), some (some 72), some (some 74), some (some 76), some (some 78), some (some 80), some (some 82), some (some 84), some (some 86), none, none, none, none, none, none]) rfl zin_7 (Nat.le_of_ble_eq_true rfl) rfl (hS _ _ zs_69) rfl zk_fl_11_349 hd kk
def w_Desk_idle (a1 : Int32) (I : zI) (K : Int32 → Prop) : Prop :=
  (if a1 = 0 then (K (I.1 69 12)) else (if a1 = 1 then (if (I.1 69 12) = 0 then (K (-2)) else (w_Row_get 44 400 (I.1 69 13) I (fun r_3 => K r_3))) else (K (-1))))
theorem dyX11_idle_0 : decode cX11_idle 0 = .ok (.iload_n 1, 1) := by decide +kernel
theorem dyX11_idle_1 : decode cX11_idle 1 = .ok (.lookupswitch 68 #[(0, 27), (1, 35)], 27) := by decide +kernel
theorem dyX11_idle_28 : decode cX11_idle 28 = .ok (.aload_n 0, 1) := by decide +kernel
theorem dyX11_idle_29 : decode cX11_idle 29 = .ok (.getfield 60, 3) := by decide +kernel
theorem dyX11_idle_32 : decode cX11_idle 32 = .ok (.getfield 343, 3) := by decide +kernel
theorem dyX11_idle_35 : decode cX11_idle 35 = .ok (.ireturn, 1) := by decide +kernel
theorem dyX11_idle_36 : decode cX11_idle 36 = .ok (.aload_n 0, 1) := by decide +kernel
theorem dyX11_idle_37 : decode cX11_idle 37 = .ok (.getfield 60, 3) := by decide +kernel
theorem dyX11_idle_40 : decode cX11_idle 40 = .ok (.getfield 343, 3) := by decide +kernel
theorem dyX11_idle_43 : decode cX11_idle 43 = .ok (.ifCond .ne 8, 3) := by decide +kernel
theorem dyX11_idle_46 : decode cX11_idle 46 = .ok (.bipush (-2), 2) := by decide +kernel
theorem dyX11_idle_48 : decode cX11_idle 48 = .ok (.goto 20, 3) := by decide +kernel
theorem dyX11_idle_51 : decode cX11_idle 51 = .ok (.aload_n 0, 1) := by decide +kernel
theorem dyX11_idle_52 : decode cX11_idle 52 = .ok (.getfield 44, 3) := by decide +kernel
theorem dyX11_idle_55 : decode cX11_idle 55 = .ok (.getfield 346, 3) := by decide +kernel
theorem dyX11_idle_58 : decode cX11_idle 58 = .ok (.aload_n 0, 1) := by decide +kernel
theorem dyX11_idle_59 : decode cX11_idle 59 = .ok (.getfield 60, 3) := by decide +kernel
theorem dyX11_idle_62 : decode cX11_idle 62 = .ok (.getfield 349, 3) := by decide +kernel
theorem dyX11_idle_65 : decode cX11_idle 65 = .ok (.invokevirtual 166, 3) := by decide +kernel
theorem dyX11_idle_68 : decode cX11_idle 68 = .ok (.ireturn, 1) := by decide +kernel
theorem dyX11_idle_69 : decode cX11_idle 69 = .ok (.iconst (-1), 1) := by decide +kernel
theorem dyX11_idle_70 : decode cX11_idle 70 = .ok (.ireturn, 1) := by decide +kernel
theorem zsg_yX11_idle : yX11_idle.cls = RX11 ∧ yX11_idle.cls ≠ "java/lang/invoke/MethodHandle" ∧ yX11_idle.cls ≠ "java/lang/invoke/VarHandle" ∧ (parseMethodDescriptor yX11_idle.desc).map (fun d => d.parameters.length) = some 1 := by decide +kernel
set_option maxRecDepth 20000 in
theorem c_Desk_idle {l : Launch} {D : va_G} {B : Nat} {cA : Nat → ClassId} {ad : Nat → Nat} {S : List zC} (hS : zOkX S) {a1 : Int32} {I : zI} {K : Int32 → Prop}  (h : w_Desk_idle a1 I K) : Met l yX11_idle (zws yX11_idle cX11_idle 2 (some .int)) (zrm 1 21) (zPc D B cA ad [.ref (B + 0), .int a1] S I) (zQc D B cA (zpI S I K)) 0 0 (fun q => B ≤ q) := by
  refine zm_of (cc := cX11_idle) (maxL := 2) (ret := (some .int)) (by decide +kernel) rfl (Nat.le_of_ble_eq_true rfl) trivial ?_
  intro p e s m args below meth c C _
  unfold w_Desk_idle at h
  show zX p l e (zrm 1 21) s m args below meth c (MQ below (zQc D B cA (zpI S I K)) args s 0 0 (fun q => B ≤ q)) D B cA 2 0 0 S I [(0, .ref (B + 0)), (1, .int a1)] [] 0
  refine zr_iload_n C dyX11_idle_0 rfl 1 rfl ?_
  by_cases hc_1 : a1 = 0
  · replace h := zif_pos hc_1 h
    refine zr_lookup C dyX11_idle_1 (by decide) (off := 27) (by rw [hc_1]; decide) (tgt := 28) (by decide) ?_
    refine zr_aload_n C dyX11_idle_28 rfl 0 rfl ?_
    refine zg_11_60 C hS dyX11_idle_29 ?_
    refine zg_11_343 C hS dyX11_idle_32 ?_
    exact zr_iret C rfl dyX11_idle_35 ⟨rfl, rfl, _, rfl, h⟩
  replace h := zif_neg hc_1 h
  by_cases hc_2 : a1 = 1
  · replace h := zif_pos hc_2 h
    refine zr_lookup C dyX11_idle_1 (by decide) (off := 35) (by rw [hc_2]; decide) (tgt := 36) (by decide) ?_
    refine zr_aload_n C dyX11_idle_36 rfl 0 rfl ?_
    refine zg_11_60 C hS dyX11_idle_37 ?_
    refine zg_11_343 C hS dyX11_idle_40 ?_
    refine zr_if_ne C dyX11_idle_43 (tgt := 51) (by decide) (fun hc_4 => ?_) (fun hc_4 => ?_)
    · replace h := zif_neg hc_4 h
      refine zr_aload_n C dyX11_idle_51 rfl 0 rfl ?_
      refine zg_11_44 C hS dyX11_idle_52 ?_
      refine zg_11_346 C hS dyX11_idle_55 ?_
      refine zr_aload_n C dyX11_idle_58 rfl 0 rfl ?_
      refine zg_11_60 C hS dyX11_idle_59 ?_
      refine zg_11_349 C hS dyX11_idle_62 ?_
      refine zv_11_166 C hS (zIsRow.of hS zir_44) (st := []) h ⟨Nat.le_of_ble_eq_true rfl, Nat.le_of_ble_eq_true rfl⟩ (Nat.le_of_ble_eq_true rfl) dyX11_idle_65 (fun r_3 h => ?_)
      exact zr_iret C rfl dyX11_idle_68 ⟨rfl, rfl, _, rfl, h⟩
    · replace h := zif_pos hc_4 h
      refine zr_bipush C dyX11_idle_46 zc_b_m2 ?_
      refine zr_goto C dyX11_idle_48 (tgt := 68) (by decide) ?_
      exact zr_iret C rfl dyX11_idle_68 ⟨rfl, rfl, _, rfl, h⟩
  replace h := zif_neg hc_2 h
  refine zr_lookup C dyX11_idle_1 (by decide) (off := 68) (by show Op.lookupswitch.offset [(0, 27), (1, 35)] 68 a1.toInt = _; rw [lv_osw hc_1 (by decide), lv_osw hc_2 (by decide)]; rfl) (tgt := 69) (by decide) ?_
  refine zr_iconst C dyX11_idle_69 zc_i_m1 ?_
  exact zr_iret C rfl dyX11_idle_70 ⟨rfl, rfl, _, rfl, h⟩
