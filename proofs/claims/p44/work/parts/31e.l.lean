def w_Law_cut (a0 : Nat) (a0n : Nat) (S : List zC) (I : zI) (K : Nat → Nat → List zC → zI → Prop) : Prop :=
  zAt S a0 a0n ∧ (zZ I S.length ∧ (0 : Int32) ≤ ((Int32.ofNat a0n) + (1 : Int32)) ∧ Int32.toNatClampNeg ((Int32.ofNat a0n) + (1 : Int32)) ≤ 100000 ∧ 0 + 1 ≤ 500 ∧ 0 + Int32.toNatClampNeg ((Int32.ofNat a0n) + (1 : Int32)) ≤ 3000) ∧ ∀ (S_1 : List zC) (k_2 n_3 : Nat), S_1 = S ++ [.inr (.inl (1, n_3))] → k_2 = S.length → n_3 = Int32.toNatClampNeg ((Int32.ofNat a0n) + (1 : Int32)) → ∀ (P12 : Int32 → Int32 → (List zC) → Nat → Nat → zI → Prop), (∀ (v2_5 : Int32) (v3_6 : Int32) (S_7 : List zC) (c_8 : Nat) (u_9 : Nat) (I_11 : zI), (zAt S_7 a0 a0n ∧ (if (Int32.ofNat a0n) ≤ v3_6 then (∀ v2_12, v2_12 = (v2_5 + 1) → (zZ I_11 S_7.length ∧ (0 : Int32) ≤ 3 ∧ Int32.toNatClampNeg 3 ≤ 100000 ∧ c_8 + 1 ≤ 500 ∧ u_9 + Int32.toNatClampNeg 3 ≤ 3000) ∧ ∀ (S_13 : List zC) (k_14 n_15 : Nat), S_13 = S_7 ++ [.inr (.inl (0, n_15))] → k_14 = S_7.length → n_15 = Int32.toNatClampNeg 3 → (zAt S_13 k_14 n_15 ∧ vp_in 0 n_15) ∧ ∀ I_17, I_17 = (zu I_11 k_14 0 10) → zAt S_13 a0 a0n ∧ (zAt S_13 k_14 n_15 ∧ vp_in 1 n_15) ∧ ∀ I_18, I_18 = (zu I_17 k_14 1 (Int32.ofNat a0n)) → (zAt S_13 k_14 n_15 ∧ vp_in 2 n_15) ∧ ∀ I_19, I_19 = (zu I_18 k_14 2 0) → (zA2 S_13 k_2 n_3 ∧ vp_in v2_5 n_3 ∧ zAt S_13 k_14 n_15 ∧ k_14 < 1000000) ∧ ∀ I_20, I_20 = (zu I_19 k_2 (Int32.toNatClampNeg v2_5) (Int32.ofNat (k_14 + 1))) → (zZ I_20 S_13.length ∧ (0 : Int32) ≤ v2_12 ∧ Int32.toNatClampNeg v2_12 ≤ 100000 ∧ c_8 + 1 + 1 ≤ 500 ∧ u_9 + n_15 + Int32.toNatClampNeg v2_12 ≤ 3000) ∧ ∀ (S_21 : List zC) (k_22 n_23 : Nat), S_21 = S_13 ++ [.inr (.inl (1, n_23))] → k_22 = S_13.length → n_23 = Int32.toNatClampNeg v2_12 → ∀ (P367 : Int32 → zI → Prop), (∀ (v4_25 : Int32) (I_26 : zI), ((if v2_12 ≤ v4_25 then K k_22 n_23 S_21 I_26 else ((zA2 S_21 k_2 n_3 ∧ vp_in v4_25 n_3 ∧ ¬ I_26.1 k_2 (Int32.toNatClampNeg v4_25) = 0) ∧ ∀ (r_27 : Nat), r_27 = Int32.toNatClampNeg (I_26.1 k_2 (Int32.toNatClampNeg v4_25)) - 1 → (zA2 S_21 k_22 n_23 ∧ vp_in v4_25 n_23 ∧ zAt S_21 r_27 3 ∧ r_27 < 1000000) ∧ ∀ I_28, I_28 = (zu I_26 k_22 (Int32.toNatClampNeg v4_25) (Int32.ofNat (r_27 + 1))) → ∀ v4_29, v4_29 = (v4_25 + 1) → P367 v4_29 I_28))) → P367 v4_25 I_26) → P367 0 I_20) else ((zAt S_7 a0 a0n ∧ vp_in v3_6 a0n) ∧ ∀ v4_31, v4_31 = (I_11.1 a0 (Int32.toNatClampNeg v3_6)) → ∀ (P330 : Int32 → Int32 → (List zC) → Nat → Nat → zI → Prop), (∀ (v2_32 : Int32) (v3_33 : Int32) (S_34 : List zC) (c_35 : Nat) (u_36 : Nat) (I_38 : zI), (∀ v3_39, v3_39 = (v3_33 + 1) → P12 v2_32 v3_39 S_34 c_35 u_36 I_38) → P330 v2_32 v3_33 S_34 c_35 u_36 I_38) → (if v4_31 = 9 then P330 v2_5 v3_6 S_7 c_8 u_9 I_11 else (if v4_31 = 10 then P330 v2_5 v3_6 S_7 c_8 u_9 I_11 else (if v4_31 = 13 then P330 v2_5 v3_6 S_7 c_8 u_9 I_11 else (if v4_31 = 32 then P330 v2_5 v3_6 S_7 c_8 u_9 I_11 else (∀ v5_40, v5_40 = (v3_6 + (1 : Int32)) → ∀ (P59 : Int32 → Prop), (∀ (v5_41 : Int32), (zAt S_7 a0 a0n ∧ ∀ (P108 : Prop), ((∀ v6_42, v6_42 = (v5_41 - v3_6) → w_Law_letter v4_31 S_7 I_11 (fun r_43 => ∀ (P156 : Int32 → Prop), (∀ (t_44 : Int32), (∀ (P286 : Int32 → Prop), (∀ (t_45 : Int32), (∀ v2_46, v2_46 = (v2_5 + 1) → (zZ I_11 S_7.length ∧ (0 : Int32) ≤ 3 ∧ Int32.toNatClampNeg 3 ≤ 100000 ∧ c_8 + 1 ≤ 500 ∧ u_9 + Int32.toNatClampNeg 3 ≤ 3000) ∧ ∀ (S_47 : List zC) (k_48 n_49 : Nat), S_47 = S_7 ++ [.inr (.inl (0, n_49))] → k_48 = S_7.length → n_49 = Int32.toNatClampNeg 3 → (zAt S_47 k_48 n_49 ∧ vp_in 0 n_49) ∧ ∀ I_51, I_51 = (zu I_11 k_48 0 t_45) → (zAt S_47 k_48 n_49 ∧ vp_in 1 n_49) ∧ ∀ I_52, I_52 = (zu I_51 k_48 1 v3_6) → ∀ (P318 : Int32 → Prop), (∀ (t_53 : Int32), ((zAt S_47 k_48 n_49 ∧ vp_in 2 n_49) ∧ ∀ I_54, I_54 = (zu I_52 k_48 2 t_53) → (zA2 S_47 k_2 n_3 ∧ vp_in v2_5 n_3 ∧ zAt S_47 k_48 n_49 ∧ k_48 < 1000000) ∧ ∀ I_55, I_55 = (zu I_54 k_2 (Int32.toNatClampNeg v2_5) (Int32.ofNat (k_48 + 1))) → (if t_44 = 0 then (∀ v3_56, v3_56 = (v5_41 - (1 : Int32)) → P330 v2_46 v3_56 S_47 (c_8 + 1) (u_9 + n_49) I_55) else (P330 v2_46 v3_6 S_47 (c_8 + 1) (u_9 + n_49) I_55))) → P318 t_53) → (if t_44 = 0 then P318 v6_42 else P318 1)) → P286 t_45) → (if t_44 = 0 then (w_Law_letter v4_31 S_7 I_11 (fun r_59 => (if r_59 = 0 then (w_Law_digit v4_31 S_7 I_11 (fun r_60 => (if r_60 = 0 then (if v4_31 = 61 then P286 2 else (if v4_31 = 59 then P286 3 else (if v4_31 = 43 then P286 4 else (if v4_31 = 42 then P286 5 else (if v4_31 = 40 then P286 6 else (if v4_31 = 41 then P286 7 else (if v4_31 = 123 then P286 8 else (if v4_31 = 125 then P286 9 else P286 11)))))))) else P286 1))) else P286 0))) else P286 11)) → P156 t_44) → (if r_43 = 0 then (w_Law_digit v4_31 S_7 I_11 (fun r_72 => ∀ (P155 : Prop), ((P156 0) → P155) → (if r_72 = 0 then P155 else (if v6_42 ≤ 4 then P155 else P156 1)))) else (if v6_42 ≤ 8 then P156 0 else P156 1)))) → P108) → (if (Int32.ofNat a0n) ≤ v5_41 then P108 else (w_Law_letter v4_31 S_7 I_11 (fun r_77 => ∀ (P102 : Prop), ((∀ v5_78, v5_78 = (v5_41 + 1) → P59 v5_78) → P102) → ∀ (P84 : Prop), ((w_Law_digit v4_31 S_7 I_11 (fun r_79 => (if r_79 = 0 then P108 else ((zAt S_7 a0 a0n ∧ vp_in v5_41 a0n) ∧ w_Law_digit (I_11.1 a0 (Int32.toNatClampNeg v5_41)) S_7 I_11 (fun r_80 => (if r_80 = 0 then P108 else P102)))))) → P84) → (if r_77 = 0 then P84 else ((zAt S_7 a0 a0n ∧ vp_in v5_41 a0n) ∧ w_Law_letter (I_11.1 a0 (Int32.toNatClampNeg v5_41)) S_7 I_11 (fun r_83 => (if r_83 = 0 then P84 else P102)))))))) → P59 v5_41) → P59 v5_40)))))))) → P12 v2_5 v3_6 S_7 c_8 u_9 I_11) → P12 0 0 S_1 (0 + 1) (0 + n_3) I
theorem dyL_cut_0 : decode cL_cut 0 = .ok (.aload_n 0, 1) := by decide +kernel
theorem dyL_cut_1 : decode cL_cut 1 = .ok (.arraylength, 1) := by decide +kernel
theorem dyL_cut_2 : decode cL_cut 2 = .ok (.iconst 1, 1) := by decide +kernel
theorem dyL_cut_3 : decode cL_cut 3 = .ok (.iadd, 1) := by decide +kernel
theorem dyL_cut_4 : decode cL_cut 4 = .ok (.anewarray 27, 3) := by decide +kernel
theorem dyL_cut_7 : decode cL_cut 7 = .ok (.astore_n 1, 1) := by decide +kernel
theorem dyL_cut_8 : decode cL_cut 8 = .ok (.iconst 0, 1) := by decide +kernel
theorem dyL_cut_9 : decode cL_cut 9 = .ok (.istore_n 2, 1) := by decide +kernel
theorem dyL_cut_10 : decode cL_cut 10 = .ok (.iconst 0, 1) := by decide +kernel
theorem dyL_cut_11 : decode cL_cut 11 = .ok (.istore_n 3, 1) := by decide +kernel
theorem dyL_cut_12 : decode cL_cut 12 = .ok (.iload_n 3, 1) := by decide +kernel
theorem dyL_cut_13 : decode cL_cut 13 = .ok (.aload_n 0, 1) := by decide +kernel
theorem dyL_cut_14 : decode cL_cut 14 = .ok (.arraylength, 1) := by decide +kernel
theorem dyL_cut_15 : decode cL_cut 15 = .ok (.if_icmp .ge 321, 3) := by decide +kernel
theorem dyL_cut_18 : decode cL_cut 18 = .ok (.aload_n 0, 1) := by decide +kernel
theorem dyL_cut_19 : decode cL_cut 19 = .ok (.iload_n 3, 1) := by decide +kernel
theorem dyL_cut_20 : decode cL_cut 20 = .ok (.iaload, 1) := by decide +kernel
theorem dyL_cut_21 : decode cL_cut 21 = .ok (.istore 4, 2) := by decide +kernel
theorem dyL_cut_23 : decode cL_cut 23 = .ok (.iload 4, 2) := by decide +kernel
theorem dyL_cut_25 : decode cL_cut 25 = .ok (.bipush 9, 2) := by decide +kernel
theorem dyL_cut_27 : decode cL_cut 27 = .ok (.if_icmp .eq 303, 3) := by decide +kernel
theorem dyL_cut_30 : decode cL_cut 30 = .ok (.iload 4, 2) := by decide +kernel
theorem dyL_cut_32 : decode cL_cut 32 = .ok (.bipush 10, 2) := by decide +kernel
theorem dyL_cut_34 : decode cL_cut 34 = .ok (.if_icmp .eq 296, 3) := by decide +kernel
theorem dyL_cut_37 : decode cL_cut 37 = .ok (.iload 4, 2) := by decide +kernel
theorem dyL_cut_39 : decode cL_cut 39 = .ok (.bipush 13, 2) := by decide +kernel
theorem dyL_cut_41 : decode cL_cut 41 = .ok (.if_icmp .eq 289, 3) := by decide +kernel
theorem dyL_cut_44 : decode cL_cut 44 = .ok (.iload 4, 2) := by decide +kernel
theorem dyL_cut_46 : decode cL_cut 46 = .ok (.bipush 32, 2) := by decide +kernel
theorem dyL_cut_48 : decode cL_cut 48 = .ok (.if_icmp .ne 6, 3) := by decide +kernel
theorem dyL_cut_51 : decode cL_cut 51 = .ok (.goto 279, 3) := by decide +kernel
theorem dyL_cut_54 : decode cL_cut 54 = .ok (.iload_n 3, 1) := by decide +kernel
theorem dyL_cut_55 : decode cL_cut 55 = .ok (.iconst 1, 1) := by decide +kernel
theorem dyL_cut_56 : decode cL_cut 56 = .ok (.iadd, 1) := by decide +kernel
theorem dyL_cut_57 : decode cL_cut 57 = .ok (.istore 5, 2) := by decide +kernel
theorem dyL_cut_59 : decode cL_cut 59 = .ok (.iload 5, 2) := by decide +kernel
theorem dyL_cut_61 : decode cL_cut 61 = .ok (.aload_n 0, 1) := by decide +kernel
theorem dyL_cut_62 : decode cL_cut 62 = .ok (.arraylength, 1) := by decide +kernel
theorem dyL_cut_63 : decode cL_cut 63 = .ok (.if_icmp .ge 45, 3) := by decide +kernel
theorem dyL_cut_66 : decode cL_cut 66 = .ok (.iload 4, 2) := by decide +kernel
theorem dyL_cut_68 : decode cL_cut 68 = .ok (.invokestatic 29, 3) := by decide +kernel
theorem dyL_cut_71 : decode cL_cut 71 = .ok (.ifCond .eq 13, 3) := by decide +kernel
theorem dyL_cut_74 : decode cL_cut 74 = .ok (.aload_n 0, 1) := by decide +kernel
theorem dyL_cut_75 : decode cL_cut 75 = .ok (.iload 5, 2) := by decide +kernel
theorem dyL_cut_77 : decode cL_cut 77 = .ok (.iaload, 1) := by decide +kernel
theorem dyL_cut_78 : decode cL_cut 78 = .ok (.invokestatic 29, 3) := by decide +kernel
theorem dyL_cut_81 : decode cL_cut 81 = .ok (.ifCond .ne 21, 3) := by decide +kernel
theorem dyL_cut_84 : decode cL_cut 84 = .ok (.iload 4, 2) := by decide +kernel
theorem dyL_cut_86 : decode cL_cut 86 = .ok (.invokestatic 33, 3) := by decide +kernel
theorem dyL_cut_89 : decode cL_cut 89 = .ok (.ifCond .eq 19, 3) := by decide +kernel
theorem dyL_cut_92 : decode cL_cut 92 = .ok (.aload_n 0, 1) := by decide +kernel
theorem dyL_cut_93 : decode cL_cut 93 = .ok (.iload 5, 2) := by decide +kernel
theorem dyL_cut_95 : decode cL_cut 95 = .ok (.iaload, 1) := by decide +kernel
theorem dyL_cut_96 : decode cL_cut 96 = .ok (.invokestatic 33, 3) := by decide +kernel
theorem dyL_cut_99 : decode cL_cut 99 = .ok (.ifCond .eq 9, 3) := by decide +kernel
theorem dyL_cut_102 : decode cL_cut 102 = .ok (.iinc 5 1, 3) := by decide +kernel
theorem dyL_cut_105 : decode cL_cut 105 = .ok (.goto (-46), 3) := by decide +kernel
theorem dyL_cut_108 : decode cL_cut 108 = .ok (.iload 5, 2) := by decide +kernel
theorem dyL_cut_110 : decode cL_cut 110 = .ok (.iload_n 3, 1) := by decide +kernel
theorem dyL_cut_111 : decode cL_cut 111 = .ok (.isub, 1) := by decide +kernel
theorem dyL_cut_112 : decode cL_cut 112 = .ok (.istore 6, 2) := by decide +kernel
theorem dyL_cut_114 : decode cL_cut 114 = .ok (.iload 4, 2) := by decide +kernel
theorem dyL_cut_116 : decode cL_cut 116 = .ok (.invokestatic 29, 3) := by decide +kernel
theorem dyL_cut_119 : decode cL_cut 119 = .ok (.ifCond .eq 18, 3) := by decide +kernel
theorem dyL_cut_122 : decode cL_cut 122 = .ok (.iload 6, 2) := by decide +kernel
theorem dyL_cut_124 : decode cL_cut 124 = .ok (.bipush 8, 2) := by decide +kernel
theorem dyL_cut_126 : decode cL_cut 126 = .ok (.if_icmp .le 7, 3) := by decide +kernel
theorem dyL_cut_129 : decode cL_cut 129 = .ok (.iconst 1, 1) := by decide +kernel
theorem dyL_cut_130 : decode cL_cut 130 = .ok (.goto 26, 3) := by decide +kernel
theorem dyL_cut_133 : decode cL_cut 133 = .ok (.iconst 0, 1) := by decide +kernel
theorem dyL_cut_134 : decode cL_cut 134 = .ok (.goto 22, 3) := by decide +kernel
theorem dyL_cut_137 : decode cL_cut 137 = .ok (.iload 4, 2) := by decide +kernel
theorem dyL_cut_139 : decode cL_cut 139 = .ok (.invokestatic 33, 3) := by decide +kernel
theorem dyL_cut_142 : decode cL_cut 142 = .ok (.ifCond .eq 13, 3) := by decide +kernel
theorem dyL_cut_145 : decode cL_cut 145 = .ok (.iload 6, 2) := by decide +kernel
theorem dyL_cut_147 : decode cL_cut 147 = .ok (.iconst 4, 1) := by decide +kernel
theorem dyL_cut_148 : decode cL_cut 148 = .ok (.if_icmp .le 7, 3) := by decide +kernel
theorem dyL_cut_151 : decode cL_cut 151 = .ok (.iconst 1, 1) := by decide +kernel
theorem dyL_cut_152 : decode cL_cut 152 = .ok (.goto 4, 3) := by decide +kernel
theorem dyL_cut_155 : decode cL_cut 155 = .ok (.iconst 0, 1) := by decide +kernel
theorem dyL_cut_156 : decode cL_cut 156 = .ok (.istore 7, 2) := by decide +kernel
theorem dyL_cut_158 : decode cL_cut 158 = .ok (.iload 7, 2) := by decide +kernel
theorem dyL_cut_160 : decode cL_cut 160 = .ok (.ifCond .eq 8, 3) := by decide +kernel
theorem dyL_cut_163 : decode cL_cut 163 = .ok (.bipush 11, 2) := by decide +kernel
theorem dyL_cut_165 : decode cL_cut 165 = .ok (.goto 121, 3) := by decide +kernel
theorem dyL_cut_168 : decode cL_cut 168 = .ok (.iload 4, 2) := by decide +kernel
theorem dyL_cut_170 : decode cL_cut 170 = .ok (.invokestatic 29, 3) := by decide +kernel
theorem dyL_cut_173 : decode cL_cut 173 = .ok (.ifCond .eq 7, 3) := by decide +kernel
theorem dyL_cut_176 : decode cL_cut 176 = .ok (.iconst 0, 1) := by decide +kernel
theorem dyL_cut_177 : decode cL_cut 177 = .ok (.goto 109, 3) := by decide +kernel
theorem dyL_cut_180 : decode cL_cut 180 = .ok (.iload 4, 2) := by decide +kernel
theorem dyL_cut_182 : decode cL_cut 182 = .ok (.invokestatic 33, 3) := by decide +kernel
theorem dyL_cut_185 : decode cL_cut 185 = .ok (.ifCond .eq 7, 3) := by decide +kernel
theorem dyL_cut_188 : decode cL_cut 188 = .ok (.iconst 1, 1) := by decide +kernel
theorem dyL_cut_189 : decode cL_cut 189 = .ok (.goto 97, 3) := by decide +kernel
theorem dyL_cut_192 : decode cL_cut 192 = .ok (.iload 4, 2) := by decide +kernel
theorem dyL_cut_194 : decode cL_cut 194 = .ok (.bipush 61, 2) := by decide +kernel
theorem dyL_cut_196 : decode cL_cut 196 = .ok (.if_icmp .ne 7, 3) := by decide +kernel
theorem dyL_cut_199 : decode cL_cut 199 = .ok (.iconst 2, 1) := by decide +kernel
theorem dyL_cut_200 : decode cL_cut 200 = .ok (.goto 86, 3) := by decide +kernel
theorem dyL_cut_203 : decode cL_cut 203 = .ok (.iload 4, 2) := by decide +kernel
theorem dyL_cut_205 : decode cL_cut 205 = .ok (.bipush 59, 2) := by decide +kernel
theorem dyL_cut_207 : decode cL_cut 207 = .ok (.if_icmp .ne 7, 3) := by decide +kernel
theorem dyL_cut_210 : decode cL_cut 210 = .ok (.iconst 3, 1) := by decide +kernel
theorem dyL_cut_211 : decode cL_cut 211 = .ok (.goto 75, 3) := by decide +kernel
theorem dyL_cut_214 : decode cL_cut 214 = .ok (.iload 4, 2) := by decide +kernel
theorem dyL_cut_216 : decode cL_cut 216 = .ok (.bipush 43, 2) := by decide +kernel
theorem dyL_cut_218 : decode cL_cut 218 = .ok (.if_icmp .ne 7, 3) := by decide +kernel
theorem dyL_cut_221 : decode cL_cut 221 = .ok (.iconst 4, 1) := by decide +kernel
theorem dyL_cut_222 : decode cL_cut 222 = .ok (.goto 64, 3) := by decide +kernel
theorem dyL_cut_225 : decode cL_cut 225 = .ok (.iload 4, 2) := by decide +kernel
theorem dyL_cut_227 : decode cL_cut 227 = .ok (.bipush 42, 2) := by decide +kernel
theorem dyL_cut_229 : decode cL_cut 229 = .ok (.if_icmp .ne 7, 3) := by decide +kernel
theorem dyL_cut_232 : decode cL_cut 232 = .ok (.iconst 5, 1) := by decide +kernel
theorem dyL_cut_233 : decode cL_cut 233 = .ok (.goto 53, 3) := by decide +kernel
theorem dyL_cut_236 : decode cL_cut 236 = .ok (.iload 4, 2) := by decide +kernel
theorem dyL_cut_238 : decode cL_cut 238 = .ok (.bipush 40, 2) := by decide +kernel
theorem dyL_cut_240 : decode cL_cut 240 = .ok (.if_icmp .ne 8, 3) := by decide +kernel
theorem dyL_cut_243 : decode cL_cut 243 = .ok (.bipush 6, 2) := by decide +kernel
theorem dyL_cut_245 : decode cL_cut 245 = .ok (.goto 41, 3) := by decide +kernel
theorem dyL_cut_248 : decode cL_cut 248 = .ok (.iload 4, 2) := by decide +kernel
theorem dyL_cut_250 : decode cL_cut 250 = .ok (.bipush 41, 2) := by decide +kernel
theorem dyL_cut_252 : decode cL_cut 252 = .ok (.if_icmp .ne 8, 3) := by decide +kernel
theorem dyL_cut_255 : decode cL_cut 255 = .ok (.bipush 7, 2) := by decide +kernel
theorem dyL_cut_257 : decode cL_cut 257 = .ok (.goto 29, 3) := by decide +kernel
theorem dyL_cut_260 : decode cL_cut 260 = .ok (.iload 4, 2) := by decide +kernel
theorem dyL_cut_262 : decode cL_cut 262 = .ok (.bipush 123, 2) := by decide +kernel
theorem dyL_cut_264 : decode cL_cut 264 = .ok (.if_icmp .ne 8, 3) := by decide +kernel
theorem dyL_cut_267 : decode cL_cut 267 = .ok (.bipush 8, 2) := by decide +kernel
theorem dyL_cut_269 : decode cL_cut 269 = .ok (.goto 17, 3) := by decide +kernel
theorem dyL_cut_272 : decode cL_cut 272 = .ok (.iload 4, 2) := by decide +kernel
theorem dyL_cut_274 : decode cL_cut 274 = .ok (.bipush 125, 2) := by decide +kernel
theorem dyL_cut_276 : decode cL_cut 276 = .ok (.if_icmp .ne 8, 3) := by decide +kernel
theorem dyL_cut_279 : decode cL_cut 279 = .ok (.bipush 9, 2) := by decide +kernel
theorem dyL_cut_281 : decode cL_cut 281 = .ok (.goto 5, 3) := by decide +kernel
theorem dyL_cut_284 : decode cL_cut 284 = .ok (.bipush 11, 2) := by decide +kernel
theorem dyL_cut_286 : decode cL_cut 286 = .ok (.istore 8, 2) := by decide +kernel
theorem dyL_cut_288 : decode cL_cut 288 = .ok (.aload_n 1, 1) := by decide +kernel
theorem dyL_cut_289 : decode cL_cut 289 = .ok (.iload_n 2, 1) := by decide +kernel
theorem dyL_cut_290 : decode cL_cut 290 = .ok (.iinc 2 1, 3) := by decide +kernel
theorem dyL_cut_293 : decode cL_cut 293 = .ok (.iconst 3, 1) := by decide +kernel
theorem dyL_cut_294 : decode cL_cut 294 = .ok (.newarray .int, 2) := by decide +kernel
theorem dyL_cut_296 : decode cL_cut 296 = .ok (.dup, 1) := by decide +kernel
theorem dyL_cut_297 : decode cL_cut 297 = .ok (.iconst 0, 1) := by decide +kernel
theorem dyL_cut_298 : decode cL_cut 298 = .ok (.iload 8, 2) := by decide +kernel
theorem dyL_cut_300 : decode cL_cut 300 = .ok (.iastore, 1) := by decide +kernel
theorem dyL_cut_301 : decode cL_cut 301 = .ok (.dup, 1) := by decide +kernel
theorem dyL_cut_302 : decode cL_cut 302 = .ok (.iconst 1, 1) := by decide +kernel
theorem dyL_cut_303 : decode cL_cut 303 = .ok (.iload_n 3, 1) := by decide +kernel
theorem dyL_cut_304 : decode cL_cut 304 = .ok (.iastore, 1) := by decide +kernel
theorem dyL_cut_305 : decode cL_cut 305 = .ok (.dup, 1) := by decide +kernel
theorem dyL_cut_306 : decode cL_cut 306 = .ok (.iconst 2, 1) := by decide +kernel
theorem dyL_cut_307 : decode cL_cut 307 = .ok (.iload 7, 2) := by decide +kernel
theorem dyL_cut_309 : decode cL_cut 309 = .ok (.ifCond .eq 7, 3) := by decide +kernel
theorem dyL_cut_312 : decode cL_cut 312 = .ok (.iconst 1, 1) := by decide +kernel
theorem dyL_cut_313 : decode cL_cut 313 = .ok (.goto 5, 3) := by decide +kernel
theorem dyL_cut_316 : decode cL_cut 316 = .ok (.iload 6, 2) := by decide +kernel
theorem dyL_cut_318 : decode cL_cut 318 = .ok (.iastore, 1) := by decide +kernel
theorem dyL_cut_319 : decode cL_cut 319 = .ok (.aastore, 1) := by decide +kernel
theorem dyL_cut_320 : decode cL_cut 320 = .ok (.iload 7, 2) := by decide +kernel
theorem dyL_cut_322 : decode cL_cut 322 = .ok (.ifCond .ne 8, 3) := by decide +kernel
theorem dyL_cut_325 : decode cL_cut 325 = .ok (.iload 5, 2) := by decide +kernel
theorem dyL_cut_327 : decode cL_cut 327 = .ok (.iconst 1, 1) := by decide +kernel
theorem dyL_cut_328 : decode cL_cut 328 = .ok (.isub, 1) := by decide +kernel
theorem dyL_cut_329 : decode cL_cut 329 = .ok (.istore_n 3, 1) := by decide +kernel
theorem dyL_cut_330 : decode cL_cut 330 = .ok (.iinc 3 1, 3) := by decide +kernel
theorem dyL_cut_333 : decode cL_cut 333 = .ok (.goto (-321), 3) := by decide +kernel
theorem dyL_cut_336 : decode cL_cut 336 = .ok (.aload_n 1, 1) := by decide +kernel
theorem dyL_cut_337 : decode cL_cut 337 = .ok (.iload_n 2, 1) := by decide +kernel
theorem dyL_cut_338 : decode cL_cut 338 = .ok (.iinc 2 1, 3) := by decide +kernel
theorem dyL_cut_341 : decode cL_cut 341 = .ok (.iconst 3, 1) := by decide +kernel
theorem dyL_cut_342 : decode cL_cut 342 = .ok (.newarray .int, 2) := by decide +kernel
theorem dyL_cut_344 : decode cL_cut 344 = .ok (.dup, 1) := by decide +kernel
theorem dyL_cut_345 : decode cL_cut 345 = .ok (.iconst 0, 1) := by decide +kernel
theorem dyL_cut_346 : decode cL_cut 346 = .ok (.bipush 10, 2) := by decide +kernel
theorem dyL_cut_348 : decode cL_cut 348 = .ok (.iastore, 1) := by decide +kernel
theorem dyL_cut_349 : decode cL_cut 349 = .ok (.dup, 1) := by decide +kernel
theorem dyL_cut_350 : decode cL_cut 350 = .ok (.iconst 1, 1) := by decide +kernel
theorem dyL_cut_351 : decode cL_cut 351 = .ok (.aload_n 0, 1) := by decide +kernel
theorem dyL_cut_352 : decode cL_cut 352 = .ok (.arraylength, 1) := by decide +kernel
theorem dyL_cut_353 : decode cL_cut 353 = .ok (.iastore, 1) := by decide +kernel
theorem dyL_cut_354 : decode cL_cut 354 = .ok (.dup, 1) := by decide +kernel
theorem dyL_cut_355 : decode cL_cut 355 = .ok (.iconst 2, 1) := by decide +kernel
theorem dyL_cut_356 : decode cL_cut 356 = .ok (.iconst 0, 1) := by decide +kernel
theorem dyL_cut_357 : decode cL_cut 357 = .ok (.iastore, 1) := by decide +kernel
theorem dyL_cut_358 : decode cL_cut 358 = .ok (.aastore, 1) := by decide +kernel
theorem dyL_cut_359 : decode cL_cut 359 = .ok (.iload_n 2, 1) := by decide +kernel
theorem dyL_cut_360 : decode cL_cut 360 = .ok (.anewarray 27, 3) := by decide +kernel
theorem dyL_cut_363 : decode cL_cut 363 = .ok (.astore_n 3, 1) := by decide +kernel
theorem dyL_cut_364 : decode cL_cut 364 = .ok (.iconst 0, 1) := by decide +kernel
theorem dyL_cut_365 : decode cL_cut 365 = .ok (.istore 4, 2) := by decide +kernel
theorem dyL_cut_367 : decode cL_cut 367 = .ok (.iload 4, 2) := by decide +kernel
theorem dyL_cut_369 : decode cL_cut 369 = .ok (.iload_n 2, 1) := by decide +kernel
theorem dyL_cut_370 : decode cL_cut 370 = .ok (.if_icmp .ge 17, 3) := by decide +kernel
theorem dyL_cut_373 : decode cL_cut 373 = .ok (.aload_n 3, 1) := by decide +kernel
theorem dyL_cut_374 : decode cL_cut 374 = .ok (.iload 4, 2) := by decide +kernel
theorem dyL_cut_376 : decode cL_cut 376 = .ok (.aload_n 1, 1) := by decide +kernel
theorem dyL_cut_377 : decode cL_cut 377 = .ok (.iload 4, 2) := by decide +kernel
theorem dyL_cut_379 : decode cL_cut 379 = .ok (.aaload, 1) := by decide +kernel
theorem dyL_cut_380 : decode cL_cut 380 = .ok (.aastore, 1) := by decide +kernel
theorem dyL_cut_381 : decode cL_cut 381 = .ok (.iinc 4 1, 3) := by decide +kernel
theorem dyL_cut_384 : decode cL_cut 384 = .ok (.goto (-17), 3) := by decide +kernel
theorem dyL_cut_387 : decode cL_cut 387 = .ok (.aload_n 3, 1) := by decide +kernel
theorem dyL_cut_388 : decode cL_cut 388 = .ok (.areturn, 1) := by decide +kernel
theorem zsg_yL_cut : yL_cut.cls ≠ "java/lang/invoke/MethodHandle" ∧ yL_cut.cls ≠ "java/lang/invoke/VarHandle" ∧ (parseMethodDescriptor yL_cut.desc).map (fun d => d.parameters.length) = some 1 := by decide +kernel
theorem zv_L_29t {p : Program} {l : Launch} {e : Env} {R : Room} {s : State} {m : MethodId} {args : Array Value} {below : List Frame} {meth : Method} {c : Code} {Q : State → Prop} {D : va_G} {B : Nat} {cA : Nat → ClassId} {ad : Nat → Nat} {cc : ByteArray} {nL : Nat} {ret : Option FieldType} {S : List zC} {I : zI} {lv : List (Nat × Value)} {st : List Value} {pc cells slots : Nat} (C : zCx p s m args meth c cc nL RL ret D B cA ad) {K : Int32 → Prop} {xa0 : Int32} (hS : zOkX S) (h : w_Law_letter xa0 S I K) (hR : 0 + 1 ≤ R.frames ∧ 8 + (1 + 11) + 0 ≤ R.locals) (hw : (st.map fun v => v.category).sum ≤ 8) (hd : decode cc pc = .ok (.invokestatic 29, 3)) (hf : cells ≤ R.cells ∧ slots ≤ R.slots) (kk : ∀ v, K v → zX p l e R s m args below meth c Q D B cA nL cells slots S I lv (.int v :: st) (pc + 3)) : zX p l e R s m args below meth c Q D B cA nL cells slots S I lv (.int xa0 :: st) pc :=
  zc_SpI C (As := [.int xa0]) (st := st) (c_Law_letter hS h) (zgM zk_cd_yL_letter) zk_ml_L_29 zk_st_yL_letter zk_in_L zsg_yL_letter hR rfl rfl hw hd hf kk
theorem zv_L_33t {p : Program} {l : Launch} {e : Env} {R : Room} {s : State} {m : MethodId} {args : Array Value} {below : List Frame} {meth : Method} {c : Code} {Q : State → Prop} {D : va_G} {B : Nat} {cA : Nat → ClassId} {ad : Nat → Nat} {cc : ByteArray} {nL : Nat} {ret : Option FieldType} {S : List zC} {I : zI} {lv : List (Nat × Value)} {st : List Value} {pc cells slots : Nat} (C : zCx p s m args meth c cc nL RL ret D B cA ad) {K : Int32 → Prop} {xa0 : Int32} (hS : zOkX S) (h : w_Law_digit xa0 S I K) (hR : 0 + 1 ≤ R.frames ∧ 8 + (1 + 11) + 0 ≤ R.locals) (hw : (st.map fun v => v.category).sum ≤ 8) (hd : decode cc pc = .ok (.invokestatic 33, 3)) (hf : cells ≤ R.cells ∧ slots ≤ R.slots) (kk : ∀ v, K v → zX p l e R s m args below meth c Q D B cA nL cells slots S I lv (.int v :: st) (pc + 3)) : zX p l e R s m args below meth c Q D B cA nL cells slots S I lv (.int xa0 :: st) pc :=
  zc_SpI C (As := [.int xa0]) (st := st) (c_Law_digit hS h) (zgM zk_cd_yL_digit) zk_ml_L_33 zk_st_yL_digit zk_in_L zsg_yL_digit hR rfl rfl hw hd hf kk
set_option maxHeartbeats 4000000 in
set_option maxRecDepth 20000 in
theorem c_Law_cut {l : Launch} {D : va_G} {B : Nat} {cA : Nat → ClassId} {ad : Nat → Nat} {S : List zC} (hS : zOkX S) {a0 : Nat} {a0n : Nat} {I : zI} {K : Nat → Nat → List zC → zI → Prop} (h : w_Law_cut a0 a0n S I K) : Met l yL_cut (zws yL_cut cL_cut 9 (some (.array (.array .int)))) (zrA 1 20 500 3000) (zPc D B cA ad [.ref (B + a0)] S I) (zQc D B cA (zaA B S K)) 500 3000 (fun q => B ≤ q) := by
  refine zm_of (cc := cL_cut) (maxL := 9) (ret := (some (.array (.array .int)))) (by decide +kernel) rfl (Nat.le_of_ble_eq_true rfl) trivial ?_
  intro p e s m args below meth c C _
  unfold w_Law_cut at h
  have g0 : zGo S 500 3000 S 0 0 := zGo.start hS
  show zX p l e (zrA 1 20 500 3000) s m args below meth c (MQ below (zQc D B cA (zaA B S K)) args s 500 3000 (fun q => B ≤ q)) D B cA 9 0 0 S I [(0, .ref (B + a0))] [] 0
  refine zr_aload_n C dyL_cut_0 rfl 0 rfl ?_
  refine zr_alen C h.1 dyL_cut_1 ?_
  replace h := h.2
  refine zr_iconst C dyL_cut_2 zc_i_1 ?_
  refine zr_iadd C dyL_cut_3 ?_
  refine za_nr C g0 zk_cl_L_27 rfl rfl h.1 dyL_cut_4 (fun S_1 k_2 n_3 eS eK eN g_4 => ?_)
  replace h := h.2 S_1 k_2 n_3 eS eK eN
  refine zr_astore_n C dyL_cut_7 rfl (Nat.le_of_ble_eq_true rfl) (lv2 := [(1, .ref (B + k_2)), (0, .ref (B + a0))]) rfl ?_
  refine zr_iconst C dyL_cut_8 zc_i_0 ?_
  refine zr_istore_n C dyL_cut_9 rfl (Nat.le_of_ble_eq_true rfl) (lv2 := [(2, .int 0), (1, .ref (B + k_2)), (0, .ref (B + a0))]) rfl ?_
  refine zr_iconst C dyL_cut_10 zc_i_0 ?_
  refine zr_istore_n C dyL_cut_11 rfl (Nat.le_of_ble_eq_true rfl) (lv2 := [(3, .int 0), (2, .int 0), (1, .ref (B + k_2)), (0, .ref (B + a0))]) rfl ?_
  refine zjn (h (fun (v2_5 : Int32) (v3_6 : Int32) (S_7 : List zC) (c_8 : Nat) (u_9 : Nat) (I_11 : zI) => zGo S 500 3000 S_7 c_8 u_9 → zX p l e (zrA 1 20 500 3000) s m args below meth c (MQ below (zQc D B cA (zaA B S K)) args s 500 3000 (fun q => B ≤ q)) D B cA 9 c_8 u_9 S_7 I_11 [(3, .int v3_6), (2, .int v2_5), (1, .ref (B + k_2)), (0, .ref (B + a0))] [] 12) (fun v2_5 v3_6 S_7 c_8 u_9 I_11 h g_10 => ?_)) (fun h => ?_)
  · refine zr_iload_n C dyL_cut_12 rfl 0 rfl ?_
    refine zr_aload_n C dyL_cut_13 rfl 3 rfl ?_
    refine zr_alen C h.1 dyL_cut_14 ?_
    replace h := h.2
    refine zr_icmp_ge C dyL_cut_15 (tgt := 336) (by decide) (fun hc_91 => ?_) (fun hc_91 => ?_)
    · replace h := zif_pos hc_91 h
      refine zr_aload_n C dyL_cut_336 rfl 2 rfl ?_
      refine zr_iload_n C dyL_cut_337 rfl 1 rfl ?_
      refine zn_iinc C (fun v2_12 => [(2, .int v2_12), (3, .int v3_6), (1, .ref (B + k_2)), (0, .ref (B + a0))]) dyL_cut_338 1 rfl zc_i_1 (Nat.le_of_ble_eq_true rfl) (fun _ => rfl) (fun v2_12 ev2_12 => ?_)
      replace h := h v2_12 ev2_12
      refine zr_iconst C dyL_cut_341 zc_i_3 ?_
      refine za_nn C g_10 zk_ac_int rfl rfl h.1 dyL_cut_342 (fun S_13 k_14 n_15 eS eK eN g_16 => ?_)
      replace h := h.2 S_13 k_14 n_15 eS eK eN
      refine zr_dup C dyL_cut_344 rfl ?_
      refine zr_iconst C dyL_cut_345 zc_i_0 ?_
      refine zr_bipush C dyL_cut_346 zc_b_10 ?_
      refine zr_iast C h.1.1 h.1.2 dyL_cut_348 ?_
      replace h := h.2
      refine zn_mem C (fun I_17 eI_17 => ?_)
      replace h := h I_17 eI_17
      refine zr_dup C dyL_cut_349 rfl ?_
      refine zr_iconst C dyL_cut_350 zc_i_1 ?_
      refine zr_aload_n C dyL_cut_351 rfl 3 rfl ?_
      refine zr_alen C h.1 dyL_cut_352 ?_
      replace h := h.2
      refine zr_iast C h.1.1 h.1.2 dyL_cut_353 ?_
      replace h := h.2
      refine zn_mem C (fun I_18 eI_18 => ?_)
      replace h := h I_18 eI_18
      refine zr_dup C dyL_cut_354 rfl ?_
      refine zr_iconst C dyL_cut_355 zc_i_2 ?_
      refine zr_iconst C dyL_cut_356 zc_i_0 ?_
      refine zr_iast C h.1.1 h.1.2 dyL_cut_357 ?_
      replace h := h.2
      refine zn_mem C (fun I_19 eI_19 => ?_)
      replace h := h I_19 eI_19
      refine zr_aast1 C h.1.1 h.1.2.1 h.1.2.2.1 h.1.2.2.2 dyL_cut_358 ?_
      replace h := h.2
      refine zn_mem C (fun I_20 eI_20 => ?_)
      replace h := h I_20 eI_20
      refine zr_iload_n C dyL_cut_359 rfl 0 rfl ?_
      refine za_nr C g_16 zk_cl_L_27 rfl rfl h.1 dyL_cut_360 (fun S_21 k_22 n_23 eS eK eN g_24 => ?_)
      replace h := h.2 S_21 k_22 n_23 eS eK eN
      refine zr_astore_n C dyL_cut_363 rfl (Nat.le_of_ble_eq_true rfl) (lv2 := [(3, .ref (B + k_22)), (2, .int v2_12), (1, .ref (B + k_2)), (0, .ref (B + a0))]) rfl ?_
      refine zr_iconst C dyL_cut_364 zc_i_0 ?_
      refine zr_istore C dyL_cut_365 (Nat.le_of_ble_eq_true rfl) (lv2 := [(4, .int 0), (3, .ref (B + k_22)), (2, .int v2_12), (1, .ref (B + k_2)), (0, .ref (B + a0))]) rfl ?_
      refine zjn (h (fun (v4_25 : Int32) (I_26 : zI) => zX p l e (zrA 1 20 500 3000) s m args below meth c (MQ below (zQc D B cA (zaA B S K)) args s 500 3000 (fun q => B ≤ q)) D B cA 9 (c_8 + 1 + 1) (u_9 + n_15 + n_23) S_21 I_26 [(4, .int v4_25), (3, .ref (B + k_22)), (2, .int v2_12), (1, .ref (B + k_2))] [] 367) (fun v4_25 I_26 h => ?_)) (fun h => ?_)
      · refine zr_iload C dyL_cut_367 0 rfl ?_
        refine zr_iload_n C dyL_cut_369 rfl 2 rfl ?_
        refine zr_icmp_ge C dyL_cut_370 (tgt := 387) (by decide) (fun hc_30 => ?_) (fun hc_30 => ?_)
        · replace h := zif_pos hc_30 h
          refine zr_aload_n C dyL_cut_387 rfl 1 rfl ?_
          refine zr_widen g_24.2.2.1 g_24.2.2.2 ?_
          exact zr_aretA C rfl dyL_cut_388 ⟨g_24.2.1, _, _, rfl, h⟩
        · replace h := zif_neg hc_30 h
          refine zr_aload_n C dyL_cut_373 rfl 1 rfl ?_
          refine zr_iload C dyL_cut_374 0 rfl ?_
          refine zr_aload_n C dyL_cut_376 rfl 3 rfl ?_
          refine zr_iload C dyL_cut_377 0 rfl ?_
          refine zr_aald1 C h.1.1 h.1.2.1 h.1.2.2 dyL_cut_379 (fun r_27 eR => ?_)
          replace h := h.2 r_27 eR
          refine zr_aast1 C h.1.1 h.1.2.1 h.1.2.2.1 h.1.2.2.2 dyL_cut_380 ?_
          replace h := h.2
          refine zn_mem C (fun I_28 eI_28 => ?_)
          replace h := h I_28 eI_28
          refine zn_iinc C (fun v4_29 => [(4, .int v4_29), (3, .ref (B + k_22)), (2, .int v2_12), (1, .ref (B + k_2))]) dyL_cut_381 0 rfl zc_i_1 (Nat.le_of_ble_eq_true rfl) (fun _ => rfl) (fun v4_29 ev4_29 => ?_)
          replace h := h v4_29 ev4_29
          refine zr_goto C dyL_cut_384 (tgt := 367) (by decide) ?_
          exact h
      refine zr_sub (lv2 := [(4, .int 0), (3, .ref (B + k_22)), (2, .int v2_12), (1, .ref (B + k_2))]) [0, 1, 2, 3] rfl ?_
      exact h
    · replace h := zif_neg hc_91 h
      refine zr_aload_n C dyL_cut_18 rfl 3 rfl ?_
      refine zr_iload_n C dyL_cut_19 rfl 0 rfl ?_
      refine zr_iald C h.1.1 h.1.2 dyL_cut_20 ?_
      replace h := h.2
      refine zn_istore C (fun v4_31 => [(4, .int v4_31), (3, .int v3_6), (2, .int v2_5), (1, .ref (B + k_2)), (0, .ref (B + a0))]) dyL_cut_21 (Nat.le_of_ble_eq_true rfl) (fun _ => rfl) (fun v4_31 ev4_31 => ?_)
      replace h := h v4_31 ev4_31
      refine zr_iload C dyL_cut_23 0 rfl ?_
      refine zr_bipush C dyL_cut_25 zc_b_9 ?_
      refine zjn (h (fun (v2_32 : Int32) (v3_33 : Int32) (S_34 : List zC) (c_35 : Nat) (u_36 : Nat) (I_38 : zI) => zGo S 500 3000 S_34 c_35 u_36 → zX p l e (zrA 1 20 500 3000) s m args below meth c (MQ below (zQc D B cA (zaA B S K)) args s 500 3000 (fun q => B ≤ q)) D B cA 9 c_35 u_36 S_34 I_38 [(3, .int v3_33), (2, .int v2_32), (1, .ref (B + k_2)), (0, .ref (B + a0))] [] 330) (fun v2_32 v3_33 S_34 c_35 u_36 I_38 h g_37 => ?_)) (fun h => ?_)
      · refine zn_iinc C (fun v3_39 => [(3, .int v3_39), (2, .int v2_32), (1, .ref (B + k_2)), (0, .ref (B + a0))]) dyL_cut_330 0 rfl zc_i_1 (Nat.le_of_ble_eq_true rfl) (fun _ => rfl) (fun v3_39 ev3_39 => ?_)
        replace h := h v3_39 ev3_39
        refine zr_goto C dyL_cut_333 (tgt := 12) (by decide) ?_
        exact h g_37
      refine zr_icmp_eq C dyL_cut_27 (tgt := 330) (by decide) (fun hc_90 => ?_) (fun hc_90 => ?_)
      · replace h := zif_pos hc_90 h
        refine zr_sub (lv2 := [(3, .int v3_6), (2, .int v2_5), (1, .ref (B + k_2)), (0, .ref (B + a0))]) [1, 2, 3, 4] rfl ?_
        exact h g_10
      · replace h := zif_neg hc_90 h
        refine zr_iload C dyL_cut_30 0 rfl ?_
        refine zr_bipush C dyL_cut_32 zc_b_10 ?_
        refine zr_icmp_eq C dyL_cut_34 (tgt := 330) (by decide) (fun hc_89 => ?_) (fun hc_89 => ?_)
        · replace h := zif_pos hc_89 h
          refine zr_sub (lv2 := [(3, .int v3_6), (2, .int v2_5), (1, .ref (B + k_2)), (0, .ref (B + a0))]) [1, 2, 3, 4] rfl ?_
          exact h g_10
        · replace h := zif_neg hc_89 h
          refine zr_iload C dyL_cut_37 0 rfl ?_
          refine zr_bipush C dyL_cut_39 zc_b_13 ?_
          refine zr_icmp_eq C dyL_cut_41 (tgt := 330) (by decide) (fun hc_88 => ?_) (fun hc_88 => ?_)
          · replace h := zif_pos hc_88 h
            refine zr_sub (lv2 := [(3, .int v3_6), (2, .int v2_5), (1, .ref (B + k_2)), (0, .ref (B + a0))]) [1, 2, 3, 4] rfl ?_
            exact h g_10
          · replace h := zif_neg hc_88 h
            refine zr_iload C dyL_cut_44 0 rfl ?_
            refine zr_bipush C dyL_cut_46 zc_b_32 ?_
            refine zr_icmp_ne C dyL_cut_48 (tgt := 54) (by decide) (fun hc_87 => ?_) (fun hc_87 => ?_)
            · replace h := zif_neg hc_87 h
              refine zr_iload_n C dyL_cut_54 rfl 1 rfl ?_
              refine zr_iconst C dyL_cut_55 zc_i_1 ?_
              refine zr_iadd C dyL_cut_56 ?_
              refine zn_istore C (fun v5_40 => [(5, .int v5_40), (4, .int v4_31), (3, .int v3_6), (2, .int v2_5), (1, .ref (B + k_2)), (0, .ref (B + a0))]) dyL_cut_57 (Nat.le_of_ble_eq_true rfl) (fun _ => rfl) (fun v5_40 ev5_40 => ?_)
              replace h := h v5_40 ev5_40
              refine zjn (h (fun (v5_41 : Int32) => zX p l e (zrA 1 20 500 3000) s m args below meth c (MQ below (zQc D B cA (zaA B S K)) args s 500 3000 (fun q => B ≤ q)) D B cA 9 c_8 u_9 S_7 I_11 [(5, .int v5_41), (4, .int v4_31), (3, .int v3_6), (2, .int v2_5), (1, .ref (B + k_2)), (0, .ref (B + a0))] [] 59) (fun v5_41 h => ?_)) (fun h => ?_)
              · refine zr_iload C dyL_cut_59 0 rfl ?_
                refine zr_aload_n C dyL_cut_61 rfl 5 rfl ?_
                refine zr_alen C h.1 dyL_cut_62 ?_
                replace h := h.2
                refine zjn (h (zX p l e (zrA 1 20 500 3000) s m args below meth c (MQ below (zQc D B cA (zaA B S K)) args s 500 3000 (fun q => B ≤ q)) D B cA 9 c_8 u_9 S_7 I_11 [(5, .int v5_41), (4, .int v4_31), (3, .int v3_6), (2, .int v2_5), (1, .ref (B + k_2)), (0, .ref (B + a0))] [] 108) (fun  h => ?_)) (fun h => ?_)
                · refine zr_iload C dyL_cut_108 0 rfl ?_
                  refine zr_iload_n C dyL_cut_110 rfl 2 rfl ?_
                  refine zr_isub C dyL_cut_111 ?_
                  refine zn_istore C (fun v6_42 => [(6, .int v6_42), (5, .int v5_41), (4, .int v4_31), (3, .int v3_6), (2, .int v2_5), (1, .ref (B + k_2)), (0, .ref (B + a0))]) dyL_cut_112 (Nat.le_of_ble_eq_true rfl) (fun _ => rfl) (fun v6_42 ev6_42 => ?_)
                  replace h := h v6_42 ev6_42
                  refine zr_iload C dyL_cut_114 2 rfl ?_
                  refine zv_L_29t C g_10.1 (st := []) h ⟨Nat.le_of_ble_eq_true rfl, Nat.le_of_ble_eq_true rfl⟩ (Nat.le_of_ble_eq_true rfl) dyL_cut_116 ⟨g_10.2.2.1, g_10.2.2.2⟩ (fun r_43 h => ?_)
                  refine zjn (h (fun (t_44 : Int32) => zX p l e (zrA 1 20 500 3000) s m args below meth c (MQ below (zQc D B cA (zaA B S K)) args s 500 3000 (fun q => B ≤ q)) D B cA 9 c_8 u_9 S_7 I_11 [(6, .int v6_42), (5, .int v5_41), (4, .int v4_31), (3, .int v3_6), (2, .int v2_5), (1, .ref (B + k_2)), (0, .ref (B + a0))] [.int t_44] 156) (fun t_44 h => ?_)) (fun h => ?_)
                  · refine zr_istore C dyL_cut_156 (Nat.le_of_ble_eq_true rfl) (lv2 := [(7, .int t_44), (6, .int v6_42), (5, .int v5_41), (4, .int v4_31), (3, .int v3_6), (2, .int v2_5), (1, .ref (B + k_2)), (0, .ref (B + a0))]) rfl ?_
                    refine zr_iload C dyL_cut_158 0 rfl ?_
                    refine zjn (h (fun (t_45 : Int32) => zX p l e (zrA 1 20 500 3000) s m args below meth c (MQ below (zQc D B cA (zaA B S K)) args s 500 3000 (fun q => B ≤ q)) D B cA 9 c_8 u_9 S_7 I_11 [(7, .int t_44), (6, .int v6_42), (5, .int v5_41), (3, .int v3_6), (2, .int v2_5), (1, .ref (B + k_2)), (0, .ref (B + a0))] [.int t_45] 286) (fun t_45 h => ?_)) (fun h => ?_)
                    · refine zr_istore C dyL_cut_286 (Nat.le_of_ble_eq_true rfl) (lv2 := [(8, .int t_45), (7, .int t_44), (6, .int v6_42), (5, .int v5_41), (3, .int v3_6), (2, .int v2_5), (1, .ref (B + k_2)), (0, .ref (B + a0))]) rfl ?_
                      refine zr_aload_n C dyL_cut_288 rfl 6 rfl ?_
                      refine zr_iload_n C dyL_cut_289 rfl 5 rfl ?_
                      refine zn_iinc C (fun v2_46 => [(2, .int v2_46), (8, .int t_45), (7, .int t_44), (6, .int v6_42), (5, .int v5_41), (3, .int v3_6), (1, .ref (B + k_2)), (0, .ref (B + a0))]) dyL_cut_290 5 rfl zc_i_1 (Nat.le_of_ble_eq_true rfl) (fun _ => rfl) (fun v2_46 ev2_46 => ?_)
                      replace h := h v2_46 ev2_46
                      refine zr_iconst C dyL_cut_293 zc_i_3 ?_
                      refine za_nn C g_10 zk_ac_int rfl rfl h.1 dyL_cut_294 (fun S_47 k_48 n_49 eS eK eN g_50 => ?_)
                      replace h := h.2 S_47 k_48 n_49 eS eK eN
                      refine zr_dup C dyL_cut_296 rfl ?_
                      refine zr_iconst C dyL_cut_297 zc_i_0 ?_
                      refine zr_iload C dyL_cut_298 1 rfl ?_
                      refine zr_iast C h.1.1 h.1.2 dyL_cut_300 ?_
                      replace h := h.2
                      refine zn_mem C (fun I_51 eI_51 => ?_)
                      replace h := h I_51 eI_51
                      refine zr_dup C dyL_cut_301 rfl ?_
                      refine zr_iconst C dyL_cut_302 zc_i_1 ?_
                      refine zr_iload_n C dyL_cut_303 rfl 5 rfl ?_
                      refine zr_iast C h.1.1 h.1.2 dyL_cut_304 ?_
                      replace h := h.2
                      refine zn_mem C (fun I_52 eI_52 => ?_)
                      replace h := h I_52 eI_52
                      refine zr_dup C dyL_cut_305 rfl ?_
                      refine zr_iconst C dyL_cut_306 zc_i_2 ?_
                      refine zr_iload C dyL_cut_307 2 rfl ?_
                      refine zjn (h (fun (t_53 : Int32) => zX p l e (zrA 1 20 500 3000) s m args below meth c (MQ below (zQc D B cA (zaA B S K)) args s 500 3000 (fun q => B ≤ q)) D B cA 9 (c_8 + 1) (u_9 + n_49) S_47 I_52 [(2, .int v2_46), (7, .int t_44), (5, .int v5_41), (3, .int v3_6), (1, .ref (B + k_2)), (0, .ref (B + a0))] [.int t_53, .int 2, .ref (B + k_48), .ref (B + k_48), .int v2_5, .ref (B + k_2)] 318) (fun t_53 h => ?_)) (fun h => ?_)
                      · refine zr_iast C h.1.1 h.1.2 dyL_cut_318 ?_
                        replace h := h.2
                        refine zn_mem C (fun I_54 eI_54 => ?_)
                        replace h := h I_54 eI_54
                        refine zr_aast1 C h.1.1 h.1.2.1 h.1.2.2.1 h.1.2.2.2 dyL_cut_319 ?_
                        replace h := h.2
                        refine zn_mem C (fun I_55 eI_55 => ?_)
                        replace h := h I_55 eI_55
                        refine zr_iload C dyL_cut_320 1 rfl ?_
                        refine zr_if_ne C dyL_cut_322 (tgt := 330) (by decide) (fun hc_57 => ?_) (fun hc_57 => ?_)
                        · replace h := zif_neg hc_57 h
                          refine zr_sub (lv2 := [(3, .int v3_6), (2, .int v2_46), (1, .ref (B + k_2)), (0, .ref (B + a0))]) [3, 0, 4, 5] rfl ?_
                          exact h g_50
                        · replace h := zif_pos hc_57 h
                          refine zr_iload C dyL_cut_325 2 rfl ?_
                          refine zr_iconst C dyL_cut_327 zc_i_1 ?_
                          refine zr_isub C dyL_cut_328 ?_
                          refine zn_istore_n C (fun v3_56 => [(3, .int v3_56), (2, .int v2_46), (7, .int t_44), (5, .int v5_41), (1, .ref (B + k_2)), (0, .ref (B + a0))]) dyL_cut_329 rfl (Nat.le_of_ble_eq_true rfl) (fun _ => rfl) (fun v3_56 ev3_56 => ?_)
                          replace h := h v3_56 ev3_56
                          refine zr_sub (lv2 := [(3, .int v3_56), (2, .int v2_46), (1, .ref (B + k_2)), (0, .ref (B + a0))]) [0, 1, 4, 5] rfl ?_
                          exact h g_50
                      refine zr_if_eq C dyL_cut_309 (tgt := 316) (by decide) (fun hc_58 => ?_) (fun hc_58 => ?_)
                      · replace h := zif_pos hc_58 h
                        refine zr_iload C dyL_cut_316 3 rfl ?_
                        refine zr_sub (lv2 := [(2, .int v2_46), (7, .int t_44), (5, .int v5_41), (3, .int v3_6), (1, .ref (B + k_2)), (0, .ref (B + a0))]) [0, 2, 4, 5, 6, 7] rfl ?_
                        exact h
                      · replace h := zif_neg hc_58 h
                        refine zr_iconst C dyL_cut_312 zc_i_1 ?_
                        refine zr_goto C dyL_cut_313 (tgt := 318) (by decide) ?_
                        refine zr_sub (lv2 := [(2, .int v2_46), (7, .int t_44), (5, .int v5_41), (3, .int v3_6), (1, .ref (B + k_2)), (0, .ref (B + a0))]) [0, 2, 4, 5, 6, 7] rfl ?_
                        exact h
                    refine zr_if_eq C dyL_cut_160 (tgt := 168) (by decide) (fun hc_71 => ?_) (fun hc_71 => ?_)
                    · replace h := zif_pos hc_71 h
                      refine zr_iload C dyL_cut_168 3 rfl ?_
                      refine zv_L_29t C g_10.1 (st := []) h ⟨Nat.le_of_ble_eq_true rfl, Nat.le_of_ble_eq_true rfl⟩ (Nat.le_of_ble_eq_true rfl) dyL_cut_170 ⟨g_10.2.2.1, g_10.2.2.2⟩ (fun r_59 h => ?_)
                      refine zr_if_eq C dyL_cut_173 (tgt := 180) (by decide) (fun hc_70 => ?_) (fun hc_70 => ?_)
                      · replace h := zif_pos hc_70 h
                        refine zr_iload C dyL_cut_180 3 rfl ?_
                        refine zv_L_33t C g_10.1 (st := []) h ⟨Nat.le_of_ble_eq_true rfl, Nat.le_of_ble_eq_true rfl⟩ (Nat.le_of_ble_eq_true rfl) dyL_cut_182 ⟨g_10.2.2.1, g_10.2.2.2⟩ (fun r_60 h => ?_)
                        refine zr_if_eq C dyL_cut_185 (tgt := 192) (by decide) (fun hc_69 => ?_) (fun hc_69 => ?_)
                        · replace h := zif_pos hc_69 h
                          refine zr_iload C dyL_cut_192 3 rfl ?_
                          refine zr_bipush C dyL_cut_194 zc_b_61 ?_
                          refine zr_icmp_ne C dyL_cut_196 (tgt := 203) (by decide) (fun hc_68 => ?_) (fun hc_68 => ?_)
                          · replace h := zif_neg hc_68 h
                            refine zr_iload C dyL_cut_203 3 rfl ?_
                            refine zr_bipush C dyL_cut_205 zc_b_59 ?_
                            refine zr_icmp_ne C dyL_cut_207 (tgt := 214) (by decide) (fun hc_67 => ?_) (fun hc_67 => ?_)
                            · replace h := zif_neg hc_67 h
                              refine zr_iload C dyL_cut_214 3 rfl ?_
                              refine zr_bipush C dyL_cut_216 zc_b_43 ?_
                              refine zr_icmp_ne C dyL_cut_218 (tgt := 225) (by decide) (fun hc_66 => ?_) (fun hc_66 => ?_)
                              · replace h := zif_neg hc_66 h
                                refine zr_iload C dyL_cut_225 3 rfl ?_
                                refine zr_bipush C dyL_cut_227 zc_b_42 ?_
                                refine zr_icmp_ne C dyL_cut_229 (tgt := 236) (by decide) (fun hc_65 => ?_) (fun hc_65 => ?_)
                                · replace h := zif_neg hc_65 h
                                  refine zr_iload C dyL_cut_236 3 rfl ?_
                                  refine zr_bipush C dyL_cut_238 zc_b_40 ?_
                                  refine zr_icmp_ne C dyL_cut_240 (tgt := 248) (by decide) (fun hc_64 => ?_) (fun hc_64 => ?_)
                                  · replace h := zif_neg hc_64 h
                                    refine zr_iload C dyL_cut_248 3 rfl ?_
                                    refine zr_bipush C dyL_cut_250 zc_b_41 ?_
                                    refine zr_icmp_ne C dyL_cut_252 (tgt := 260) (by decide) (fun hc_63 => ?_) (fun hc_63 => ?_)
                                    · replace h := zif_neg hc_63 h
                                      refine zr_iload C dyL_cut_260 3 rfl ?_
                                      refine zr_bipush C dyL_cut_262 zc_b_123 ?_
                                      refine zr_icmp_ne C dyL_cut_264 (tgt := 272) (by decide) (fun hc_62 => ?_) (fun hc_62 => ?_)
                                      · replace h := zif_neg hc_62 h
                                        refine zr_iload C dyL_cut_272 3 rfl ?_
                                        refine zr_bipush C dyL_cut_274 zc_b_125 ?_
                                        refine zr_icmp_ne C dyL_cut_276 (tgt := 284) (by decide) (fun hc_61 => ?_) (fun hc_61 => ?_)
                                        · replace h := zif_neg hc_61 h
                                          refine zr_bipush C dyL_cut_284 zc_b_11 ?_
                                          refine zr_sub (lv2 := [(7, .int t_44), (6, .int v6_42), (5, .int v5_41), (3, .int v3_6), (2, .int v2_5), (1, .ref (B + k_2)), (0, .ref (B + a0))]) [0, 1, 2, 4, 5, 6, 7] rfl ?_
                                          exact h
                                        · replace h := zif_pos hc_61 h
                                          refine zr_bipush C dyL_cut_279 zc_b_9 ?_
                                          refine zr_goto C dyL_cut_281 (tgt := 286) (by decide) ?_
                                          refine zr_sub (lv2 := [(7, .int t_44), (6, .int v6_42), (5, .int v5_41), (3, .int v3_6), (2, .int v2_5), (1, .ref (B + k_2)), (0, .ref (B + a0))]) [0, 1, 2, 4, 5, 6, 7] rfl ?_
                                          exact h
                                      · replace h := zif_pos hc_62 h
                                        refine zr_bipush C dyL_cut_267 zc_b_8 ?_
                                        refine zr_goto C dyL_cut_269 (tgt := 286) (by decide) ?_
                                        refine zr_sub (lv2 := [(7, .int t_44), (6, .int v6_42), (5, .int v5_41), (3, .int v3_6), (2, .int v2_5), (1, .ref (B + k_2)), (0, .ref (B + a0))]) [0, 1, 2, 4, 5, 6, 7] rfl ?_
                                        exact h
                                    · replace h := zif_pos hc_63 h
                                      refine zr_bipush C dyL_cut_255 zc_b_7 ?_
                                      refine zr_goto C dyL_cut_257 (tgt := 286) (by decide) ?_
                                      refine zr_sub (lv2 := [(7, .int t_44), (6, .int v6_42), (5, .int v5_41), (3, .int v3_6), (2, .int v2_5), (1, .ref (B + k_2)), (0, .ref (B + a0))]) [0, 1, 2, 4, 5, 6, 7] rfl ?_
                                      exact h
                                  · replace h := zif_pos hc_64 h
                                    refine zr_bipush C dyL_cut_243 zc_b_6 ?_
                                    refine zr_goto C dyL_cut_245 (tgt := 286) (by decide) ?_
                                    refine zr_sub (lv2 := [(7, .int t_44), (6, .int v6_42), (5, .int v5_41), (3, .int v3_6), (2, .int v2_5), (1, .ref (B + k_2)), (0, .ref (B + a0))]) [0, 1, 2, 4, 5, 6, 7] rfl ?_
                                    exact h
                                · replace h := zif_pos hc_65 h
                                  refine zr_iconst C dyL_cut_232 zc_i_5 ?_
                                  refine zr_goto C dyL_cut_233 (tgt := 286) (by decide) ?_
                                  refine zr_sub (lv2 := [(7, .int t_44), (6, .int v6_42), (5, .int v5_41), (3, .int v3_6), (2, .int v2_5), (1, .ref (B + k_2)), (0, .ref (B + a0))]) [0, 1, 2, 4, 5, 6, 7] rfl ?_
                                  exact h
                              · replace h := zif_pos hc_66 h
                                refine zr_iconst C dyL_cut_221 zc_i_4 ?_
                                refine zr_goto C dyL_cut_222 (tgt := 286) (by decide) ?_
                                refine zr_sub (lv2 := [(7, .int t_44), (6, .int v6_42), (5, .int v5_41), (3, .int v3_6), (2, .int v2_5), (1, .ref (B + k_2)), (0, .ref (B + a0))]) [0, 1, 2, 4, 5, 6, 7] rfl ?_
                                exact h
                            · replace h := zif_pos hc_67 h
                              refine zr_iconst C dyL_cut_210 zc_i_3 ?_
                              refine zr_goto C dyL_cut_211 (tgt := 286) (by decide) ?_
                              refine zr_sub (lv2 := [(7, .int t_44), (6, .int v6_42), (5, .int v5_41), (3, .int v3_6), (2, .int v2_5), (1, .ref (B + k_2)), (0, .ref (B + a0))]) [0, 1, 2, 4, 5, 6, 7] rfl ?_
                              exact h
                          · replace h := zif_pos hc_68 h
                            refine zr_iconst C dyL_cut_199 zc_i_2 ?_
                            refine zr_goto C dyL_cut_200 (tgt := 286) (by decide) ?_
                            refine zr_sub (lv2 := [(7, .int t_44), (6, .int v6_42), (5, .int v5_41), (3, .int v3_6), (2, .int v2_5), (1, .ref (B + k_2)), (0, .ref (B + a0))]) [0, 1, 2, 4, 5, 6, 7] rfl ?_
                            exact h
                        · replace h := zif_neg hc_69 h
                          refine zr_iconst C dyL_cut_188 zc_i_1 ?_
                          refine zr_goto C dyL_cut_189 (tgt := 286) (by decide) ?_
                          refine zr_sub (lv2 := [(7, .int t_44), (6, .int v6_42), (5, .int v5_41), (3, .int v3_6), (2, .int v2_5), (1, .ref (B + k_2)), (0, .ref (B + a0))]) [0, 1, 2, 4, 5, 6, 7] rfl ?_
                          exact h
                      · replace h := zif_neg hc_70 h
                        refine zr_iconst C dyL_cut_176 zc_i_0 ?_
                        refine zr_goto C dyL_cut_177 (tgt := 286) (by decide) ?_
                        refine zr_sub (lv2 := [(7, .int t_44), (6, .int v6_42), (5, .int v5_41), (3, .int v3_6), (2, .int v2_5), (1, .ref (B + k_2)), (0, .ref (B + a0))]) [0, 1, 2, 4, 5, 6, 7] rfl ?_
                        exact h
                    · replace h := zif_neg hc_71 h
                      refine zr_bipush C dyL_cut_163 zc_b_11 ?_
                      refine zr_goto C dyL_cut_165 (tgt := 286) (by decide) ?_
                      refine zr_sub (lv2 := [(7, .int t_44), (6, .int v6_42), (5, .int v5_41), (3, .int v3_6), (2, .int v2_5), (1, .ref (B + k_2)), (0, .ref (B + a0))]) [0, 1, 2, 4, 5, 6, 7] rfl ?_
                      exact h
                  refine zr_if_eq C dyL_cut_119 (tgt := 137) (by decide) (fun hc_76 => ?_) (fun hc_76 => ?_)
                  · replace h := zif_pos hc_76 h
                    refine zr_iload C dyL_cut_137 2 rfl ?_
                    refine zv_L_33t C g_10.1 (st := []) h ⟨Nat.le_of_ble_eq_true rfl, Nat.le_of_ble_eq_true rfl⟩ (Nat.le_of_ble_eq_true rfl) dyL_cut_139 ⟨g_10.2.2.1, g_10.2.2.2⟩ (fun r_72 h => ?_)
                    refine zjn (h (zX p l e (zrA 1 20 500 3000) s m args below meth c (MQ below (zQc D B cA (zaA B S K)) args s 500 3000 (fun q => B ≤ q)) D B cA 9 c_8 u_9 S_7 I_11 [(6, .int v6_42), (5, .int v5_41), (4, .int v4_31), (3, .int v3_6), (2, .int v2_5), (1, .ref (B + k_2)), (0, .ref (B + a0))] [] 155) (fun  h => ?_)) (fun h => ?_)
                    · refine zr_iconst C dyL_cut_155 zc_i_0 ?_
                      exact h
                    refine zr_if_eq C dyL_cut_142 (tgt := 155) (by decide) (fun hc_74 => ?_) (fun hc_74 => ?_)
                    · replace h := zif_pos hc_74 h
                      exact h
                    · replace h := zif_neg hc_74 h
                      refine zr_iload C dyL_cut_145 0 rfl ?_
                      refine zr_iconst C dyL_cut_147 zc_i_4 ?_
                      refine zr_icmp_le C dyL_cut_148 (tgt := 155) (by decide) (fun hc_73 => ?_) (fun hc_73 => ?_)
                      · replace h := zif_pos hc_73 h
                        exact h
                      · replace h := zif_neg hc_73 h
                        refine zr_iconst C dyL_cut_151 zc_i_1 ?_
                        refine zr_goto C dyL_cut_152 (tgt := 156) (by decide) ?_
                        exact h
                  · replace h := zif_neg hc_76 h
                    refine zr_iload C dyL_cut_122 0 rfl ?_
                    refine zr_bipush C dyL_cut_124 zc_b_8 ?_
                    refine zr_icmp_le C dyL_cut_126 (tgt := 133) (by decide) (fun hc_75 => ?_) (fun hc_75 => ?_)
                    · replace h := zif_pos hc_75 h
                      refine zr_iconst C dyL_cut_133 zc_i_0 ?_
                      refine zr_goto C dyL_cut_134 (tgt := 156) (by decide) ?_
                      exact h
                    · replace h := zif_neg hc_75 h
                      refine zr_iconst C dyL_cut_129 zc_i_1 ?_
                      refine zr_goto C dyL_cut_130 (tgt := 156) (by decide) ?_
                      exact h
                refine zr_icmp_ge C dyL_cut_63 (tgt := 108) (by decide) (fun hc_86 => ?_) (fun hc_86 => ?_)
                · replace h := zif_pos hc_86 h
                  exact h
                · replace h := zif_neg hc_86 h
                  refine zr_iload C dyL_cut_66 1 rfl ?_
                  refine zv_L_29t C g_10.1 (st := []) h ⟨Nat.le_of_ble_eq_true rfl, Nat.le_of_ble_eq_true rfl⟩ (Nat.le_of_ble_eq_true rfl) dyL_cut_68 ⟨g_10.2.2.1, g_10.2.2.2⟩ (fun r_77 h => ?_)
                  refine zjn (h (zX p l e (zrA 1 20 500 3000) s m args below meth c (MQ below (zQc D B cA (zaA B S K)) args s 500 3000 (fun q => B ≤ q)) D B cA 9 c_8 u_9 S_7 I_11 [(5, .int v5_41), (4, .int v4_31), (3, .int v3_6), (2, .int v2_5), (1, .ref (B + k_2)), (0, .ref (B + a0))] [] 102) (fun  h => ?_)) (fun h => ?_)
                  · refine zn_iinc C (fun v5_78 => [(5, .int v5_78), (4, .int v4_31), (3, .int v3_6), (2, .int v2_5), (1, .ref (B + k_2)), (0, .ref (B + a0))]) dyL_cut_102 0 rfl zc_i_1 (Nat.le_of_ble_eq_true rfl) (fun _ => rfl) (fun v5_78 ev5_78 => ?_)
                    replace h := h v5_78 ev5_78
                    refine zr_goto C dyL_cut_105 (tgt := 59) (by decide) ?_
                    exact h
                  refine zjn (h (zX p l e (zrA 1 20 500 3000) s m args below meth c (MQ below (zQc D B cA (zaA B S K)) args s 500 3000 (fun q => B ≤ q)) D B cA 9 c_8 u_9 S_7 I_11 [(5, .int v5_41), (4, .int v4_31), (3, .int v3_6), (2, .int v2_5), (1, .ref (B + k_2)), (0, .ref (B + a0))] [] 84) (fun  h => ?_)) (fun h => ?_)
                  · refine zr_iload C dyL_cut_84 1 rfl ?_
                    refine zv_L_33t C g_10.1 (st := []) h ⟨Nat.le_of_ble_eq_true rfl, Nat.le_of_ble_eq_true rfl⟩ (Nat.le_of_ble_eq_true rfl) dyL_cut_86 ⟨g_10.2.2.1, g_10.2.2.2⟩ (fun r_79 h => ?_)
                    refine zr_if_eq C dyL_cut_89 (tgt := 108) (by decide) (fun hc_82 => ?_) (fun hc_82 => ?_)
                    · replace h := zif_pos hc_82 h
                      exact h
                    · replace h := zif_neg hc_82 h
                      refine zr_aload_n C dyL_cut_92 rfl 5 rfl ?_
                      refine zr_iload C dyL_cut_93 0 rfl ?_
                      refine zr_iald C h.1.1 h.1.2 dyL_cut_95 ?_
                      replace h := h.2
                      refine zv_L_33t C g_10.1 (st := []) h ⟨Nat.le_of_ble_eq_true rfl, Nat.le_of_ble_eq_true rfl⟩ (Nat.le_of_ble_eq_true rfl) dyL_cut_96 ⟨g_10.2.2.1, g_10.2.2.2⟩ (fun r_80 h => ?_)
                      refine zr_if_eq C dyL_cut_99 (tgt := 108) (by decide) (fun hc_81 => ?_) (fun hc_81 => ?_)
                      · replace h := zif_pos hc_81 h
                        exact h
                      · replace h := zif_neg hc_81 h
                        exact h
                  refine zr_if_eq C dyL_cut_71 (tgt := 84) (by decide) (fun hc_85 => ?_) (fun hc_85 => ?_)
                  · replace h := zif_pos hc_85 h
                    exact h
                  · replace h := zif_neg hc_85 h
                    refine zr_aload_n C dyL_cut_74 rfl 5 rfl ?_
                    refine zr_iload C dyL_cut_75 0 rfl ?_
                    refine zr_iald C h.1.1 h.1.2 dyL_cut_77 ?_
                    replace h := h.2
                    refine zv_L_29t C g_10.1 (st := []) h ⟨Nat.le_of_ble_eq_true rfl, Nat.le_of_ble_eq_true rfl⟩ (Nat.le_of_ble_eq_true rfl) dyL_cut_78 ⟨g_10.2.2.1, g_10.2.2.2⟩ (fun r_83 h => ?_)
                    refine zr_if_ne C dyL_cut_81 (tgt := 102) (by decide) (fun hc_84 => ?_) (fun hc_84 => ?_)
                    · replace h := zif_neg hc_84 h
                      exact h
                    · replace h := zif_pos hc_84 h
                      exact h
              exact h
            · replace h := zif_pos hc_87 h
              refine zr_goto C dyL_cut_51 (tgt := 330) (by decide) ?_
              refine zr_sub (lv2 := [(3, .int v3_6), (2, .int v2_5), (1, .ref (B + k_2)), (0, .ref (B + a0))]) [1, 2, 3, 4] rfl ?_
              exact h g_10
  exact h g_4
def w_Law_wrong (a0 : Nat) (a0n : Nat) (S : List zC) (I : zI) (K : Int32 → Prop) : Prop :=
  ∀ (P9 : Int32 → Int32 → Int32 → Int32 → Prop), (∀ (v1_1 : Int32) (v2_2 : Int32) (v3_3 : Int32) (v4_4 : Int32), (zAt S a0 a0n ∧ (if (Int32.ofNat a0n) ≤ v4_4 then (zAt S a0 a0n ∧ K (Int32.ofNat a0n)) else ((zAt S a0 a0n ∧ vp_in v4_4 a0n) ∧ ∀ v5_5, v5_5 = (I.1 a0 (Int32.toNatClampNeg v4_4)) → ∀ (P187 : Int32 → Int32 → Int32 → Prop), (∀ (v1_6 : Int32) (v2_7 : Int32) (v3_8 : Int32), (∀ v4_9, v4_9 = (v4_4 + 1) → P9 v1_6 v2_7 v3_8 v4_9) → P187 v1_6 v2_7 v3_8) → (if v1_1 = 0 then (if v5_5 = 0 then P187 1 v2_2 v3_3 else (if v5_5 = 8 then (∀ v2_28, v2_28 = (v2_2 + 1) → P187 v1_1 v2_28 v3_3) else (∀ (P66 : Prop), (((if v5_5 = 10 then (if v2_2 = 0 then (K (-1)) else K v4_4) else K v4_4)) → P66) → (if v5_5 = 9 then (if v2_2 ≤ 0 then P66 else (∀ v2_25, v2_25 = (v2_2 + (-1)) → P187 v1_1 v2_25 v3_3)) else P66)))) else (if v1_1 = 1 then (if v5_5 = 2 then P187 2 v2_2 v3_3 else K v4_4) else (if v1_1 = 2 then (if v5_5 = 6 then (∀ v3_18, v3_18 = (v3_3 + 1) → P187 v1_1 v2_2 v3_18) else (if 2 ≤ v5_5 then K v4_4 else P187 3 v2_2 v3_3)) else (∀ (P147 : Prop), ((P187 2 v2_2 v3_3) → P147) → (if v5_5 = 4 then P147 else (if v5_5 = 5 then P147 else (∀ (P169 : Prop), (((if v5_5 = 3 then (if v3_3 = 0 then P187 0 v2_2 v3_3 else K v4_4) else K v4_4)) → P169) → (if v5_5 = 7 then (if v3_3 ≤ 0 then P169 else (∀ v3_12, v3_12 = (v3_3 + (-1)) → P187 v1_1 v2_2 v3_12)) else P169))))))))))) → P9 v1_1 v2_2 v3_3 v4_4) → P9 0 0 0 0
theorem dyL_wrong_0 : decode cL_wrong 0 = .ok (.iconst 0, 1) := by decide +kernel
theorem dyL_wrong_1 : decode cL_wrong 1 = .ok (.istore_n 1, 1) := by decide +kernel
theorem dyL_wrong_2 : decode cL_wrong 2 = .ok (.iconst 0, 1) := by decide +kernel
theorem dyL_wrong_3 : decode cL_wrong 3 = .ok (.istore_n 2, 1) := by decide +kernel
theorem dyL_wrong_4 : decode cL_wrong 4 = .ok (.iconst 0, 1) := by decide +kernel
theorem dyL_wrong_5 : decode cL_wrong 5 = .ok (.istore_n 3, 1) := by decide +kernel
theorem dyL_wrong_6 : decode cL_wrong 6 = .ok (.iconst 0, 1) := by decide +kernel
theorem dyL_wrong_7 : decode cL_wrong 7 = .ok (.istore 4, 2) := by decide +kernel
theorem dyL_wrong_9 : decode cL_wrong 9 = .ok (.iload 4, 2) := by decide +kernel
theorem dyL_wrong_11 : decode cL_wrong 11 = .ok (.aload_n 0, 1) := by decide +kernel
theorem dyL_wrong_12 : decode cL_wrong 12 = .ok (.arraylength, 1) := by decide +kernel
theorem dyL_wrong_13 : decode cL_wrong 13 = .ok (.if_icmp .ge 180, 3) := by decide +kernel
theorem dyL_wrong_16 : decode cL_wrong 16 = .ok (.aload_n 0, 1) := by decide +kernel
theorem dyL_wrong_17 : decode cL_wrong 17 = .ok (.iload 4, 2) := by decide +kernel
theorem dyL_wrong_19 : decode cL_wrong 19 = .ok (.iaload, 1) := by decide +kernel
theorem dyL_wrong_20 : decode cL_wrong 20 = .ok (.istore 5, 2) := by decide +kernel
theorem dyL_wrong_22 : decode cL_wrong 22 = .ok (.iload_n 1, 1) := by decide +kernel
theorem dyL_wrong_23 : decode cL_wrong 23 = .ok (.ifCond .ne 61, 3) := by decide +kernel
theorem dyL_wrong_26 : decode cL_wrong 26 = .ok (.iload 5, 2) := by decide +kernel
theorem dyL_wrong_28 : decode cL_wrong 28 = .ok (.ifCond .ne 8, 3) := by decide +kernel
theorem dyL_wrong_31 : decode cL_wrong 31 = .ok (.iconst 1, 1) := by decide +kernel
theorem dyL_wrong_32 : decode cL_wrong 32 = .ok (.istore_n 1, 1) := by decide +kernel
theorem dyL_wrong_33 : decode cL_wrong 33 = .ok (.goto 154, 3) := by decide +kernel
theorem dyL_wrong_36 : decode cL_wrong 36 = .ok (.iload 5, 2) := by decide +kernel
theorem dyL_wrong_38 : decode cL_wrong 38 = .ok (.bipush 8, 2) := by decide +kernel
theorem dyL_wrong_40 : decode cL_wrong 40 = .ok (.if_icmp .ne 9, 3) := by decide +kernel
theorem dyL_wrong_43 : decode cL_wrong 43 = .ok (.iinc 2 1, 3) := by decide +kernel
theorem dyL_wrong_46 : decode cL_wrong 46 = .ok (.goto 141, 3) := by decide +kernel
theorem dyL_wrong_49 : decode cL_wrong 49 = .ok (.iload 5, 2) := by decide +kernel
theorem dyL_wrong_51 : decode cL_wrong 51 = .ok (.bipush 9, 2) := by decide +kernel
theorem dyL_wrong_53 : decode cL_wrong 53 = .ok (.if_icmp .ne 13, 3) := by decide +kernel
theorem dyL_wrong_56 : decode cL_wrong 56 = .ok (.iload_n 2, 1) := by decide +kernel
theorem dyL_wrong_57 : decode cL_wrong 57 = .ok (.ifCond .le 9, 3) := by decide +kernel
theorem dyL_wrong_60 : decode cL_wrong 60 = .ok (.iinc 2 (-1), 3) := by decide +kernel
theorem dyL_wrong_63 : decode cL_wrong 63 = .ok (.goto 124, 3) := by decide +kernel
theorem dyL_wrong_66 : decode cL_wrong 66 = .ok (.iload 5, 2) := by decide +kernel
theorem dyL_wrong_68 : decode cL_wrong 68 = .ok (.bipush 10, 2) := by decide +kernel
theorem dyL_wrong_70 : decode cL_wrong 70 = .ok (.if_icmp .ne 11, 3) := by decide +kernel
theorem dyL_wrong_73 : decode cL_wrong 73 = .ok (.iload_n 2, 1) := by decide +kernel
theorem dyL_wrong_74 : decode cL_wrong 74 = .ok (.ifCond .ne 7, 3) := by decide +kernel
theorem dyL_wrong_77 : decode cL_wrong 77 = .ok (.iconst (-1), 1) := by decide +kernel
theorem dyL_wrong_78 : decode cL_wrong 78 = .ok (.goto 5, 3) := by decide +kernel
theorem dyL_wrong_81 : decode cL_wrong 81 = .ok (.iload 4, 2) := by decide +kernel
theorem dyL_wrong_83 : decode cL_wrong 83 = .ok (.ireturn, 1) := by decide +kernel
theorem dyL_wrong_84 : decode cL_wrong 84 = .ok (.iload_n 1, 1) := by decide +kernel
theorem dyL_wrong_85 : decode cL_wrong 85 = .ok (.iconst 1, 1) := by decide +kernel
theorem dyL_wrong_86 : decode cL_wrong 86 = .ok (.if_icmp .ne 17, 3) := by decide +kernel
theorem dyL_wrong_89 : decode cL_wrong 89 = .ok (.iload 5, 2) := by decide +kernel
theorem dyL_wrong_91 : decode cL_wrong 91 = .ok (.iconst 2, 1) := by decide +kernel
theorem dyL_wrong_92 : decode cL_wrong 92 = .ok (.if_icmp .eq 6, 3) := by decide +kernel
theorem dyL_wrong_95 : decode cL_wrong 95 = .ok (.iload 4, 2) := by decide +kernel
theorem dyL_wrong_97 : decode cL_wrong 97 = .ok (.ireturn, 1) := by decide +kernel
theorem dyL_wrong_98 : decode cL_wrong 98 = .ok (.iconst 2, 1) := by decide +kernel
theorem dyL_wrong_99 : decode cL_wrong 99 = .ok (.istore_n 1, 1) := by decide +kernel
theorem dyL_wrong_100 : decode cL_wrong 100 = .ok (.goto 87, 3) := by decide +kernel
theorem dyL_wrong_103 : decode cL_wrong 103 = .ok (.iload_n 1, 1) := by decide +kernel
theorem dyL_wrong_104 : decode cL_wrong 104 = .ok (.iconst 2, 1) := by decide +kernel
theorem dyL_wrong_105 : decode cL_wrong 105 = .ok (.if_icmp .ne 30, 3) := by decide +kernel
theorem dyL_wrong_108 : decode cL_wrong 108 = .ok (.iload 5, 2) := by decide +kernel
theorem dyL_wrong_110 : decode cL_wrong 110 = .ok (.bipush 6, 2) := by decide +kernel
theorem dyL_wrong_112 : decode cL_wrong 112 = .ok (.if_icmp .ne 9, 3) := by decide +kernel
theorem dyL_wrong_115 : decode cL_wrong 115 = .ok (.iinc 3 1, 3) := by decide +kernel
theorem dyL_wrong_118 : decode cL_wrong 118 = .ok (.goto 69, 3) := by decide +kernel
theorem dyL_wrong_121 : decode cL_wrong 121 = .ok (.iload 5, 2) := by decide +kernel
theorem dyL_wrong_123 : decode cL_wrong 123 = .ok (.iconst 2, 1) := by decide +kernel
theorem dyL_wrong_124 : decode cL_wrong 124 = .ok (.if_icmp .ge 8, 3) := by decide +kernel
theorem dyL_wrong_127 : decode cL_wrong 127 = .ok (.iconst 3, 1) := by decide +kernel
theorem dyL_wrong_128 : decode cL_wrong 128 = .ok (.istore_n 1, 1) := by decide +kernel
theorem dyL_wrong_129 : decode cL_wrong 129 = .ok (.goto 58, 3) := by decide +kernel
theorem dyL_wrong_132 : decode cL_wrong 132 = .ok (.iload 4, 2) := by decide +kernel
theorem dyL_wrong_134 : decode cL_wrong 134 = .ok (.ireturn, 1) := by decide +kernel
theorem dyL_wrong_135 : decode cL_wrong 135 = .ok (.iload 5, 2) := by decide +kernel
theorem dyL_wrong_137 : decode cL_wrong 137 = .ok (.iconst 4, 1) := by decide +kernel
theorem dyL_wrong_138 : decode cL_wrong 138 = .ok (.if_icmp .eq 9, 3) := by decide +kernel
theorem dyL_wrong_141 : decode cL_wrong 141 = .ok (.iload 5, 2) := by decide +kernel
theorem dyL_wrong_143 : decode cL_wrong 143 = .ok (.iconst 5, 1) := by decide +kernel
theorem dyL_wrong_144 : decode cL_wrong 144 = .ok (.if_icmp .ne 8, 3) := by decide +kernel
theorem dyL_wrong_147 : decode cL_wrong 147 = .ok (.iconst 2, 1) := by decide +kernel
theorem dyL_wrong_148 : decode cL_wrong 148 = .ok (.istore_n 1, 1) := by decide +kernel
theorem dyL_wrong_149 : decode cL_wrong 149 = .ok (.goto 38, 3) := by decide +kernel
theorem dyL_wrong_152 : decode cL_wrong 152 = .ok (.iload 5, 2) := by decide +kernel
theorem dyL_wrong_154 : decode cL_wrong 154 = .ok (.bipush 7, 2) := by decide +kernel
theorem dyL_wrong_156 : decode cL_wrong 156 = .ok (.if_icmp .ne 13, 3) := by decide +kernel
theorem dyL_wrong_159 : decode cL_wrong 159 = .ok (.iload_n 3, 1) := by decide +kernel
theorem dyL_wrong_160 : decode cL_wrong 160 = .ok (.ifCond .le 9, 3) := by decide +kernel
theorem dyL_wrong_163 : decode cL_wrong 163 = .ok (.iinc 3 (-1), 3) := by decide +kernel
theorem dyL_wrong_166 : decode cL_wrong 166 = .ok (.goto 21, 3) := by decide +kernel
theorem dyL_wrong_169 : decode cL_wrong 169 = .ok (.iload 5, 2) := by decide +kernel
theorem dyL_wrong_171 : decode cL_wrong 171 = .ok (.iconst 3, 1) := by decide +kernel
theorem dyL_wrong_172 : decode cL_wrong 172 = .ok (.if_icmp .ne 12, 3) := by decide +kernel
theorem dyL_wrong_175 : decode cL_wrong 175 = .ok (.iload_n 3, 1) := by decide +kernel
theorem dyL_wrong_176 : decode cL_wrong 176 = .ok (.ifCond .ne 8, 3) := by decide +kernel
theorem dyL_wrong_179 : decode cL_wrong 179 = .ok (.iconst 0, 1) := by decide +kernel
theorem dyL_wrong_180 : decode cL_wrong 180 = .ok (.istore_n 1, 1) := by decide +kernel
theorem dyL_wrong_181 : decode cL_wrong 181 = .ok (.goto 6, 3) := by decide +kernel
theorem dyL_wrong_184 : decode cL_wrong 184 = .ok (.iload 4, 2) := by decide +kernel
theorem dyL_wrong_186 : decode cL_wrong 186 = .ok (.ireturn, 1) := by decide +kernel
theorem dyL_wrong_187 : decode cL_wrong 187 = .ok (.iinc 4 1, 3) := by decide +kernel
theorem dyL_wrong_190 : decode cL_wrong 190 = .ok (.goto (-181), 3) := by decide +kernel
theorem dyL_wrong_193 : decode cL_wrong 193 = .ok (.aload_n 0, 1) := by decide +kernel
theorem dyL_wrong_194 : decode cL_wrong 194 = .ok (.arraylength, 1) := by decide +kernel
theorem dyL_wrong_195 : decode cL_wrong 195 = .ok (.ireturn, 1) := by decide +kernel
theorem zsg_yL_wrong : yL_wrong.cls ≠ "java/lang/invoke/MethodHandle" ∧ yL_wrong.cls ≠ "java/lang/invoke/VarHandle" ∧ (parseMethodDescriptor yL_wrong.desc).map (fun d => d.parameters.length) = some 1 := by decide +kernel
set_option maxHeartbeats 4000000 in
set_option maxRecDepth 20000 in
theorem c_Law_wrong {l : Launch} {D : va_G} {B : Nat} {cA : Nat → ClassId} {ad : Nat → Nat} {S : List zC} (hS : zOkX S) {a0 : Nat} {a0n : Nat} {I : zI} {K : Int32 → Prop} (h : w_Law_wrong a0 a0n S I K) : Met l yL_wrong (zws yL_wrong cL_wrong 6 (some .int)) (zrm 0 0) (zPc D B cA ad [.ref (B + a0)] S I) (zQc D B cA (zpI S I K)) 0 0 (fun q => B ≤ q) := by
  refine zm_of (cc := cL_wrong) (maxL := 6) (ret := (some .int)) (by decide +kernel) rfl (Nat.le_of_ble_eq_true rfl) trivial ?_
  intro p e s m args below meth c C _
  unfold w_Law_wrong at h
  have g0 : zGo S 0 0 S 0 0 := zGo.start hS
  show zX p l e (zrm 0 0) s m args below meth c (MQ below (zQc D B cA (zpI S I K)) args s 0 0 (fun q => B ≤ q)) D B cA 6 0 0 S I [(0, .ref (B + a0))] [] 0
  refine zr_iconst C dyL_wrong_0 zc_i_0 ?_
  refine zr_istore_n C dyL_wrong_1 rfl (Nat.le_of_ble_eq_true rfl) (lv2 := [(1, .int 0), (0, .ref (B + a0))]) rfl ?_
  refine zr_iconst C dyL_wrong_2 zc_i_0 ?_
  refine zr_istore_n C dyL_wrong_3 rfl (Nat.le_of_ble_eq_true rfl) (lv2 := [(2, .int 0), (1, .int 0), (0, .ref (B + a0))]) rfl ?_
  refine zr_iconst C dyL_wrong_4 zc_i_0 ?_
  refine zr_istore_n C dyL_wrong_5 rfl (Nat.le_of_ble_eq_true rfl) (lv2 := [(3, .int 0), (2, .int 0), (1, .int 0), (0, .ref (B + a0))]) rfl ?_
  refine zr_iconst C dyL_wrong_6 zc_i_0 ?_
  refine zr_istore C dyL_wrong_7 (Nat.le_of_ble_eq_true rfl) (lv2 := [(4, .int 0), (3, .int 0), (2, .int 0), (1, .int 0), (0, .ref (B + a0))]) rfl ?_
  refine zjn (h (fun (v1_1 : Int32) (v2_2 : Int32) (v3_3 : Int32) (v4_4 : Int32) => zX p l e (zrm 0 0) s m args below meth c (MQ below (zQc D B cA (zpI S I K)) args s 0 0 (fun q => B ≤ q)) D B cA 6 0 0 S I [(4, .int v4_4), (3, .int v3_3), (2, .int v2_2), (1, .int v1_1), (0, .ref (B + a0))] [] 9) (fun v1_1 v2_2 v3_3 v4_4 h => ?_)) (fun h => ?_)
  · refine zr_iload C dyL_wrong_9 0 rfl ?_
    refine zr_aload_n C dyL_wrong_11 rfl 4 rfl ?_
    refine zr_alen C h.1 dyL_wrong_12 ?_
    replace h := h.2
    refine zr_icmp_ge C dyL_wrong_13 (tgt := 193) (by decide) (fun hc_32 => ?_) (fun hc_32 => ?_)
    · replace h := zif_pos hc_32 h
      refine zr_aload_n C dyL_wrong_193 rfl 4 rfl ?_
      refine zr_alen C h.1 dyL_wrong_194 ?_
      replace h := h.2
      exact zr_iret C rfl dyL_wrong_195 ⟨rfl, rfl, _, rfl, h⟩
    · replace h := zif_neg hc_32 h
      refine zr_aload_n C dyL_wrong_16 rfl 4 rfl ?_
      refine zr_iload C dyL_wrong_17 0 rfl ?_
      refine zr_iald C h.1.1 h.1.2 dyL_wrong_19 ?_
      replace h := h.2
      refine zn_istore C (fun v5_5 => [(5, .int v5_5), (4, .int v4_4), (3, .int v3_3), (2, .int v2_2), (1, .int v1_1), (0, .ref (B + a0))]) dyL_wrong_20 (Nat.le_of_ble_eq_true rfl) (fun _ => rfl) (fun v5_5 ev5_5 => ?_)
      replace h := h v5_5 ev5_5
      refine zr_iload_n C dyL_wrong_22 rfl 4 rfl ?_
      refine zjn (h (fun (v1_6 : Int32) (v2_7 : Int32) (v3_8 : Int32) => zX p l e (zrm 0 0) s m args below meth c (MQ below (zQc D B cA (zpI S I K)) args s 0 0 (fun q => B ≤ q)) D B cA 6 0 0 S I [(4, .int v4_4), (3, .int v3_8), (2, .int v2_7), (1, .int v1_6), (0, .ref (B + a0))] [] 187) (fun v1_6 v2_7 v3_8 h => ?_)) (fun h => ?_)
      · refine zn_iinc C (fun v4_9 => [(4, .int v4_9), (3, .int v3_8), (2, .int v2_7), (1, .int v1_6), (0, .ref (B + a0))]) dyL_wrong_187 0 rfl zc_i_1 (Nat.le_of_ble_eq_true rfl) (fun _ => rfl) (fun v4_9 ev4_9 => ?_)
        replace h := h v4_9 ev4_9
        refine zr_goto C dyL_wrong_190 (tgt := 9) (by decide) ?_
        exact h
      refine zr_if_ne C dyL_wrong_23 (tgt := 84) (by decide) (fun hc_31 => ?_) (fun hc_31 => ?_)
      · replace h := zif_neg hc_31 h
        refine zr_iload_n C dyL_wrong_84 rfl 4 rfl ?_
        refine zr_iconst C dyL_wrong_85 zc_i_1 ?_
        refine zr_icmp_ne C dyL_wrong_86 (tgt := 103) (by decide) (fun hc_22 => ?_) (fun hc_22 => ?_)
        · replace h := zif_neg hc_22 h
          refine zr_iload_n C dyL_wrong_103 rfl 4 rfl ?_
          refine zr_iconst C dyL_wrong_104 zc_i_2 ?_
          refine zr_icmp_ne C dyL_wrong_105 (tgt := 135) (by decide) (fun hc_20 => ?_) (fun hc_20 => ?_)
          · replace h := zif_neg hc_20 h
            refine zr_iload C dyL_wrong_135 0 rfl ?_
            refine zr_iconst C dyL_wrong_137 zc_i_4 ?_
            refine zjn (h (zX p l e (zrm 0 0) s m args below meth c (MQ below (zQc D B cA (zpI S I K)) args s 0 0 (fun q => B ≤ q)) D B cA 6 0 0 S I [(4, .int v4_4), (3, .int v3_3), (2, .int v2_2), (0, .ref (B + a0))] [] 147) (fun  h => ?_)) (fun h => ?_)
            · refine zr_iconst C dyL_wrong_147 zc_i_2 ?_
              refine zr_istore_n C dyL_wrong_148 rfl (Nat.le_of_ble_eq_true rfl) (lv2 := [(1, .int 2), (4, .int v4_4), (3, .int v3_3), (2, .int v2_2), (0, .ref (B + a0))]) rfl ?_
              refine zr_goto C dyL_wrong_149 (tgt := 187) (by decide) ?_
              refine zr_sub (lv2 := [(4, .int v4_4), (3, .int v3_3), (2, .int v2_2), (1, .int 2), (0, .ref (B + a0))]) [1, 2, 3, 0, 4] rfl ?_
              exact h
            refine zr_icmp_eq C dyL_wrong_138 (tgt := 147) (by decide) (fun hc_16 => ?_) (fun hc_16 => ?_)
            · replace h := zif_pos hc_16 h
              refine zr_sub (lv2 := [(4, .int v4_4), (3, .int v3_3), (2, .int v2_2), (0, .ref (B + a0))]) [1, 2, 3, 5] rfl ?_
              exact h
            · replace h := zif_neg hc_16 h
              refine zr_iload C dyL_wrong_141 0 rfl ?_
              refine zr_iconst C dyL_wrong_143 zc_i_5 ?_
              refine zr_icmp_ne C dyL_wrong_144 (tgt := 152) (by decide) (fun hc_15 => ?_) (fun hc_15 => ?_)
              · replace h := zif_neg hc_15 h
                refine zr_iload C dyL_wrong_152 0 rfl ?_
                refine zr_bipush C dyL_wrong_154 zc_b_7 ?_
                refine zjn (h (zX p l e (zrm 0 0) s m args below meth c (MQ below (zQc D B cA (zpI S I K)) args s 0 0 (fun q => B ≤ q)) D B cA 6 0 0 S I [(5, .int v5_5), (4, .int v4_4), (3, .int v3_3), (2, .int v2_2), (0, .ref (B + a0))] [] 169) (fun  h => ?_)) (fun h => ?_)
                · refine zr_iload C dyL_wrong_169 0 rfl ?_
                  refine zr_iconst C dyL_wrong_171 zc_i_3 ?_
                  refine zr_icmp_ne C dyL_wrong_172 (tgt := 184) (by decide) (fun hc_11 => ?_) (fun hc_11 => ?_)
                  · replace h := zif_neg hc_11 h
                    refine zr_iload C dyL_wrong_184 1 rfl ?_
                    exact zr_iret C rfl dyL_wrong_186 ⟨rfl, rfl, _, rfl, h⟩
                  · replace h := zif_pos hc_11 h
                    refine zr_iload_n C dyL_wrong_175 rfl 2 rfl ?_
                    refine zr_if_ne C dyL_wrong_176 (tgt := 184) (by decide) (fun hc_10 => ?_) (fun hc_10 => ?_)
                    · replace h := zif_neg hc_10 h
                      refine zr_iload C dyL_wrong_184 1 rfl ?_
                      exact zr_iret C rfl dyL_wrong_186 ⟨rfl, rfl, _, rfl, h⟩
                    · replace h := zif_pos hc_10 h
                      refine zr_iconst C dyL_wrong_179 zc_i_0 ?_
                      refine zr_istore_n C dyL_wrong_180 rfl (Nat.le_of_ble_eq_true rfl) (lv2 := [(1, .int 0), (5, .int v5_5), (4, .int v4_4), (3, .int v3_3), (2, .int v2_2), (0, .ref (B + a0))]) rfl ?_
                      refine zr_goto C dyL_wrong_181 (tgt := 187) (by decide) ?_
                      refine zr_sub (lv2 := [(4, .int v4_4), (3, .int v3_3), (2, .int v2_2), (1, .int 0), (0, .ref (B + a0))]) [2, 3, 4, 0, 5] rfl ?_
                      exact h
                refine zr_icmp_ne C dyL_wrong_156 (tgt := 169) (by decide) (fun hc_14 => ?_) (fun hc_14 => ?_)
                · replace h := zif_neg hc_14 h
                  refine zr_sub (lv2 := [(5, .int v5_5), (4, .int v4_4), (3, .int v3_3), (2, .int v2_2), (0, .ref (B + a0))]) [0, 1, 2, 3, 5] rfl ?_
                  exact h
                · replace h := zif_pos hc_14 h
                  refine zr_iload_n C dyL_wrong_159 rfl 2 rfl ?_
                  refine zr_if_le C dyL_wrong_160 (tgt := 169) (by decide) (fun hc_13 => ?_) (fun hc_13 => ?_)
                  · replace h := zif_pos hc_13 h
                    refine zr_sub (lv2 := [(5, .int v5_5), (4, .int v4_4), (3, .int v3_3), (2, .int v2_2), (0, .ref (B + a0))]) [0, 1, 2, 3, 5] rfl ?_
                    exact h
                  · replace h := zif_neg hc_13 h
                    refine zn_iinc C (fun v3_12 => [(3, .int v3_12), (5, .int v5_5), (4, .int v4_4), (2, .int v2_2), (1, .int v1_1), (0, .ref (B + a0))]) dyL_wrong_163 2 rfl zc_i_m1 (Nat.le_of_ble_eq_true rfl) (fun _ => rfl) (fun v3_12 ev3_12 => ?_)
                    replace h := h v3_12 ev3_12
                    refine zr_goto C dyL_wrong_166 (tgt := 187) (by decide) ?_
                    refine zr_sub (lv2 := [(4, .int v4_4), (3, .int v3_12), (2, .int v2_2), (1, .int v1_1), (0, .ref (B + a0))]) [2, 0, 3, 4, 5] rfl ?_
                    exact h
              · replace h := zif_pos hc_15 h
                refine zr_sub (lv2 := [(4, .int v4_4), (3, .int v3_3), (2, .int v2_2), (0, .ref (B + a0))]) [1, 2, 3, 5] rfl ?_
                exact h
          · replace h := zif_pos hc_20 h
            refine zr_iload C dyL_wrong_108 0 rfl ?_
            refine zr_bipush C dyL_wrong_110 zc_b_6 ?_
            refine zr_icmp_ne C dyL_wrong_112 (tgt := 121) (by decide) (fun hc_19 => ?_) (fun hc_19 => ?_)
            · replace h := zif_neg hc_19 h
              refine zr_iload C dyL_wrong_121 0 rfl ?_
              refine zr_iconst C dyL_wrong_123 zc_i_2 ?_
              refine zr_icmp_ge C dyL_wrong_124 (tgt := 132) (by decide) (fun hc_17 => ?_) (fun hc_17 => ?_)
              · replace h := zif_pos hc_17 h
                refine zr_iload C dyL_wrong_132 1 rfl ?_
                exact zr_iret C rfl dyL_wrong_134 ⟨rfl, rfl, _, rfl, h⟩
              · replace h := zif_neg hc_17 h
                refine zr_iconst C dyL_wrong_127 zc_i_3 ?_
                refine zr_istore_n C dyL_wrong_128 rfl (Nat.le_of_ble_eq_true rfl) (lv2 := [(1, .int 3), (5, .int v5_5), (4, .int v4_4), (3, .int v3_3), (2, .int v2_2), (0, .ref (B + a0))]) rfl ?_
                refine zr_goto C dyL_wrong_129 (tgt := 187) (by decide) ?_
                refine zr_sub (lv2 := [(4, .int v4_4), (3, .int v3_3), (2, .int v2_2), (1, .int 3), (0, .ref (B + a0))]) [2, 3, 4, 0, 5] rfl ?_
                exact h
            · replace h := zif_pos hc_19 h
              refine zn_iinc C (fun v3_18 => [(3, .int v3_18), (5, .int v5_5), (4, .int v4_4), (2, .int v2_2), (1, .int v1_1), (0, .ref (B + a0))]) dyL_wrong_115 2 rfl zc_i_1 (Nat.le_of_ble_eq_true rfl) (fun _ => rfl) (fun v3_18 ev3_18 => ?_)
              replace h := h v3_18 ev3_18
              refine zr_goto C dyL_wrong_118 (tgt := 187) (by decide) ?_
              refine zr_sub (lv2 := [(4, .int v4_4), (3, .int v3_18), (2, .int v2_2), (1, .int v1_1), (0, .ref (B + a0))]) [2, 0, 3, 4, 5] rfl ?_
              exact h
        · replace h := zif_pos hc_22 h
          refine zr_iload C dyL_wrong_89 0 rfl ?_
          refine zr_iconst C dyL_wrong_91 zc_i_2 ?_
          refine zr_icmp_eq C dyL_wrong_92 (tgt := 98) (by decide) (fun hc_21 => ?_) (fun hc_21 => ?_)
          · replace h := zif_pos hc_21 h
            refine zr_iconst C dyL_wrong_98 zc_i_2 ?_
            refine zr_istore_n C dyL_wrong_99 rfl (Nat.le_of_ble_eq_true rfl) (lv2 := [(1, .int 2), (5, .int v5_5), (4, .int v4_4), (3, .int v3_3), (2, .int v2_2), (0, .ref (B + a0))]) rfl ?_
            refine zr_goto C dyL_wrong_100 (tgt := 187) (by decide) ?_
            refine zr_sub (lv2 := [(4, .int v4_4), (3, .int v3_3), (2, .int v2_2), (1, .int 2), (0, .ref (B + a0))]) [2, 3, 4, 0, 5] rfl ?_
            exact h
          · replace h := zif_neg hc_21 h
            refine zr_iload C dyL_wrong_95 1 rfl ?_
            exact zr_iret C rfl dyL_wrong_97 ⟨rfl, rfl, _, rfl, h⟩
      · replace h := zif_pos hc_31 h
        refine zr_iload C dyL_wrong_26 0 rfl ?_
        refine zr_if_ne C dyL_wrong_28 (tgt := 36) (by decide) (fun hc_30 => ?_) (fun hc_30 => ?_)
        · replace h := zif_neg hc_30 h
          refine zr_iload C dyL_wrong_36 0 rfl ?_
          refine zr_bipush C dyL_wrong_38 zc_b_8 ?_
          refine zr_icmp_ne C dyL_wrong_40 (tgt := 49) (by decide) (fun hc_29 => ?_) (fun hc_29 => ?_)
          · replace h := zif_neg hc_29 h
            refine zr_iload C dyL_wrong_49 0 rfl ?_
            refine zr_bipush C dyL_wrong_51 zc_b_9 ?_
            refine zjn (h (zX p l e (zrm 0 0) s m args below meth c (MQ below (zQc D B cA (zpI S I K)) args s 0 0 (fun q => B ≤ q)) D B cA 6 0 0 S I [(5, .int v5_5), (4, .int v4_4), (2, .int v2_2)] [] 66) (fun  h => ?_)) (fun h => ?_)
            · refine zr_iload C dyL_wrong_66 0 rfl ?_
              refine zr_bipush C dyL_wrong_68 zc_b_10 ?_
              refine zr_icmp_ne C dyL_wrong_70 (tgt := 81) (by decide) (fun hc_24 => ?_) (fun hc_24 => ?_)
              · replace h := zif_neg hc_24 h
                refine zr_iload C dyL_wrong_81 1 rfl ?_
                exact zr_iret C rfl dyL_wrong_83 ⟨rfl, rfl, _, rfl, h⟩
              · replace h := zif_pos hc_24 h
                refine zr_iload_n C dyL_wrong_73 rfl 2 rfl ?_
                refine zr_if_ne C dyL_wrong_74 (tgt := 81) (by decide) (fun hc_23 => ?_) (fun hc_23 => ?_)
                · replace h := zif_neg hc_23 h
                  refine zr_iload C dyL_wrong_81 1 rfl ?_
                  exact zr_iret C rfl dyL_wrong_83 ⟨rfl, rfl, _, rfl, h⟩
                · replace h := zif_pos hc_23 h
                  refine zr_iconst C dyL_wrong_77 zc_i_m1 ?_
                  refine zr_goto C dyL_wrong_78 (tgt := 83) (by decide) ?_
                  exact zr_iret C rfl dyL_wrong_83 ⟨rfl, rfl, _, rfl, h⟩
            refine zr_icmp_ne C dyL_wrong_53 (tgt := 66) (by decide) (fun hc_27 => ?_) (fun hc_27 => ?_)
            · replace h := zif_neg hc_27 h
              refine zr_sub (lv2 := [(5, .int v5_5), (4, .int v4_4), (2, .int v2_2)]) [0, 1, 3] rfl ?_
              exact h
            · replace h := zif_pos hc_27 h
              refine zr_iload_n C dyL_wrong_56 rfl 3 rfl ?_
              refine zr_if_le C dyL_wrong_57 (tgt := 66) (by decide) (fun hc_26 => ?_) (fun hc_26 => ?_)
              · replace h := zif_pos hc_26 h
                refine zr_sub (lv2 := [(5, .int v5_5), (4, .int v4_4), (2, .int v2_2)]) [0, 1, 3] rfl ?_
                exact h
              · replace h := zif_neg hc_26 h
                refine zn_iinc C (fun v2_25 => [(2, .int v2_25), (5, .int v5_5), (4, .int v4_4), (3, .int v3_3), (1, .int v1_1), (0, .ref (B + a0))]) dyL_wrong_60 3 rfl zc_i_m1 (Nat.le_of_ble_eq_true rfl) (fun _ => rfl) (fun v2_25 ev2_25 => ?_)
                replace h := h v2_25 ev2_25
                refine zr_goto C dyL_wrong_63 (tgt := 187) (by decide) ?_
                refine zr_sub (lv2 := [(4, .int v4_4), (3, .int v3_3), (2, .int v2_25), (1, .int v1_1), (0, .ref (B + a0))]) [2, 3, 0, 4, 5] rfl ?_
                exact h
          · replace h := zif_pos hc_29 h
            refine zn_iinc C (fun v2_28 => [(2, .int v2_28), (5, .int v5_5), (4, .int v4_4), (3, .int v3_3), (1, .int v1_1), (0, .ref (B + a0))]) dyL_wrong_43 3 rfl zc_i_1 (Nat.le_of_ble_eq_true rfl) (fun _ => rfl) (fun v2_28 ev2_28 => ?_)
            replace h := h v2_28 ev2_28
            refine zr_goto C dyL_wrong_46 (tgt := 187) (by decide) ?_
            refine zr_sub (lv2 := [(4, .int v4_4), (3, .int v3_3), (2, .int v2_28), (1, .int v1_1), (0, .ref (B + a0))]) [2, 3, 0, 4, 5] rfl ?_
            exact h
        · replace h := zif_pos hc_30 h
          refine zr_iconst C dyL_wrong_31 zc_i_1 ?_
          refine zr_istore_n C dyL_wrong_32 rfl (Nat.le_of_ble_eq_true rfl) (lv2 := [(1, .int 1), (5, .int v5_5), (4, .int v4_4), (3, .int v3_3), (2, .int v2_2), (0, .ref (B + a0))]) rfl ?_
          refine zr_goto C dyL_wrong_33 (tgt := 187) (by decide) ?_
          refine zr_sub (lv2 := [(4, .int v4_4), (3, .int v3_3), (2, .int v2_2), (1, .int 1), (0, .ref (B + a0))]) [2, 3, 4, 0, 5] rfl ?_
          exact h
  exact h
def w_Law_kinds (a0 : Nat) (a0n : Nat) (S : List zC) (I : zI) (K : Nat → Nat → List zC → zI → Prop) : Prop :=
  zA2 S a0 a0n ∧ (zZ I S.length ∧ (0 : Int32) ≤ (Int32.ofNat a0n) ∧ Int32.toNatClampNeg (Int32.ofNat a0n) ≤ 100000 ∧ 0 + 1 ≤ 1 ∧ 0 + Int32.toNatClampNeg (Int32.ofNat a0n) ≤ 400) ∧ ∀ (S_1 : List zC) (k_2 n_3 : Nat), S_1 = S ++ [.inr (.inl (0, n_3))] → k_2 = S.length → n_3 = Int32.toNatClampNeg (Int32.ofNat a0n) → ∀ (P7 : Int32 → zI → Prop), (∀ (v2_5 : Int32) (I_6 : zI), (zAt S_1 k_2 n_3 ∧ (if (Int32.ofNat n_3) ≤ v2_5 then K k_2 n_3 S_1 I_6 else ((zA2 S_1 a0 a0n ∧ vp_in v2_5 a0n ∧ ¬ I_6.1 a0 (Int32.toNatClampNeg v2_5) = 0) ∧ ∀ (r_7 : Nat), r_7 = Int32.toNatClampNeg (I_6.1 a0 (Int32.toNatClampNeg v2_5)) - 1 → (zAt S_1 r_7 3 ∧ vp_in 0 3) ∧ (zAt S_1 k_2 n_3 ∧ vp_in v2_5 n_3) ∧ ∀ I_8, I_8 = (zu I_6 k_2 (Int32.toNatClampNeg v2_5) (I_6.1 r_7 0)) → ∀ v2_9, v2_9 = (v2_5 + 1) → P7 v2_9 I_8))) → P7 v2_5 I_6) → P7 0 I
theorem dyL_kinds_0 : decode cL_kinds 0 = .ok (.aload_n 0, 1) := by decide +kernel
theorem dyL_kinds_1 : decode cL_kinds 1 = .ok (.arraylength, 1) := by decide +kernel
theorem dyL_kinds_2 : decode cL_kinds 2 = .ok (.newarray .int, 2) := by decide +kernel
theorem dyL_kinds_4 : decode cL_kinds 4 = .ok (.astore_n 1, 1) := by decide +kernel
theorem dyL_kinds_5 : decode cL_kinds 5 = .ok (.iconst 0, 1) := by decide +kernel
theorem dyL_kinds_6 : decode cL_kinds 6 = .ok (.istore_n 2, 1) := by decide +kernel
theorem dyL_kinds_7 : decode cL_kinds 7 = .ok (.iload_n 2, 1) := by decide +kernel
theorem dyL_kinds_8 : decode cL_kinds 8 = .ok (.aload_n 1, 1) := by decide +kernel
theorem dyL_kinds_9 : decode cL_kinds 9 = .ok (.arraylength, 1) := by decide +kernel
theorem dyL_kinds_10 : decode cL_kinds 10 = .ok (.if_icmp .ge 17, 3) := by decide +kernel
theorem dyL_kinds_13 : decode cL_kinds 13 = .ok (.aload_n 1, 1) := by decide +kernel
theorem dyL_kinds_14 : decode cL_kinds 14 = .ok (.iload_n 2, 1) := by decide +kernel
theorem dyL_kinds_15 : decode cL_kinds 15 = .ok (.aload_n 0, 1) := by decide +kernel
theorem dyL_kinds_16 : decode cL_kinds 16 = .ok (.iload_n 2, 1) := by decide +kernel
theorem dyL_kinds_17 : decode cL_kinds 17 = .ok (.aaload, 1) := by decide +kernel
theorem dyL_kinds_18 : decode cL_kinds 18 = .ok (.iconst 0, 1) := by decide +kernel
theorem dyL_kinds_19 : decode cL_kinds 19 = .ok (.iaload, 1) := by decide +kernel
theorem dyL_kinds_20 : decode cL_kinds 20 = .ok (.iastore, 1) := by decide +kernel
theorem dyL_kinds_21 : decode cL_kinds 21 = .ok (.iinc 2 1, 3) := by decide +kernel
theorem dyL_kinds_24 : decode cL_kinds 24 = .ok (.goto (-17), 3) := by decide +kernel
theorem dyL_kinds_27 : decode cL_kinds 27 = .ok (.aload_n 1, 1) := by decide +kernel
theorem dyL_kinds_28 : decode cL_kinds 28 = .ok (.areturn, 1) := by decide +kernel
theorem zsg_yL_kinds : yL_kinds.cls ≠ "java/lang/invoke/MethodHandle" ∧ yL_kinds.cls ≠ "java/lang/invoke/VarHandle" ∧ (parseMethodDescriptor yL_kinds.desc).map (fun d => d.parameters.length) = some 1 := by decide +kernel
set_option maxHeartbeats 4000000 in
set_option maxRecDepth 20000 in
theorem c_Law_kinds {l : Launch} {D : va_G} {B : Nat} {cA : Nat → ClassId} {ad : Nat → Nat} {S : List zC} (hS : zOkX S) {a0 : Nat} {a0n : Nat} {I : zI} {K : Nat → Nat → List zC → zI → Prop} (h : w_Law_kinds a0 a0n S I K) : Met l yL_kinds (zws yL_kinds cL_kinds 3 (some (.array .int))) (zrA 0 0 1 400) (zPc D B cA ad [.ref (B + a0)] S I) (zQc D B cA (zaA B S K)) 1 400 (fun q => B ≤ q) := by
  refine zm_of (cc := cL_kinds) (maxL := 3) (ret := (some (.array .int))) (by decide +kernel) rfl (Nat.le_of_ble_eq_true rfl) trivial ?_
  intro p e s m args below meth c C _
  unfold w_Law_kinds at h
  have g0 : zGo S 1 400 S 0 0 := zGo.start hS
  show zX p l e (zrA 0 0 1 400) s m args below meth c (MQ below (zQc D B cA (zaA B S K)) args s 1 400 (fun q => B ≤ q)) D B cA 3 0 0 S I [(0, .ref (B + a0))] [] 0
  refine zr_aload_n C dyL_kinds_0 rfl 0 rfl ?_
  refine zr_alenL C h.1 dyL_kinds_1 ?_
  replace h := h.2
  refine za_nn C g0 zk_ac_int rfl rfl h.1 dyL_kinds_2 (fun S_1 k_2 n_3 eS eK eN g_4 => ?_)
  replace h := h.2 S_1 k_2 n_3 eS eK eN
  refine zr_astore_n C dyL_kinds_4 rfl (Nat.le_of_ble_eq_true rfl) (lv2 := [(1, .ref (B + k_2)), (0, .ref (B + a0))]) rfl ?_
  refine zr_iconst C dyL_kinds_5 zc_i_0 ?_
  refine zr_istore_n C dyL_kinds_6 rfl (Nat.le_of_ble_eq_true rfl) (lv2 := [(2, .int 0), (1, .ref (B + k_2)), (0, .ref (B + a0))]) rfl ?_
  refine zjn (h (fun (v2_5 : Int32) (I_6 : zI) => zX p l e (zrA 0 0 1 400) s m args below meth c (MQ below (zQc D B cA (zaA B S K)) args s 1 400 (fun q => B ≤ q)) D B cA 3 (0 + 1) (0 + n_3) S_1 I_6 [(2, .int v2_5), (1, .ref (B + k_2)), (0, .ref (B + a0))] [] 7) (fun v2_5 I_6 h => ?_)) (fun h => ?_)
  · refine zr_iload_n C dyL_kinds_7 rfl 0 rfl ?_
    refine zr_aload_n C dyL_kinds_8 rfl 1 rfl ?_
    refine zr_alen C h.1 dyL_kinds_9 ?_
    replace h := h.2
    refine zr_icmp_ge C dyL_kinds_10 (tgt := 27) (by decide) (fun hc_10 => ?_) (fun hc_10 => ?_)
    · replace h := zif_pos hc_10 h
      refine zr_aload_n C dyL_kinds_27 rfl 1 rfl ?_
      refine zr_widen g_4.2.2.1 g_4.2.2.2 ?_
      exact zr_aretA C rfl dyL_kinds_28 ⟨g_4.2.1, _, _, rfl, h⟩
    · replace h := zif_neg hc_10 h
      refine zr_aload_n C dyL_kinds_13 rfl 1 rfl ?_
      refine zr_iload_n C dyL_kinds_14 rfl 0 rfl ?_
      refine zr_aload_n C dyL_kinds_15 rfl 2 rfl ?_
      refine zr_iload_n C dyL_kinds_16 rfl 0 rfl ?_
      refine zr_aald1 C h.1.1 h.1.2.1 h.1.2.2 dyL_kinds_17 (fun r_7 eR => ?_)
      replace h := h.2 r_7 eR
      refine zr_iconst C dyL_kinds_18 zc_i_0 ?_
      refine zr_iald C h.1.1 h.1.2 dyL_kinds_19 ?_
      replace h := h.2
      refine zr_iast C h.1.1 h.1.2 dyL_kinds_20 ?_
      replace h := h.2
      refine zn_mem C (fun I_8 eI_8 => ?_)
      replace h := h I_8 eI_8
      refine zn_iinc C (fun v2_9 => [(2, .int v2_9), (1, .ref (B + k_2)), (0, .ref (B + a0))]) dyL_kinds_21 0 rfl zc_i_1 (Nat.le_of_ble_eq_true rfl) (fun _ => rfl) (fun v2_9 ev2_9 => ?_)
      replace h := h v2_9 ev2_9
      refine zr_goto C dyL_kinds_24 (tgt := 7) (by decide) ?_
      exact h
  exact h
