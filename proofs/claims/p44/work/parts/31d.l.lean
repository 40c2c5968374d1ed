def w_Law_drawn (a0 : Int32) (a1 : Int32) (S : List zC) (I : zI) (K : Nat → Nat → List zC → zI → Prop) : Prop :=
  (zZ I S.length ∧ (0 : Int32) ≤ 0 ∧ Int32.toNatClampNeg 0 ≤ 100000 ∧ 0 + 1 ≤ 9 ∧ 0 + Int32.toNatClampNeg 0 ≤ 4200) ∧ ∀ (S_1 : List zC) (k_2 n_3 : Nat), S_1 = S ++ [.inr (.inl (0, n_3))] → k_2 = S.length → n_3 = Int32.toNatClampNeg 0 → ∀ (P6 : Nat → Nat → Int32 → (List zC) → Nat → Nat → zI → Prop), (∀ (v2_5 : Nat) (v2_5n : Nat) (v3_6 : Int32) (S_7 : List zC) (c_8 : Nat) (u_9 : Nat) (I_11 : zI), ((if a1 ≤ v3_6 then K v2_5 v2_5n S_7 I_11 else (∀ v4_12, v4_12 = (((a0 * (v3_6 + (3 : Int32))) + ((7 : Int32) * v3_6)) >>> ((1 : Int32) &&& (31 : Int32))) → ∀ v5_13, v5_13 = ((97 : Int32) + ((v4_12 >>> ((2 : Int32) &&& (31 : Int32))) &&& (3 : Int32))) → ∀ v6_14, v6_14 = ((97 : Int32) + ((v4_12 >>> ((4 : Int32) &&& (31 : Int32))) &&& (3 : Int32))) → ∀ v7_15, v7_15 = ((48 : Int32) + ((v4_12 >>> ((6 : Int32) &&& (31 : Int32))) &&& (7 : Int32))) → ∀ x_16, x_16 = ((v4_12 >>> ((8 : Int32) &&& (31 : Int32))) &&& (31 : Int32)) → ∀ (P1045 : Nat → Nat → (List zC) → Nat → Nat → zI → Prop), (∀ (v2_17 : Nat) (v2_17n : Nat) (S_18 : List zC) (c_19 : Nat) (u_20 : Nat) (I_22 : zI), (∀ v3_23, v3_23 = (v3_6 + 1) → P6 v2_17 v2_17n v3_23 S_18 c_19 u_20 I_22) → P1045 v2_17 v2_17n S_18 c_19 u_20 I_22) → ∀ (P208 : Prop), (((zZ I_11 S_7.length ∧ (0 : Int32) ≤ 4 ∧ Int32.toNatClampNeg 4 ≤ 100000 ∧ c_8 + 1 ≤ 9 ∧ u_9 + Int32.toNatClampNeg 4 ≤ 4200) ∧ ∀ (S_24 : List zC) (k_25 n_26 : Nat), S_24 = S_7 ++ [.inr (.inl (0, n_26))] → k_25 = S_7.length → n_26 = Int32.toNatClampNeg 4 → (zAt S_24 k_25 n_26 ∧ vp_in 0 n_26) ∧ ∀ I_28, I_28 = (zu I_11 k_25 0 v5_13) → (zAt S_24 k_25 n_26 ∧ vp_in 1 n_26) ∧ ∀ I_29, I_29 = (zu I_28 k_25 1 61) → (zAt S_24 k_25 n_26 ∧ vp_in 2 n_26) ∧ ∀ I_30, I_30 = (zu I_29 k_25 2 v7_15) → (zAt S_24 k_25 n_26 ∧ vp_in 3 n_26) ∧ ∀ I_31, I_31 = (zu I_30 k_25 3 59) → (c_8 + 1 + 1 ≤ 9 ∧ u_9 + n_26 + 1000 ≤ 4200) ∧ w_Law_with v2_5 v2_5n k_25 n_26 S_24 I_31 (fun k_32 n_33 S_34 I_35 => P1045 k_32 n_33 S_34 (c_8 + 1 + 1) (u_9 + n_26 + 1000) I_35)) → P208) → ∀ (P239 : Prop), (((zZ I_11 S_7.length ∧ (0 : Int32) ≤ 6 ∧ Int32.toNatClampNeg 6 ≤ 100000 ∧ c_8 + 1 ≤ 9 ∧ u_9 + Int32.toNatClampNeg 6 ≤ 4200) ∧ ∀ (S_37 : List zC) (k_38 n_39 : Nat), S_37 = S_7 ++ [.inr (.inl (0, n_39))] → k_38 = S_7.length → n_39 = Int32.toNatClampNeg 6 → (zAt S_37 k_38 n_39 ∧ vp_in 0 n_39) ∧ ∀ I_41, I_41 = (zu I_11 k_38 0 v5_13) → (zAt S_37 k_38 n_39 ∧ vp_in 1 n_39) ∧ ∀ I_42, I_42 = (zu I_41 k_38 1 61) → (zAt S_37 k_38 n_39 ∧ vp_in 2 n_39) ∧ ∀ I_43, I_43 = (zu I_42 k_38 2 v6_14) → (zAt S_37 k_38 n_39 ∧ vp_in 3 n_39) ∧ ∀ I_44, I_44 = (zu I_43 k_38 3 43) → (zAt S_37 k_38 n_39 ∧ vp_in 4 n_39) ∧ ∀ I_45, I_45 = (zu I_44 k_38 4 v7_15) → (zAt S_37 k_38 n_39 ∧ vp_in 5 n_39) ∧ ∀ I_46, I_46 = (zu I_45 k_38 5 59) → (c_8 + 1 + 1 ≤ 9 ∧ u_9 + n_39 + 1000 ≤ 4200) ∧ w_Law_with v2_5 v2_5n k_38 n_39 S_37 I_46 (fun k_47 n_48 S_49 I_50 => P1045 k_47 n_48 S_49 (c_8 + 1 + 1) (u_9 + n_39 + 1000) I_50)) → P239) → ∀ (P281 : Prop), (((zZ I_11 S_7.length ∧ (0 : Int32) ≤ 10 ∧ Int32.toNatClampNeg 10 ≤ 100000 ∧ c_8 + 1 ≤ 9 ∧ u_9 + Int32.toNatClampNeg 10 ≤ 4200) ∧ ∀ (S_52 : List zC) (k_53 n_54 : Nat), S_52 = S_7 ++ [.inr (.inl (0, n_54))] → k_53 = S_7.length → n_54 = Int32.toNatClampNeg 10 → (zAt S_52 k_53 n_54 ∧ vp_in 0 n_54) ∧ ∀ I_56, I_56 = (zu I_11 k_53 0 v5_13) → (zAt S_52 k_53 n_54 ∧ vp_in 1 n_54) ∧ ∀ I_57, I_57 = (zu I_56 k_53 1 61) → (zAt S_52 k_53 n_54 ∧ vp_in 2 n_54) ∧ ∀ I_58, I_58 = (zu I_57 k_53 2 40) → (zAt S_52 k_53 n_54 ∧ vp_in 3 n_54) ∧ ∀ I_59, I_59 = (zu I_58 k_53 3 v6_14) → (zAt S_52 k_53 n_54 ∧ vp_in 4 n_54) ∧ ∀ I_60, I_60 = (zu I_59 k_53 4 43) → (zAt S_52 k_53 n_54 ∧ vp_in 5 n_54) ∧ ∀ I_61, I_61 = (zu I_60 k_53 5 v7_15) → (zAt S_52 k_53 n_54 ∧ vp_in 6 n_54) ∧ ∀ I_62, I_62 = (zu I_61 k_53 6 41) → (zAt S_52 k_53 n_54 ∧ vp_in 7 n_54) ∧ ∀ I_63, I_63 = (zu I_62 k_53 7 42) → (zAt S_52 k_53 n_54 ∧ vp_in 8 n_54) ∧ ∀ I_64, I_64 = (zu I_63 k_53 8 v5_13) → (zAt S_52 k_53 n_54 ∧ vp_in 9 n_54) ∧ ∀ I_65, I_65 = (zu I_64 k_53 9 59) → (c_8 + 1 + 1 ≤ 9 ∧ u_9 + n_54 + 1000 ≤ 4200) ∧ w_Law_with v2_5 v2_5n k_53 n_54 S_52 I_65 (fun k_66 n_67 S_68 I_69 => P1045 k_66 n_67 S_68 (c_8 + 1 + 1) (u_9 + n_54 + 1000) I_69)) → P281) → ∀ (P419 : Prop), (((zZ I_11 S_7.length ∧ (0 : Int32) ≤ 10 ∧ Int32.toNatClampNeg 10 ≤ 100000 ∧ c_8 + 1 ≤ 9 ∧ u_9 + Int32.toNatClampNeg 10 ≤ 4200) ∧ ∀ (S_71 : List zC) (k_72 n_73 : Nat), S_71 = S_7 ++ [.inr (.inl (0, n_73))] → k_72 = S_7.length → n_73 = Int32.toNatClampNeg 10 → (zAt S_71 k_72 n_73 ∧ vp_in 0 n_73) ∧ ∀ I_75, I_75 = (zu I_11 k_72 0 123) → (zAt S_71 k_72 n_73 ∧ vp_in 1 n_73) ∧ ∀ I_76, I_76 = (zu I_75 k_72 1 v5_13) → (zAt S_71 k_72 n_73 ∧ vp_in 2 n_73) ∧ ∀ I_77, I_77 = (zu I_76 k_72 2 61) → (zAt S_71 k_72 n_73 ∧ vp_in 3 n_73) ∧ ∀ I_78, I_78 = (zu I_77 k_72 3 v7_15) → (zAt S_71 k_72 n_73 ∧ vp_in 4 n_73) ∧ ∀ I_79, I_79 = (zu I_78 k_72 4 59) → (zAt S_71 k_72 n_73 ∧ vp_in 5 n_73) ∧ ∀ I_80, I_80 = (zu I_79 k_72 5 v6_14) → (zAt S_71 k_72 n_73 ∧ vp_in 6 n_73) ∧ ∀ I_81, I_81 = (zu I_80 k_72 6 61) → (zAt S_71 k_72 n_73 ∧ vp_in 7 n_73) ∧ ∀ I_82, I_82 = (zu I_81 k_72 7 v5_13) → (zAt S_71 k_72 n_73 ∧ vp_in 8 n_73) ∧ ∀ I_83, I_83 = (zu I_82 k_72 8 59) → (zAt S_71 k_72 n_73 ∧ vp_in 9 n_73) ∧ ∀ I_84, I_84 = (zu I_83 k_72 9 125) → (c_8 + 1 + 1 ≤ 9 ∧ u_9 + n_73 + 1000 ≤ 4200) ∧ w_Law_with v2_5 v2_5n k_72 n_73 S_71 I_84 (fun k_85 n_86 S_87 I_88 => P1045 k_85 n_86 S_87 (c_8 + 1 + 1) (u_9 + n_73 + 1000) I_88)) → P419) → (if x_16 = 0 then P208 else (if x_16 = 1 then P208 else (if x_16 = 2 then P208 else (if x_16 = 3 then P208 else (if x_16 = 4 then P239 else (if x_16 = 5 then P239 else (if x_16 = 6 then P239 else (if x_16 = 7 then P281 else (if x_16 = 8 then P281 else (if x_16 = 9 then ((zZ I_11 S_7.length ∧ (0 : Int32) ≤ 11 ∧ Int32.toNatClampNeg 11 ≤ 100000 ∧ c_8 + 1 ≤ 9 ∧ u_9 + Int32.toNatClampNeg 11 ≤ 4200) ∧ ∀ (S_100 : List zC) (k_101 n_102 : Nat), S_100 = S_7 ++ [.inr (.inl (0, n_102))] → k_101 = S_7.length → n_102 = Int32.toNatClampNeg 11 → (zAt S_100 k_101 n_102 ∧ vp_in 0 n_102) ∧ ∀ I_104, I_104 = (zu I_11 k_101 0 v5_13) → (zAt S_100 k_101 n_102 ∧ vp_in 1 n_102) ∧ ∀ I_105, I_105 = (zu I_104 k_101 1 32) → (zAt S_100 k_101 n_102 ∧ vp_in 2 n_102) ∧ ∀ I_106, I_106 = (zu I_105 k_101 2 61) → (zAt S_100 k_101 n_102 ∧ vp_in 3 n_102) ∧ ∀ I_107, I_107 = (zu I_106 k_101 3 v6_14) → (zAt S_100 k_101 n_102 ∧ vp_in 4 n_102) ∧ ∀ I_108, I_108 = (zu I_107 k_101 4 42) → (zAt S_100 k_101 n_102 ∧ vp_in 5 n_102) ∧ ∀ I_109, I_109 = (zu I_108 k_101 5 v7_15) → (zAt S_100 k_101 n_102 ∧ vp_in 6 n_102) ∧ ∀ I_110, I_110 = (zu I_109 k_101 6 43) → (zAt S_100 k_101 n_102 ∧ vp_in 7 n_102) ∧ ∀ I_111, I_111 = (zu I_110 k_101 7 v6_14) → (zAt S_100 k_101 n_102 ∧ vp_in 8 n_102) ∧ ∀ I_112, I_112 = (zu I_111 k_101 8 42) → (zAt S_100 k_101 n_102 ∧ vp_in 9 n_102) ∧ ∀ I_113, I_113 = (zu I_112 k_101 9 v6_14) → (zAt S_100 k_101 n_102 ∧ vp_in 10 n_102) ∧ ∀ I_114, I_114 = (zu I_113 k_101 10 59) → (c_8 + 1 + 1 ≤ 9 ∧ u_9 + n_102 + 1000 ≤ 4200) ∧ w_Law_with v2_5 v2_5n k_101 n_102 S_100 I_114 (fun k_115 n_116 S_117 I_118 => P1045 k_115 n_116 S_117 (c_8 + 1 + 1) (u_9 + n_102 + 1000) I_118)) else (if x_16 = 10 then P419 else (if x_16 = 11 then P419 else (if x_16 = 12 then ((zZ I_11 S_7.length ∧ (0 : Int32) ≤ 2 ∧ Int32.toNatClampNeg 2 ≤ 100000 ∧ c_8 + 1 ≤ 9 ∧ u_9 + Int32.toNatClampNeg 2 ≤ 4200) ∧ ∀ (S_123 : List zC) (k_124 n_125 : Nat), S_123 = S_7 ++ [.inr (.inl (0, n_125))] → k_124 = S_7.length → n_125 = Int32.toNatClampNeg 2 → (zAt S_123 k_124 n_125 ∧ vp_in 0 n_125) ∧ ∀ I_127, I_127 = (zu I_11 k_124 0 123) → (zAt S_123 k_124 n_125 ∧ vp_in 1 n_125) ∧ ∀ I_128, I_128 = (zu I_127 k_124 1 125) → (c_8 + 1 + 1 ≤ 9 ∧ u_9 + n_125 + 1000 ≤ 4200) ∧ w_Law_with v2_5 v2_5n k_124 n_125 S_123 I_128 (fun k_129 n_130 S_131 I_132 => P1045 k_129 n_130 S_131 (c_8 + 1 + 1) (u_9 + n_125 + 1000) I_132)) else (if x_16 = 13 then ((zZ I_11 S_7.length ∧ (0 : Int32) ≤ 10 ∧ Int32.toNatClampNeg 10 ≤ 100000 ∧ c_8 + 1 ≤ 9 ∧ u_9 + Int32.toNatClampNeg 10 ≤ 4200) ∧ ∀ (S_135 : List zC) (k_136 n_137 : Nat), S_135 = S_7 ++ [.inr (.inl (0, n_137))] → k_136 = S_7.length → n_137 = Int32.toNatClampNeg 10 → (zAt S_135 k_136 n_137 ∧ vp_in 0 n_137) ∧ ∀ I_139, I_139 = (zu I_11 k_136 0 v5_13) → (zAt S_135 k_136 n_137 ∧ vp_in 1 n_137) ∧ ∀ I_140, I_140 = (zu I_139 k_136 1 v6_14) → (zAt S_135 k_136 n_137 ∧ vp_in 2 n_137) ∧ ∀ I_141, I_141 = (zu I_140 k_136 2 61) → (zAt S_135 k_136 n_137 ∧ vp_in 3 n_137) ∧ ∀ I_142, I_142 = (zu I_141 k_136 3 40) → (zAt S_135 k_136 n_137 ∧ vp_in 4 n_137) ∧ ∀ I_143, I_143 = (zu I_142 k_136 4 40) → (zAt S_135 k_136 n_137 ∧ vp_in 5 n_137) ∧ ∀ I_144, I_144 = (zu I_143 k_136 5 v7_15) → (zAt S_135 k_136 n_137 ∧ vp_in 6 n_137) ∧ ∀ I_145, I_145 = (zu I_144 k_136 6 v7_15) → (zAt S_135 k_136 n_137 ∧ vp_in 7 n_137) ∧ ∀ I_146, I_146 = (zu I_145 k_136 7 41) → (zAt S_135 k_136 n_137 ∧ vp_in 8 n_137) ∧ ∀ I_147, I_147 = (zu I_146 k_136 8 41) → (zAt S_135 k_136 n_137 ∧ vp_in 9 n_137) ∧ ∀ I_148, I_148 = (zu I_147 k_136 9 59) → (c_8 + 1 + 1 ≤ 9 ∧ u_9 + n_137 + 1000 ≤ 4200) ∧ w_Law_with v2_5 v2_5n k_136 n_137 S_135 I_148 (fun k_149 n_150 S_151 I_152 => P1045 k_149 n_150 S_151 (c_8 + 1 + 1) (u_9 + n_137 + 1000) I_152)) else (if x_16 = 14 then ((zZ I_11 S_7.length ∧ (0 : Int32) ≤ 11 ∧ Int32.toNatClampNeg 11 ≤ 100000 ∧ c_8 + 1 ≤ 9 ∧ u_9 + Int32.toNatClampNeg 11 ≤ 4200) ∧ ∀ (S_155 : List zC) (k_156 n_157 : Nat), S_155 = S_7 ++ [.inr (.inl (0, n_157))] → k_156 = S_7.length → n_157 = Int32.toNatClampNeg 11 → (zAt S_155 k_156 n_157 ∧ vp_in 0 n_157) ∧ ∀ I_159, I_159 = (zu I_11 k_156 0 123) → (zAt S_155 k_156 n_157 ∧ vp_in 1 n_157) ∧ ∀ I_160, I_160 = (zu I_159 k_156 1 123) → (zAt S_155 k_156 n_157 ∧ vp_in 2 n_157) ∧ ∀ I_161, I_161 = (zu I_160 k_156 2 v5_13) → (zAt S_155 k_156 n_157 ∧ vp_in 3 n_157) ∧ ∀ I_162, I_162 = (zu I_161 k_156 3 61) → (zAt S_155 k_156 n_157 ∧ vp_in 4 n_157) ∧ ∀ I_163, I_163 = (zu I_162 k_156 4 v5_13) → (zAt S_155 k_156 n_157 ∧ vp_in 5 n_157) ∧ ∀ I_164, I_164 = (zu I_163 k_156 5 43) → (zAt S_155 k_156 n_157 ∧ vp_in 6 n_157) ∧ ∀ I_165, I_165 = (zu I_164 k_156 6 v7_15) → (zAt S_155 k_156 n_157 ∧ vp_in 7 n_157) ∧ ∀ I_166, I_166 = (zu I_165 k_156 7 59) → (zAt S_155 k_156 n_157 ∧ vp_in 8 n_157) ∧ ∀ I_167, I_167 = (zu I_166 k_156 8 125) → (zAt S_155 k_156 n_157 ∧ vp_in 9 n_157) ∧ ∀ I_168, I_168 = (zu I_167 k_156 9 125) → (zAt S_155 k_156 n_157 ∧ vp_in 10 n_157) ∧ ∀ I_169, I_169 = (zu I_168 k_156 10 32) → (c_8 + 1 + 1 ≤ 9 ∧ u_9 + n_157 + 1000 ≤ 4200) ∧ w_Law_with v2_5 v2_5n k_156 n_157 S_155 I_169 (fun k_170 n_171 S_172 I_173 => P1045 k_170 n_171 S_172 (c_8 + 1 + 1) (u_9 + n_157 + 1000) I_173)) else (if x_16 = 15 then ((zZ I_11 S_7.length ∧ (0 : Int32) ≤ 1 ∧ Int32.toNatClampNeg 1 ≤ 100000 ∧ c_8 + 1 ≤ 9 ∧ u_9 + Int32.toNatClampNeg 1 ≤ 4200) ∧ ∀ (S_176 : List zC) (k_177 n_178 : Nat), S_176 = S_7 ++ [.inr (.inl (0, n_178))] → k_177 = S_7.length → n_178 = Int32.toNatClampNeg 1 → (zAt S_176 k_177 n_178 ∧ vp_in 0 n_178) ∧ ∀ I_180, I_180 = (zu I_11 k_177 0 v5_13) → (c_8 + 1 + 1 ≤ 9 ∧ u_9 + n_178 + 1000 ≤ 4200) ∧ w_Law_with v2_5 v2_5n k_177 n_178 S_176 I_180 (fun k_181 n_182 S_183 I_184 => P1045 k_181 n_182 S_183 (c_8 + 1 + 1) (u_9 + n_178 + 1000) I_184)) else (if x_16 = 16 then ((zZ I_11 S_7.length ∧ (0 : Int32) ≤ 1 ∧ Int32.toNatClampNeg 1 ≤ 100000 ∧ c_8 + 1 ≤ 9 ∧ u_9 + Int32.toNatClampNeg 1 ≤ 4200) ∧ ∀ (S_187 : List zC) (k_188 n_189 : Nat), S_187 = S_7 ++ [.inr (.inl (0, n_189))] → k_188 = S_7.length → n_189 = Int32.toNatClampNeg 1 → (zAt S_187 k_188 n_189 ∧ vp_in 0 n_189) ∧ ∀ I_191, I_191 = (zu I_11 k_188 0 v7_15) → (c_8 + 1 + 1 ≤ 9 ∧ u_9 + n_189 + 1000 ≤ 4200) ∧ w_Law_with v2_5 v2_5n k_188 n_189 S_187 I_191 (fun k_192 n_193 S_194 I_195 => P1045 k_192 n_193 S_194 (c_8 + 1 + 1) (u_9 + n_189 + 1000) I_195)) else (if x_16 = 17 then ((zZ I_11 S_7.length ∧ (0 : Int32) ≤ 2 ∧ Int32.toNatClampNeg 2 ≤ 100000 ∧ c_8 + 1 ≤ 9 ∧ u_9 + Int32.toNatClampNeg 2 ≤ 4200) ∧ ∀ (S_198 : List zC) (k_199 n_200 : Nat), S_198 = S_7 ++ [.inr (.inl (0, n_200))] → k_199 = S_7.length → n_200 = Int32.toNatClampNeg 2 → (zAt S_198 k_199 n_200 ∧ vp_in 0 n_200) ∧ ∀ I_202, I_202 = (zu I_11 k_199 0 43) → (zAt S_198 k_199 n_200 ∧ vp_in 1 n_200) ∧ ∀ I_203, I_203 = (zu I_202 k_199 1 v5_13) → (c_8 + 1 + 1 ≤ 9 ∧ u_9 + n_200 + 1000 ≤ 4200) ∧ w_Law_with v2_5 v2_5n k_199 n_200 S_198 I_203 (fun k_204 n_205 S_206 I_207 => P1045 k_204 n_205 S_206 (c_8 + 1 + 1) (u_9 + n_200 + 1000) I_207)) else (if x_16 = 18 then ((zZ I_11 S_7.length ∧ (0 : Int32) ≤ 2 ∧ Int32.toNatClampNeg 2 ≤ 100000 ∧ c_8 + 1 ≤ 9 ∧ u_9 + Int32.toNatClampNeg 2 ≤ 4200) ∧ ∀ (S_210 : List zC) (k_211 n_212 : Nat), S_210 = S_7 ++ [.inr (.inl (0, n_212))] → k_211 = S_7.length → n_212 = Int32.toNatClampNeg 2 → (zAt S_210 k_211 n_212 ∧ vp_in 0 n_212) ∧ ∀ I_214, I_214 = (zu I_11 k_211 0 42) → (zAt S_210 k_211 n_212 ∧ vp_in 1 n_212) ∧ ∀ I_215, I_215 = (zu I_214 k_211 1 v6_14) → (c_8 + 1 + 1 ≤ 9 ∧ u_9 + n_212 + 1000 ≤ 4200) ∧ w_Law_with v2_5 v2_5n k_211 n_212 S_210 I_215 (fun k_216 n_217 S_218 I_219 => P1045 k_216 n_217 S_218 (c_8 + 1 + 1) (u_9 + n_212 + 1000) I_219)) else (if x_16 = 19 then ((zZ I_11 S_7.length ∧ (0 : Int32) ≤ 1 ∧ Int32.toNatClampNeg 1 ≤ 100000 ∧ c_8 + 1 ≤ 9 ∧ u_9 + Int32.toNatClampNeg 1 ≤ 4200) ∧ ∀ (S_222 : List zC) (k_223 n_224 : Nat), S_222 = S_7 ++ [.inr (.inl (0, n_224))] → k_223 = S_7.length → n_224 = Int32.toNatClampNeg 1 → (zAt S_222 k_223 n_224 ∧ vp_in 0 n_224) ∧ ∀ I_226, I_226 = (zu I_11 k_223 0 40) → (c_8 + 1 + 1 ≤ 9 ∧ u_9 + n_224 + 1000 ≤ 4200) ∧ w_Law_with v2_5 v2_5n k_223 n_224 S_222 I_226 (fun k_227 n_228 S_229 I_230 => P1045 k_227 n_228 S_229 (c_8 + 1 + 1) (u_9 + n_224 + 1000) I_230)) else (if x_16 = 20 then ((zZ I_11 S_7.length ∧ (0 : Int32) ≤ 1 ∧ Int32.toNatClampNeg 1 ≤ 100000 ∧ c_8 + 1 ≤ 9 ∧ u_9 + Int32.toNatClampNeg 1 ≤ 4200) ∧ ∀ (S_233 : List zC) (k_234 n_235 : Nat), S_233 = S_7 ++ [.inr (.inl (0, n_235))] → k_234 = S_7.length → n_235 = Int32.toNatClampNeg 1 → (zAt S_233 k_234 n_235 ∧ vp_in 0 n_235) ∧ ∀ I_237, I_237 = (zu I_11 k_234 0 41) → (c_8 + 1 + 1 ≤ 9 ∧ u_9 + n_235 + 1000 ≤ 4200) ∧ w_Law_with v2_5 v2_5n k_234 n_235 S_233 I_237 (fun k_238 n_239 S_240 I_241 => P1045 k_238 n_239 S_240 (c_8 + 1 + 1) (u_9 + n_235 + 1000) I_241)) else (if x_16 = 21 then ((zZ I_11 S_7.length ∧ (0 : Int32) ≤ 1 ∧ Int32.toNatClampNeg 1 ≤ 100000 ∧ c_8 + 1 ≤ 9 ∧ u_9 + Int32.toNatClampNeg 1 ≤ 4200) ∧ ∀ (S_244 : List zC) (k_245 n_246 : Nat), S_244 = S_7 ++ [.inr (.inl (0, n_246))] → k_245 = S_7.length → n_246 = Int32.toNatClampNeg 1 → (zAt S_244 k_245 n_246 ∧ vp_in 0 n_246) ∧ ∀ I_248, I_248 = (zu I_11 k_245 0 59) → (c_8 + 1 + 1 ≤ 9 ∧ u_9 + n_246 + 1000 ≤ 4200) ∧ w_Law_with v2_5 v2_5n k_245 n_246 S_244 I_248 (fun k_249 n_250 S_251 I_252 => P1045 k_249 n_250 S_251 (c_8 + 1 + 1) (u_9 + n_246 + 1000) I_252)) else (if x_16 = 22 then ((zZ I_11 S_7.length ∧ (0 : Int32) ≤ 1 ∧ Int32.toNatClampNeg 1 ≤ 100000 ∧ c_8 + 1 ≤ 9 ∧ u_9 + Int32.toNatClampNeg 1 ≤ 4200) ∧ ∀ (S_255 : List zC) (k_256 n_257 : Nat), S_255 = S_7 ++ [.inr (.inl (0, n_257))] → k_256 = S_7.length → n_257 = Int32.toNatClampNeg 1 → (zAt S_255 k_256 n_257 ∧ vp_in 0 n_257) ∧ ∀ I_259, I_259 = (zu I_11 k_256 0 61) → (c_8 + 1 + 1 ≤ 9 ∧ u_9 + n_257 + 1000 ≤ 4200) ∧ w_Law_with v2_5 v2_5n k_256 n_257 S_255 I_259 (fun k_260 n_261 S_262 I_263 => P1045 k_260 n_261 S_262 (c_8 + 1 + 1) (u_9 + n_257 + 1000) I_263)) else (if x_16 = 23 then ((zZ I_11 S_7.length ∧ (0 : Int32) ≤ 1 ∧ Int32.toNatClampNeg 1 ≤ 100000 ∧ c_8 + 1 ≤ 9 ∧ u_9 + Int32.toNatClampNeg 1 ≤ 4200) ∧ ∀ (S_266 : List zC) (k_267 n_268 : Nat), S_266 = S_7 ++ [.inr (.inl (0, n_268))] → k_267 = S_7.length → n_268 = Int32.toNatClampNeg 1 → (zAt S_266 k_267 n_268 ∧ vp_in 0 n_268) ∧ ∀ I_270, I_270 = (zu I_11 k_267 0 123) → (c_8 + 1 + 1 ≤ 9 ∧ u_9 + n_268 + 1000 ≤ 4200) ∧ w_Law_with v2_5 v2_5n k_267 n_268 S_266 I_270 (fun k_271 n_272 S_273 I_274 => P1045 k_271 n_272 S_273 (c_8 + 1 + 1) (u_9 + n_268 + 1000) I_274)) else (if x_16 = 24 then ((zZ I_11 S_7.length ∧ (0 : Int32) ≤ 1 ∧ Int32.toNatClampNeg 1 ≤ 100000 ∧ c_8 + 1 ≤ 9 ∧ u_9 + Int32.toNatClampNeg 1 ≤ 4200) ∧ ∀ (S_277 : List zC) (k_278 n_279 : Nat), S_277 = S_7 ++ [.inr (.inl (0, n_279))] → k_278 = S_7.length → n_279 = Int32.toNatClampNeg 1 → (zAt S_277 k_278 n_279 ∧ vp_in 0 n_279) ∧ ∀ I_281, I_281 = (zu I_11 k_278 0 125) → (c_8 + 1 + 1 ≤ 9 ∧ u_9 + n_279 + 1000 ≤ 4200) ∧ w_Law_with v2_5 v2_5n k_278 n_279 S_277 I_281 (fun k_282 n_283 S_284 I_285 => P1045 k_282 n_283 S_284 (c_8 + 1 + 1) (u_9 + n_279 + 1000) I_285)) else (if x_16 = 25 then ((zZ I_11 S_7.length ∧ (0 : Int32) ≤ 1 ∧ Int32.toNatClampNeg 1 ≤ 100000 ∧ c_8 + 1 ≤ 9 ∧ u_9 + Int32.toNatClampNeg 1 ≤ 4200) ∧ ∀ (S_288 : List zC) (k_289 n_290 : Nat), S_288 = S_7 ++ [.inr (.inl (0, n_290))] → k_289 = S_7.length → n_290 = Int32.toNatClampNeg 1 → (zAt S_288 k_289 n_290 ∧ vp_in 0 n_290) ∧ ∀ I_292, I_292 = (zu I_11 k_289 0 32) → (c_8 + 1 + 1 ≤ 9 ∧ u_9 + n_290 + 1000 ≤ 4200) ∧ w_Law_with v2_5 v2_5n k_289 n_290 S_288 I_292 (fun k_293 n_294 S_295 I_296 => P1045 k_293 n_294 S_295 (c_8 + 1 + 1) (u_9 + n_290 + 1000) I_296)) else (if x_16 = 26 then ((zZ I_11 S_7.length ∧ (0 : Int32) ≤ 3 ∧ Int32.toNatClampNeg 3 ≤ 100000 ∧ c_8 + 1 ≤ 9 ∧ u_9 + Int32.toNatClampNeg 3 ≤ 4200) ∧ ∀ (S_299 : List zC) (k_300 n_301 : Nat), S_299 = S_7 ++ [.inr (.inl (0, n_301))] → k_300 = S_7.length → n_301 = Int32.toNatClampNeg 3 → (zAt S_299 k_300 n_301 ∧ vp_in 0 n_301) ∧ ∀ I_303, I_303 = (zu I_11 k_300 0 10) → (zAt S_299 k_300 n_301 ∧ vp_in 1 n_301) ∧ ∀ I_304, I_304 = (zu I_303 k_300 1 13) → (zAt S_299 k_300 n_301 ∧ vp_in 2 n_301) ∧ ∀ I_305, I_305 = (zu I_304 k_300 2 9) → (c_8 + 1 + 1 ≤ 9 ∧ u_9 + n_301 + 1000 ≤ 4200) ∧ w_Law_with v2_5 v2_5n k_300 n_301 S_299 I_305 (fun k_306 n_307 S_308 I_309 => P1045 k_306 n_307 S_308 (c_8 + 1 + 1) (u_9 + n_301 + 1000) I_309)) else (if x_16 = 27 then ((zZ I_11 S_7.length ∧ (0 : Int32) ≤ 9 ∧ Int32.toNatClampNeg 9 ≤ 100000 ∧ c_8 + 1 ≤ 9 ∧ u_9 + Int32.toNatClampNeg 9 ≤ 4200) ∧ ∀ (S_312 : List zC) (k_313 n_314 : Nat), S_312 = S_7 ++ [.inr (.inl (0, n_314))] → k_313 = S_7.length → n_314 = Int32.toNatClampNeg 9 → (zAt S_312 k_313 n_314 ∧ vp_in 0 n_314) ∧ ∀ I_316, I_316 = (zu I_11 k_313 0 v5_13) → (zAt S_312 k_313 n_314 ∧ vp_in 1 n_314) ∧ ∀ I_317, I_317 = (zu I_316 k_313 1 v5_13) → (zAt S_312 k_313 n_314 ∧ vp_in 2 n_314) ∧ ∀ I_318, I_318 = (zu I_317 k_313 2 v6_14) → (zAt S_312 k_313 n_314 ∧ vp_in 3 n_314) ∧ ∀ I_319, I_319 = (zu I_318 k_313 3 v5_13) → (zAt S_312 k_313 n_314 ∧ vp_in 4 n_314) ∧ ∀ I_320, I_320 = (zu I_319 k_313 4 v6_14) → (zAt S_312 k_313 n_314 ∧ vp_in 5 n_314) ∧ ∀ I_321, I_321 = (zu I_320 k_313 5 v5_13) → (zAt S_312 k_313 n_314 ∧ vp_in 6 n_314) ∧ ∀ I_322, I_322 = (zu I_321 k_313 6 v5_13) → (zAt S_312 k_313 n_314 ∧ vp_in 7 n_314) ∧ ∀ I_323, I_323 = (zu I_322 k_313 7 v6_14) → (zAt S_312 k_313 n_314 ∧ vp_in 8 n_314) ∧ ∀ I_324, I_324 = (zu I_323 k_313 8 v6_14) → (c_8 + 1 + 1 ≤ 9 ∧ u_9 + n_314 + 1000 ≤ 4200) ∧ w_Law_with v2_5 v2_5n k_313 n_314 S_312 I_324 (fun k_325 n_326 S_327 I_328 => P1045 k_325 n_326 S_327 (c_8 + 1 + 1) (u_9 + n_314 + 1000) I_328)) else (if x_16 = 28 then ((zZ I_11 S_7.length ∧ (0 : Int32) ≤ 5 ∧ Int32.toNatClampNeg 5 ≤ 100000 ∧ c_8 + 1 ≤ 9 ∧ u_9 + Int32.toNatClampNeg 5 ≤ 4200) ∧ ∀ (S_331 : List zC) (k_332 n_333 : Nat), S_331 = S_7 ++ [.inr (.inl (0, n_333))] → k_332 = S_7.length → n_333 = Int32.toNatClampNeg 5 → (zAt S_331 k_332 n_333 ∧ vp_in 0 n_333) ∧ ∀ I_335, I_335 = (zu I_11 k_332 0 v7_15) → (zAt S_331 k_332 n_333 ∧ vp_in 1 n_333) ∧ ∀ I_336, I_336 = (zu I_335 k_332 1 v7_15) → (zAt S_331 k_332 n_333 ∧ vp_in 2 n_333) ∧ ∀ I_337, I_337 = (zu I_336 k_332 2 57) → (zAt S_331 k_332 n_333 ∧ vp_in 3 n_333) ∧ ∀ I_338, I_338 = (zu I_337 k_332 3 48) → (zAt S_331 k_332 n_333 ∧ vp_in 4 n_333) ∧ ∀ I_339, I_339 = (zu I_338 k_332 4 v7_15) → (c_8 + 1 + 1 ≤ 9 ∧ u_9 + n_333 + 1000 ≤ 4200) ∧ w_Law_with v2_5 v2_5n k_332 n_333 S_331 I_339 (fun k_340 n_341 S_342 I_343 => P1045 k_340 n_341 S_342 (c_8 + 1 + 1) (u_9 + n_333 + 1000) I_343)) else (if x_16 = 29 then ((zZ I_11 S_7.length ∧ (0 : Int32) ≤ 1 ∧ Int32.toNatClampNeg 1 ≤ 100000 ∧ c_8 + 1 ≤ 9 ∧ u_9 + Int32.toNatClampNeg 1 ≤ 4200) ∧ ∀ (S_346 : List zC) (k_347 n_348 : Nat), S_346 = S_7 ++ [.inr (.inl (0, n_348))] → k_347 = S_7.length → n_348 = Int32.toNatClampNeg 1 → (zAt S_346 k_347 n_348 ∧ vp_in 0 n_348) ∧ ∀ I_350, I_350 = (zu I_11 k_347 0 63) → (c_8 + 1 + 1 ≤ 9 ∧ u_9 + n_348 + 1000 ≤ 4200) ∧ w_Law_with v2_5 v2_5n k_347 n_348 S_346 I_350 (fun k_351 n_352 S_353 I_354 => P1045 k_351 n_352 S_353 (c_8 + 1 + 1) (u_9 + n_348 + 1000) I_354)) else (if x_16 = 30 then ((zZ I_11 S_7.length ∧ (0 : Int32) ≤ 3 ∧ Int32.toNatClampNeg 3 ≤ 100000 ∧ c_8 + 1 ≤ 9 ∧ u_9 + Int32.toNatClampNeg 3 ≤ 4200) ∧ ∀ (S_357 : List zC) (k_358 n_359 : Nat), S_357 = S_7 ++ [.inr (.inl (0, n_359))] → k_358 = S_7.length → n_359 = Int32.toNatClampNeg 3 → (zAt S_357 k_358 n_359 ∧ vp_in 0 n_359) ∧ ∀ I_361, I_361 = (zu I_11 k_358 0 v7_15) → (zAt S_357 k_358 n_359 ∧ vp_in 1 n_359) ∧ ∀ I_362, I_362 = (zu I_361 k_358 1 v7_15) → (zAt S_357 k_358 n_359 ∧ vp_in 2 n_359) ∧ ∀ I_363, I_363 = (zu I_362 k_358 2 57) → (c_8 + 1 + 1 ≤ 9 ∧ u_9 + n_359 + 1000 ≤ 4200) ∧ w_Law_with v2_5 v2_5n k_358 n_359 S_357 I_363 (fun k_364 n_365 S_366 I_367 => P1045 k_364 n_365 S_366 (c_8 + 1 + 1) (u_9 + n_359 + 1000) I_367)) else ((zZ I_11 S_7.length ∧ (0 : Int32) ≤ 8 ∧ Int32.toNatClampNeg 8 ≤ 100000 ∧ c_8 + 1 ≤ 9 ∧ u_9 + Int32.toNatClampNeg 8 ≤ 4200) ∧ ∀ (S_369 : List zC) (k_370 n_371 : Nat), S_369 = S_7 ++ [.inr (.inl (0, n_371))] → k_370 = S_7.length → n_371 = Int32.toNatClampNeg 8 → (zAt S_369 k_370 n_371 ∧ vp_in 0 n_371) ∧ ∀ I_373, I_373 = (zu I_11 k_370 0 v5_13) → (zAt S_369 k_370 n_371 ∧ vp_in 1 n_371) ∧ ∀ I_374, I_374 = (zu I_373 k_370 1 61) → (zAt S_369 k_370 n_371 ∧ vp_in 2 n_371) ∧ ∀ I_375, I_375 = (zu I_374 k_370 2 v5_13) → (zAt S_369 k_370 n_371 ∧ vp_in 3 n_371) ∧ ∀ I_376, I_376 = (zu I_375 k_370 3 43) → (zAt S_369 k_370 n_371 ∧ vp_in 4 n_371) ∧ ∀ I_377, I_377 = (zu I_376 k_370 4 40) → (zAt S_369 k_370 n_371 ∧ vp_in 5 n_371) ∧ ∀ I_378, I_378 = (zu I_377 k_370 5 v6_14) → (zAt S_369 k_370 n_371 ∧ vp_in 6 n_371) ∧ ∀ I_379, I_379 = (zu I_378 k_370 6 41) → (zAt S_369 k_370 n_371 ∧ vp_in 7 n_371) ∧ ∀ I_380, I_380 = (zu I_379 k_370 7 59) → (c_8 + 1 + 1 ≤ 9 ∧ u_9 + n_371 + 1000 ≤ 4200) ∧ w_Law_with v2_5 v2_5n k_370 n_371 S_369 I_380 (fun k_381 n_382 S_383 I_384 => P1045 k_381 n_382 S_383 (c_8 + 1 + 1) (u_9 + n_371 + 1000) I_384)))))))))))))))))))))))))))))))))))) → P6 v2_5 v2_5n v3_6 S_7 c_8 u_9 I_11) → P6 k_2 n_3 0 S_1 (0 + 1) (0 + n_3) I
theorem dyL_drawn_0 : decode cL_drawn 0 = .ok (.iconst 0, 1) := by decide +kernel
theorem dyL_drawn_1 : decode cL_drawn 1 = .ok (.newarray .int, 2) := by decide +kernel
theorem dyL_drawn_3 : decode cL_drawn 3 = .ok (.astore_n 2, 1) := by decide +kernel
theorem dyL_drawn_4 : decode cL_drawn 4 = .ok (.iconst 0, 1) := by decide +kernel
theorem dyL_drawn_5 : decode cL_drawn 5 = .ok (.istore_n 3, 1) := by decide +kernel
theorem dyL_drawn_6 : decode cL_drawn 6 = .ok (.iload_n 3, 1) := by decide +kernel
theorem dyL_drawn_7 : decode cL_drawn 7 = .ok (.iload_n 1, 1) := by decide +kernel
theorem dyL_drawn_8 : decode cL_drawn 8 = .ok (.if_icmp .ge 1043, 3) := by decide +kernel
theorem dyL_drawn_11 : decode cL_drawn 11 = .ok (.iload_n 0, 1) := by decide +kernel
theorem dyL_drawn_12 : decode cL_drawn 12 = .ok (.iload_n 3, 1) := by decide +kernel
theorem dyL_drawn_13 : decode cL_drawn 13 = .ok (.iconst 3, 1) := by decide +kernel
theorem dyL_drawn_14 : decode cL_drawn 14 = .ok (.iadd, 1) := by decide +kernel
theorem dyL_drawn_15 : decode cL_drawn 15 = .ok (.imul, 1) := by decide +kernel
theorem dyL_drawn_16 : decode cL_drawn 16 = .ok (.bipush 7, 2) := by decide +kernel
theorem dyL_drawn_18 : decode cL_drawn 18 = .ok (.iload_n 3, 1) := by decide +kernel
theorem dyL_drawn_19 : decode cL_drawn 19 = .ok (.imul, 1) := by decide +kernel
theorem dyL_drawn_20 : decode cL_drawn 20 = .ok (.iadd, 1) := by decide +kernel
theorem dyL_drawn_21 : decode cL_drawn 21 = .ok (.iconst 1, 1) := by decide +kernel
theorem dyL_drawn_22 : decode cL_drawn 22 = .ok (.ishr, 1) := by decide +kernel
theorem dyL_drawn_23 : decode cL_drawn 23 = .ok (.istore 4, 2) := by decide +kernel
theorem dyL_drawn_25 : decode cL_drawn 25 = .ok (.bipush 97, 2) := by decide +kernel
theorem dyL_drawn_27 : decode cL_drawn 27 = .ok (.iload 4, 2) := by decide +kernel
theorem dyL_drawn_29 : decode cL_drawn 29 = .ok (.iconst 2, 1) := by decide +kernel
theorem dyL_drawn_30 : decode cL_drawn 30 = .ok (.ishr, 1) := by decide +kernel
theorem dyL_drawn_31 : decode cL_drawn 31 = .ok (.iconst 3, 1) := by decide +kernel
theorem dyL_drawn_32 : decode cL_drawn 32 = .ok (.iand, 1) := by decide +kernel
theorem dyL_drawn_33 : decode cL_drawn 33 = .ok (.iadd, 1) := by decide +kernel
theorem dyL_drawn_34 : decode cL_drawn 34 = .ok (.istore 5, 2) := by decide +kernel
theorem dyL_drawn_36 : decode cL_drawn 36 = .ok (.bipush 97, 2) := by decide +kernel
theorem dyL_drawn_38 : decode cL_drawn 38 = .ok (.iload 4, 2) := by decide +kernel
theorem dyL_drawn_40 : decode cL_drawn 40 = .ok (.iconst 4, 1) := by decide +kernel
theorem dyL_drawn_41 : decode cL_drawn 41 = .ok (.ishr, 1) := by decide +kernel
theorem dyL_drawn_42 : decode cL_drawn 42 = .ok (.iconst 3, 1) := by decide +kernel
theorem dyL_drawn_43 : decode cL_drawn 43 = .ok (.iand, 1) := by decide +kernel
theorem dyL_drawn_44 : decode cL_drawn 44 = .ok (.iadd, 1) := by decide +kernel
theorem dyL_drawn_45 : decode cL_drawn 45 = .ok (.istore 6, 2) := by decide +kernel
theorem dyL_drawn_47 : decode cL_drawn 47 = .ok (.bipush 48, 2) := by decide +kernel
theorem dyL_drawn_49 : decode cL_drawn 49 = .ok (.iload 4, 2) := by decide +kernel
theorem dyL_drawn_51 : decode cL_drawn 51 = .ok (.bipush 6, 2) := by decide +kernel
theorem dyL_drawn_53 : decode cL_drawn 53 = .ok (.ishr, 1) := by decide +kernel
theorem dyL_drawn_54 : decode cL_drawn 54 = .ok (.bipush 7, 2) := by decide +kernel
theorem dyL_drawn_56 : decode cL_drawn 56 = .ok (.iand, 1) := by decide +kernel
theorem dyL_drawn_57 : decode cL_drawn 57 = .ok (.iadd, 1) := by decide +kernel
theorem dyL_drawn_58 : decode cL_drawn 58 = .ok (.istore 7, 2) := by decide +kernel
theorem dyL_drawn_60 : decode cL_drawn 60 = .ok (.iload 4, 2) := by decide +kernel
theorem dyL_drawn_62 : decode cL_drawn 62 = .ok (.bipush 8, 2) := by decide +kernel
theorem dyL_drawn_64 : decode cL_drawn 64 = .ok (.ishr, 1) := by decide +kernel
theorem dyL_drawn_65 : decode cL_drawn 65 = .ok (.bipush 31, 2) := by decide +kernel
theorem dyL_drawn_67 : decode cL_drawn 67 = .ok (.iand, 1) := by decide +kernel
theorem dyL_drawn_68 : decode cL_drawn 68 = .ok (.tableswitch 926 0 30 #[140, 140, 140, 140, 171, 171, 171, 213, 213, 279, 351, 351, 417, 438, 504, 576, 592, 608, 629, 650, 666, 682, 698, 714, 730, 746, 762, 788, 848, 884, 900], 140) := by decide +kernel
theorem dyL_drawn_208 : decode cL_drawn 208 = .ok (.aload_n 2, 1) := by decide +kernel
theorem dyL_drawn_209 : decode cL_drawn 209 = .ok (.iconst 4, 1) := by decide +kernel
theorem dyL_drawn_210 : decode cL_drawn 210 = .ok (.newarray .int, 2) := by decide +kernel
theorem dyL_drawn_212 : decode cL_drawn 212 = .ok (.dup, 1) := by decide +kernel
theorem dyL_drawn_213 : decode cL_drawn 213 = .ok (.iconst 0, 1) := by decide +kernel
theorem dyL_drawn_214 : decode cL_drawn 214 = .ok (.iload 5, 2) := by decide +kernel
theorem dyL_drawn_216 : decode cL_drawn 216 = .ok (.iastore, 1) := by decide +kernel
theorem dyL_drawn_217 : decode cL_drawn 217 = .ok (.dup, 1) := by decide +kernel
theorem dyL_drawn_218 : decode cL_drawn 218 = .ok (.iconst 1, 1) := by decide +kernel
theorem dyL_drawn_219 : decode cL_drawn 219 = .ok (.bipush 61, 2) := by decide +kernel
theorem dyL_drawn_221 : decode cL_drawn 221 = .ok (.iastore, 1) := by decide +kernel
theorem dyL_drawn_222 : decode cL_drawn 222 = .ok (.dup, 1) := by decide +kernel
theorem dyL_drawn_223 : decode cL_drawn 223 = .ok (.iconst 2, 1) := by decide +kernel
theorem dyL_drawn_224 : decode cL_drawn 224 = .ok (.iload 7, 2) := by decide +kernel
theorem dyL_drawn_226 : decode cL_drawn 226 = .ok (.iastore, 1) := by decide +kernel
theorem dyL_drawn_227 : decode cL_drawn 227 = .ok (.dup, 1) := by decide +kernel
theorem dyL_drawn_228 : decode cL_drawn 228 = .ok (.iconst 3, 1) := by decide +kernel
theorem dyL_drawn_229 : decode cL_drawn 229 = .ok (.bipush 59, 2) := by decide +kernel
theorem dyL_drawn_231 : decode cL_drawn 231 = .ok (.iastore, 1) := by decide +kernel
theorem dyL_drawn_232 : decode cL_drawn 232 = .ok (.invokestatic 17, 3) := by decide +kernel
theorem dyL_drawn_235 : decode cL_drawn 235 = .ok (.astore_n 2, 1) := by decide +kernel
theorem dyL_drawn_236 : decode cL_drawn 236 = .ok (.goto 809, 3) := by decide +kernel
theorem dyL_drawn_239 : decode cL_drawn 239 = .ok (.aload_n 2, 1) := by decide +kernel
theorem dyL_drawn_240 : decode cL_drawn 240 = .ok (.bipush 6, 2) := by decide +kernel
theorem dyL_drawn_242 : decode cL_drawn 242 = .ok (.newarray .int, 2) := by decide +kernel
theorem dyL_drawn_244 : decode cL_drawn 244 = .ok (.dup, 1) := by decide +kernel
theorem dyL_drawn_245 : decode cL_drawn 245 = .ok (.iconst 0, 1) := by decide +kernel
theorem dyL_drawn_246 : decode cL_drawn 246 = .ok (.iload 5, 2) := by decide +kernel
theorem dyL_drawn_248 : decode cL_drawn 248 = .ok (.iastore, 1) := by decide +kernel
theorem dyL_drawn_249 : decode cL_drawn 249 = .ok (.dup, 1) := by decide +kernel
theorem dyL_drawn_250 : decode cL_drawn 250 = .ok (.iconst 1, 1) := by decide +kernel
theorem dyL_drawn_251 : decode cL_drawn 251 = .ok (.bipush 61, 2) := by decide +kernel
theorem dyL_drawn_253 : decode cL_drawn 253 = .ok (.iastore, 1) := by decide +kernel
theorem dyL_drawn_254 : decode cL_drawn 254 = .ok (.dup, 1) := by decide +kernel
theorem dyL_drawn_255 : decode cL_drawn 255 = .ok (.iconst 2, 1) := by decide +kernel
theorem dyL_drawn_256 : decode cL_drawn 256 = .ok (.iload 6, 2) := by decide +kernel
theorem dyL_drawn_258 : decode cL_drawn 258 = .ok (.iastore, 1) := by decide +kernel
theorem dyL_drawn_259 : decode cL_drawn 259 = .ok (.dup, 1) := by decide +kernel
theorem dyL_drawn_260 : decode cL_drawn 260 = .ok (.iconst 3, 1) := by decide +kernel
theorem dyL_drawn_261 : decode cL_drawn 261 = .ok (.bipush 43, 2) := by decide +kernel
theorem dyL_drawn_263 : decode cL_drawn 263 = .ok (.iastore, 1) := by decide +kernel
theorem dyL_drawn_264 : decode cL_drawn 264 = .ok (.dup, 1) := by decide +kernel
theorem dyL_drawn_265 : decode cL_drawn 265 = .ok (.iconst 4, 1) := by decide +kernel
theorem dyL_drawn_266 : decode cL_drawn 266 = .ok (.iload 7, 2) := by decide +kernel
theorem dyL_drawn_268 : decode cL_drawn 268 = .ok (.iastore, 1) := by decide +kernel
theorem dyL_drawn_269 : decode cL_drawn 269 = .ok (.dup, 1) := by decide +kernel
theorem dyL_drawn_270 : decode cL_drawn 270 = .ok (.iconst 5, 1) := by decide +kernel
theorem dyL_drawn_271 : decode cL_drawn 271 = .ok (.bipush 59, 2) := by decide +kernel
theorem dyL_drawn_273 : decode cL_drawn 273 = .ok (.iastore, 1) := by decide +kernel
theorem dyL_drawn_274 : decode cL_drawn 274 = .ok (.invokestatic 17, 3) := by decide +kernel
theorem dyL_drawn_277 : decode cL_drawn 277 = .ok (.astore_n 2, 1) := by decide +kernel
theorem dyL_drawn_278 : decode cL_drawn 278 = .ok (.goto 767, 3) := by decide +kernel
theorem dyL_drawn_281 : decode cL_drawn 281 = .ok (.aload_n 2, 1) := by decide +kernel
theorem dyL_drawn_282 : decode cL_drawn 282 = .ok (.bipush 10, 2) := by decide +kernel
theorem dyL_drawn_284 : decode cL_drawn 284 = .ok (.newarray .int, 2) := by decide +kernel
theorem dyL_drawn_286 : decode cL_drawn 286 = .ok (.dup, 1) := by decide +kernel
theorem dyL_drawn_287 : decode cL_drawn 287 = .ok (.iconst 0, 1) := by decide +kernel
theorem dyL_drawn_288 : decode cL_drawn 288 = .ok (.iload 5, 2) := by decide +kernel
theorem dyL_drawn_290 : decode cL_drawn 290 = .ok (.iastore, 1) := by decide +kernel
theorem dyL_drawn_291 : decode cL_drawn 291 = .ok (.dup, 1) := by decide +kernel
theorem dyL_drawn_292 : decode cL_drawn 292 = .ok (.iconst 1, 1) := by decide +kernel
theorem dyL_drawn_293 : decode cL_drawn 293 = .ok (.bipush 61, 2) := by decide +kernel
theorem dyL_drawn_295 : decode cL_drawn 295 = .ok (.iastore, 1) := by decide +kernel
theorem dyL_drawn_296 : decode cL_drawn 296 = .ok (.dup, 1) := by decide +kernel
theorem dyL_drawn_297 : decode cL_drawn 297 = .ok (.iconst 2, 1) := by decide +kernel
theorem dyL_drawn_298 : decode cL_drawn 298 = .ok (.bipush 40, 2) := by decide +kernel
theorem dyL_drawn_300 : decode cL_drawn 300 = .ok (.iastore, 1) := by decide +kernel
theorem dyL_drawn_301 : decode cL_drawn 301 = .ok (.dup, 1) := by decide +kernel
theorem dyL_drawn_302 : decode cL_drawn 302 = .ok (.iconst 3, 1) := by decide +kernel
theorem dyL_drawn_303 : decode cL_drawn 303 = .ok (.iload 6, 2) := by decide +kernel
theorem dyL_drawn_305 : decode cL_drawn 305 = .ok (.iastore, 1) := by decide +kernel
theorem dyL_drawn_306 : decode cL_drawn 306 = .ok (.dup, 1) := by decide +kernel
theorem dyL_drawn_307 : decode cL_drawn 307 = .ok (.iconst 4, 1) := by decide +kernel
theorem dyL_drawn_308 : decode cL_drawn 308 = .ok (.bipush 43, 2) := by decide +kernel
theorem dyL_drawn_310 : decode cL_drawn 310 = .ok (.iastore, 1) := by decide +kernel
theorem dyL_drawn_311 : decode cL_drawn 311 = .ok (.dup, 1) := by decide +kernel
theorem dyL_drawn_312 : decode cL_drawn 312 = .ok (.iconst 5, 1) := by decide +kernel
theorem dyL_drawn_313 : decode cL_drawn 313 = .ok (.iload 7, 2) := by decide +kernel
theorem dyL_drawn_315 : decode cL_drawn 315 = .ok (.iastore, 1) := by decide +kernel
theorem dyL_drawn_316 : decode cL_drawn 316 = .ok (.dup, 1) := by decide +kernel
theorem dyL_drawn_317 : decode cL_drawn 317 = .ok (.bipush 6, 2) := by decide +kernel
theorem dyL_drawn_319 : decode cL_drawn 319 = .ok (.bipush 41, 2) := by decide +kernel
theorem dyL_drawn_321 : decode cL_drawn 321 = .ok (.iastore, 1) := by decide +kernel
theorem dyL_drawn_322 : decode cL_drawn 322 = .ok (.dup, 1) := by decide +kernel
theorem dyL_drawn_323 : decode cL_drawn 323 = .ok (.bipush 7, 2) := by decide +kernel
theorem dyL_drawn_325 : decode cL_drawn 325 = .ok (.bipush 42, 2) := by decide +kernel
theorem dyL_drawn_327 : decode cL_drawn 327 = .ok (.iastore, 1) := by decide +kernel
theorem dyL_drawn_328 : decode cL_drawn 328 = .ok (.dup, 1) := by decide +kernel
theorem dyL_drawn_329 : decode cL_drawn 329 = .ok (.bipush 8, 2) := by decide +kernel
theorem dyL_drawn_331 : decode cL_drawn 331 = .ok (.iload 5, 2) := by decide +kernel
theorem dyL_drawn_333 : decode cL_drawn 333 = .ok (.iastore, 1) := by decide +kernel
theorem dyL_drawn_334 : decode cL_drawn 334 = .ok (.dup, 1) := by decide +kernel
theorem dyL_drawn_335 : decode cL_drawn 335 = .ok (.bipush 9, 2) := by decide +kernel
theorem dyL_drawn_337 : decode cL_drawn 337 = .ok (.bipush 59, 2) := by decide +kernel
theorem dyL_drawn_339 : decode cL_drawn 339 = .ok (.iastore, 1) := by decide +kernel
theorem dyL_drawn_340 : decode cL_drawn 340 = .ok (.invokestatic 17, 3) := by decide +kernel
theorem dyL_drawn_343 : decode cL_drawn 343 = .ok (.astore_n 2, 1) := by decide +kernel
theorem dyL_drawn_344 : decode cL_drawn 344 = .ok (.goto 701, 3) := by decide +kernel
theorem dyL_drawn_347 : decode cL_drawn 347 = .ok (.aload_n 2, 1) := by decide +kernel
theorem dyL_drawn_348 : decode cL_drawn 348 = .ok (.bipush 11, 2) := by decide +kernel
theorem dyL_drawn_350 : decode cL_drawn 350 = .ok (.newarray .int, 2) := by decide +kernel
theorem dyL_drawn_352 : decode cL_drawn 352 = .ok (.dup, 1) := by decide +kernel
theorem dyL_drawn_353 : decode cL_drawn 353 = .ok (.iconst 0, 1) := by decide +kernel
theorem dyL_drawn_354 : decode cL_drawn 354 = .ok (.iload 5, 2) := by decide +kernel
theorem dyL_drawn_356 : decode cL_drawn 356 = .ok (.iastore, 1) := by decide +kernel
theorem dyL_drawn_357 : decode cL_drawn 357 = .ok (.dup, 1) := by decide +kernel
theorem dyL_drawn_358 : decode cL_drawn 358 = .ok (.iconst 1, 1) := by decide +kernel
theorem dyL_drawn_359 : decode cL_drawn 359 = .ok (.bipush 32, 2) := by decide +kernel
theorem dyL_drawn_361 : decode cL_drawn 361 = .ok (.iastore, 1) := by decide +kernel
theorem dyL_drawn_362 : decode cL_drawn 362 = .ok (.dup, 1) := by decide +kernel
theorem dyL_drawn_363 : decode cL_drawn 363 = .ok (.iconst 2, 1) := by decide +kernel
theorem dyL_drawn_364 : decode cL_drawn 364 = .ok (.bipush 61, 2) := by decide +kernel
theorem dyL_drawn_366 : decode cL_drawn 366 = .ok (.iastore, 1) := by decide +kernel
theorem dyL_drawn_367 : decode cL_drawn 367 = .ok (.dup, 1) := by decide +kernel
theorem dyL_drawn_368 : decode cL_drawn 368 = .ok (.iconst 3, 1) := by decide +kernel
theorem dyL_drawn_369 : decode cL_drawn 369 = .ok (.iload 6, 2) := by decide +kernel
theorem dyL_drawn_371 : decode cL_drawn 371 = .ok (.iastore, 1) := by decide +kernel
theorem dyL_drawn_372 : decode cL_drawn 372 = .ok (.dup, 1) := by decide +kernel
theorem dyL_drawn_373 : decode cL_drawn 373 = .ok (.iconst 4, 1) := by decide +kernel
theorem dyL_drawn_374 : decode cL_drawn 374 = .ok (.bipush 42, 2) := by decide +kernel
theorem dyL_drawn_376 : decode cL_drawn 376 = .ok (.iastore, 1) := by decide +kernel
theorem dyL_drawn_377 : decode cL_drawn 377 = .ok (.dup, 1) := by decide +kernel
theorem dyL_drawn_378 : decode cL_drawn 378 = .ok (.iconst 5, 1) := by decide +kernel
theorem dyL_drawn_379 : decode cL_drawn 379 = .ok (.iload 7, 2) := by decide +kernel
theorem dyL_drawn_381 : decode cL_drawn 381 = .ok (.iastore, 1) := by decide +kernel
theorem dyL_drawn_382 : decode cL_drawn 382 = .ok (.dup, 1) := by decide +kernel
theorem dyL_drawn_383 : decode cL_drawn 383 = .ok (.bipush 6, 2) := by decide +kernel
theorem dyL_drawn_385 : decode cL_drawn 385 = .ok (.bipush 43, 2) := by decide +kernel
theorem dyL_drawn_387 : decode cL_drawn 387 = .ok (.iastore, 1) := by decide +kernel
theorem dyL_drawn_388 : decode cL_drawn 388 = .ok (.dup, 1) := by decide +kernel
theorem dyL_drawn_389 : decode cL_drawn 389 = .ok (.bipush 7, 2) := by decide +kernel
theorem dyL_drawn_391 : decode cL_drawn 391 = .ok (.iload 6, 2) := by decide +kernel
theorem dyL_drawn_393 : decode cL_drawn 393 = .ok (.iastore, 1) := by decide +kernel
theorem dyL_drawn_394 : decode cL_drawn 394 = .ok (.dup, 1) := by decide +kernel
theorem dyL_drawn_395 : decode cL_drawn 395 = .ok (.bipush 8, 2) := by decide +kernel
theorem dyL_drawn_397 : decode cL_drawn 397 = .ok (.bipush 42, 2) := by decide +kernel
theorem dyL_drawn_399 : decode cL_drawn 399 = .ok (.iastore, 1) := by decide +kernel
theorem dyL_drawn_400 : decode cL_drawn 400 = .ok (.dup, 1) := by decide +kernel
theorem dyL_drawn_401 : decode cL_drawn 401 = .ok (.bipush 9, 2) := by decide +kernel
theorem dyL_drawn_403 : decode cL_drawn 403 = .ok (.iload 6, 2) := by decide +kernel
theorem dyL_drawn_405 : decode cL_drawn 405 = .ok (.iastore, 1) := by decide +kernel
theorem dyL_drawn_406 : decode cL_drawn 406 = .ok (.dup, 1) := by decide +kernel
theorem dyL_drawn_407 : decode cL_drawn 407 = .ok (.bipush 10, 2) := by decide +kernel
theorem dyL_drawn_409 : decode cL_drawn 409 = .ok (.bipush 59, 2) := by decide +kernel
theorem dyL_drawn_411 : decode cL_drawn 411 = .ok (.iastore, 1) := by decide +kernel
theorem dyL_drawn_412 : decode cL_drawn 412 = .ok (.invokestatic 17, 3) := by decide +kernel
theorem dyL_drawn_415 : decode cL_drawn 415 = .ok (.astore_n 2, 1) := by decide +kernel
theorem dyL_drawn_416 : decode cL_drawn 416 = .ok (.goto 629, 3) := by decide +kernel
theorem dyL_drawn_419 : decode cL_drawn 419 = .ok (.aload_n 2, 1) := by decide +kernel
theorem dyL_drawn_420 : decode cL_drawn 420 = .ok (.bipush 10, 2) := by decide +kernel
theorem dyL_drawn_422 : decode cL_drawn 422 = .ok (.newarray .int, 2) := by decide +kernel
theorem dyL_drawn_424 : decode cL_drawn 424 = .ok (.dup, 1) := by decide +kernel
theorem dyL_drawn_425 : decode cL_drawn 425 = .ok (.iconst 0, 1) := by decide +kernel
theorem dyL_drawn_426 : decode cL_drawn 426 = .ok (.bipush 123, 2) := by decide +kernel
theorem dyL_drawn_428 : decode cL_drawn 428 = .ok (.iastore, 1) := by decide +kernel
theorem dyL_drawn_429 : decode cL_drawn 429 = .ok (.dup, 1) := by decide +kernel
theorem dyL_drawn_430 : decode cL_drawn 430 = .ok (.iconst 1, 1) := by decide +kernel
theorem dyL_drawn_431 : decode cL_drawn 431 = .ok (.iload 5, 2) := by decide +kernel
theorem dyL_drawn_433 : decode cL_drawn 433 = .ok (.iastore, 1) := by decide +kernel
theorem dyL_drawn_434 : decode cL_drawn 434 = .ok (.dup, 1) := by decide +kernel
theorem dyL_drawn_435 : decode cL_drawn 435 = .ok (.iconst 2, 1) := by decide +kernel
theorem dyL_drawn_436 : decode cL_drawn 436 = .ok (.bipush 61, 2) := by decide +kernel
theorem dyL_drawn_438 : decode cL_drawn 438 = .ok (.iastore, 1) := by decide +kernel
theorem dyL_drawn_439 : decode cL_drawn 439 = .ok (.dup, 1) := by decide +kernel
theorem dyL_drawn_440 : decode cL_drawn 440 = .ok (.iconst 3, 1) := by decide +kernel
theorem dyL_drawn_441 : decode cL_drawn 441 = .ok (.iload 7, 2) := by decide +kernel
theorem dyL_drawn_443 : decode cL_drawn 443 = .ok (.iastore, 1) := by decide +kernel
theorem dyL_drawn_444 : decode cL_drawn 444 = .ok (.dup, 1) := by decide +kernel
theorem dyL_drawn_445 : decode cL_drawn 445 = .ok (.iconst 4, 1) := by decide +kernel
theorem dyL_drawn_446 : decode cL_drawn 446 = .ok (.bipush 59, 2) := by decide +kernel
theorem dyL_drawn_448 : decode cL_drawn 448 = .ok (.iastore, 1) := by decide +kernel
theorem dyL_drawn_449 : decode cL_drawn 449 = .ok (.dup, 1) := by decide +kernel
theorem dyL_drawn_450 : decode cL_drawn 450 = .ok (.iconst 5, 1) := by decide +kernel
theorem dyL_drawn_451 : decode cL_drawn 451 = .ok (.iload 6, 2) := by decide +kernel
theorem dyL_drawn_453 : decode cL_drawn 453 = .ok (.iastore, 1) := by decide +kernel
theorem dyL_drawn_454 : decode cL_drawn 454 = .ok (.dup, 1) := by decide +kernel
theorem dyL_drawn_455 : decode cL_drawn 455 = .ok (.bipush 6, 2) := by decide +kernel
theorem dyL_drawn_457 : decode cL_drawn 457 = .ok (.bipush 61, 2) := by decide +kernel
theorem dyL_drawn_459 : decode cL_drawn 459 = .ok (.iastore, 1) := by decide +kernel
theorem dyL_drawn_460 : decode cL_drawn 460 = .ok (.dup, 1) := by decide +kernel
theorem dyL_drawn_461 : decode cL_drawn 461 = .ok (.bipush 7, 2) := by decide +kernel
theorem dyL_drawn_463 : decode cL_drawn 463 = .ok (.iload 5, 2) := by decide +kernel
theorem dyL_drawn_465 : decode cL_drawn 465 = .ok (.iastore, 1) := by decide +kernel
theorem dyL_drawn_466 : decode cL_drawn 466 = .ok (.dup, 1) := by decide +kernel
theorem dyL_drawn_467 : decode cL_drawn 467 = .ok (.bipush 8, 2) := by decide +kernel
theorem dyL_drawn_469 : decode cL_drawn 469 = .ok (.bipush 59, 2) := by decide +kernel
theorem dyL_drawn_471 : decode cL_drawn 471 = .ok (.iastore, 1) := by decide +kernel
theorem dyL_drawn_472 : decode cL_drawn 472 = .ok (.dup, 1) := by decide +kernel
theorem dyL_drawn_473 : decode cL_drawn 473 = .ok (.bipush 9, 2) := by decide +kernel
theorem dyL_drawn_475 : decode cL_drawn 475 = .ok (.bipush 125, 2) := by decide +kernel
theorem dyL_drawn_477 : decode cL_drawn 477 = .ok (.iastore, 1) := by decide +kernel
theorem dyL_drawn_478 : decode cL_drawn 478 = .ok (.invokestatic 17, 3) := by decide +kernel
theorem dyL_drawn_481 : decode cL_drawn 481 = .ok (.astore_n 2, 1) := by decide +kernel
theorem dyL_drawn_482 : decode cL_drawn 482 = .ok (.goto 563, 3) := by decide +kernel
theorem dyL_drawn_485 : decode cL_drawn 485 = .ok (.aload_n 2, 1) := by decide +kernel
theorem dyL_drawn_486 : decode cL_drawn 486 = .ok (.iconst 2, 1) := by decide +kernel
theorem dyL_drawn_487 : decode cL_drawn 487 = .ok (.newarray .int, 2) := by decide +kernel
theorem dyL_drawn_489 : decode cL_drawn 489 = .ok (.dup, 1) := by decide +kernel
theorem dyL_drawn_490 : decode cL_drawn 490 = .ok (.iconst 0, 1) := by decide +kernel
theorem dyL_drawn_491 : decode cL_drawn 491 = .ok (.bipush 123, 2) := by decide +kernel
theorem dyL_drawn_493 : decode cL_drawn 493 = .ok (.iastore, 1) := by decide +kernel
theorem dyL_drawn_494 : decode cL_drawn 494 = .ok (.dup, 1) := by decide +kernel
theorem dyL_drawn_495 : decode cL_drawn 495 = .ok (.iconst 1, 1) := by decide +kernel
theorem dyL_drawn_496 : decode cL_drawn 496 = .ok (.bipush 125, 2) := by decide +kernel
theorem dyL_drawn_498 : decode cL_drawn 498 = .ok (.iastore, 1) := by decide +kernel
theorem dyL_drawn_499 : decode cL_drawn 499 = .ok (.invokestatic 17, 3) := by decide +kernel
theorem dyL_drawn_502 : decode cL_drawn 502 = .ok (.astore_n 2, 1) := by decide +kernel
theorem dyL_drawn_503 : decode cL_drawn 503 = .ok (.goto 542, 3) := by decide +kernel
theorem dyL_drawn_506 : decode cL_drawn 506 = .ok (.aload_n 2, 1) := by decide +kernel
theorem dyL_drawn_507 : decode cL_drawn 507 = .ok (.bipush 10, 2) := by decide +kernel
theorem dyL_drawn_509 : decode cL_drawn 509 = .ok (.newarray .int, 2) := by decide +kernel
theorem dyL_drawn_511 : decode cL_drawn 511 = .ok (.dup, 1) := by decide +kernel
theorem dyL_drawn_512 : decode cL_drawn 512 = .ok (.iconst 0, 1) := by decide +kernel
theorem dyL_drawn_513 : decode cL_drawn 513 = .ok (.iload 5, 2) := by decide +kernel
theorem dyL_drawn_515 : decode cL_drawn 515 = .ok (.iastore, 1) := by decide +kernel
theorem dyL_drawn_516 : decode cL_drawn 516 = .ok (.dup, 1) := by decide +kernel
theorem dyL_drawn_517 : decode cL_drawn 517 = .ok (.iconst 1, 1) := by decide +kernel
theorem dyL_drawn_518 : decode cL_drawn 518 = .ok (.iload 6, 2) := by decide +kernel
theorem dyL_drawn_520 : decode cL_drawn 520 = .ok (.iastore, 1) := by decide +kernel
theorem dyL_drawn_521 : decode cL_drawn 521 = .ok (.dup, 1) := by decide +kernel
theorem dyL_drawn_522 : decode cL_drawn 522 = .ok (.iconst 2, 1) := by decide +kernel
theorem dyL_drawn_523 : decode cL_drawn 523 = .ok (.bipush 61, 2) := by decide +kernel
theorem dyL_drawn_525 : decode cL_drawn 525 = .ok (.iastore, 1) := by decide +kernel
theorem dyL_drawn_526 : decode cL_drawn 526 = .ok (.dup, 1) := by decide +kernel
theorem dyL_drawn_527 : decode cL_drawn 527 = .ok (.iconst 3, 1) := by decide +kernel
theorem dyL_drawn_528 : decode cL_drawn 528 = .ok (.bipush 40, 2) := by decide +kernel
theorem dyL_drawn_530 : decode cL_drawn 530 = .ok (.iastore, 1) := by decide +kernel
theorem dyL_drawn_531 : decode cL_drawn 531 = .ok (.dup, 1) := by decide +kernel
theorem dyL_drawn_532 : decode cL_drawn 532 = .ok (.iconst 4, 1) := by decide +kernel
theorem dyL_drawn_533 : decode cL_drawn 533 = .ok (.bipush 40, 2) := by decide +kernel
theorem dyL_drawn_535 : decode cL_drawn 535 = .ok (.iastore, 1) := by decide +kernel
theorem dyL_drawn_536 : decode cL_drawn 536 = .ok (.dup, 1) := by decide +kernel
theorem dyL_drawn_537 : decode cL_drawn 537 = .ok (.iconst 5, 1) := by decide +kernel
theorem dyL_drawn_538 : decode cL_drawn 538 = .ok (.iload 7, 2) := by decide +kernel
theorem dyL_drawn_540 : decode cL_drawn 540 = .ok (.iastore, 1) := by decide +kernel
theorem dyL_drawn_541 : decode cL_drawn 541 = .ok (.dup, 1) := by decide +kernel
theorem dyL_drawn_542 : decode cL_drawn 542 = .ok (.bipush 6, 2) := by decide +kernel
theorem dyL_drawn_544 : decode cL_drawn 544 = .ok (.iload 7, 2) := by decide +kernel
theorem dyL_drawn_546 : decode cL_drawn 546 = .ok (.iastore, 1) := by decide +kernel
theorem dyL_drawn_547 : decode cL_drawn 547 = .ok (.dup, 1) := by decide +kernel
theorem dyL_drawn_548 : decode cL_drawn 548 = .ok (.bipush 7, 2) := by decide +kernel
theorem dyL_drawn_550 : decode cL_drawn 550 = .ok (.bipush 41, 2) := by decide +kernel
theorem dyL_drawn_552 : decode cL_drawn 552 = .ok (.iastore, 1) := by decide +kernel
theorem dyL_drawn_553 : decode cL_drawn 553 = .ok (.dup, 1) := by decide +kernel
theorem dyL_drawn_554 : decode cL_drawn 554 = .ok (.bipush 8, 2) := by decide +kernel
theorem dyL_drawn_556 : decode cL_drawn 556 = .ok (.bipush 41, 2) := by decide +kernel
theorem dyL_drawn_558 : decode cL_drawn 558 = .ok (.iastore, 1) := by decide +kernel
theorem dyL_drawn_559 : decode cL_drawn 559 = .ok (.dup, 1) := by decide +kernel
theorem dyL_drawn_560 : decode cL_drawn 560 = .ok (.bipush 9, 2) := by decide +kernel
theorem dyL_drawn_562 : decode cL_drawn 562 = .ok (.bipush 59, 2) := by decide +kernel
theorem dyL_drawn_564 : decode cL_drawn 564 = .ok (.iastore, 1) := by decide +kernel
theorem dyL_drawn_565 : decode cL_drawn 565 = .ok (.invokestatic 17, 3) := by decide +kernel
theorem dyL_drawn_568 : decode cL_drawn 568 = .ok (.astore_n 2, 1) := by decide +kernel
theorem dyL_drawn_569 : decode cL_drawn 569 = .ok (.goto 476, 3) := by decide +kernel
theorem dyL_drawn_572 : decode cL_drawn 572 = .ok (.aload_n 2, 1) := by decide +kernel
theorem dyL_drawn_573 : decode cL_drawn 573 = .ok (.bipush 11, 2) := by decide +kernel
theorem dyL_drawn_575 : decode cL_drawn 575 = .ok (.newarray .int, 2) := by decide +kernel
theorem dyL_drawn_577 : decode cL_drawn 577 = .ok (.dup, 1) := by decide +kernel
theorem dyL_drawn_578 : decode cL_drawn 578 = .ok (.iconst 0, 1) := by decide +kernel
theorem dyL_drawn_579 : decode cL_drawn 579 = .ok (.bipush 123, 2) := by decide +kernel
theorem dyL_drawn_581 : decode cL_drawn 581 = .ok (.iastore, 1) := by decide +kernel
theorem dyL_drawn_582 : decode cL_drawn 582 = .ok (.dup, 1) := by decide +kernel
theorem dyL_drawn_583 : decode cL_drawn 583 = .ok (.iconst 1, 1) := by decide +kernel
theorem dyL_drawn_584 : decode cL_drawn 584 = .ok (.bipush 123, 2) := by decide +kernel
theorem dyL_drawn_586 : decode cL_drawn 586 = .ok (.iastore, 1) := by decide +kernel
theorem dyL_drawn_587 : decode cL_drawn 587 = .ok (.dup, 1) := by decide +kernel
theorem dyL_drawn_588 : decode cL_drawn 588 = .ok (.iconst 2, 1) := by decide +kernel
theorem dyL_drawn_589 : decode cL_drawn 589 = .ok (.iload 5, 2) := by decide +kernel
theorem dyL_drawn_591 : decode cL_drawn 591 = .ok (.iastore, 1) := by decide +kernel
theorem dyL_drawn_592 : decode cL_drawn 592 = .ok (.dup, 1) := by decide +kernel
theorem dyL_drawn_593 : decode cL_drawn 593 = .ok (.iconst 3, 1) := by decide +kernel
theorem dyL_drawn_594 : decode cL_drawn 594 = .ok (.bipush 61, 2) := by decide +kernel
theorem dyL_drawn_596 : decode cL_drawn 596 = .ok (.iastore, 1) := by decide +kernel
theorem dyL_drawn_597 : decode cL_drawn 597 = .ok (.dup, 1) := by decide +kernel
theorem dyL_drawn_598 : decode cL_drawn 598 = .ok (.iconst 4, 1) := by decide +kernel
theorem dyL_drawn_599 : decode cL_drawn 599 = .ok (.iload 5, 2) := by decide +kernel
theorem dyL_drawn_601 : decode cL_drawn 601 = .ok (.iastore, 1) := by decide +kernel
theorem dyL_drawn_602 : decode cL_drawn 602 = .ok (.dup, 1) := by decide +kernel
theorem dyL_drawn_603 : decode cL_drawn 603 = .ok (.iconst 5, 1) := by decide +kernel
theorem dyL_drawn_604 : decode cL_drawn 604 = .ok (.bipush 43, 2) := by decide +kernel
theorem dyL_drawn_606 : decode cL_drawn 606 = .ok (.iastore, 1) := by decide +kernel
theorem dyL_drawn_607 : decode cL_drawn 607 = .ok (.dup, 1) := by decide +kernel
theorem dyL_drawn_608 : decode cL_drawn 608 = .ok (.bipush 6, 2) := by decide +kernel
theorem dyL_drawn_610 : decode cL_drawn 610 = .ok (.iload 7, 2) := by decide +kernel
theorem dyL_drawn_612 : decode cL_drawn 612 = .ok (.iastore, 1) := by decide +kernel
theorem dyL_drawn_613 : decode cL_drawn 613 = .ok (.dup, 1) := by decide +kernel
theorem dyL_drawn_614 : decode cL_drawn 614 = .ok (.bipush 7, 2) := by decide +kernel
theorem dyL_drawn_616 : decode cL_drawn 616 = .ok (.bipush 59, 2) := by decide +kernel
theorem dyL_drawn_618 : decode cL_drawn 618 = .ok (.iastore, 1) := by decide +kernel
theorem dyL_drawn_619 : decode cL_drawn 619 = .ok (.dup, 1) := by decide +kernel
theorem dyL_drawn_620 : decode cL_drawn 620 = .ok (.bipush 8, 2) := by decide +kernel
theorem dyL_drawn_622 : decode cL_drawn 622 = .ok (.bipush 125, 2) := by decide +kernel
theorem dyL_drawn_624 : decode cL_drawn 624 = .ok (.iastore, 1) := by decide +kernel
theorem dyL_drawn_625 : decode cL_drawn 625 = .ok (.dup, 1) := by decide +kernel
theorem dyL_drawn_626 : decode cL_drawn 626 = .ok (.bipush 9, 2) := by decide +kernel
theorem dyL_drawn_628 : decode cL_drawn 628 = .ok (.bipush 125, 2) := by decide +kernel
theorem dyL_drawn_630 : decode cL_drawn 630 = .ok (.iastore, 1) := by decide +kernel
theorem dyL_drawn_631 : decode cL_drawn 631 = .ok (.dup, 1) := by decide +kernel
theorem dyL_drawn_632 : decode cL_drawn 632 = .ok (.bipush 10, 2) := by decide +kernel
theorem dyL_drawn_634 : decode cL_drawn 634 = .ok (.bipush 32, 2) := by decide +kernel
theorem dyL_drawn_636 : decode cL_drawn 636 = .ok (.iastore, 1) := by decide +kernel
theorem dyL_drawn_637 : decode cL_drawn 637 = .ok (.invokestatic 17, 3) := by decide +kernel
theorem dyL_drawn_640 : decode cL_drawn 640 = .ok (.astore_n 2, 1) := by decide +kernel
theorem dyL_drawn_641 : decode cL_drawn 641 = .ok (.goto 404, 3) := by decide +kernel
theorem dyL_drawn_644 : decode cL_drawn 644 = .ok (.aload_n 2, 1) := by decide +kernel
theorem dyL_drawn_645 : decode cL_drawn 645 = .ok (.iconst 1, 1) := by decide +kernel
theorem dyL_drawn_646 : decode cL_drawn 646 = .ok (.newarray .int, 2) := by decide +kernel
theorem dyL_drawn_648 : decode cL_drawn 648 = .ok (.dup, 1) := by decide +kernel
theorem dyL_drawn_649 : decode cL_drawn 649 = .ok (.iconst 0, 1) := by decide +kernel
theorem dyL_drawn_650 : decode cL_drawn 650 = .ok (.iload 5, 2) := by decide +kernel
theorem dyL_drawn_652 : decode cL_drawn 652 = .ok (.iastore, 1) := by decide +kernel
theorem dyL_drawn_653 : decode cL_drawn 653 = .ok (.invokestatic 17, 3) := by decide +kernel
theorem dyL_drawn_656 : decode cL_drawn 656 = .ok (.astore_n 2, 1) := by decide +kernel
theorem dyL_drawn_657 : decode cL_drawn 657 = .ok (.goto 388, 3) := by decide +kernel
theorem dyL_drawn_660 : decode cL_drawn 660 = .ok (.aload_n 2, 1) := by decide +kernel
theorem dyL_drawn_661 : decode cL_drawn 661 = .ok (.iconst 1, 1) := by decide +kernel
theorem dyL_drawn_662 : decode cL_drawn 662 = .ok (.newarray .int, 2) := by decide +kernel
theorem dyL_drawn_664 : decode cL_drawn 664 = .ok (.dup, 1) := by decide +kernel
theorem dyL_drawn_665 : decode cL_drawn 665 = .ok (.iconst 0, 1) := by decide +kernel
theorem dyL_drawn_666 : decode cL_drawn 666 = .ok (.iload 7, 2) := by decide +kernel
theorem dyL_drawn_668 : decode cL_drawn 668 = .ok (.iastore, 1) := by decide +kernel
theorem dyL_drawn_669 : decode cL_drawn 669 = .ok (.invokestatic 17, 3) := by decide +kernel
theorem dyL_drawn_672 : decode cL_drawn 672 = .ok (.astore_n 2, 1) := by decide +kernel
theorem dyL_drawn_673 : decode cL_drawn 673 = .ok (.goto 372, 3) := by decide +kernel
theorem dyL_drawn_676 : decode cL_drawn 676 = .ok (.aload_n 2, 1) := by decide +kernel
theorem dyL_drawn_677 : decode cL_drawn 677 = .ok (.iconst 2, 1) := by decide +kernel
theorem dyL_drawn_678 : decode cL_drawn 678 = .ok (.newarray .int, 2) := by decide +kernel
theorem dyL_drawn_680 : decode cL_drawn 680 = .ok (.dup, 1) := by decide +kernel
theorem dyL_drawn_681 : decode cL_drawn 681 = .ok (.iconst 0, 1) := by decide +kernel
theorem dyL_drawn_682 : decode cL_drawn 682 = .ok (.bipush 43, 2) := by decide +kernel
theorem dyL_drawn_684 : decode cL_drawn 684 = .ok (.iastore, 1) := by decide +kernel
theorem dyL_drawn_685 : decode cL_drawn 685 = .ok (.dup, 1) := by decide +kernel
theorem dyL_drawn_686 : decode cL_drawn 686 = .ok (.iconst 1, 1) := by decide +kernel
theorem dyL_drawn_687 : decode cL_drawn 687 = .ok (.iload 5, 2) := by decide +kernel
theorem dyL_drawn_689 : decode cL_drawn 689 = .ok (.iastore, 1) := by decide +kernel
theorem dyL_drawn_690 : decode cL_drawn 690 = .ok (.invokestatic 17, 3) := by decide +kernel
theorem dyL_drawn_693 : decode cL_drawn 693 = .ok (.astore_n 2, 1) := by decide +kernel
theorem dyL_drawn_694 : decode cL_drawn 694 = .ok (.goto 351, 3) := by decide +kernel
theorem dyL_drawn_697 : decode cL_drawn 697 = .ok (.aload_n 2, 1) := by decide +kernel
theorem dyL_drawn_698 : decode cL_drawn 698 = .ok (.iconst 2, 1) := by decide +kernel
theorem dyL_drawn_699 : decode cL_drawn 699 = .ok (.newarray .int, 2) := by decide +kernel
theorem dyL_drawn_701 : decode cL_drawn 701 = .ok (.dup, 1) := by decide +kernel
theorem dyL_drawn_702 : decode cL_drawn 702 = .ok (.iconst 0, 1) := by decide +kernel
theorem dyL_drawn_703 : decode cL_drawn 703 = .ok (.bipush 42, 2) := by decide +kernel
theorem dyL_drawn_705 : decode cL_drawn 705 = .ok (.iastore, 1) := by decide +kernel
theorem dyL_drawn_706 : decode cL_drawn 706 = .ok (.dup, 1) := by decide +kernel
theorem dyL_drawn_707 : decode cL_drawn 707 = .ok (.iconst 1, 1) := by decide +kernel
theorem dyL_drawn_708 : decode cL_drawn 708 = .ok (.iload 6, 2) := by decide +kernel
theorem dyL_drawn_710 : decode cL_drawn 710 = .ok (.iastore, 1) := by decide +kernel
theorem dyL_drawn_711 : decode cL_drawn 711 = .ok (.invokestatic 17, 3) := by decide +kernel
theorem dyL_drawn_714 : decode cL_drawn 714 = .ok (.astore_n 2, 1) := by decide +kernel
theorem dyL_drawn_715 : decode cL_drawn 715 = .ok (.goto 330, 3) := by decide +kernel
theorem dyL_drawn_718 : decode cL_drawn 718 = .ok (.aload_n 2, 1) := by decide +kernel
theorem dyL_drawn_719 : decode cL_drawn 719 = .ok (.iconst 1, 1) := by decide +kernel
theorem dyL_drawn_720 : decode cL_drawn 720 = .ok (.newarray .int, 2) := by decide +kernel
theorem dyL_drawn_722 : decode cL_drawn 722 = .ok (.dup, 1) := by decide +kernel
theorem dyL_drawn_723 : decode cL_drawn 723 = .ok (.iconst 0, 1) := by decide +kernel
theorem dyL_drawn_724 : decode cL_drawn 724 = .ok (.bipush 40, 2) := by decide +kernel
theorem dyL_drawn_726 : decode cL_drawn 726 = .ok (.iastore, 1) := by decide +kernel
theorem dyL_drawn_727 : decode cL_drawn 727 = .ok (.invokestatic 17, 3) := by decide +kernel
theorem dyL_drawn_730 : decode cL_drawn 730 = .ok (.astore_n 2, 1) := by decide +kernel
theorem dyL_drawn_731 : decode cL_drawn 731 = .ok (.goto 314, 3) := by decide +kernel
theorem dyL_drawn_734 : decode cL_drawn 734 = .ok (.aload_n 2, 1) := by decide +kernel
theorem dyL_drawn_735 : decode cL_drawn 735 = .ok (.iconst 1, 1) := by decide +kernel
theorem dyL_drawn_736 : decode cL_drawn 736 = .ok (.newarray .int, 2) := by decide +kernel
theorem dyL_drawn_738 : decode cL_drawn 738 = .ok (.dup, 1) := by decide +kernel
theorem dyL_drawn_739 : decode cL_drawn 739 = .ok (.iconst 0, 1) := by decide +kernel
theorem dyL_drawn_740 : decode cL_drawn 740 = .ok (.bipush 41, 2) := by decide +kernel
theorem dyL_drawn_742 : decode cL_drawn 742 = .ok (.iastore, 1) := by decide +kernel
theorem dyL_drawn_743 : decode cL_drawn 743 = .ok (.invokestatic 17, 3) := by decide +kernel
theorem dyL_drawn_746 : decode cL_drawn 746 = .ok (.astore_n 2, 1) := by decide +kernel
theorem dyL_drawn_747 : decode cL_drawn 747 = .ok (.goto 298, 3) := by decide +kernel
theorem dyL_drawn_750 : decode cL_drawn 750 = .ok (.aload_n 2, 1) := by decide +kernel
theorem dyL_drawn_751 : decode cL_drawn 751 = .ok (.iconst 1, 1) := by decide +kernel
theorem dyL_drawn_752 : decode cL_drawn 752 = .ok (.newarray .int, 2) := by decide +kernel
theorem dyL_drawn_754 : decode cL_drawn 754 = .ok (.dup, 1) := by decide +kernel
theorem dyL_drawn_755 : decode cL_drawn 755 = .ok (.iconst 0, 1) := by decide +kernel
theorem dyL_drawn_756 : decode cL_drawn 756 = .ok (.bipush 59, 2) := by decide +kernel
theorem dyL_drawn_758 : decode cL_drawn 758 = .ok (.iastore, 1) := by decide +kernel
theorem dyL_drawn_759 : decode cL_drawn 759 = .ok (.invokestatic 17, 3) := by decide +kernel
theorem dyL_drawn_762 : decode cL_drawn 762 = .ok (.astore_n 2, 1) := by decide +kernel
theorem dyL_drawn_763 : decode cL_drawn 763 = .ok (.goto 282, 3) := by decide +kernel
theorem dyL_drawn_766 : decode cL_drawn 766 = .ok (.aload_n 2, 1) := by decide +kernel
theorem dyL_drawn_767 : decode cL_drawn 767 = .ok (.iconst 1, 1) := by decide +kernel
theorem dyL_drawn_768 : decode cL_drawn 768 = .ok (.newarray .int, 2) := by decide +kernel
theorem dyL_drawn_770 : decode cL_drawn 770 = .ok (.dup, 1) := by decide +kernel
theorem dyL_drawn_771 : decode cL_drawn 771 = .ok (.iconst 0, 1) := by decide +kernel
theorem dyL_drawn_772 : decode cL_drawn 772 = .ok (.bipush 61, 2) := by decide +kernel
theorem dyL_drawn_774 : decode cL_drawn 774 = .ok (.iastore, 1) := by decide +kernel
theorem dyL_drawn_775 : decode cL_drawn 775 = .ok (.invokestatic 17, 3) := by decide +kernel
theorem dyL_drawn_778 : decode cL_drawn 778 = .ok (.astore_n 2, 1) := by decide +kernel
theorem dyL_drawn_779 : decode cL_drawn 779 = .ok (.goto 266, 3) := by decide +kernel
theorem dyL_drawn_782 : decode cL_drawn 782 = .ok (.aload_n 2, 1) := by decide +kernel
theorem dyL_drawn_783 : decode cL_drawn 783 = .ok (.iconst 1, 1) := by decide +kernel
theorem dyL_drawn_784 : decode cL_drawn 784 = .ok (.newarray .int, 2) := by decide +kernel
theorem dyL_drawn_786 : decode cL_drawn 786 = .ok (.dup, 1) := by decide +kernel
theorem dyL_drawn_787 : decode cL_drawn 787 = .ok (.iconst 0, 1) := by decide +kernel
theorem dyL_drawn_788 : decode cL_drawn 788 = .ok (.bipush 123, 2) := by decide +kernel
theorem dyL_drawn_790 : decode cL_drawn 790 = .ok (.iastore, 1) := by decide +kernel
theorem dyL_drawn_791 : decode cL_drawn 791 = .ok (.invokestatic 17, 3) := by decide +kernel
theorem dyL_drawn_794 : decode cL_drawn 794 = .ok (.astore_n 2, 1) := by decide +kernel
theorem dyL_drawn_795 : decode cL_drawn 795 = .ok (.goto 250, 3) := by decide +kernel
theorem dyL_drawn_798 : decode cL_drawn 798 = .ok (.aload_n 2, 1) := by decide +kernel
theorem dyL_drawn_799 : decode cL_drawn 799 = .ok (.iconst 1, 1) := by decide +kernel
theorem dyL_drawn_800 : decode cL_drawn 800 = .ok (.newarray .int, 2) := by decide +kernel
theorem dyL_drawn_802 : decode cL_drawn 802 = .ok (.dup, 1) := by decide +kernel
theorem dyL_drawn_803 : decode cL_drawn 803 = .ok (.iconst 0, 1) := by decide +kernel
theorem dyL_drawn_804 : decode cL_drawn 804 = .ok (.bipush 125, 2) := by decide +kernel
theorem dyL_drawn_806 : decode cL_drawn 806 = .ok (.iastore, 1) := by decide +kernel
theorem dyL_drawn_807 : decode cL_drawn 807 = .ok (.invokestatic 17, 3) := by decide +kernel
theorem dyL_drawn_810 : decode cL_drawn 810 = .ok (.astore_n 2, 1) := by decide +kernel
theorem dyL_drawn_811 : decode cL_drawn 811 = .ok (.goto 234, 3) := by decide +kernel
theorem dyL_drawn_814 : decode cL_drawn 814 = .ok (.aload_n 2, 1) := by decide +kernel
theorem dyL_drawn_815 : decode cL_drawn 815 = .ok (.iconst 1, 1) := by decide +kernel
theorem dyL_drawn_816 : decode cL_drawn 816 = .ok (.newarray .int, 2) := by decide +kernel
theorem dyL_drawn_818 : decode cL_drawn 818 = .ok (.dup, 1) := by decide +kernel
theorem dyL_drawn_819 : decode cL_drawn 819 = .ok (.iconst 0, 1) := by decide +kernel
theorem dyL_drawn_820 : decode cL_drawn 820 = .ok (.bipush 32, 2) := by decide +kernel
theorem dyL_drawn_822 : decode cL_drawn 822 = .ok (.iastore, 1) := by decide +kernel
theorem dyL_drawn_823 : decode cL_drawn 823 = .ok (.invokestatic 17, 3) := by decide +kernel
theorem dyL_drawn_826 : decode cL_drawn 826 = .ok (.astore_n 2, 1) := by decide +kernel
theorem dyL_drawn_827 : decode cL_drawn 827 = .ok (.goto 218, 3) := by decide +kernel
theorem dyL_drawn_830 : decode cL_drawn 830 = .ok (.aload_n 2, 1) := by decide +kernel
theorem dyL_drawn_831 : decode cL_drawn 831 = .ok (.iconst 3, 1) := by decide +kernel
theorem dyL_drawn_832 : decode cL_drawn 832 = .ok (.newarray .int, 2) := by decide +kernel
theorem dyL_drawn_834 : decode cL_drawn 834 = .ok (.dup, 1) := by decide +kernel
theorem dyL_drawn_835 : decode cL_drawn 835 = .ok (.iconst 0, 1) := by decide +kernel
theorem dyL_drawn_836 : decode cL_drawn 836 = .ok (.bipush 10, 2) := by decide +kernel
theorem dyL_drawn_838 : decode cL_drawn 838 = .ok (.iastore, 1) := by decide +kernel
theorem dyL_drawn_839 : decode cL_drawn 839 = .ok (.dup, 1) := by decide +kernel
theorem dyL_drawn_840 : decode cL_drawn 840 = .ok (.iconst 1, 1) := by decide +kernel
theorem dyL_drawn_841 : decode cL_drawn 841 = .ok (.bipush 13, 2) := by decide +kernel
theorem dyL_drawn_843 : decode cL_drawn 843 = .ok (.iastore, 1) := by decide +kernel
theorem dyL_drawn_844 : decode cL_drawn 844 = .ok (.dup, 1) := by decide +kernel
theorem dyL_drawn_845 : decode cL_drawn 845 = .ok (.iconst 2, 1) := by decide +kernel
theorem dyL_drawn_846 : decode cL_drawn 846 = .ok (.bipush 9, 2) := by decide +kernel
theorem dyL_drawn_848 : decode cL_drawn 848 = .ok (.iastore, 1) := by decide +kernel
theorem dyL_drawn_849 : decode cL_drawn 849 = .ok (.invokestatic 17, 3) := by decide +kernel
theorem dyL_drawn_852 : decode cL_drawn 852 = .ok (.astore_n 2, 1) := by decide +kernel
theorem dyL_drawn_853 : decode cL_drawn 853 = .ok (.goto 192, 3) := by decide +kernel
theorem dyL_drawn_856 : decode cL_drawn 856 = .ok (.aload_n 2, 1) := by decide +kernel
theorem dyL_drawn_857 : decode cL_drawn 857 = .ok (.bipush 9, 2) := by decide +kernel
theorem dyL_drawn_859 : decode cL_drawn 859 = .ok (.newarray .int, 2) := by decide +kernel
theorem dyL_drawn_861 : decode cL_drawn 861 = .ok (.dup, 1) := by decide +kernel
theorem dyL_drawn_862 : decode cL_drawn 862 = .ok (.iconst 0, 1) := by decide +kernel
theorem dyL_drawn_863 : decode cL_drawn 863 = .ok (.iload 5, 2) := by decide +kernel
theorem dyL_drawn_865 : decode cL_drawn 865 = .ok (.iastore, 1) := by decide +kernel
theorem dyL_drawn_866 : decode cL_drawn 866 = .ok (.dup, 1) := by decide +kernel
theorem dyL_drawn_867 : decode cL_drawn 867 = .ok (.iconst 1, 1) := by decide +kernel
theorem dyL_drawn_868 : decode cL_drawn 868 = .ok (.iload 5, 2) := by decide +kernel
theorem dyL_drawn_870 : decode cL_drawn 870 = .ok (.iastore, 1) := by decide +kernel
theorem dyL_drawn_871 : decode cL_drawn 871 = .ok (.dup, 1) := by decide +kernel
theorem dyL_drawn_872 : decode cL_drawn 872 = .ok (.iconst 2, 1) := by decide +kernel
theorem dyL_drawn_873 : decode cL_drawn 873 = .ok (.iload 6, 2) := by decide +kernel
theorem dyL_drawn_875 : decode cL_drawn 875 = .ok (.iastore, 1) := by decide +kernel
theorem dyL_drawn_876 : decode cL_drawn 876 = .ok (.dup, 1) := by decide +kernel
theorem dyL_drawn_877 : decode cL_drawn 877 = .ok (.iconst 3, 1) := by decide +kernel
theorem dyL_drawn_878 : decode cL_drawn 878 = .ok (.iload 5, 2) := by decide +kernel
theorem dyL_drawn_880 : decode cL_drawn 880 = .ok (.iastore, 1) := by decide +kernel
theorem dyL_drawn_881 : decode cL_drawn 881 = .ok (.dup, 1) := by decide +kernel
theorem dyL_drawn_882 : decode cL_drawn 882 = .ok (.iconst 4, 1) := by decide +kernel
theorem dyL_drawn_883 : decode cL_drawn 883 = .ok (.iload 6, 2) := by decide +kernel
theorem dyL_drawn_885 : decode cL_drawn 885 = .ok (.iastore, 1) := by decide +kernel
theorem dyL_drawn_886 : decode cL_drawn 886 = .ok (.dup, 1) := by decide +kernel
theorem dyL_drawn_887 : decode cL_drawn 887 = .ok (.iconst 5, 1) := by decide +kernel
theorem dyL_drawn_888 : decode cL_drawn 888 = .ok (.iload 5, 2) := by decide +kernel
theorem dyL_drawn_890 : decode cL_drawn 890 = .ok (.iastore, 1) := by decide +kernel
theorem dyL_drawn_891 : decode cL_drawn 891 = .ok (.dup, 1) := by decide +kernel
theorem dyL_drawn_892 : decode cL_drawn 892 = .ok (.bipush 6, 2) := by decide +kernel
theorem dyL_drawn_894 : decode cL_drawn 894 = .ok (.iload 5, 2) := by decide +kernel
theorem dyL_drawn_896 : decode cL_drawn 896 = .ok (.iastore, 1) := by decide +kernel
theorem dyL_drawn_897 : decode cL_drawn 897 = .ok (.dup, 1) := by decide +kernel
theorem dyL_drawn_898 : decode cL_drawn 898 = .ok (.bipush 7, 2) := by decide +kernel
theorem dyL_drawn_900 : decode cL_drawn 900 = .ok (.iload 6, 2) := by decide +kernel
theorem dyL_drawn_902 : decode cL_drawn 902 = .ok (.iastore, 1) := by decide +kernel
theorem dyL_drawn_903 : decode cL_drawn 903 = .ok (.dup, 1) := by decide +kernel
theorem dyL_drawn_904 : decode cL_drawn 904 = .ok (.bipush 8, 2) := by decide +kernel
theorem dyL_drawn_906 : decode cL_drawn 906 = .ok (.iload 6, 2) := by decide +kernel
theorem dyL_drawn_908 : decode cL_drawn 908 = .ok (.iastore, 1) := by decide +kernel
theorem dyL_drawn_909 : decode cL_drawn 909 = .ok (.invokestatic 17, 3) := by decide +kernel
theorem dyL_drawn_912 : decode cL_drawn 912 = .ok (.astore_n 2, 1) := by decide +kernel
theorem dyL_drawn_913 : decode cL_drawn 913 = .ok (.goto 132, 3) := by decide +kernel
theorem dyL_drawn_916 : decode cL_drawn 916 = .ok (.aload_n 2, 1) := by decide +kernel
theorem dyL_drawn_917 : decode cL_drawn 917 = .ok (.iconst 5, 1) := by decide +kernel
theorem dyL_drawn_918 : decode cL_drawn 918 = .ok (.newarray .int, 2) := by decide +kernel
theorem dyL_drawn_920 : decode cL_drawn 920 = .ok (.dup, 1) := by decide +kernel
theorem dyL_drawn_921 : decode cL_drawn 921 = .ok (.iconst 0, 1) := by decide +kernel
theorem dyL_drawn_922 : decode cL_drawn 922 = .ok (.iload 7, 2) := by decide +kernel
theorem dyL_drawn_924 : decode cL_drawn 924 = .ok (.iastore, 1) := by decide +kernel
theorem dyL_drawn_925 : decode cL_drawn 925 = .ok (.dup, 1) := by decide +kernel
theorem dyL_drawn_926 : decode cL_drawn 926 = .ok (.iconst 1, 1) := by decide +kernel
theorem dyL_drawn_927 : decode cL_drawn 927 = .ok (.iload 7, 2) := by decide +kernel
theorem dyL_drawn_929 : decode cL_drawn 929 = .ok (.iastore, 1) := by decide +kernel
theorem dyL_drawn_930 : decode cL_drawn 930 = .ok (.dup, 1) := by decide +kernel
theorem dyL_drawn_931 : decode cL_drawn 931 = .ok (.iconst 2, 1) := by decide +kernel
theorem dyL_drawn_932 : decode cL_drawn 932 = .ok (.bipush 57, 2) := by decide +kernel
theorem dyL_drawn_934 : decode cL_drawn 934 = .ok (.iastore, 1) := by decide +kernel
theorem dyL_drawn_935 : decode cL_drawn 935 = .ok (.dup, 1) := by decide +kernel
theorem dyL_drawn_936 : decode cL_drawn 936 = .ok (.iconst 3, 1) := by decide +kernel
theorem dyL_drawn_937 : decode cL_drawn 937 = .ok (.bipush 48, 2) := by decide +kernel
theorem dyL_drawn_939 : decode cL_drawn 939 = .ok (.iastore, 1) := by decide +kernel
theorem dyL_drawn_940 : decode cL_drawn 940 = .ok (.dup, 1) := by decide +kernel
theorem dyL_drawn_941 : decode cL_drawn 941 = .ok (.iconst 4, 1) := by decide +kernel
theorem dyL_drawn_942 : decode cL_drawn 942 = .ok (.iload 7, 2) := by decide +kernel
theorem dyL_drawn_944 : decode cL_drawn 944 = .ok (.iastore, 1) := by decide +kernel
theorem dyL_drawn_945 : decode cL_drawn 945 = .ok (.invokestatic 17, 3) := by decide +kernel
theorem dyL_drawn_948 : decode cL_drawn 948 = .ok (.astore_n 2, 1) := by decide +kernel
theorem dyL_drawn_949 : decode cL_drawn 949 = .ok (.goto 96, 3) := by decide +kernel
theorem dyL_drawn_952 : decode cL_drawn 952 = .ok (.aload_n 2, 1) := by decide +kernel
theorem dyL_drawn_953 : decode cL_drawn 953 = .ok (.iconst 1, 1) := by decide +kernel
theorem dyL_drawn_954 : decode cL_drawn 954 = .ok (.newarray .int, 2) := by decide +kernel
theorem dyL_drawn_956 : decode cL_drawn 956 = .ok (.dup, 1) := by decide +kernel
theorem dyL_drawn_957 : decode cL_drawn 957 = .ok (.iconst 0, 1) := by decide +kernel
theorem dyL_drawn_958 : decode cL_drawn 958 = .ok (.bipush 63, 2) := by decide +kernel
theorem dyL_drawn_960 : decode cL_drawn 960 = .ok (.iastore, 1) := by decide +kernel
theorem dyL_drawn_961 : decode cL_drawn 961 = .ok (.invokestatic 17, 3) := by decide +kernel
theorem dyL_drawn_964 : decode cL_drawn 964 = .ok (.astore_n 2, 1) := by decide +kernel
theorem dyL_drawn_965 : decode cL_drawn 965 = .ok (.goto 80, 3) := by decide +kernel
theorem dyL_drawn_968 : decode cL_drawn 968 = .ok (.aload_n 2, 1) := by decide +kernel
theorem dyL_drawn_969 : decode cL_drawn 969 = .ok (.iconst 3, 1) := by decide +kernel
theorem dyL_drawn_970 : decode cL_drawn 970 = .ok (.newarray .int, 2) := by decide +kernel
theorem dyL_drawn_972 : decode cL_drawn 972 = .ok (.dup, 1) := by decide +kernel
theorem dyL_drawn_973 : decode cL_drawn 973 = .ok (.iconst 0, 1) := by decide +kernel
theorem dyL_drawn_974 : decode cL_drawn 974 = .ok (.iload 7, 2) := by decide +kernel
theorem dyL_drawn_976 : decode cL_drawn 976 = .ok (.iastore, 1) := by decide +kernel
theorem dyL_drawn_977 : decode cL_drawn 977 = .ok (.dup, 1) := by decide +kernel
theorem dyL_drawn_978 : decode cL_drawn 978 = .ok (.iconst 1, 1) := by decide +kernel
theorem dyL_drawn_979 : decode cL_drawn 979 = .ok (.iload 7, 2) := by decide +kernel
theorem dyL_drawn_981 : decode cL_drawn 981 = .ok (.iastore, 1) := by decide +kernel
theorem dyL_drawn_982 : decode cL_drawn 982 = .ok (.dup, 1) := by decide +kernel
theorem dyL_drawn_983 : decode cL_drawn 983 = .ok (.iconst 2, 1) := by decide +kernel
theorem dyL_drawn_984 : decode cL_drawn 984 = .ok (.bipush 57, 2) := by decide +kernel
theorem dyL_drawn_986 : decode cL_drawn 986 = .ok (.iastore, 1) := by decide +kernel
theorem dyL_drawn_987 : decode cL_drawn 987 = .ok (.invokestatic 17, 3) := by decide +kernel
theorem dyL_drawn_990 : decode cL_drawn 990 = .ok (.astore_n 2, 1) := by decide +kernel
theorem dyL_drawn_991 : decode cL_drawn 991 = .ok (.goto 54, 3) := by decide +kernel
theorem dyL_drawn_994 : decode cL_drawn 994 = .ok (.aload_n 2, 1) := by decide +kernel
theorem dyL_drawn_995 : decode cL_drawn 995 = .ok (.bipush 8, 2) := by decide +kernel
theorem dyL_drawn_997 : decode cL_drawn 997 = .ok (.newarray .int, 2) := by decide +kernel
theorem dyL_drawn_999 : decode cL_drawn 999 = .ok (.dup, 1) := by decide +kernel
theorem dyL_drawn_1000 : decode cL_drawn 1000 = .ok (.iconst 0, 1) := by decide +kernel
theorem dyL_drawn_1001 : decode cL_drawn 1001 = .ok (.iload 5, 2) := by decide +kernel
theorem dyL_drawn_1003 : decode cL_drawn 1003 = .ok (.iastore, 1) := by decide +kernel
theorem dyL_drawn_1004 : decode cL_drawn 1004 = .ok (.dup, 1) := by decide +kernel
theorem dyL_drawn_1005 : decode cL_drawn 1005 = .ok (.iconst 1, 1) := by decide +kernel
theorem dyL_drawn_1006 : decode cL_drawn 1006 = .ok (.bipush 61, 2) := by decide +kernel
theorem dyL_drawn_1008 : decode cL_drawn 1008 = .ok (.iastore, 1) := by decide +kernel
theorem dyL_drawn_1009 : decode cL_drawn 1009 = .ok (.dup, 1) := by decide +kernel
theorem dyL_drawn_1010 : decode cL_drawn 1010 = .ok (.iconst 2, 1) := by decide +kernel
theorem dyL_drawn_1011 : decode cL_drawn 1011 = .ok (.iload 5, 2) := by decide +kernel
theorem dyL_drawn_1013 : decode cL_drawn 1013 = .ok (.iastore, 1) := by decide +kernel
theorem dyL_drawn_1014 : decode cL_drawn 1014 = .ok (.dup, 1) := by decide +kernel
theorem dyL_drawn_1015 : decode cL_drawn 1015 = .ok (.iconst 3, 1) := by decide +kernel
theorem dyL_drawn_1016 : decode cL_drawn 1016 = .ok (.bipush 43, 2) := by decide +kernel
theorem dyL_drawn_1018 : decode cL_drawn 1018 = .ok (.iastore, 1) := by decide +kernel
theorem dyL_drawn_1019 : decode cL_drawn 1019 = .ok (.dup, 1) := by decide +kernel
theorem dyL_drawn_1020 : decode cL_drawn 1020 = .ok (.iconst 4, 1) := by decide +kernel
theorem dyL_drawn_1021 : decode cL_drawn 1021 = .ok (.bipush 40, 2) := by decide +kernel
theorem dyL_drawn_1023 : decode cL_drawn 1023 = .ok (.iastore, 1) := by decide +kernel
theorem dyL_drawn_1024 : decode cL_drawn 1024 = .ok (.dup, 1) := by decide +kernel
theorem dyL_drawn_1025 : decode cL_drawn 1025 = .ok (.iconst 5, 1) := by decide +kernel
theorem dyL_drawn_1026 : decode cL_drawn 1026 = .ok (.iload 6, 2) := by decide +kernel
theorem dyL_drawn_1028 : decode cL_drawn 1028 = .ok (.iastore, 1) := by decide +kernel
theorem dyL_drawn_1029 : decode cL_drawn 1029 = .ok (.dup, 1) := by decide +kernel
theorem dyL_drawn_1030 : decode cL_drawn 1030 = .ok (.bipush 6, 2) := by decide +kernel
theorem dyL_drawn_1032 : decode cL_drawn 1032 = .ok (.bipush 41, 2) := by decide +kernel
theorem dyL_drawn_1034 : decode cL_drawn 1034 = .ok (.iastore, 1) := by decide +kernel
theorem dyL_drawn_1035 : decode cL_drawn 1035 = .ok (.dup, 1) := by decide +kernel
theorem dyL_drawn_1036 : decode cL_drawn 1036 = .ok (.bipush 7, 2) := by decide +kernel
theorem dyL_drawn_1038 : decode cL_drawn 1038 = .ok (.bipush 59, 2) := by decide +kernel
theorem dyL_drawn_1040 : decode cL_drawn 1040 = .ok (.iastore, 1) := by decide +kernel
theorem dyL_drawn_1041 : decode cL_drawn 1041 = .ok (.invokestatic 17, 3) := by decide +kernel
theorem dyL_drawn_1044 : decode cL_drawn 1044 = .ok (.astore_n 2, 1) := by decide +kernel
theorem dyL_drawn_1045 : decode cL_drawn 1045 = .ok (.iinc 3 1, 3) := by decide +kernel
theorem dyL_drawn_1048 : decode cL_drawn 1048 = .ok (.goto (-1042), 3) := by decide +kernel
theorem dyL_drawn_1051 : decode cL_drawn 1051 = .ok (.aload_n 2, 1) := by decide +kernel
theorem dyL_drawn_1052 : decode cL_drawn 1052 = .ok (.areturn, 1) := by decide +kernel
theorem zsg_yL_drawn : yL_drawn.cls ≠ "java/lang/invoke/MethodHandle" ∧ yL_drawn.cls ≠ "java/lang/invoke/VarHandle" ∧ (parseMethodDescriptor yL_drawn.desc).map (fun d => d.parameters.length) = some 2 := by decide +kernel
theorem zv_L_17t {p : Program} {l : Launch} {e : Env} {R : Room} {s : State} {m : MethodId} {args : Array Value} {below : List Frame} {meth : Method} {c : Code} {Q : State → Prop} {D : va_G} {B : Nat} {cA : Nat → ClassId} {ad : Nat → Nat} {cc : ByteArray} {nL : Nat} {ret : Option FieldType} {S : List zC} {I : zI} {lv : List (Nat × Value)} {st : List Value} {pc cells slots : Nat} (C : zCx p s m args meth c cc nL RL ret D B cA ad) {S0 : List zC} {MC MS : Nat} {K : Nat → Nat → List zC → zI → Prop} {xa0 : Nat} {xa0n : Nat} {xa1 : Nat} {xa1n : Nat} (g : zGo S0 MC MS S cells slots) (h : w_Law_with xa0 xa0n xa1 xa1n S I K) (hR : 0 + 1 ≤ R.frames ∧ 8 + (4 + 11) + 0 ≤ R.locals) (hw : (st.map fun v => v.category).sum ≤ 8) (hd : decode cc pc = .ok (.invokestatic 17, 3)) (hq : cells + 1 ≤ MC ∧ slots + 1000 ≤ MS) (kk : ∀ (k n : Nat) (S2 : List zC) (I2 : zI), zGo S0 MC MS S2 (cells + 1) (slots + 1000) → K k n S2 I2 → zX p l e R s m args below meth c Q D B cA nL (cells + 1) (slots + 1000) S2 I2 lv (.ref (B + k) :: st) (pc + 3)) (hMC : R.cells = MC := by rfl) (hMS : R.slots = MS := by rfl) : zX p l e R s m args below meth c Q D B cA nL cells slots S I lv (.ref (B + xa1) :: .ref (B + xa0) :: st) pc :=
  zc_SaA C (As := [.ref (B + xa0), .ref (B + xa1)]) (st := st) (c_Law_with g.1 h) (zgM zk_cd_yL_with) zk_ml_L_17 zk_st_yL_with zk_in_L zsg_yL_with hR rfl rfl hw hd ⟨hMC.symm ▸ hq.1, hMS.symm ▸ hq.2⟩ (fun k n S2 I2 hT hK => kk k n S2 I2 (g.call hT hq.1 hq.2) hK)
set_option maxHeartbeats 4000000 in
set_option maxRecDepth 20000 in
theorem c_Law_drawn {l : Launch} {D : va_G} {B : Nat} {cA : Nat → ClassId} {ad : Nat → Nat} {S : List zC} (hS : zOkX S) {a0 : Int32} {a1 : Int32} {I : zI} {K : Nat → Nat → List zC → zI → Prop} (h : w_Law_drawn a0 a1 S I K) : Met l yL_drawn (zws yL_drawn cL_drawn 8 (some (.array .int))) (zrA 1 23 9 4200) (zPc D B cA ad [.int a0, .int a1] S I) (zQc D B cA (zaA B S K)) 9 4200 (fun q => B ≤ q) := by
  refine zm_of (cc := cL_drawn) (maxL := 8) (ret := (some (.array .int))) (by decide +kernel) rfl (Nat.le_of_ble_eq_true rfl) trivial ?_
  intro p e s m args below meth c C _
  unfold w_Law_drawn at h
  have g0 : zGo S 9 4200 S 0 0 := zGo.start hS
  show zX p l e (zrA 1 23 9 4200) s m args below meth c (MQ below (zQc D B cA (zaA B S K)) args s 9 4200 (fun q => B ≤ q)) D B cA 8 0 0 S I [(0, .int a0), (1, .int a1)] [] 0
  refine zr_iconst C dyL_drawn_0 zc_i_0 ?_
  refine za_nn C g0 zk_ac_int rfl rfl h.1 dyL_drawn_1 (fun S_1 k_2 n_3 eS eK eN g_4 => ?_)
  replace h := h.2 S_1 k_2 n_3 eS eK eN
  refine zr_astore_n C dyL_drawn_3 rfl (Nat.le_of_ble_eq_true rfl) (lv2 := [(2, .ref (B + k_2)), (0, .int a0), (1, .int a1)]) rfl ?_
  refine zr_iconst C dyL_drawn_4 zc_i_0 ?_
  refine zr_istore_n C dyL_drawn_5 rfl (Nat.le_of_ble_eq_true rfl) (lv2 := [(3, .int 0), (2, .ref (B + k_2)), (0, .int a0), (1, .int a1)]) rfl ?_
  refine zjn (h (fun (v2_5 : Nat) (v2_5n : Nat) (v3_6 : Int32) (S_7 : List zC) (c_8 : Nat) (u_9 : Nat) (I_11 : zI) => zGo S 9 4200 S_7 c_8 u_9 → zX p l e (zrA 1 23 9 4200) s m args below meth c (MQ below (zQc D B cA (zaA B S K)) args s 9 4200 (fun q => B ≤ q)) D B cA 8 c_8 u_9 S_7 I_11 [(3, .int v3_6), (2, .ref (B + v2_5)), (0, .int a0), (1, .int a1)] [] 6) (fun v2_5 v2_5n v3_6 S_7 c_8 u_9 I_11 h g_10 => ?_)) (fun h => ?_)
  · refine zr_iload_n C dyL_drawn_6 rfl 0 rfl ?_
    refine zr_iload_n C dyL_drawn_7 rfl 3 rfl ?_
    refine zr_icmp_ge C dyL_drawn_8 (tgt := 1051) (by decide) (fun hc_386 => ?_) (fun hc_386 => ?_)
    · replace h := zif_pos hc_386 h
      refine zr_aload_n C dyL_drawn_1051 rfl 1 rfl ?_
      refine zr_widen g_10.2.2.1 g_10.2.2.2 ?_
      exact zr_aretA C rfl dyL_drawn_1052 ⟨g_10.2.1, _, _, rfl, h⟩
    · replace h := zif_neg hc_386 h
      refine zr_iload_n C dyL_drawn_11 rfl 2 rfl ?_
      refine zr_iload_n C dyL_drawn_12 rfl 0 rfl ?_
      refine zr_iconst C dyL_drawn_13 zc_i_3 ?_
      refine zr_iadd C dyL_drawn_14 ?_
      refine zr_imul C dyL_drawn_15 ?_
      refine zr_bipush C dyL_drawn_16 zc_b_7 ?_
      refine zr_iload_n C dyL_drawn_18 rfl 0 rfl ?_
      refine zr_imul C dyL_drawn_19 ?_
      refine zr_iadd C dyL_drawn_20 ?_
      refine zr_iconst C dyL_drawn_21 zc_i_1 ?_
      refine zr_ishr C dyL_drawn_22 ?_
      refine zn_istore C (fun v4_12 => [(4, .int v4_12), (3, .int v3_6), (2, .ref (B + v2_5)), (0, .int a0), (1, .int a1)]) dyL_drawn_23 (Nat.le_of_ble_eq_true rfl) (fun _ => rfl) (fun v4_12 ev4_12 => ?_)
      replace h := h v4_12 ev4_12
      refine zr_bipush C dyL_drawn_25 zc_b_97 ?_
      refine zr_iload C dyL_drawn_27 0 rfl ?_
      refine zr_iconst C dyL_drawn_29 zc_i_2 ?_
      refine zr_ishr C dyL_drawn_30 ?_
      refine zr_iconst C dyL_drawn_31 zc_i_3 ?_
      refine zr_iand C dyL_drawn_32 ?_
      refine zr_iadd C dyL_drawn_33 ?_
      refine zn_istore C (fun v5_13 => [(5, .int v5_13), (4, .int v4_12), (3, .int v3_6), (2, .ref (B + v2_5)), (0, .int a0), (1, .int a1)]) dyL_drawn_34 (Nat.le_of_ble_eq_true rfl) (fun _ => rfl) (fun v5_13 ev5_13 => ?_)
      replace h := h v5_13 ev5_13
      refine zr_bipush C dyL_drawn_36 zc_b_97 ?_
      refine zr_iload C dyL_drawn_38 1 rfl ?_
      refine zr_iconst C dyL_drawn_40 zc_i_4 ?_
      refine zr_ishr C dyL_drawn_41 ?_
      refine zr_iconst C dyL_drawn_42 zc_i_3 ?_
      refine zr_iand C dyL_drawn_43 ?_
      refine zr_iadd C dyL_drawn_44 ?_
      refine zn_istore C (fun v6_14 => [(6, .int v6_14), (5, .int v5_13), (4, .int v4_12), (3, .int v3_6), (2, .ref (B + v2_5)), (0, .int a0), (1, .int a1)]) dyL_drawn_45 (Nat.le_of_ble_eq_true rfl) (fun _ => rfl) (fun v6_14 ev6_14 => ?_)
      replace h := h v6_14 ev6_14
      refine zr_bipush C dyL_drawn_47 zc_b_48 ?_
      refine zr_iload C dyL_drawn_49 2 rfl ?_
      refine zr_bipush C dyL_drawn_51 zc_b_6 ?_
      refine zr_ishr C dyL_drawn_53 ?_
      refine zr_bipush C dyL_drawn_54 zc_b_7 ?_
      refine zr_iand C dyL_drawn_56 ?_
      refine zr_iadd C dyL_drawn_57 ?_
      refine zn_istore C (fun v7_15 => [(7, .int v7_15), (6, .int v6_14), (5, .int v5_13), (4, .int v4_12), (3, .int v3_6), (2, .ref (B + v2_5)), (0, .int a0), (1, .int a1)]) dyL_drawn_58 (Nat.le_of_ble_eq_true rfl) (fun _ => rfl) (fun v7_15 ev7_15 => ?_)
      replace h := h v7_15 ev7_15
      refine zr_iload C dyL_drawn_60 3 rfl ?_
      refine zr_bipush C dyL_drawn_62 zc_b_8 ?_
      refine zr_ishr C dyL_drawn_64 ?_
      refine zr_bipush C dyL_drawn_65 zc_b_31 ?_
      refine zr_iand C dyL_drawn_67 ?_
      refine zn_top C (fun x_16 ex_16 => ?_)
      replace h := h x_16 ex_16
      refine zjn (h (fun (v2_17 : Nat) (v2_17n : Nat) (S_18 : List zC) (c_19 : Nat) (u_20 : Nat) (I_22 : zI) => zGo S 9 4200 S_18 c_19 u_20 → zX p l e (zrA 1 23 9 4200) s m args below meth c (MQ below (zQc D B cA (zaA B S K)) args s 9 4200 (fun q => B ≤ q)) D B cA 8 c_19 u_20 S_18 I_22 [(3, .int v3_6), (2, .ref (B + v2_17)), (0, .int a0), (1, .int a1)] [] 1045) (fun v2_17 v2_17n S_18 c_19 u_20 I_22 h g_21 => ?_)) (fun h => ?_)
      · refine zn_iinc C (fun v3_23 => [(3, .int v3_23), (2, .ref (B + v2_17)), (0, .int a0), (1, .int a1)]) dyL_drawn_1045 0 rfl zc_i_1 (Nat.le_of_ble_eq_true rfl) (fun _ => rfl) (fun v3_23 ev3_23 => ?_)
        replace h := h v3_23 ev3_23
        refine zr_goto C dyL_drawn_1048 (tgt := 6) (by decide) ?_
        exact h g_21
      refine zjn (h (zX p l e (zrA 1 23 9 4200) s m args below meth c (MQ below (zQc D B cA (zaA B S K)) args s 9 4200 (fun q => B ≤ q)) D B cA 8 c_8 u_9 S_7 I_11 [(7, .int v7_15), (5, .int v5_13), (3, .int v3_6), (2, .ref (B + v2_5)), (0, .int a0), (1, .int a1)] [] 208) (fun  h => ?_)) (fun h => ?_)
      · refine zr_aload_n C dyL_drawn_208 rfl 3 rfl ?_
        refine zr_iconst C dyL_drawn_209 zc_i_4 ?_
        refine za_nn C g_10 zk_ac_int rfl rfl h.1 dyL_drawn_210 (fun S_24 k_25 n_26 eS eK eN g_27 => ?_)
        replace h := h.2 S_24 k_25 n_26 eS eK eN
        refine zr_dup C dyL_drawn_212 rfl ?_
        refine zr_iconst C dyL_drawn_213 zc_i_0 ?_
        refine zr_iload C dyL_drawn_214 1 rfl ?_
        refine zr_iast C h.1.1 h.1.2 dyL_drawn_216 ?_
        replace h := h.2
        refine zn_mem C (fun I_28 eI_28 => ?_)
        replace h := h I_28 eI_28
        refine zr_dup C dyL_drawn_217 rfl ?_
        refine zr_iconst C dyL_drawn_218 zc_i_1 ?_
        refine zr_bipush C dyL_drawn_219 zc_b_61 ?_
        refine zr_iast C h.1.1 h.1.2 dyL_drawn_221 ?_
        replace h := h.2
        refine zn_mem C (fun I_29 eI_29 => ?_)
        replace h := h I_29 eI_29
        refine zr_dup C dyL_drawn_222 rfl ?_
        refine zr_iconst C dyL_drawn_223 zc_i_2 ?_
        refine zr_iload C dyL_drawn_224 0 rfl ?_
        refine zr_iast C h.1.1 h.1.2 dyL_drawn_226 ?_
        replace h := h.2
        refine zn_mem C (fun I_30 eI_30 => ?_)
        replace h := h I_30 eI_30
        refine zr_dup C dyL_drawn_227 rfl ?_
        refine zr_iconst C dyL_drawn_228 zc_i_3 ?_
        refine zr_bipush C dyL_drawn_229 zc_b_59 ?_
        refine zr_iast C h.1.1 h.1.2 dyL_drawn_231 ?_
        replace h := h.2
        refine zn_mem C (fun I_31 eI_31 => ?_)
        replace h := h I_31 eI_31
        refine zv_L_17t C g_27 (st := []) h.2 ⟨Nat.le_of_ble_eq_true rfl, Nat.le_of_ble_eq_true rfl⟩ (Nat.le_of_ble_eq_true rfl) dyL_drawn_232 h.1 (fun k_32 n_33 S_34 I_35 g_36 h => ?_)
        refine zr_astore_n C dyL_drawn_235 rfl (Nat.le_of_ble_eq_true rfl) (lv2 := [(2, .ref (B + k_32)), (7, .int v7_15), (5, .int v5_13), (3, .int v3_6), (0, .int a0), (1, .int a1)]) rfl ?_
        refine zr_goto C dyL_drawn_236 (tgt := 1045) (by decide) ?_
        refine zr_sub (lv2 := [(3, .int v3_6), (2, .ref (B + k_32)), (0, .int a0), (1, .int a1)]) [3, 0, 4, 5] rfl ?_
        exact h g_36
      refine zjn (h (zX p l e (zrA 1 23 9 4200) s m args below meth c (MQ below (zQc D B cA (zaA B S K)) args s 9 4200 (fun q => B ≤ q)) D B cA 8 c_8 u_9 S_7 I_11 [(7, .int v7_15), (6, .int v6_14), (5, .int v5_13), (3, .int v3_6), (2, .ref (B + v2_5)), (0, .int a0), (1, .int a1)] [] 239) (fun  h => ?_)) (fun h => ?_)
      · refine zr_aload_n C dyL_drawn_239 rfl 4 rfl ?_
        refine zr_bipush C dyL_drawn_240 zc_b_6 ?_
        refine za_nn C g_10 zk_ac_int rfl rfl h.1 dyL_drawn_242 (fun S_37 k_38 n_39 eS eK eN g_40 => ?_)
        replace h := h.2 S_37 k_38 n_39 eS eK eN
        refine zr_dup C dyL_drawn_244 rfl ?_
        refine zr_iconst C dyL_drawn_245 zc_i_0 ?_
        refine zr_iload C dyL_drawn_246 2 rfl ?_
        refine zr_iast C h.1.1 h.1.2 dyL_drawn_248 ?_
        replace h := h.2
        refine zn_mem C (fun I_41 eI_41 => ?_)
        replace h := h I_41 eI_41
        refine zr_dup C dyL_drawn_249 rfl ?_
        refine zr_iconst C dyL_drawn_250 zc_i_1 ?_
        refine zr_bipush C dyL_drawn_251 zc_b_61 ?_
        refine zr_iast C h.1.1 h.1.2 dyL_drawn_253 ?_
        replace h := h.2
        refine zn_mem C (fun I_42 eI_42 => ?_)
        replace h := h I_42 eI_42
        refine zr_dup C dyL_drawn_254 rfl ?_
        refine zr_iconst C dyL_drawn_255 zc_i_2 ?_
        refine zr_iload C dyL_drawn_256 1 rfl ?_
        refine zr_iast C h.1.1 h.1.2 dyL_drawn_258 ?_
        replace h := h.2
        refine zn_mem C (fun I_43 eI_43 => ?_)
        replace h := h I_43 eI_43
        refine zr_dup C dyL_drawn_259 rfl ?_
        refine zr_iconst C dyL_drawn_260 zc_i_3 ?_
        refine zr_bipush C dyL_drawn_261 zc_b_43 ?_
        refine zr_iast C h.1.1 h.1.2 dyL_drawn_263 ?_
        replace h := h.2
        refine zn_mem C (fun I_44 eI_44 => ?_)
        replace h := h I_44 eI_44
        refine zr_dup C dyL_drawn_264 rfl ?_
        refine zr_iconst C dyL_drawn_265 zc_i_4 ?_
        refine zr_iload C dyL_drawn_266 0 rfl ?_
        refine zr_iast C h.1.1 h.1.2 dyL_drawn_268 ?_
        replace h := h.2
        refine zn_mem C (fun I_45 eI_45 => ?_)
        replace h := h I_45 eI_45
        refine zr_dup C dyL_drawn_269 rfl ?_
        refine zr_iconst C dyL_drawn_270 zc_i_5 ?_
        refine zr_bipush C dyL_drawn_271 zc_b_59 ?_
        refine zr_iast C h.1.1 h.1.2 dyL_drawn_273 ?_
        replace h := h.2
        refine zn_mem C (fun I_46 eI_46 => ?_)
        replace h := h I_46 eI_46
        refine zv_L_17t C g_40 (st := []) h.2 ⟨Nat.le_of_ble_eq_true rfl, Nat.le_of_ble_eq_true rfl⟩ (Nat.le_of_ble_eq_true rfl) dyL_drawn_274 h.1 (fun k_47 n_48 S_49 I_50 g_51 h => ?_)
        refine zr_astore_n C dyL_drawn_277 rfl (Nat.le_of_ble_eq_true rfl) (lv2 := [(2, .ref (B + k_47)), (7, .int v7_15), (6, .int v6_14), (5, .int v5_13), (3, .int v3_6), (0, .int a0), (1, .int a1)]) rfl ?_
        refine zr_goto C dyL_drawn_278 (tgt := 1045) (by decide) ?_
        refine zr_sub (lv2 := [(3, .int v3_6), (2, .ref (B + k_47)), (0, .int a0), (1, .int a1)]) [4, 0, 5, 6] rfl ?_
        exact h g_51
      refine zjn (h (zX p l e (zrA 1 23 9 4200) s m args below meth c (MQ below (zQc D B cA (zaA B S K)) args s 9 4200 (fun q => B ≤ q)) D B cA 8 c_8 u_9 S_7 I_11 [(7, .int v7_15), (6, .int v6_14), (5, .int v5_13), (3, .int v3_6), (2, .ref (B + v2_5)), (0, .int a0), (1, .int a1)] [] 281) (fun  h => ?_)) (fun h => ?_)
      · refine zr_aload_n C dyL_drawn_281 rfl 4 rfl ?_
        refine zr_bipush C dyL_drawn_282 zc_b_10 ?_
        refine za_nn C g_10 zk_ac_int rfl rfl h.1 dyL_drawn_284 (fun S_52 k_53 n_54 eS eK eN g_55 => ?_)
        replace h := h.2 S_52 k_53 n_54 eS eK eN
        refine zr_dup C dyL_drawn_286 rfl ?_
        refine zr_iconst C dyL_drawn_287 zc_i_0 ?_
        refine zr_iload C dyL_drawn_288 2 rfl ?_
        refine zr_iast C h.1.1 h.1.2 dyL_drawn_290 ?_
        replace h := h.2
        refine zn_mem C (fun I_56 eI_56 => ?_)
        replace h := h I_56 eI_56
        refine zr_dup C dyL_drawn_291 rfl ?_
        refine zr_iconst C dyL_drawn_292 zc_i_1 ?_
        refine zr_bipush C dyL_drawn_293 zc_b_61 ?_
        refine zr_iast C h.1.1 h.1.2 dyL_drawn_295 ?_
        replace h := h.2
        refine zn_mem C (fun I_57 eI_57 => ?_)
        replace h := h I_57 eI_57
        refine zr_dup C dyL_drawn_296 rfl ?_
        refine zr_iconst C dyL_drawn_297 zc_i_2 ?_
        refine zr_bipush C dyL_drawn_298 zc_b_40 ?_
        refine zr_iast C h.1.1 h.1.2 dyL_drawn_300 ?_
        replace h := h.2
        refine zn_mem C (fun I_58 eI_58 => ?_)
        replace h := h I_58 eI_58
        refine zr_dup C dyL_drawn_301 rfl ?_
        refine zr_iconst C dyL_drawn_302 zc_i_3 ?_
        refine zr_iload C dyL_drawn_303 1 rfl ?_
        refine zr_iast C h.1.1 h.1.2 dyL_drawn_305 ?_
        replace h := h.2
        refine zn_mem C (fun I_59 eI_59 => ?_)
        replace h := h I_59 eI_59
        refine zr_dup C dyL_drawn_306 rfl ?_
        refine zr_iconst C dyL_drawn_307 zc_i_4 ?_
        refine zr_bipush C dyL_drawn_308 zc_b_43 ?_
        refine zr_iast C h.1.1 h.1.2 dyL_drawn_310 ?_
        replace h := h.2
        refine zn_mem C (fun I_60 eI_60 => ?_)
        replace h := h I_60 eI_60
        refine zr_dup C dyL_drawn_311 rfl ?_
        refine zr_iconst C dyL_drawn_312 zc_i_5 ?_
        refine zr_iload C dyL_drawn_313 0 rfl ?_
        refine zr_iast C h.1.1 h.1.2 dyL_drawn_315 ?_
        replace h := h.2
        refine zn_mem C (fun I_61 eI_61 => ?_)
        replace h := h I_61 eI_61
        refine zr_dup C dyL_drawn_316 rfl ?_
        refine zr_bipush C dyL_drawn_317 zc_b_6 ?_
        refine zr_bipush C dyL_drawn_319 zc_b_41 ?_
        refine zr_iast C h.1.1 h.1.2 dyL_drawn_321 ?_
        replace h := h.2
        refine zn_mem C (fun I_62 eI_62 => ?_)
        replace h := h I_62 eI_62
        refine zr_dup C dyL_drawn_322 rfl ?_
        refine zr_bipush C dyL_drawn_323 zc_b_7 ?_
        refine zr_bipush C dyL_drawn_325 zc_b_42 ?_
        refine zr_iast C h.1.1 h.1.2 dyL_drawn_327 ?_
        replace h := h.2
        refine zn_mem C (fun I_63 eI_63 => ?_)
        replace h := h I_63 eI_63
        refine zr_dup C dyL_drawn_328 rfl ?_
        refine zr_bipush C dyL_drawn_329 zc_b_8 ?_
        refine zr_iload C dyL_drawn_331 2 rfl ?_
        refine zr_iast C h.1.1 h.1.2 dyL_drawn_333 ?_
        replace h := h.2
        refine zn_mem C (fun I_64 eI_64 => ?_)
        replace h := h I_64 eI_64
        refine zr_dup C dyL_drawn_334 rfl ?_
        refine zr_bipush C dyL_drawn_335 zc_b_9 ?_
        refine zr_bipush C dyL_drawn_337 zc_b_59 ?_
        refine zr_iast C h.1.1 h.1.2 dyL_drawn_339 ?_
        replace h := h.2
        refine zn_mem C (fun I_65 eI_65 => ?_)
        replace h := h I_65 eI_65
        refine zv_L_17t C g_55 (st := []) h.2 ⟨Nat.le_of_ble_eq_true rfl, Nat.le_of_ble_eq_true rfl⟩ (Nat.le_of_ble_eq_true rfl) dyL_drawn_340 h.1 (fun k_66 n_67 S_68 I_69 g_70 h => ?_)
        refine zr_astore_n C dyL_drawn_343 rfl (Nat.le_of_ble_eq_true rfl) (lv2 := [(2, .ref (B + k_66)), (7, .int v7_15), (6, .int v6_14), (5, .int v5_13), (3, .int v3_6), (0, .int a0), (1, .int a1)]) rfl ?_
        refine zr_goto C dyL_drawn_344 (tgt := 1045) (by decide) ?_
        refine zr_sub (lv2 := [(3, .int v3_6), (2, .ref (B + k_66)), (0, .int a0), (1, .int a1)]) [4, 0, 5, 6] rfl ?_
        exact h g_70
      refine zjn (h (zX p l e (zrA 1 23 9 4200) s m args below meth c (MQ below (zQc D B cA (zaA B S K)) args s 9 4200 (fun q => B ≤ q)) D B cA 8 c_8 u_9 S_7 I_11 [(7, .int v7_15), (6, .int v6_14), (5, .int v5_13), (3, .int v3_6), (2, .ref (B + v2_5)), (0, .int a0), (1, .int a1)] [] 419) (fun  h => ?_)) (fun h => ?_)
      · refine zr_aload_n C dyL_drawn_419 rfl 4 rfl ?_
        refine zr_bipush C dyL_drawn_420 zc_b_10 ?_
        refine za_nn C g_10 zk_ac_int rfl rfl h.1 dyL_drawn_422 (fun S_71 k_72 n_73 eS eK eN g_74 => ?_)
        replace h := h.2 S_71 k_72 n_73 eS eK eN
        refine zr_dup C dyL_drawn_424 rfl ?_
        refine zr_iconst C dyL_drawn_425 zc_i_0 ?_
        refine zr_bipush C dyL_drawn_426 zc_b_123 ?_
        refine zr_iast C h.1.1 h.1.2 dyL_drawn_428 ?_
        replace h := h.2
        refine zn_mem C (fun I_75 eI_75 => ?_)
        replace h := h I_75 eI_75
        refine zr_dup C dyL_drawn_429 rfl ?_
        refine zr_iconst C dyL_drawn_430 zc_i_1 ?_
        refine zr_iload C dyL_drawn_431 2 rfl ?_
        refine zr_iast C h.1.1 h.1.2 dyL_drawn_433 ?_
        replace h := h.2
        refine zn_mem C (fun I_76 eI_76 => ?_)
        replace h := h I_76 eI_76
        refine zr_dup C dyL_drawn_434 rfl ?_
        refine zr_iconst C dyL_drawn_435 zc_i_2 ?_
        refine zr_bipush C dyL_drawn_436 zc_b_61 ?_
        refine zr_iast C h.1.1 h.1.2 dyL_drawn_438 ?_
        replace h := h.2
        refine zn_mem C (fun I_77 eI_77 => ?_)
        replace h := h I_77 eI_77
        refine zr_dup C dyL_drawn_439 rfl ?_
        refine zr_iconst C dyL_drawn_440 zc_i_3 ?_
        refine zr_iload C dyL_drawn_441 0 rfl ?_
        refine zr_iast C h.1.1 h.1.2 dyL_drawn_443 ?_
        replace h := h.2
        refine zn_mem C (fun I_78 eI_78 => ?_)
        replace h := h I_78 eI_78
        refine zr_dup C dyL_drawn_444 rfl ?_
        refine zr_iconst C dyL_drawn_445 zc_i_4 ?_
        refine zr_bipush C dyL_drawn_446 zc_b_59 ?_
        refine zr_iast C h.1.1 h.1.2 dyL_drawn_448 ?_
        replace h := h.2
        refine zn_mem C (fun I_79 eI_79 => ?_)
        replace h := h I_79 eI_79
        refine zr_dup C dyL_drawn_449 rfl ?_
        refine zr_iconst C dyL_drawn_450 zc_i_5 ?_
        refine zr_iload C dyL_drawn_451 1 rfl ?_
        refine zr_iast C h.1.1 h.1.2 dyL_drawn_453 ?_
        replace h := h.2
        refine zn_mem C (fun I_80 eI_80 => ?_)
        replace h := h I_80 eI_80
        refine zr_dup C dyL_drawn_454 rfl ?_
        refine zr_bipush C dyL_drawn_455 zc_b_6 ?_
        refine zr_bipush C dyL_drawn_457 zc_b_61 ?_
        refine zr_iast C h.1.1 h.1.2 dyL_drawn_459 ?_
        replace h := h.2
        refine zn_mem C (fun I_81 eI_81 => ?_)
        replace h := h I_81 eI_81
        refine zr_dup C dyL_drawn_460 rfl ?_
        refine zr_bipush C dyL_drawn_461 zc_b_7 ?_
        refine zr_iload C dyL_drawn_463 2 rfl ?_
        refine zr_iast C h.1.1 h.1.2 dyL_drawn_465 ?_
        replace h := h.2
        refine zn_mem C (fun I_82 eI_82 => ?_)
        replace h := h I_82 eI_82
        refine zr_dup C dyL_drawn_466 rfl ?_
        refine zr_bipush C dyL_drawn_467 zc_b_8 ?_
        refine zr_bipush C dyL_drawn_469 zc_b_59 ?_
        refine zr_iast C h.1.1 h.1.2 dyL_drawn_471 ?_
        replace h := h.2
        refine zn_mem C (fun I_83 eI_83 => ?_)
        replace h := h I_83 eI_83
        refine zr_dup C dyL_drawn_472 rfl ?_
        refine zr_bipush C dyL_drawn_473 zc_b_9 ?_
        refine zr_bipush C dyL_drawn_475 zc_b_125 ?_
        refine zr_iast C h.1.1 h.1.2 dyL_drawn_477 ?_
        replace h := h.2
        refine zn_mem C (fun I_84 eI_84 => ?_)
        replace h := h I_84 eI_84
        refine zv_L_17t C g_74 (st := []) h.2 ⟨Nat.le_of_ble_eq_true rfl, Nat.le_of_ble_eq_true rfl⟩ (Nat.le_of_ble_eq_true rfl) dyL_drawn_478 h.1 (fun k_85 n_86 S_87 I_88 g_89 h => ?_)
        refine zr_astore_n C dyL_drawn_481 rfl (Nat.le_of_ble_eq_true rfl) (lv2 := [(2, .ref (B + k_85)), (7, .int v7_15), (6, .int v6_14), (5, .int v5_13), (3, .int v3_6), (0, .int a0), (1, .int a1)]) rfl ?_
        refine zr_goto C dyL_drawn_482 (tgt := 1045) (by decide) ?_
        refine zr_sub (lv2 := [(3, .int v3_6), (2, .ref (B + k_85)), (0, .int a0), (1, .int a1)]) [4, 0, 5, 6] rfl ?_
        exact h g_89
      by_cases hc_90 : x_16 = 0
      · replace h := zif_pos hc_90 h
        refine zr_tableIn C dyL_drawn_68 (by rw [hc_90]; decide) (by rw [hc_90]; decide) (off := 140) (by rw [hc_90]; decide) (tgt := 208) (by decide) ?_
        refine zr_sub (lv2 := [(7, .int v7_15), (5, .int v5_13), (3, .int v3_6), (2, .ref (B + v2_5)), (0, .int a0), (1, .int a1)]) [0, 2, 4, 5, 6, 7] rfl ?_
        exact h
      replace h := zif_neg hc_90 h
      by_cases hc_91 : x_16 = 1
      · replace h := zif_pos hc_91 h
        refine zr_tableIn C dyL_drawn_68 (by rw [hc_91]; decide) (by rw [hc_91]; decide) (off := 140) (by rw [hc_91]; decide) (tgt := 208) (by decide) ?_
        refine zr_sub (lv2 := [(7, .int v7_15), (5, .int v5_13), (3, .int v3_6), (2, .ref (B + v2_5)), (0, .int a0), (1, .int a1)]) [0, 2, 4, 5, 6, 7] rfl ?_
        exact h
      replace h := zif_neg hc_91 h
      by_cases hc_92 : x_16 = 2
      · replace h := zif_pos hc_92 h
        refine zr_tableIn C dyL_drawn_68 (by rw [hc_92]; decide) (by rw [hc_92]; decide) (off := 140) (by rw [hc_92]; decide) (tgt := 208) (by decide) ?_
        refine zr_sub (lv2 := [(7, .int v7_15), (5, .int v5_13), (3, .int v3_6), (2, .ref (B + v2_5)), (0, .int a0), (1, .int a1)]) [0, 2, 4, 5, 6, 7] rfl ?_
        exact h
      replace h := zif_neg hc_92 h
      by_cases hc_93 : x_16 = 3
      · replace h := zif_pos hc_93 h
        refine zr_tableIn C dyL_drawn_68 (by rw [hc_93]; decide) (by rw [hc_93]; decide) (off := 140) (by rw [hc_93]; decide) (tgt := 208) (by decide) ?_
        refine zr_sub (lv2 := [(7, .int v7_15), (5, .int v5_13), (3, .int v3_6), (2, .ref (B + v2_5)), (0, .int a0), (1, .int a1)]) [0, 2, 4, 5, 6, 7] rfl ?_
        exact h
      replace h := zif_neg hc_93 h
      by_cases hc_94 : x_16 = 4
      · replace h := zif_pos hc_94 h
        refine zr_tableIn C dyL_drawn_68 (by rw [hc_94]; decide) (by rw [hc_94]; decide) (off := 171) (by rw [hc_94]; decide) (tgt := 239) (by decide) ?_
        refine zr_sub (lv2 := [(7, .int v7_15), (6, .int v6_14), (5, .int v5_13), (3, .int v3_6), (2, .ref (B + v2_5)), (0, .int a0), (1, .int a1)]) [0, 1, 2, 4, 5, 6, 7] rfl ?_
        exact h
      replace h := zif_neg hc_94 h
      by_cases hc_95 : x_16 = 5
      · replace h := zif_pos hc_95 h
        refine zr_tableIn C dyL_drawn_68 (by rw [hc_95]; decide) (by rw [hc_95]; decide) (off := 171) (by rw [hc_95]; decide) (tgt := 239) (by decide) ?_
        refine zr_sub (lv2 := [(7, .int v7_15), (6, .int v6_14), (5, .int v5_13), (3, .int v3_6), (2, .ref (B + v2_5)), (0, .int a0), (1, .int a1)]) [0, 1, 2, 4, 5, 6, 7] rfl ?_
        exact h
      replace h := zif_neg hc_95 h
      by_cases hc_96 : x_16 = 6
      · replace h := zif_pos hc_96 h
        refine zr_tableIn C dyL_drawn_68 (by rw [hc_96]; decide) (by rw [hc_96]; decide) (off := 171) (by rw [hc_96]; decide) (tgt := 239) (by decide) ?_
        refine zr_sub (lv2 := [(7, .int v7_15), (6, .int v6_14), (5, .int v5_13), (3, .int v3_6), (2, .ref (B + v2_5)), (0, .int a0), (1, .int a1)]) [0, 1, 2, 4, 5, 6, 7] rfl ?_
        exact h
      replace h := zif_neg hc_96 h
      by_cases hc_97 : x_16 = 7
      · replace h := zif_pos hc_97 h
        refine zr_tableIn C dyL_drawn_68 (by rw [hc_97]; decide) (by rw [hc_97]; decide) (off := 213) (by rw [hc_97]; decide) (tgt := 281) (by decide) ?_
        refine zr_sub (lv2 := [(7, .int v7_15), (6, .int v6_14), (5, .int v5_13), (3, .int v3_6), (2, .ref (B + v2_5)), (0, .int a0), (1, .int a1)]) [0, 1, 2, 4, 5, 6, 7] rfl ?_
        exact h
      replace h := zif_neg hc_97 h
      by_cases hc_98 : x_16 = 8
      · replace h := zif_pos hc_98 h
        refine zr_tableIn C dyL_drawn_68 (by rw [hc_98]; decide) (by rw [hc_98]; decide) (off := 213) (by rw [hc_98]; decide) (tgt := 281) (by decide) ?_
        refine zr_sub (lv2 := [(7, .int v7_15), (6, .int v6_14), (5, .int v5_13), (3, .int v3_6), (2, .ref (B + v2_5)), (0, .int a0), (1, .int a1)]) [0, 1, 2, 4, 5, 6, 7] rfl ?_
        exact h
      replace h := zif_neg hc_98 h
      by_cases hc_99 : x_16 = 9
      · replace h := zif_pos hc_99 h
        refine zr_tableIn C dyL_drawn_68 (by rw [hc_99]; decide) (by rw [hc_99]; decide) (off := 279) (by rw [hc_99]; decide) (tgt := 347) (by decide) ?_
        refine zr_aload_n C dyL_drawn_347 rfl 5 rfl ?_
        refine zr_bipush C dyL_drawn_348 zc_b_11 ?_
        refine za_nn C g_10 zk_ac_int rfl rfl h.1 dyL_drawn_350 (fun S_100 k_101 n_102 eS eK eN g_103 => ?_)
        replace h := h.2 S_100 k_101 n_102 eS eK eN
        refine zr_dup C dyL_drawn_352 rfl ?_
        refine zr_iconst C dyL_drawn_353 zc_i_0 ?_
        refine zr_iload C dyL_drawn_354 2 rfl ?_
        refine zr_iast C h.1.1 h.1.2 dyL_drawn_356 ?_
        replace h := h.2
        refine zn_mem C (fun I_104 eI_104 => ?_)
        replace h := h I_104 eI_104
        refine zr_dup C dyL_drawn_357 rfl ?_
        refine zr_iconst C dyL_drawn_358 zc_i_1 ?_
        refine zr_bipush C dyL_drawn_359 zc_b_32 ?_
        refine zr_iast C h.1.1 h.1.2 dyL_drawn_361 ?_
        replace h := h.2
        refine zn_mem C (fun I_105 eI_105 => ?_)
        replace h := h I_105 eI_105
        refine zr_dup C dyL_drawn_362 rfl ?_
        refine zr_iconst C dyL_drawn_363 zc_i_2 ?_
        refine zr_bipush C dyL_drawn_364 zc_b_61 ?_
        refine zr_iast C h.1.1 h.1.2 dyL_drawn_366 ?_
        replace h := h.2
        refine zn_mem C (fun I_106 eI_106 => ?_)
        replace h := h I_106 eI_106
        refine zr_dup C dyL_drawn_367 rfl ?_
        refine zr_iconst C dyL_drawn_368 zc_i_3 ?_
        refine zr_iload C dyL_drawn_369 1 rfl ?_
        refine zr_iast C h.1.1 h.1.2 dyL_drawn_371 ?_
        replace h := h.2
        refine zn_mem C (fun I_107 eI_107 => ?_)
        replace h := h I_107 eI_107
        refine zr_dup C dyL_drawn_372 rfl ?_
        refine zr_iconst C dyL_drawn_373 zc_i_4 ?_
        refine zr_bipush C dyL_drawn_374 zc_b_42 ?_
        refine zr_iast C h.1.1 h.1.2 dyL_drawn_376 ?_
        replace h := h.2
        refine zn_mem C (fun I_108 eI_108 => ?_)
        replace h := h I_108 eI_108
        refine zr_dup C dyL_drawn_377 rfl ?_
        refine zr_iconst C dyL_drawn_378 zc_i_5 ?_
        refine zr_iload C dyL_drawn_379 0 rfl ?_
        refine zr_iast C h.1.1 h.1.2 dyL_drawn_381 ?_
        replace h := h.2
        refine zn_mem C (fun I_109 eI_109 => ?_)
        replace h := h I_109 eI_109
        refine zr_dup C dyL_drawn_382 rfl ?_
        refine zr_bipush C dyL_drawn_383 zc_b_6 ?_
        refine zr_bipush C dyL_drawn_385 zc_b_43 ?_
        refine zr_iast C h.1.1 h.1.2 dyL_drawn_387 ?_
        replace h := h.2
        refine zn_mem C (fun I_110 eI_110 => ?_)
        replace h := h I_110 eI_110
        refine zr_dup C dyL_drawn_388 rfl ?_
        refine zr_bipush C dyL_drawn_389 zc_b_7 ?_
        refine zr_iload C dyL_drawn_391 1 rfl ?_
        refine zr_iast C h.1.1 h.1.2 dyL_drawn_393 ?_
        replace h := h.2
        refine zn_mem C (fun I_111 eI_111 => ?_)
        replace h := h I_111 eI_111
        refine zr_dup C dyL_drawn_394 rfl ?_
        refine zr_bipush C dyL_drawn_395 zc_b_8 ?_
        refine zr_bipush C dyL_drawn_397 zc_b_42 ?_
        refine zr_iast C h.1.1 h.1.2 dyL_drawn_399 ?_
        replace h := h.2
        refine zn_mem C (fun I_112 eI_112 => ?_)
        replace h := h I_112 eI_112
        refine zr_dup C dyL_drawn_400 rfl ?_
        refine zr_bipush C dyL_drawn_401 zc_b_9 ?_
        refine zr_iload C dyL_drawn_403 1 rfl ?_
        refine zr_iast C h.1.1 h.1.2 dyL_drawn_405 ?_
        replace h := h.2
        refine zn_mem C (fun I_113 eI_113 => ?_)
        replace h := h I_113 eI_113
        refine zr_dup C dyL_drawn_406 rfl ?_
        refine zr_bipush C dyL_drawn_407 zc_b_10 ?_
        refine zr_bipush C dyL_drawn_409 zc_b_59 ?_
        refine zr_iast C h.1.1 h.1.2 dyL_drawn_411 ?_
        replace h := h.2
        refine zn_mem C (fun I_114 eI_114 => ?_)
        replace h := h I_114 eI_114
        refine zv_L_17t C g_103 (st := []) h.2 ⟨Nat.le_of_ble_eq_true rfl, Nat.le_of_ble_eq_true rfl⟩ (Nat.le_of_ble_eq_true rfl) dyL_drawn_412 h.1 (fun k_115 n_116 S_117 I_118 g_119 h => ?_)
        refine zr_astore_n C dyL_drawn_415 rfl (Nat.le_of_ble_eq_true rfl) (lv2 := [(2, .ref (B + k_115)), (7, .int v7_15), (6, .int v6_14), (5, .int v5_13), (4, .int v4_12), (3, .int v3_6), (0, .int a0), (1, .int a1)]) rfl ?_
        refine zr_goto C dyL_drawn_416 (tgt := 1045) (by decide) ?_
        refine zr_sub (lv2 := [(3, .int v3_6), (2, .ref (B + k_115)), (0, .int a0), (1, .int a1)]) [5, 0, 6, 7] rfl ?_
        exact h g_119
      replace h := zif_neg hc_99 h
      by_cases hc_120 : x_16 = 10
      · replace h := zif_pos hc_120 h
        refine zr_tableIn C dyL_drawn_68 (by rw [hc_120]; decide) (by rw [hc_120]; decide) (off := 351) (by rw [hc_120]; decide) (tgt := 419) (by decide) ?_
        refine zr_sub (lv2 := [(7, .int v7_15), (6, .int v6_14), (5, .int v5_13), (3, .int v3_6), (2, .ref (B + v2_5)), (0, .int a0), (1, .int a1)]) [0, 1, 2, 4, 5, 6, 7] rfl ?_
        exact h
      replace h := zif_neg hc_120 h
      by_cases hc_121 : x_16 = 11
      · replace h := zif_pos hc_121 h
        refine zr_tableIn C dyL_drawn_68 (by rw [hc_121]; decide) (by rw [hc_121]; decide) (off := 351) (by rw [hc_121]; decide) (tgt := 419) (by decide) ?_
        refine zr_sub (lv2 := [(7, .int v7_15), (6, .int v6_14), (5, .int v5_13), (3, .int v3_6), (2, .ref (B + v2_5)), (0, .int a0), (1, .int a1)]) [0, 1, 2, 4, 5, 6, 7] rfl ?_
        exact h
      replace h := zif_neg hc_121 h
      by_cases hc_122 : x_16 = 12
      · replace h := zif_pos hc_122 h
        refine zr_tableIn C dyL_drawn_68 (by rw [hc_122]; decide) (by rw [hc_122]; decide) (off := 417) (by rw [hc_122]; decide) (tgt := 485) (by decide) ?_
        refine zr_aload_n C dyL_drawn_485 rfl 5 rfl ?_
        refine zr_iconst C dyL_drawn_486 zc_i_2 ?_
        refine za_nn C g_10 zk_ac_int rfl rfl h.1 dyL_drawn_487 (fun S_123 k_124 n_125 eS eK eN g_126 => ?_)
        replace h := h.2 S_123 k_124 n_125 eS eK eN
        refine zr_dup C dyL_drawn_489 rfl ?_
        refine zr_iconst C dyL_drawn_490 zc_i_0 ?_
        refine zr_bipush C dyL_drawn_491 zc_b_123 ?_
        refine zr_iast C h.1.1 h.1.2 dyL_drawn_493 ?_
        replace h := h.2
        refine zn_mem C (fun I_127 eI_127 => ?_)
        replace h := h I_127 eI_127
        refine zr_dup C dyL_drawn_494 rfl ?_
        refine zr_iconst C dyL_drawn_495 zc_i_1 ?_
        refine zr_bipush C dyL_drawn_496 zc_b_125 ?_
        refine zr_iast C h.1.1 h.1.2 dyL_drawn_498 ?_
        replace h := h.2
        refine zn_mem C (fun I_128 eI_128 => ?_)
        replace h := h I_128 eI_128
        refine zv_L_17t C g_126 (st := []) h.2 ⟨Nat.le_of_ble_eq_true rfl, Nat.le_of_ble_eq_true rfl⟩ (Nat.le_of_ble_eq_true rfl) dyL_drawn_499 h.1 (fun k_129 n_130 S_131 I_132 g_133 h => ?_)
        refine zr_astore_n C dyL_drawn_502 rfl (Nat.le_of_ble_eq_true rfl) (lv2 := [(2, .ref (B + k_129)), (7, .int v7_15), (6, .int v6_14), (5, .int v5_13), (4, .int v4_12), (3, .int v3_6), (0, .int a0), (1, .int a1)]) rfl ?_
        refine zr_goto C dyL_drawn_503 (tgt := 1045) (by decide) ?_
        refine zr_sub (lv2 := [(3, .int v3_6), (2, .ref (B + k_129)), (0, .int a0), (1, .int a1)]) [5, 0, 6, 7] rfl ?_
        exact h g_133
      replace h := zif_neg hc_122 h
      by_cases hc_134 : x_16 = 13
      · replace h := zif_pos hc_134 h
        refine zr_tableIn C dyL_drawn_68 (by rw [hc_134]; decide) (by rw [hc_134]; decide) (off := 438) (by rw [hc_134]; decide) (tgt := 506) (by decide) ?_
        refine zr_aload_n C dyL_drawn_506 rfl 5 rfl ?_
        refine zr_bipush C dyL_drawn_507 zc_b_10 ?_
        refine za_nn C g_10 zk_ac_int rfl rfl h.1 dyL_drawn_509 (fun S_135 k_136 n_137 eS eK eN g_138 => ?_)
        replace h := h.2 S_135 k_136 n_137 eS eK eN
        refine zr_dup C dyL_drawn_511 rfl ?_
        refine zr_iconst C dyL_drawn_512 zc_i_0 ?_
        refine zr_iload C dyL_drawn_513 2 rfl ?_
        refine zr_iast C h.1.1 h.1.2 dyL_drawn_515 ?_
        replace h := h.2
        refine zn_mem C (fun I_139 eI_139 => ?_)
        replace h := h I_139 eI_139
        refine zr_dup C dyL_drawn_516 rfl ?_
        refine zr_iconst C dyL_drawn_517 zc_i_1 ?_
        refine zr_iload C dyL_drawn_518 1 rfl ?_
        refine zr_iast C h.1.1 h.1.2 dyL_drawn_520 ?_
        replace h := h.2
        refine zn_mem C (fun I_140 eI_140 => ?_)
        replace h := h I_140 eI_140
        refine zr_dup C dyL_drawn_521 rfl ?_
        refine zr_iconst C dyL_drawn_522 zc_i_2 ?_
        refine zr_bipush C dyL_drawn_523 zc_b_61 ?_
        refine zr_iast C h.1.1 h.1.2 dyL_drawn_525 ?_
        replace h := h.2
        refine zn_mem C (fun I_141 eI_141 => ?_)
        replace h := h I_141 eI_141
        refine zr_dup C dyL_drawn_526 rfl ?_
        refine zr_iconst C dyL_drawn_527 zc_i_3 ?_
        refine zr_bipush C dyL_drawn_528 zc_b_40 ?_
        refine zr_iast C h.1.1 h.1.2 dyL_drawn_530 ?_
        replace h := h.2
        refine zn_mem C (fun I_142 eI_142 => ?_)
        replace h := h I_142 eI_142
        refine zr_dup C dyL_drawn_531 rfl ?_
        refine zr_iconst C dyL_drawn_532 zc_i_4 ?_
        refine zr_bipush C dyL_drawn_533 zc_b_40 ?_
        refine zr_iast C h.1.1 h.1.2 dyL_drawn_535 ?_
        replace h := h.2
        refine zn_mem C (fun I_143 eI_143 => ?_)
        replace h := h I_143 eI_143
        refine zr_dup C dyL_drawn_536 rfl ?_
        refine zr_iconst C dyL_drawn_537 zc_i_5 ?_
        refine zr_iload C dyL_drawn_538 0 rfl ?_
        refine zr_iast C h.1.1 h.1.2 dyL_drawn_540 ?_
        replace h := h.2
        refine zn_mem C (fun I_144 eI_144 => ?_)
        replace h := h I_144 eI_144
        refine zr_dup C dyL_drawn_541 rfl ?_
        refine zr_bipush C dyL_drawn_542 zc_b_6 ?_
        refine zr_iload C dyL_drawn_544 0 rfl ?_
        refine zr_iast C h.1.1 h.1.2 dyL_drawn_546 ?_
        replace h := h.2
        refine zn_mem C (fun I_145 eI_145 => ?_)
        replace h := h I_145 eI_145
        refine zr_dup C dyL_drawn_547 rfl ?_
        refine zr_bipush C dyL_drawn_548 zc_b_7 ?_
        refine zr_bipush C dyL_drawn_550 zc_b_41 ?_
        refine zr_iast C h.1.1 h.1.2 dyL_drawn_552 ?_
        replace h := h.2
        refine zn_mem C (fun I_146 eI_146 => ?_)
        replace h := h I_146 eI_146
        refine zr_dup C dyL_drawn_553 rfl ?_
        refine zr_bipush C dyL_drawn_554 zc_b_8 ?_
        refine zr_bipush C dyL_drawn_556 zc_b_41 ?_
        refine zr_iast C h.1.1 h.1.2 dyL_drawn_558 ?_
        replace h := h.2
        refine zn_mem C (fun I_147 eI_147 => ?_)
        replace h := h I_147 eI_147
        refine zr_dup C dyL_drawn_559 rfl ?_
        refine zr_bipush C dyL_drawn_560 zc_b_9 ?_
        refine zr_bipush C dyL_drawn_562 zc_b_59 ?_
        refine zr_iast C h.1.1 h.1.2 dyL_drawn_564 ?_
        replace h := h.2
        refine zn_mem C (fun I_148 eI_148 => ?_)
        replace h := h I_148 eI_148
        refine zv_L_17t C g_138 (st := []) h.2 ⟨Nat.le_of_ble_eq_true rfl, Nat.le_of_ble_eq_true rfl⟩ (Nat.le_of_ble_eq_true rfl) dyL_drawn_565 h.1 (fun k_149 n_150 S_151 I_152 g_153 h => ?_)
        refine zr_astore_n C dyL_drawn_568 rfl (Nat.le_of_ble_eq_true rfl) (lv2 := [(2, .ref (B + k_149)), (7, .int v7_15), (6, .int v6_14), (5, .int v5_13), (4, .int v4_12), (3, .int v3_6), (0, .int a0), (1, .int a1)]) rfl ?_
        refine zr_goto C dyL_drawn_569 (tgt := 1045) (by decide) ?_
        refine zr_sub (lv2 := [(3, .int v3_6), (2, .ref (B + k_149)), (0, .int a0), (1, .int a1)]) [5, 0, 6, 7] rfl ?_
        exact h g_153
      replace h := zif_neg hc_134 h
      by_cases hc_154 : x_16 = 14
      · replace h := zif_pos hc_154 h
        refine zr_tableIn C dyL_drawn_68 (by rw [hc_154]; decide) (by rw [hc_154]; decide) (off := 504) (by rw [hc_154]; decide) (tgt := 572) (by decide) ?_
        refine zr_aload_n C dyL_drawn_572 rfl 5 rfl ?_
        refine zr_bipush C dyL_drawn_573 zc_b_11 ?_
        refine za_nn C g_10 zk_ac_int rfl rfl h.1 dyL_drawn_575 (fun S_155 k_156 n_157 eS eK eN g_158 => ?_)
        replace h := h.2 S_155 k_156 n_157 eS eK eN
        refine zr_dup C dyL_drawn_577 rfl ?_
        refine zr_iconst C dyL_drawn_578 zc_i_0 ?_
        refine zr_bipush C dyL_drawn_579 zc_b_123 ?_
        refine zr_iast C h.1.1 h.1.2 dyL_drawn_581 ?_
        replace h := h.2
        refine zn_mem C (fun I_159 eI_159 => ?_)
        replace h := h I_159 eI_159
        refine zr_dup C dyL_drawn_582 rfl ?_
        refine zr_iconst C dyL_drawn_583 zc_i_1 ?_
        refine zr_bipush C dyL_drawn_584 zc_b_123 ?_
        refine zr_iast C h.1.1 h.1.2 dyL_drawn_586 ?_
        replace h := h.2
        refine zn_mem C (fun I_160 eI_160 => ?_)
        replace h := h I_160 eI_160
        refine zr_dup C dyL_drawn_587 rfl ?_
        refine zr_iconst C dyL_drawn_588 zc_i_2 ?_
        refine zr_iload C dyL_drawn_589 2 rfl ?_
        refine zr_iast C h.1.1 h.1.2 dyL_drawn_591 ?_
        replace h := h.2
        refine zn_mem C (fun I_161 eI_161 => ?_)
        replace h := h I_161 eI_161
        refine zr_dup C dyL_drawn_592 rfl ?_
        refine zr_iconst C dyL_drawn_593 zc_i_3 ?_
        refine zr_bipush C dyL_drawn_594 zc_b_61 ?_
        refine zr_iast C h.1.1 h.1.2 dyL_drawn_596 ?_
        replace h := h.2
        refine zn_mem C (fun I_162 eI_162 => ?_)
        replace h := h I_162 eI_162
        refine zr_dup C dyL_drawn_597 rfl ?_
        refine zr_iconst C dyL_drawn_598 zc_i_4 ?_
        refine zr_iload C dyL_drawn_599 2 rfl ?_
        refine zr_iast C h.1.1 h.1.2 dyL_drawn_601 ?_
        replace h := h.2
        refine zn_mem C (fun I_163 eI_163 => ?_)
        replace h := h I_163 eI_163
        refine zr_dup C dyL_drawn_602 rfl ?_
        refine zr_iconst C dyL_drawn_603 zc_i_5 ?_
        refine zr_bipush C dyL_drawn_604 zc_b_43 ?_
        refine zr_iast C h.1.1 h.1.2 dyL_drawn_606 ?_
        replace h := h.2
        refine zn_mem C (fun I_164 eI_164 => ?_)
        replace h := h I_164 eI_164
        refine zr_dup C dyL_drawn_607 rfl ?_
        refine zr_bipush C dyL_drawn_608 zc_b_6 ?_
        refine zr_iload C dyL_drawn_610 0 rfl ?_
        refine zr_iast C h.1.1 h.1.2 dyL_drawn_612 ?_
        replace h := h.2
        refine zn_mem C (fun I_165 eI_165 => ?_)
        replace h := h I_165 eI_165
        refine zr_dup C dyL_drawn_613 rfl ?_
        refine zr_bipush C dyL_drawn_614 zc_b_7 ?_
        refine zr_bipush C dyL_drawn_616 zc_b_59 ?_
        refine zr_iast C h.1.1 h.1.2 dyL_drawn_618 ?_
        replace h := h.2
        refine zn_mem C (fun I_166 eI_166 => ?_)
        replace h := h I_166 eI_166
        refine zr_dup C dyL_drawn_619 rfl ?_
        refine zr_bipush C dyL_drawn_620 zc_b_8 ?_
        refine zr_bipush C dyL_drawn_622 zc_b_125 ?_
        refine zr_iast C h.1.1 h.1.2 dyL_drawn_624 ?_
        replace h := h.2
        refine zn_mem C (fun I_167 eI_167 => ?_)
        replace h := h I_167 eI_167
        refine zr_dup C dyL_drawn_625 rfl ?_
        refine zr_bipush C dyL_drawn_626 zc_b_9 ?_
        refine zr_bipush C dyL_drawn_628 zc_b_125 ?_
        refine zr_iast C h.1.1 h.1.2 dyL_drawn_630 ?_
        replace h := h.2
        refine zn_mem C (fun I_168 eI_168 => ?_)
        replace h := h I_168 eI_168
        refine zr_dup C dyL_drawn_631 rfl ?_
        refine zr_bipush C dyL_drawn_632 zc_b_10 ?_
        refine zr_bipush C dyL_drawn_634 zc_b_32 ?_
        refine zr_iast C h.1.1 h.1.2 dyL_drawn_636 ?_
        replace h := h.2
        refine zn_mem C (fun I_169 eI_169 => ?_)
        replace h := h I_169 eI_169
        refine zv_L_17t C g_158 (st := []) h.2 ⟨Nat.le_of_ble_eq_true rfl, Nat.le_of_ble_eq_true rfl⟩ (Nat.le_of_ble_eq_true rfl) dyL_drawn_637 h.1 (fun k_170 n_171 S_172 I_173 g_174 h => ?_)
        refine zr_astore_n C dyL_drawn_640 rfl (Nat.le_of_ble_eq_true rfl) (lv2 := [(2, .ref (B + k_170)), (7, .int v7_15), (6, .int v6_14), (5, .int v5_13), (4, .int v4_12), (3, .int v3_6), (0, .int a0), (1, .int a1)]) rfl ?_
        refine zr_goto C dyL_drawn_641 (tgt := 1045) (by decide) ?_
        refine zr_sub (lv2 := [(3, .int v3_6), (2, .ref (B + k_170)), (0, .int a0), (1, .int a1)]) [5, 0, 6, 7] rfl ?_
        exact h g_174
      replace h := zif_neg hc_154 h
      by_cases hc_175 : x_16 = 15
      · replace h := zif_pos hc_175 h
        refine zr_tableIn C dyL_drawn_68 (by rw [hc_175]; decide) (by rw [hc_175]; decide) (off := 576) (by rw [hc_175]; decide) (tgt := 644) (by decide) ?_
        refine zr_aload_n C dyL_drawn_644 rfl 5 rfl ?_
        refine zr_iconst C dyL_drawn_645 zc_i_1 ?_
        refine za_nn C g_10 zk_ac_int rfl rfl h.1 dyL_drawn_646 (fun S_176 k_177 n_178 eS eK eN g_179 => ?_)
        replace h := h.2 S_176 k_177 n_178 eS eK eN
        refine zr_dup C dyL_drawn_648 rfl ?_
        refine zr_iconst C dyL_drawn_649 zc_i_0 ?_
        refine zr_iload C dyL_drawn_650 2 rfl ?_
        refine zr_iast C h.1.1 h.1.2 dyL_drawn_652 ?_
        replace h := h.2
        refine zn_mem C (fun I_180 eI_180 => ?_)
        replace h := h I_180 eI_180
        refine zv_L_17t C g_179 (st := []) h.2 ⟨Nat.le_of_ble_eq_true rfl, Nat.le_of_ble_eq_true rfl⟩ (Nat.le_of_ble_eq_true rfl) dyL_drawn_653 h.1 (fun k_181 n_182 S_183 I_184 g_185 h => ?_)
        refine zr_astore_n C dyL_drawn_656 rfl (Nat.le_of_ble_eq_true rfl) (lv2 := [(2, .ref (B + k_181)), (7, .int v7_15), (6, .int v6_14), (5, .int v5_13), (4, .int v4_12), (3, .int v3_6), (0, .int a0), (1, .int a1)]) rfl ?_
        refine zr_goto C dyL_drawn_657 (tgt := 1045) (by decide) ?_
        refine zr_sub (lv2 := [(3, .int v3_6), (2, .ref (B + k_181)), (0, .int a0), (1, .int a1)]) [5, 0, 6, 7] rfl ?_
        exact h g_185
      replace h := zif_neg hc_175 h
      by_cases hc_186 : x_16 = 16
      · replace h := zif_pos hc_186 h
        refine zr_tableIn C dyL_drawn_68 (by rw [hc_186]; decide) (by rw [hc_186]; decide) (off := 592) (by rw [hc_186]; decide) (tgt := 660) (by decide) ?_
        refine zr_aload_n C dyL_drawn_660 rfl 5 rfl ?_
        refine zr_iconst C dyL_drawn_661 zc_i_1 ?_
        refine za_nn C g_10 zk_ac_int rfl rfl h.1 dyL_drawn_662 (fun S_187 k_188 n_189 eS eK eN g_190 => ?_)
        replace h := h.2 S_187 k_188 n_189 eS eK eN
        refine zr_dup C dyL_drawn_664 rfl ?_
        refine zr_iconst C dyL_drawn_665 zc_i_0 ?_
        refine zr_iload C dyL_drawn_666 0 rfl ?_
        refine zr_iast C h.1.1 h.1.2 dyL_drawn_668 ?_
        replace h := h.2
        refine zn_mem C (fun I_191 eI_191 => ?_)
        replace h := h I_191 eI_191
        refine zv_L_17t C g_190 (st := []) h.2 ⟨Nat.le_of_ble_eq_true rfl, Nat.le_of_ble_eq_true rfl⟩ (Nat.le_of_ble_eq_true rfl) dyL_drawn_669 h.1 (fun k_192 n_193 S_194 I_195 g_196 h => ?_)
        refine zr_astore_n C dyL_drawn_672 rfl (Nat.le_of_ble_eq_true rfl) (lv2 := [(2, .ref (B + k_192)), (7, .int v7_15), (6, .int v6_14), (5, .int v5_13), (4, .int v4_12), (3, .int v3_6), (0, .int a0), (1, .int a1)]) rfl ?_
        refine zr_goto C dyL_drawn_673 (tgt := 1045) (by decide) ?_
        refine zr_sub (lv2 := [(3, .int v3_6), (2, .ref (B + k_192)), (0, .int a0), (1, .int a1)]) [5, 0, 6, 7] rfl ?_
        exact h g_196
      replace h := zif_neg hc_186 h
      by_cases hc_197 : x_16 = 17
      · replace h := zif_pos hc_197 h
        refine zr_tableIn C dyL_drawn_68 (by rw [hc_197]; decide) (by rw [hc_197]; decide) (off := 608) (by rw [hc_197]; decide) (tgt := 676) (by decide) ?_
        refine zr_aload_n C dyL_drawn_676 rfl 5 rfl ?_
        refine zr_iconst C dyL_drawn_677 zc_i_2 ?_
        refine za_nn C g_10 zk_ac_int rfl rfl h.1 dyL_drawn_678 (fun S_198 k_199 n_200 eS eK eN g_201 => ?_)
        replace h := h.2 S_198 k_199 n_200 eS eK eN
        refine zr_dup C dyL_drawn_680 rfl ?_
        refine zr_iconst C dyL_drawn_681 zc_i_0 ?_
        refine zr_bipush C dyL_drawn_682 zc_b_43 ?_
        refine zr_iast C h.1.1 h.1.2 dyL_drawn_684 ?_
        replace h := h.2
        refine zn_mem C (fun I_202 eI_202 => ?_)
        replace h := h I_202 eI_202
        refine zr_dup C dyL_drawn_685 rfl ?_
        refine zr_iconst C dyL_drawn_686 zc_i_1 ?_
        refine zr_iload C dyL_drawn_687 2 rfl ?_
        refine zr_iast C h.1.1 h.1.2 dyL_drawn_689 ?_
        replace h := h.2
        refine zn_mem C (fun I_203 eI_203 => ?_)
        replace h := h I_203 eI_203
        refine zv_L_17t C g_201 (st := []) h.2 ⟨Nat.le_of_ble_eq_true rfl, Nat.le_of_ble_eq_true rfl⟩ (Nat.le_of_ble_eq_true rfl) dyL_drawn_690 h.1 (fun k_204 n_205 S_206 I_207 g_208 h => ?_)
        refine zr_astore_n C dyL_drawn_693 rfl (Nat.le_of_ble_eq_true rfl) (lv2 := [(2, .ref (B + k_204)), (7, .int v7_15), (6, .int v6_14), (5, .int v5_13), (4, .int v4_12), (3, .int v3_6), (0, .int a0), (1, .int a1)]) rfl ?_
        refine zr_goto C dyL_drawn_694 (tgt := 1045) (by decide) ?_
        refine zr_sub (lv2 := [(3, .int v3_6), (2, .ref (B + k_204)), (0, .int a0), (1, .int a1)]) [5, 0, 6, 7] rfl ?_
        exact h g_208
      replace h := zif_neg hc_197 h
      by_cases hc_209 : x_16 = 18
      · replace h := zif_pos hc_209 h
        refine zr_tableIn C dyL_drawn_68 (by rw [hc_209]; decide) (by rw [hc_209]; decide) (off := 629) (by rw [hc_209]; decide) (tgt := 697) (by decide) ?_
        refine zr_aload_n C dyL_drawn_697 rfl 5 rfl ?_
        refine zr_iconst C dyL_drawn_698 zc_i_2 ?_
        refine za_nn C g_10 zk_ac_int rfl rfl h.1 dyL_drawn_699 (fun S_210 k_211 n_212 eS eK eN g_213 => ?_)
        replace h := h.2 S_210 k_211 n_212 eS eK eN
        refine zr_dup C dyL_drawn_701 rfl ?_
        refine zr_iconst C dyL_drawn_702 zc_i_0 ?_
        refine zr_bipush C dyL_drawn_703 zc_b_42 ?_
        refine zr_iast C h.1.1 h.1.2 dyL_drawn_705 ?_
        replace h := h.2
        refine zn_mem C (fun I_214 eI_214 => ?_)
        replace h := h I_214 eI_214
        refine zr_dup C dyL_drawn_706 rfl ?_
        refine zr_iconst C dyL_drawn_707 zc_i_1 ?_
        refine zr_iload C dyL_drawn_708 1 rfl ?_
        refine zr_iast C h.1.1 h.1.2 dyL_drawn_710 ?_
        replace h := h.2
        refine zn_mem C (fun I_215 eI_215 => ?_)
        replace h := h I_215 eI_215
        refine zv_L_17t C g_213 (st := []) h.2 ⟨Nat.le_of_ble_eq_true rfl, Nat.le_of_ble_eq_true rfl⟩ (Nat.le_of_ble_eq_true rfl) dyL_drawn_711 h.1 (fun k_216 n_217 S_218 I_219 g_220 h => ?_)
        refine zr_astore_n C dyL_drawn_714 rfl (Nat.le_of_ble_eq_true rfl) (lv2 := [(2, .ref (B + k_216)), (7, .int v7_15), (6, .int v6_14), (5, .int v5_13), (4, .int v4_12), (3, .int v3_6), (0, .int a0), (1, .int a1)]) rfl ?_
        refine zr_goto C dyL_drawn_715 (tgt := 1045) (by decide) ?_
        refine zr_sub (lv2 := [(3, .int v3_6), (2, .ref (B + k_216)), (0, .int a0), (1, .int a1)]) [5, 0, 6, 7] rfl ?_
        exact h g_220
      replace h := zif_neg hc_209 h
      by_cases hc_221 : x_16 = 19
      · replace h := zif_pos hc_221 h
        refine zr_tableIn C dyL_drawn_68 (by rw [hc_221]; decide) (by rw [hc_221]; decide) (off := 650) (by rw [hc_221]; decide) (tgt := 718) (by decide) ?_
        refine zr_aload_n C dyL_drawn_718 rfl 5 rfl ?_
        refine zr_iconst C dyL_drawn_719 zc_i_1 ?_
        refine za_nn C g_10 zk_ac_int rfl rfl h.1 dyL_drawn_720 (fun S_222 k_223 n_224 eS eK eN g_225 => ?_)
        replace h := h.2 S_222 k_223 n_224 eS eK eN
        refine zr_dup C dyL_drawn_722 rfl ?_
        refine zr_iconst C dyL_drawn_723 zc_i_0 ?_
        refine zr_bipush C dyL_drawn_724 zc_b_40 ?_
        refine zr_iast C h.1.1 h.1.2 dyL_drawn_726 ?_
        replace h := h.2
        refine zn_mem C (fun I_226 eI_226 => ?_)
        replace h := h I_226 eI_226
        refine zv_L_17t C g_225 (st := []) h.2 ⟨Nat.le_of_ble_eq_true rfl, Nat.le_of_ble_eq_true rfl⟩ (Nat.le_of_ble_eq_true rfl) dyL_drawn_727 h.1 (fun k_227 n_228 S_229 I_230 g_231 h => ?_)
        refine zr_astore_n C dyL_drawn_730 rfl (Nat.le_of_ble_eq_true rfl) (lv2 := [(2, .ref (B + k_227)), (7, .int v7_15), (6, .int v6_14), (5, .int v5_13), (4, .int v4_12), (3, .int v3_6), (0, .int a0), (1, .int a1)]) rfl ?_
        refine zr_goto C dyL_drawn_731 (tgt := 1045) (by decide) ?_
        refine zr_sub (lv2 := [(3, .int v3_6), (2, .ref (B + k_227)), (0, .int a0), (1, .int a1)]) [5, 0, 6, 7] rfl ?_
        exact h g_231
      replace h := zif_neg hc_221 h
      by_cases hc_232 : x_16 = 20
      · replace h := zif_pos hc_232 h
        refine zr_tableIn C dyL_drawn_68 (by rw [hc_232]; decide) (by rw [hc_232]; decide) (off := 666) (by rw [hc_232]; decide) (tgt := 734) (by decide) ?_
        refine zr_aload_n C dyL_drawn_734 rfl 5 rfl ?_
        refine zr_iconst C dyL_drawn_735 zc_i_1 ?_
        refine za_nn C g_10 zk_ac_int rfl rfl h.1 dyL_drawn_736 (fun S_233 k_234 n_235 eS eK eN g_236 => ?_)
        replace h := h.2 S_233 k_234 n_235 eS eK eN
        refine zr_dup C dyL_drawn_738 rfl ?_
        refine zr_iconst C dyL_drawn_739 zc_i_0 ?_
        refine zr_bipush C dyL_drawn_740 zc_b_41 ?_
        refine zr_iast C h.1.1 h.1.2 dyL_drawn_742 ?_
        replace h := h.2
        refine zn_mem C (fun I_237 eI_237 => ?_)
        replace h := h I_237 eI_237
        refine zv_L_17t C g_236 (st := []) h.2 ⟨Nat.le_of_ble_eq_true rfl, Nat.le_of_ble_eq_true rfl⟩ (Nat.le_of_ble_eq_true rfl) dyL_drawn_743 h.1 (fun k_238 n_239 S_240 I_241 g_242 h => ?_)
        refine zr_astore_n C dyL_drawn_746 rfl (Nat.le_of_ble_eq_true rfl) (lv2 := [(2, .ref (B + k_238)), (7, .int v7_15), (6, .int v6_14), (5, .int v5_13), (4, .int v4_12), (3, .int v3_6), (0, .int a0), (1, .int a1)]) rfl ?_
        refine zr_goto C dyL_drawn_747 (tgt := 1045) (by decide) ?_
        refine zr_sub (lv2 := [(3, .int v3_6), (2, .ref (B + k_238)), (0, .int a0), (1, .int a1)]) [5, 0, 6, 7] rfl ?_
        exact h g_242
      replace h := zif_neg hc_232 h
      by_cases hc_243 : x_16 = 21
      · replace h := zif_pos hc_243 h
        refine zr_tableIn C dyL_drawn_68 (by rw [hc_243]; decide) (by rw [hc_243]; decide) (off := 682) (by rw [hc_243]; decide) (tgt := 750) (by decide) ?_
        refine zr_aload_n C dyL_drawn_750 rfl 5 rfl ?_
        refine zr_iconst C dyL_drawn_751 zc_i_1 ?_
        refine za_nn C g_10 zk_ac_int rfl rfl h.1 dyL_drawn_752 (fun S_244 k_245 n_246 eS eK eN g_247 => ?_)
        replace h := h.2 S_244 k_245 n_246 eS eK eN
        refine zr_dup C dyL_drawn_754 rfl ?_
        refine zr_iconst C dyL_drawn_755 zc_i_0 ?_
        refine zr_bipush C dyL_drawn_756 zc_b_59 ?_
        refine zr_iast C h.1.1 h.1.2 dyL_drawn_758 ?_
        replace h := h.2
        refine zn_mem C (fun I_248 eI_248 => ?_)
        replace h := h I_248 eI_248
        refine zv_L_17t C g_247 (st := []) h.2 ⟨Nat.le_of_ble_eq_true rfl, Nat.le_of_ble_eq_true rfl⟩ (Nat.le_of_ble_eq_true rfl) dyL_drawn_759 h.1 (fun k_249 n_250 S_251 I_252 g_253 h => ?_)
        refine zr_astore_n C dyL_drawn_762 rfl (Nat.le_of_ble_eq_true rfl) (lv2 := [(2, .ref (B + k_249)), (7, .int v7_15), (6, .int v6_14), (5, .int v5_13), (4, .int v4_12), (3, .int v3_6), (0, .int a0), (1, .int a1)]) rfl ?_
        refine zr_goto C dyL_drawn_763 (tgt := 1045) (by decide) ?_
        refine zr_sub (lv2 := [(3, .int v3_6), (2, .ref (B + k_249)), (0, .int a0), (1, .int a1)]) [5, 0, 6, 7] rfl ?_
        exact h g_253
      replace h := zif_neg hc_243 h
      by_cases hc_254 : x_16 = 22
      · replace h := zif_pos hc_254 h
        refine zr_tableIn C dyL_drawn_68 (by rw [hc_254]; decide) (by rw [hc_254]; decide) (off := 698) (by rw [hc_254]; decide) (tgt := 766) (by decide) ?_
        refine zr_aload_n C dyL_drawn_766 rfl 5 rfl ?_
        refine zr_iconst C dyL_drawn_767 zc_i_1 ?_
        refine za_nn C g_10 zk_ac_int rfl rfl h.1 dyL_drawn_768 (fun S_255 k_256 n_257 eS eK eN g_258 => ?_)
        replace h := h.2 S_255 k_256 n_257 eS eK eN
        refine zr_dup C dyL_drawn_770 rfl ?_
        refine zr_iconst C dyL_drawn_771 zc_i_0 ?_
        refine zr_bipush C dyL_drawn_772 zc_b_61 ?_
        refine zr_iast C h.1.1 h.1.2 dyL_drawn_774 ?_
        replace h := h.2
        refine zn_mem C (fun I_259 eI_259 => ?_)
        replace h := h I_259 eI_259
        refine zv_L_17t C g_258 (st := []) h.2 ⟨Nat.le_of_ble_eq_true rfl, Nat.le_of_ble_eq_true rfl⟩ (Nat.le_of_ble_eq_true rfl) dyL_drawn_775 h.1 (fun k_260 n_261 S_262 I_263 g_264 h => ?_)
        refine zr_astore_n C dyL_drawn_778 rfl (Nat.le_of_ble_eq_true rfl) (lv2 := [(2, .ref (B + k_260)), (7, .int v7_15), (6, .int v6_14), (5, .int v5_13), (4, .int v4_12), (3, .int v3_6), (0, .int a0), (1, .int a1)]) rfl ?_
        refine zr_goto C dyL_drawn_779 (tgt := 1045) (by decide) ?_
        refine zr_sub (lv2 := [(3, .int v3_6), (2, .ref (B + k_260)), (0, .int a0), (1, .int a1)]) [5, 0, 6, 7] rfl ?_
        exact h g_264
      replace h := zif_neg hc_254 h
      by_cases hc_265 : x_16 = 23
      · replace h := zif_pos hc_265 h
        refine zr_tableIn C dyL_drawn_68 (by rw [hc_265]; decide) (by rw [hc_265]; decide) (off := 714) (by rw [hc_265]; decide) (tgt := 782) (by decide) ?_
        refine zr_aload_n C dyL_drawn_782 rfl 5 rfl ?_
        refine zr_iconst C dyL_drawn_783 zc_i_1 ?_
        refine za_nn C g_10 zk_ac_int rfl rfl h.1 dyL_drawn_784 (fun S_266 k_267 n_268 eS eK eN g_269 => ?_)
        replace h := h.2 S_266 k_267 n_268 eS eK eN
        refine zr_dup C dyL_drawn_786 rfl ?_
        refine zr_iconst C dyL_drawn_787 zc_i_0 ?_
        refine zr_bipush C dyL_drawn_788 zc_b_123 ?_
        refine zr_iast C h.1.1 h.1.2 dyL_drawn_790 ?_
        replace h := h.2
        refine zn_mem C (fun I_270 eI_270 => ?_)
        replace h := h I_270 eI_270
        refine zv_L_17t C g_269 (st := []) h.2 ⟨Nat.le_of_ble_eq_true rfl, Nat.le_of_ble_eq_true rfl⟩ (Nat.le_of_ble_eq_true rfl) dyL_drawn_791 h.1 (fun k_271 n_272 S_273 I_274 g_275 h => ?_)
        refine zr_astore_n C dyL_drawn_794 rfl (Nat.le_of_ble_eq_true rfl) (lv2 := [(2, .ref (B + k_271)), (7, .int v7_15), (6, .int v6_14), (5, .int v5_13), (4, .int v4_12), (3, .int v3_6), (0, .int a0), (1, .int a1)]) rfl ?_
        refine zr_goto C dyL_drawn_795 (tgt := 1045) (by decide) ?_
        refine zr_sub (lv2 := [(3, .int v3_6), (2, .ref (B + k_271)), (0, .int a0), (1, .int a1)]) [5, 0, 6, 7] rfl ?_
        exact h g_275
      replace h := zif_neg hc_265 h
      by_cases hc_276 : x_16 = 24
      · replace h := zif_pos hc_276 h
        refine zr_tableIn C dyL_drawn_68 (by rw [hc_276]; decide) (by rw [hc_276]; decide) (off := 730) (by rw [hc_276]; decide) (tgt := 798) (by decide) ?_
        refine zr_aload_n C dyL_drawn_798 rfl 5 rfl ?_
        refine zr_iconst C dyL_drawn_799 zc_i_1 ?_
        refine za_nn C g_10 zk_ac_int rfl rfl h.1 dyL_drawn_800 (fun S_277 k_278 n_279 eS eK eN g_280 => ?_)
        replace h := h.2 S_277 k_278 n_279 eS eK eN
        refine zr_dup C dyL_drawn_802 rfl ?_
        refine zr_iconst C dyL_drawn_803 zc_i_0 ?_
        refine zr_bipush C dyL_drawn_804 zc_b_125 ?_
        refine zr_iast C h.1.1 h.1.2 dyL_drawn_806 ?_
        replace h := h.2
        refine zn_mem C (fun I_281 eI_281 => ?_)
        replace h := h I_281 eI_281
        refine zv_L_17t C g_280 (st := []) h.2 ⟨Nat.le_of_ble_eq_true rfl, Nat.le_of_ble_eq_true rfl⟩ (Nat.le_of_ble_eq_true rfl) dyL_drawn_807 h.1 (fun k_282 n_283 S_284 I_285 g_286 h => ?_)
        refine zr_astore_n C dyL_drawn_810 rfl (Nat.le_of_ble_eq_true rfl) (lv2 := [(2, .ref (B + k_282)), (7, .int v7_15), (6, .int v6_14), (5, .int v5_13), (4, .int v4_12), (3, .int v3_6), (0, .int a0), (1, .int a1)]) rfl ?_
        refine zr_goto C dyL_drawn_811 (tgt := 1045) (by decide) ?_
        refine zr_sub (lv2 := [(3, .int v3_6), (2, .ref (B + k_282)), (0, .int a0), (1, .int a1)]) [5, 0, 6, 7] rfl ?_
        exact h g_286
      replace h := zif_neg hc_276 h
      by_cases hc_287 : x_16 = 25
      · replace h := zif_pos hc_287 h
        refine zr_tableIn C dyL_drawn_68 (by rw [hc_287]; decide) (by rw [hc_287]; decide) (off := 746) (by rw [hc_287]; decide) (tgt := 814) (by decide) ?_
        refine zr_aload_n C dyL_drawn_814 rfl 5 rfl ?_
        refine zr_iconst C dyL_drawn_815 zc_i_1 ?_
        refine za_nn C g_10 zk_ac_int rfl rfl h.1 dyL_drawn_816 (fun S_288 k_289 n_290 eS eK eN g_291 => ?_)
        replace h := h.2 S_288 k_289 n_290 eS eK eN
        refine zr_dup C dyL_drawn_818 rfl ?_
        refine zr_iconst C dyL_drawn_819 zc_i_0 ?_
        refine zr_bipush C dyL_drawn_820 zc_b_32 ?_
        refine zr_iast C h.1.1 h.1.2 dyL_drawn_822 ?_
        replace h := h.2
        refine zn_mem C (fun I_292 eI_292 => ?_)
        replace h := h I_292 eI_292
        refine zv_L_17t C g_291 (st := []) h.2 ⟨Nat.le_of_ble_eq_true rfl, Nat.le_of_ble_eq_true rfl⟩ (Nat.le_of_ble_eq_true rfl) dyL_drawn_823 h.1 (fun k_293 n_294 S_295 I_296 g_297 h => ?_)
        refine zr_astore_n C dyL_drawn_826 rfl (Nat.le_of_ble_eq_true rfl) (lv2 := [(2, .ref (B + k_293)), (7, .int v7_15), (6, .int v6_14), (5, .int v5_13), (4, .int v4_12), (3, .int v3_6), (0, .int a0), (1, .int a1)]) rfl ?_
        refine zr_goto C dyL_drawn_827 (tgt := 1045) (by decide) ?_
        refine zr_sub (lv2 := [(3, .int v3_6), (2, .ref (B + k_293)), (0, .int a0), (1, .int a1)]) [5, 0, 6, 7] rfl ?_
        exact h g_297
      replace h := zif_neg hc_287 h
      by_cases hc_298 : x_16 = 26
      · replace h := zif_pos hc_298 h
        refine zr_tableIn C dyL_drawn_68 (by rw [hc_298]; decide) (by rw [hc_298]; decide) (off := 762) (by rw [hc_298]; decide) (tgt := 830) (by decide) ?_
        refine zr_aload_n C dyL_drawn_830 rfl 5 rfl ?_
        refine zr_iconst C dyL_drawn_831 zc_i_3 ?_
        refine za_nn C g_10 zk_ac_int rfl rfl h.1 dyL_drawn_832 (fun S_299 k_300 n_301 eS eK eN g_302 => ?_)
        replace h := h.2 S_299 k_300 n_301 eS eK eN
        refine zr_dup C dyL_drawn_834 rfl ?_
        refine zr_iconst C dyL_drawn_835 zc_i_0 ?_
        refine zr_bipush C dyL_drawn_836 zc_b_10 ?_
        refine zr_iast C h.1.1 h.1.2 dyL_drawn_838 ?_
        replace h := h.2
        refine zn_mem C (fun I_303 eI_303 => ?_)
        replace h := h I_303 eI_303
        refine zr_dup C dyL_drawn_839 rfl ?_
        refine zr_iconst C dyL_drawn_840 zc_i_1 ?_
        refine zr_bipush C dyL_drawn_841 zc_b_13 ?_
        refine zr_iast C h.1.1 h.1.2 dyL_drawn_843 ?_
        replace h := h.2
        refine zn_mem C (fun I_304 eI_304 => ?_)
        replace h := h I_304 eI_304
        refine zr_dup C dyL_drawn_844 rfl ?_
        refine zr_iconst C dyL_drawn_845 zc_i_2 ?_
        refine zr_bipush C dyL_drawn_846 zc_b_9 ?_
        refine zr_iast C h.1.1 h.1.2 dyL_drawn_848 ?_
        replace h := h.2
        refine zn_mem C (fun I_305 eI_305 => ?_)
        replace h := h I_305 eI_305
        refine zv_L_17t C g_302 (st := []) h.2 ⟨Nat.le_of_ble_eq_true rfl, Nat.le_of_ble_eq_true rfl⟩ (Nat.le_of_ble_eq_true rfl) dyL_drawn_849 h.1 (fun k_306 n_307 S_308 I_309 g_310 h => ?_)
        refine zr_astore_n C dyL_drawn_852 rfl (Nat.le_of_ble_eq_true rfl) (lv2 := [(2, .ref (B + k_306)), (7, .int v7_15), (6, .int v6_14), (5, .int v5_13), (4, .int v4_12), (3, .int v3_6), (0, .int a0), (1, .int a1)]) rfl ?_
        refine zr_goto C dyL_drawn_853 (tgt := 1045) (by decide) ?_
        refine zr_sub (lv2 := [(3, .int v3_6), (2, .ref (B + k_306)), (0, .int a0), (1, .int a1)]) [5, 0, 6, 7] rfl ?_
        exact h g_310
      replace h := zif_neg hc_298 h
      by_cases hc_311 : x_16 = 27
      · replace h := zif_pos hc_311 h
        refine zr_tableIn C dyL_drawn_68 (by rw [hc_311]; decide) (by rw [hc_311]; decide) (off := 788) (by rw [hc_311]; decide) (tgt := 856) (by decide) ?_
        refine zr_aload_n C dyL_drawn_856 rfl 5 rfl ?_
        refine zr_bipush C dyL_drawn_857 zc_b_9 ?_
        refine za_nn C g_10 zk_ac_int rfl rfl h.1 dyL_drawn_859 (fun S_312 k_313 n_314 eS eK eN g_315 => ?_)
        replace h := h.2 S_312 k_313 n_314 eS eK eN
        refine zr_dup C dyL_drawn_861 rfl ?_
        refine zr_iconst C dyL_drawn_862 zc_i_0 ?_
        refine zr_iload C dyL_drawn_863 2 rfl ?_
        refine zr_iast C h.1.1 h.1.2 dyL_drawn_865 ?_
        replace h := h.2
        refine zn_mem C (fun I_316 eI_316 => ?_)
        replace h := h I_316 eI_316
        refine zr_dup C dyL_drawn_866 rfl ?_
        refine zr_iconst C dyL_drawn_867 zc_i_1 ?_
        refine zr_iload C dyL_drawn_868 2 rfl ?_
        refine zr_iast C h.1.1 h.1.2 dyL_drawn_870 ?_
        replace h := h.2
        refine zn_mem C (fun I_317 eI_317 => ?_)
        replace h := h I_317 eI_317
        refine zr_dup C dyL_drawn_871 rfl ?_
        refine zr_iconst C dyL_drawn_872 zc_i_2 ?_
        refine zr_iload C dyL_drawn_873 1 rfl ?_
        refine zr_iast C h.1.1 h.1.2 dyL_drawn_875 ?_
        replace h := h.2
        refine zn_mem C (fun I_318 eI_318 => ?_)
        replace h := h I_318 eI_318
        refine zr_dup C dyL_drawn_876 rfl ?_
        refine zr_iconst C dyL_drawn_877 zc_i_3 ?_
        refine zr_iload C dyL_drawn_878 2 rfl ?_
        refine zr_iast C h.1.1 h.1.2 dyL_drawn_880 ?_
        replace h := h.2
        refine zn_mem C (fun I_319 eI_319 => ?_)
        replace h := h I_319 eI_319
        refine zr_dup C dyL_drawn_881 rfl ?_
        refine zr_iconst C dyL_drawn_882 zc_i_4 ?_
        refine zr_iload C dyL_drawn_883 1 rfl ?_
        refine zr_iast C h.1.1 h.1.2 dyL_drawn_885 ?_
        replace h := h.2
        refine zn_mem C (fun I_320 eI_320 => ?_)
        replace h := h I_320 eI_320
        refine zr_dup C dyL_drawn_886 rfl ?_
        refine zr_iconst C dyL_drawn_887 zc_i_5 ?_
        refine zr_iload C dyL_drawn_888 2 rfl ?_
        refine zr_iast C h.1.1 h.1.2 dyL_drawn_890 ?_
        replace h := h.2
        refine zn_mem C (fun I_321 eI_321 => ?_)
        replace h := h I_321 eI_321
        refine zr_dup C dyL_drawn_891 rfl ?_
        refine zr_bipush C dyL_drawn_892 zc_b_6 ?_
        refine zr_iload C dyL_drawn_894 2 rfl ?_
        refine zr_iast C h.1.1 h.1.2 dyL_drawn_896 ?_
        replace h := h.2
        refine zn_mem C (fun I_322 eI_322 => ?_)
        replace h := h I_322 eI_322
        refine zr_dup C dyL_drawn_897 rfl ?_
        refine zr_bipush C dyL_drawn_898 zc_b_7 ?_
        refine zr_iload C dyL_drawn_900 1 rfl ?_
        refine zr_iast C h.1.1 h.1.2 dyL_drawn_902 ?_
        replace h := h.2
        refine zn_mem C (fun I_323 eI_323 => ?_)
        replace h := h I_323 eI_323
        refine zr_dup C dyL_drawn_903 rfl ?_
        refine zr_bipush C dyL_drawn_904 zc_b_8 ?_
        refine zr_iload C dyL_drawn_906 1 rfl ?_
        refine zr_iast C h.1.1 h.1.2 dyL_drawn_908 ?_
        replace h := h.2
        refine zn_mem C (fun I_324 eI_324 => ?_)
        replace h := h I_324 eI_324
        refine zv_L_17t C g_315 (st := []) h.2 ⟨Nat.le_of_ble_eq_true rfl, Nat.le_of_ble_eq_true rfl⟩ (Nat.le_of_ble_eq_true rfl) dyL_drawn_909 h.1 (fun k_325 n_326 S_327 I_328 g_329 h => ?_)
        refine zr_astore_n C dyL_drawn_912 rfl (Nat.le_of_ble_eq_true rfl) (lv2 := [(2, .ref (B + k_325)), (7, .int v7_15), (6, .int v6_14), (5, .int v5_13), (4, .int v4_12), (3, .int v3_6), (0, .int a0), (1, .int a1)]) rfl ?_
        refine zr_goto C dyL_drawn_913 (tgt := 1045) (by decide) ?_
        refine zr_sub (lv2 := [(3, .int v3_6), (2, .ref (B + k_325)), (0, .int a0), (1, .int a1)]) [5, 0, 6, 7] rfl ?_
        exact h g_329
      replace h := zif_neg hc_311 h
      by_cases hc_330 : x_16 = 28
      · replace h := zif_pos hc_330 h
        refine zr_tableIn C dyL_drawn_68 (by rw [hc_330]; decide) (by rw [hc_330]; decide) (off := 848) (by rw [hc_330]; decide) (tgt := 916) (by decide) ?_
        refine zr_aload_n C dyL_drawn_916 rfl 5 rfl ?_
        refine zr_iconst C dyL_drawn_917 zc_i_5 ?_
        refine za_nn C g_10 zk_ac_int rfl rfl h.1 dyL_drawn_918 (fun S_331 k_332 n_333 eS eK eN g_334 => ?_)
        replace h := h.2 S_331 k_332 n_333 eS eK eN
        refine zr_dup C dyL_drawn_920 rfl ?_
        refine zr_iconst C dyL_drawn_921 zc_i_0 ?_
        refine zr_iload C dyL_drawn_922 0 rfl ?_
        refine zr_iast C h.1.1 h.1.2 dyL_drawn_924 ?_
        replace h := h.2
        refine zn_mem C (fun I_335 eI_335 => ?_)
        replace h := h I_335 eI_335
        refine zr_dup C dyL_drawn_925 rfl ?_
        refine zr_iconst C dyL_drawn_926 zc_i_1 ?_
        refine zr_iload C dyL_drawn_927 0 rfl ?_
        refine zr_iast C h.1.1 h.1.2 dyL_drawn_929 ?_
        replace h := h.2
        refine zn_mem C (fun I_336 eI_336 => ?_)
        replace h := h I_336 eI_336
        refine zr_dup C dyL_drawn_930 rfl ?_
        refine zr_iconst C dyL_drawn_931 zc_i_2 ?_
        refine zr_bipush C dyL_drawn_932 zc_b_57 ?_
        refine zr_iast C h.1.1 h.1.2 dyL_drawn_934 ?_
        replace h := h.2
        refine zn_mem C (fun I_337 eI_337 => ?_)
        replace h := h I_337 eI_337
        refine zr_dup C dyL_drawn_935 rfl ?_
        refine zr_iconst C dyL_drawn_936 zc_i_3 ?_
        refine zr_bipush C dyL_drawn_937 zc_b_48 ?_
        refine zr_iast C h.1.1 h.1.2 dyL_drawn_939 ?_
        replace h := h.2
        refine zn_mem C (fun I_338 eI_338 => ?_)
        replace h := h I_338 eI_338
        refine zr_dup C dyL_drawn_940 rfl ?_
        refine zr_iconst C dyL_drawn_941 zc_i_4 ?_
        refine zr_iload C dyL_drawn_942 0 rfl ?_
        refine zr_iast C h.1.1 h.1.2 dyL_drawn_944 ?_
        replace h := h.2
        refine zn_mem C (fun I_339 eI_339 => ?_)
        replace h := h I_339 eI_339
        refine zv_L_17t C g_334 (st := []) h.2 ⟨Nat.le_of_ble_eq_true rfl, Nat.le_of_ble_eq_true rfl⟩ (Nat.le_of_ble_eq_true rfl) dyL_drawn_945 h.1 (fun k_340 n_341 S_342 I_343 g_344 h => ?_)
        refine zr_astore_n C dyL_drawn_948 rfl (Nat.le_of_ble_eq_true rfl) (lv2 := [(2, .ref (B + k_340)), (7, .int v7_15), (6, .int v6_14), (5, .int v5_13), (4, .int v4_12), (3, .int v3_6), (0, .int a0), (1, .int a1)]) rfl ?_
        refine zr_goto C dyL_drawn_949 (tgt := 1045) (by decide) ?_
        refine zr_sub (lv2 := [(3, .int v3_6), (2, .ref (B + k_340)), (0, .int a0), (1, .int a1)]) [5, 0, 6, 7] rfl ?_
        exact h g_344
      replace h := zif_neg hc_330 h
      by_cases hc_345 : x_16 = 29
      · replace h := zif_pos hc_345 h
        refine zr_tableIn C dyL_drawn_68 (by rw [hc_345]; decide) (by rw [hc_345]; decide) (off := 884) (by rw [hc_345]; decide) (tgt := 952) (by decide) ?_
        refine zr_aload_n C dyL_drawn_952 rfl 5 rfl ?_
        refine zr_iconst C dyL_drawn_953 zc_i_1 ?_
        refine za_nn C g_10 zk_ac_int rfl rfl h.1 dyL_drawn_954 (fun S_346 k_347 n_348 eS eK eN g_349 => ?_)
        replace h := h.2 S_346 k_347 n_348 eS eK eN
        refine zr_dup C dyL_drawn_956 rfl ?_
        refine zr_iconst C dyL_drawn_957 zc_i_0 ?_
        refine zr_bipush C dyL_drawn_958 zc_b_63 ?_
        refine zr_iast C h.1.1 h.1.2 dyL_drawn_960 ?_
        replace h := h.2
        refine zn_mem C (fun I_350 eI_350 => ?_)
        replace h := h I_350 eI_350
        refine zv_L_17t C g_349 (st := []) h.2 ⟨Nat.le_of_ble_eq_true rfl, Nat.le_of_ble_eq_true rfl⟩ (Nat.le_of_ble_eq_true rfl) dyL_drawn_961 h.1 (fun k_351 n_352 S_353 I_354 g_355 h => ?_)
        refine zr_astore_n C dyL_drawn_964 rfl (Nat.le_of_ble_eq_true rfl) (lv2 := [(2, .ref (B + k_351)), (7, .int v7_15), (6, .int v6_14), (5, .int v5_13), (4, .int v4_12), (3, .int v3_6), (0, .int a0), (1, .int a1)]) rfl ?_
        refine zr_goto C dyL_drawn_965 (tgt := 1045) (by decide) ?_
        refine zr_sub (lv2 := [(3, .int v3_6), (2, .ref (B + k_351)), (0, .int a0), (1, .int a1)]) [5, 0, 6, 7] rfl ?_
        exact h g_355
      replace h := zif_neg hc_345 h
      by_cases hc_356 : x_16 = 30
      · replace h := zif_pos hc_356 h
        refine zr_tableIn C dyL_drawn_68 (by rw [hc_356]; decide) (by rw [hc_356]; decide) (off := 900) (by rw [hc_356]; decide) (tgt := 968) (by decide) ?_
        refine zr_aload_n C dyL_drawn_968 rfl 5 rfl ?_
        refine zr_iconst C dyL_drawn_969 zc_i_3 ?_
        refine za_nn C g_10 zk_ac_int rfl rfl h.1 dyL_drawn_970 (fun S_357 k_358 n_359 eS eK eN g_360 => ?_)
        replace h := h.2 S_357 k_358 n_359 eS eK eN
        refine zr_dup C dyL_drawn_972 rfl ?_
        refine zr_iconst C dyL_drawn_973 zc_i_0 ?_
        refine zr_iload C dyL_drawn_974 0 rfl ?_
        refine zr_iast C h.1.1 h.1.2 dyL_drawn_976 ?_
        replace h := h.2
        refine zn_mem C (fun I_361 eI_361 => ?_)
        replace h := h I_361 eI_361
        refine zr_dup C dyL_drawn_977 rfl ?_
        refine zr_iconst C dyL_drawn_978 zc_i_1 ?_
        refine zr_iload C dyL_drawn_979 0 rfl ?_
        refine zr_iast C h.1.1 h.1.2 dyL_drawn_981 ?_
        replace h := h.2
        refine zn_mem C (fun I_362 eI_362 => ?_)
        replace h := h I_362 eI_362
        refine zr_dup C dyL_drawn_982 rfl ?_
        refine zr_iconst C dyL_drawn_983 zc_i_2 ?_
        refine zr_bipush C dyL_drawn_984 zc_b_57 ?_
        refine zr_iast C h.1.1 h.1.2 dyL_drawn_986 ?_
        replace h := h.2
        refine zn_mem C (fun I_363 eI_363 => ?_)
        replace h := h I_363 eI_363
        refine zv_L_17t C g_360 (st := []) h.2 ⟨Nat.le_of_ble_eq_true rfl, Nat.le_of_ble_eq_true rfl⟩ (Nat.le_of_ble_eq_true rfl) dyL_drawn_987 h.1 (fun k_364 n_365 S_366 I_367 g_368 h => ?_)
        refine zr_astore_n C dyL_drawn_990 rfl (Nat.le_of_ble_eq_true rfl) (lv2 := [(2, .ref (B + k_364)), (7, .int v7_15), (6, .int v6_14), (5, .int v5_13), (4, .int v4_12), (3, .int v3_6), (0, .int a0), (1, .int a1)]) rfl ?_
        refine zr_goto C dyL_drawn_991 (tgt := 1045) (by decide) ?_
        refine zr_sub (lv2 := [(3, .int v3_6), (2, .ref (B + k_364)), (0, .int a0), (1, .int a1)]) [5, 0, 6, 7] rfl ?_
        exact h g_368
      replace h := zif_neg hc_356 h
      refine zr_tableOut C dyL_drawn_68 (ztab_out (fun i h1 h2 => ?_)) (tgt := 994) (by decide) ?_
      · rcases (by omega : i = 0 ∨ i = 1 ∨ i = 2 ∨ i = 3 ∨ i = 4 ∨ i = 5 ∨ i = 6 ∨ i = 7 ∨ i = 8 ∨ i = 9 ∨ i = 10 ∨ i = 11 ∨ i = 12 ∨ i = 13 ∨ i = 14 ∨ i = 15 ∨ i = 16 ∨ i = 17 ∨ i = 18 ∨ i = 19 ∨ i = 20 ∨ i = 21 ∨ i = 22 ∨ i = 23 ∨ i = 24 ∨ i = 25 ∨ i = 26 ∨ i = 27 ∨ i = 28 ∨ i = 29 ∨ i = 30) with rfl | rfl | rfl | rfl | rfl | rfl | rfl | rfl | rfl | rfl | rfl | rfl | rfl | rfl | rfl | rfl | rfl | rfl | rfl | rfl | rfl | rfl | rfl | rfl | rfl | rfl | rfl | rfl | rfl | rfl | rfl
        · exact hc_90
        · exact hc_91
        · exact hc_92
        · exact hc_93
        · exact hc_94
        · exact hc_95
        · exact hc_96
        · exact hc_97
        · exact hc_98
        · exact hc_99
        · exact hc_120
        · exact hc_121
        · exact hc_122
        · exact hc_134
        · exact hc_154
        · exact hc_175
        · exact hc_186
        · exact hc_197
        · exact hc_209
        · exact hc_221
        · exact hc_232
        · exact hc_243
        · exact hc_254
        · exact hc_265
        · exact hc_276
        · exact hc_287
        · exact hc_298
        · exact hc_311
        · exact hc_330
        · exact hc_345
        · exact hc_356
      refine zr_aload_n C dyL_drawn_994 rfl 5 rfl ?_
      refine zr_bipush C dyL_drawn_995 zc_b_8 ?_
      refine za_nn C g_10 zk_ac_int rfl rfl h.1 dyL_drawn_997 (fun S_369 k_370 n_371 eS eK eN g_372 => ?_)
      replace h := h.2 S_369 k_370 n_371 eS eK eN
      refine zr_dup C dyL_drawn_999 rfl ?_
      refine zr_iconst C dyL_drawn_1000 zc_i_0 ?_
      refine zr_iload C dyL_drawn_1001 2 rfl ?_
      refine zr_iast C h.1.1 h.1.2 dyL_drawn_1003 ?_
      replace h := h.2
      refine zn_mem C (fun I_373 eI_373 => ?_)
      replace h := h I_373 eI_373
      refine zr_dup C dyL_drawn_1004 rfl ?_
      refine zr_iconst C dyL_drawn_1005 zc_i_1 ?_
      refine zr_bipush C dyL_drawn_1006 zc_b_61 ?_
      refine zr_iast C h.1.1 h.1.2 dyL_drawn_1008 ?_
      replace h := h.2
      refine zn_mem C (fun I_374 eI_374 => ?_)
      replace h := h I_374 eI_374
      refine zr_dup C dyL_drawn_1009 rfl ?_
      refine zr_iconst C dyL_drawn_1010 zc_i_2 ?_
      refine zr_iload C dyL_drawn_1011 2 rfl ?_
      refine zr_iast C h.1.1 h.1.2 dyL_drawn_1013 ?_
      replace h := h.2
      refine zn_mem C (fun I_375 eI_375 => ?_)
      replace h := h I_375 eI_375
      refine zr_dup C dyL_drawn_1014 rfl ?_
      refine zr_iconst C dyL_drawn_1015 zc_i_3 ?_
      refine zr_bipush C dyL_drawn_1016 zc_b_43 ?_
      refine zr_iast C h.1.1 h.1.2 dyL_drawn_1018 ?_
      replace h := h.2
      refine zn_mem C (fun I_376 eI_376 => ?_)
      replace h := h I_376 eI_376
      refine zr_dup C dyL_drawn_1019 rfl ?_
      refine zr_iconst C dyL_drawn_1020 zc_i_4 ?_
      refine zr_bipush C dyL_drawn_1021 zc_b_40 ?_
      refine zr_iast C h.1.1 h.1.2 dyL_drawn_1023 ?_
      replace h := h.2
      refine zn_mem C (fun I_377 eI_377 => ?_)
      replace h := h I_377 eI_377
      refine zr_dup C dyL_drawn_1024 rfl ?_
      refine zr_iconst C dyL_drawn_1025 zc_i_5 ?_
      refine zr_iload C dyL_drawn_1026 1 rfl ?_
      refine zr_iast C h.1.1 h.1.2 dyL_drawn_1028 ?_
      replace h := h.2
      refine zn_mem C (fun I_378 eI_378 => ?_)
      replace h := h I_378 eI_378
      refine zr_dup C dyL_drawn_1029 rfl ?_
      refine zr_bipush C dyL_drawn_1030 zc_b_6 ?_
      refine zr_bipush C dyL_drawn_1032 zc_b_41 ?_
      refine zr_iast C h.1.1 h.1.2 dyL_drawn_1034 ?_
      replace h := h.2
      refine zn_mem C (fun I_379 eI_379 => ?_)
      replace h := h I_379 eI_379
      refine zr_dup C dyL_drawn_1035 rfl ?_
      refine zr_bipush C dyL_drawn_1036 zc_b_7 ?_
      refine zr_bipush C dyL_drawn_1038 zc_b_59 ?_
      refine zr_iast C h.1.1 h.1.2 dyL_drawn_1040 ?_
      replace h := h.2
      refine zn_mem C (fun I_380 eI_380 => ?_)
      replace h := h I_380 eI_380
      refine zv_L_17t C g_372 (st := []) h.2 ⟨Nat.le_of_ble_eq_true rfl, Nat.le_of_ble_eq_true rfl⟩ (Nat.le_of_ble_eq_true rfl) dyL_drawn_1041 h.1 (fun k_381 n_382 S_383 I_384 g_385 h => ?_)
      refine zr_astore_n C dyL_drawn_1044 rfl (Nat.le_of_ble_eq_true rfl) (lv2 := [(2, .ref (B + k_381)), (7, .int v7_15), (6, .int v6_14), (5, .int v5_13), (4, .int v4_12), (3, .int v3_6), (0, .int a0), (1, .int a1)]) rfl ?_
      refine zr_sub (lv2 := [(3, .int v3_6), (2, .ref (B + k_381)), (0, .int a0), (1, .int a1)]) [5, 0, 6, 7] rfl ?_
      exact h g_385
  exact h g_4
