def w_Law_symbols (a0 : Int32) (S : List zC) (I : zI) (K : Nat → Nat → List zC → zI → Prop) : Prop :=
  (if a0 = 0 then ((zZ I S.length ∧ (0 : Int32) ≤ 0 ∧ Int32.toNatClampNeg 0 ≤ 100000 ∧ 0 + 1 ≤ 1 ∧ 0 + Int32.toNatClampNeg 0 ≤ 4) ∧ ∀ (S_2 : List zC) (k_3 n_4 : Nat), S_2 = S ++ [.inr (.inl (0, n_4))] → k_3 = S.length → n_4 = Int32.toNatClampNeg 0 → K k_3 n_4 S_2 I) else (if a0 = 1 then ((zZ I S.length ∧ (0 : Int32) ≤ 2 ∧ Int32.toNatClampNeg 2 ≤ 100000 ∧ 0 + 1 ≤ 1 ∧ 0 + Int32.toNatClampNeg 2 ≤ 4) ∧ ∀ (S_7 : List zC) (k_8 n_9 : Nat), S_7 = S ++ [.inr (.inl (0, n_9))] → k_8 = S.length → n_9 = Int32.toNatClampNeg 2 → (zAt S_7 k_8 n_9 ∧ vp_in 0 n_9) ∧ ∀ I_11, I_11 = (zu I k_8 0 0) → (zAt S_7 k_8 n_9 ∧ vp_in 1 n_9) ∧ ∀ I_12, I_12 = (zu I_11 k_8 1 1) → K k_8 n_9 S_7 I_12) else (if a0 = 2 then ((zZ I S.length ∧ (0 : Int32) ≤ 4 ∧ Int32.toNatClampNeg 4 ≤ 100000 ∧ 0 + 1 ≤ 1 ∧ 0 + Int32.toNatClampNeg 4 ≤ 4) ∧ ∀ (S_14 : List zC) (k_15 n_16 : Nat), S_14 = S ++ [.inr (.inl (0, n_16))] → k_15 = S.length → n_16 = Int32.toNatClampNeg 4 → (zAt S_14 k_15 n_16 ∧ vp_in 0 n_16) ∧ ∀ I_18, I_18 = (zu I k_15 0 5) → (zAt S_14 k_15 n_16 ∧ vp_in 1 n_16) ∧ ∀ I_19, I_19 = (zu I_18 k_15 1 7) → (zAt S_14 k_15 n_16 ∧ vp_in 2 n_16) ∧ ∀ I_20, I_20 = (zu I_19 k_15 2 2) → (zAt S_14 k_15 n_16 ∧ vp_in 3 n_16) ∧ ∀ I_21, I_21 = (zu I_20 k_15 3 8) → K k_15 n_16 S_14 I_21) else (if a0 = 3 then ((zZ I S.length ∧ (0 : Int32) ≤ 3 ∧ Int32.toNatClampNeg 3 ≤ 100000 ∧ 0 + 1 ≤ 1 ∧ 0 + Int32.toNatClampNeg 3 ≤ 4) ∧ ∀ (S_23 : List zC) (k_24 n_25 : Nat), S_23 = S ++ [.inr (.inl (0, n_25))] → k_24 = S.length → n_25 = Int32.toNatClampNeg 3 → (zAt S_23 k_24 n_25 ∧ vp_in 0 n_25) ∧ ∀ I_27, I_27 = (zu I k_24 0 13) → (zAt S_23 k_24 n_25 ∧ vp_in 1 n_25) ∧ ∀ I_28, I_28 = (zu I_27 k_24 1 0) → (zAt S_23 k_24 n_25 ∧ vp_in 2 n_25) ∧ ∀ I_29, I_29 = (zu I_28 k_24 2 14) → K k_24 n_25 S_23 I_29) else (if a0 = 4 then ((zZ I S.length ∧ (0 : Int32) ≤ 3 ∧ Int32.toNatClampNeg 3 ≤ 100000 ∧ 0 + 1 ≤ 1 ∧ 0 + Int32.toNatClampNeg 3 ≤ 4) ∧ ∀ (S_31 : List zC) (k_32 n_33 : Nat), S_31 = S ++ [.inr (.inl (0, n_33))] → k_32 = S.length → n_33 = Int32.toNatClampNeg 3 → (zAt S_31 k_32 n_33 ∧ vp_in 0 n_33) ∧ ∀ I_35, I_35 = (zu I k_32 0 2) → (zAt S_31 k_32 n_33 ∧ vp_in 1 n_33) ∧ ∀ I_36, I_36 = (zu I_35 k_32 1 9) → (zAt S_31 k_32 n_33 ∧ vp_in 2 n_33) ∧ ∀ I_37, I_37 = (zu I_36 k_32 2 3) → K k_32 n_33 S_31 I_37) else (if a0 = 5 then ((zZ I S.length ∧ (0 : Int32) ≤ 1 ∧ Int32.toNatClampNeg 1 ≤ 100000 ∧ 0 + 1 ≤ 1 ∧ 0 + Int32.toNatClampNeg 1 ≤ 4) ∧ ∀ (S_39 : List zC) (k_40 n_41 : Nat), S_39 = S ++ [.inr (.inl (0, n_41))] → k_40 = S.length → n_41 = Int32.toNatClampNeg 1 → (zAt S_39 k_40 n_41 ∧ vp_in 0 n_41) ∧ ∀ I_43, I_43 = (zu I k_40 0 3) → K k_40 n_41 S_39 I_43) else (if a0 = 6 then ((zZ I S.length ∧ (0 : Int32) ≤ 3 ∧ Int32.toNatClampNeg 3 ≤ 100000 ∧ 0 + 1 ≤ 1 ∧ 0 + Int32.toNatClampNeg 3 ≤ 4) ∧ ∀ (S_45 : List zC) (k_46 n_47 : Nat), S_45 = S ++ [.inr (.inl (0, n_47))] → k_46 = S.length → n_47 = Int32.toNatClampNeg 3 → (zAt S_45 k_46 n_47 ∧ vp_in 0 n_47) ∧ ∀ I_49, I_49 = (zu I k_46 0 3) → (zAt S_45 k_46 n_47 ∧ vp_in 1 n_47) ∧ ∀ I_50, I_50 = (zu I_49 k_46 1 10) → (zAt S_45 k_46 n_47 ∧ vp_in 2 n_47) ∧ ∀ I_51, I_51 = (zu I_50 k_46 2 4) → K k_46 n_47 S_45 I_51) else (if a0 = 7 then ((zZ I S.length ∧ (0 : Int32) ≤ 1 ∧ Int32.toNatClampNeg 1 ≤ 100000 ∧ 0 + 1 ≤ 1 ∧ 0 + Int32.toNatClampNeg 1 ≤ 4) ∧ ∀ (S_53 : List zC) (k_54 n_55 : Nat), S_53 = S ++ [.inr (.inl (0, n_55))] → k_54 = S.length → n_55 = Int32.toNatClampNeg 1 → (zAt S_53 k_54 n_55 ∧ vp_in 0 n_55) ∧ ∀ I_57, I_57 = (zu I k_54 0 4) → K k_54 n_55 S_53 I_57) else (if a0 = 8 then ((zZ I S.length ∧ (0 : Int32) ≤ 1 ∧ Int32.toNatClampNeg 1 ≤ 100000 ∧ 0 + 1 ≤ 1 ∧ 0 + Int32.toNatClampNeg 1 ≤ 4) ∧ ∀ (S_59 : List zC) (k_60 n_61 : Nat), S_59 = S ++ [.inr (.inl (0, n_61))] → k_60 = S.length → n_61 = Int32.toNatClampNeg 1 → (zAt S_59 k_60 n_61 ∧ vp_in 0 n_61) ∧ ∀ I_63, I_63 = (zu I k_60 0 5) → K k_60 n_61 S_59 I_63) else (if a0 = 9 then ((zZ I S.length ∧ (0 : Int32) ≤ 1 ∧ Int32.toNatClampNeg 1 ≤ 100000 ∧ 0 + 1 ≤ 1 ∧ 0 + Int32.toNatClampNeg 1 ≤ 4) ∧ ∀ (S_65 : List zC) (k_66 n_67 : Nat), S_65 = S ++ [.inr (.inl (0, n_67))] → k_66 = S.length → n_67 = Int32.toNatClampNeg 1 → (zAt S_65 k_66 n_67 ∧ vp_in 0 n_67) ∧ ∀ I_69, I_69 = (zu I k_66 0 6) → K k_66 n_67 S_65 I_69) else ((zZ I S.length ∧ (0 : Int32) ≤ 3 ∧ Int32.toNatClampNeg 3 ≤ 100000 ∧ 0 + 1 ≤ 1 ∧ 0 + Int32.toNatClampNeg 3 ≤ 4) ∧ ∀ (S_70 : List zC) (k_71 n_72 : Nat), S_70 = S ++ [.inr (.inl (0, n_72))] → k_71 = S.length → n_72 = Int32.toNatClampNeg 3 → (zAt S_70 k_71 n_72 ∧ vp_in 0 n_72) ∧ ∀ I_74, I_74 = (zu I k_71 0 11) → (zAt S_70 k_71 n_72 ∧ vp_in 1 n_72) ∧ ∀ I_75, I_75 = (zu I_74 k_71 1 2) → (zAt S_70 k_71 n_72 ∧ vp_in 2 n_72) ∧ ∀ I_76, I_76 = (zu I_75 k_71 2 12) → K k_71 n_72 S_70 I_76)))))))))))
theorem dyL_symbols_0 : decode cL_symbols 0 = .ok (.iload_n 0, 1) := by decide +kernel
theorem dyL_symbols_1 : decode cL_symbols 1 = .ok (.tableswitch 178 0 9 #[55, 59, 71, 93, 111, 128, 136, 153, 161, 169], 55) := by decide +kernel
theorem dyL_symbols_56 : decode cL_symbols 56 = .ok (.iconst 0, 1) := by decide +kernel
theorem dyL_symbols_57 : decode cL_symbols 57 = .ok (.newarray .int, 2) := by decide +kernel
theorem dyL_symbols_59 : decode cL_symbols 59 = .ok (.areturn, 1) := by decide +kernel
theorem dyL_symbols_60 : decode cL_symbols 60 = .ok (.iconst 2, 1) := by decide +kernel
theorem dyL_symbols_61 : decode cL_symbols 61 = .ok (.newarray .int, 2) := by decide +kernel
theorem dyL_symbols_63 : decode cL_symbols 63 = .ok (.dup, 1) := by decide +kernel
theorem dyL_symbols_64 : decode cL_symbols 64 = .ok (.iconst 0, 1) := by decide +kernel
theorem dyL_symbols_65 : decode cL_symbols 65 = .ok (.iconst 0, 1) := by decide +kernel
theorem dyL_symbols_66 : decode cL_symbols 66 = .ok (.iastore, 1) := by decide +kernel
theorem dyL_symbols_67 : decode cL_symbols 67 = .ok (.dup, 1) := by decide +kernel
theorem dyL_symbols_68 : decode cL_symbols 68 = .ok (.iconst 1, 1) := by decide +kernel
theorem dyL_symbols_69 : decode cL_symbols 69 = .ok (.iconst 1, 1) := by decide +kernel
theorem dyL_symbols_70 : decode cL_symbols 70 = .ok (.iastore, 1) := by decide +kernel
theorem dyL_symbols_71 : decode cL_symbols 71 = .ok (.areturn, 1) := by decide +kernel
theorem dyL_symbols_72 : decode cL_symbols 72 = .ok (.iconst 4, 1) := by decide +kernel
theorem dyL_symbols_73 : decode cL_symbols 73 = .ok (.newarray .int, 2) := by decide +kernel
theorem dyL_symbols_75 : decode cL_symbols 75 = .ok (.dup, 1) := by decide +kernel
theorem dyL_symbols_76 : decode cL_symbols 76 = .ok (.iconst 0, 1) := by decide +kernel
theorem dyL_symbols_77 : decode cL_symbols 77 = .ok (.iconst 5, 1) := by decide +kernel
theorem dyL_symbols_78 : decode cL_symbols 78 = .ok (.iastore, 1) := by decide +kernel
theorem dyL_symbols_79 : decode cL_symbols 79 = .ok (.dup, 1) := by decide +kernel
theorem dyL_symbols_80 : decode cL_symbols 80 = .ok (.iconst 1, 1) := by decide +kernel
theorem dyL_symbols_81 : decode cL_symbols 81 = .ok (.bipush 7, 2) := by decide +kernel
theorem dyL_symbols_83 : decode cL_symbols 83 = .ok (.iastore, 1) := by decide +kernel
theorem dyL_symbols_84 : decode cL_symbols 84 = .ok (.dup, 1) := by decide +kernel
theorem dyL_symbols_85 : decode cL_symbols 85 = .ok (.iconst 2, 1) := by decide +kernel
theorem dyL_symbols_86 : decode cL_symbols 86 = .ok (.iconst 2, 1) := by decide +kernel
theorem dyL_symbols_87 : decode cL_symbols 87 = .ok (.iastore, 1) := by decide +kernel
theorem dyL_symbols_88 : decode cL_symbols 88 = .ok (.dup, 1) := by decide +kernel
theorem dyL_symbols_89 : decode cL_symbols 89 = .ok (.iconst 3, 1) := by decide +kernel
theorem dyL_symbols_90 : decode cL_symbols 90 = .ok (.bipush 8, 2) := by decide +kernel
theorem dyL_symbols_92 : decode cL_symbols 92 = .ok (.iastore, 1) := by decide +kernel
theorem dyL_symbols_93 : decode cL_symbols 93 = .ok (.areturn, 1) := by decide +kernel
theorem dyL_symbols_94 : decode cL_symbols 94 = .ok (.iconst 3, 1) := by decide +kernel
theorem dyL_symbols_95 : decode cL_symbols 95 = .ok (.newarray .int, 2) := by decide +kernel
theorem dyL_symbols_97 : decode cL_symbols 97 = .ok (.dup, 1) := by decide +kernel
theorem dyL_symbols_98 : decode cL_symbols 98 = .ok (.iconst 0, 1) := by decide +kernel
theorem dyL_symbols_99 : decode cL_symbols 99 = .ok (.bipush 13, 2) := by decide +kernel
theorem dyL_symbols_101 : decode cL_symbols 101 = .ok (.iastore, 1) := by decide +kernel
theorem dyL_symbols_102 : decode cL_symbols 102 = .ok (.dup, 1) := by decide +kernel
theorem dyL_symbols_103 : decode cL_symbols 103 = .ok (.iconst 1, 1) := by decide +kernel
theorem dyL_symbols_104 : decode cL_symbols 104 = .ok (.iconst 0, 1) := by decide +kernel
theorem dyL_symbols_105 : decode cL_symbols 105 = .ok (.iastore, 1) := by decide +kernel
theorem dyL_symbols_106 : decode cL_symbols 106 = .ok (.dup, 1) := by decide +kernel
theorem dyL_symbols_107 : decode cL_symbols 107 = .ok (.iconst 2, 1) := by decide +kernel
theorem dyL_symbols_108 : decode cL_symbols 108 = .ok (.bipush 14, 2) := by decide +kernel
theorem dyL_symbols_110 : decode cL_symbols 110 = .ok (.iastore, 1) := by decide +kernel
theorem dyL_symbols_111 : decode cL_symbols 111 = .ok (.areturn, 1) := by decide +kernel
theorem dyL_symbols_112 : decode cL_symbols 112 = .ok (.iconst 3, 1) := by decide +kernel
theorem dyL_symbols_113 : decode cL_symbols 113 = .ok (.newarray .int, 2) := by decide +kernel
theorem dyL_symbols_115 : decode cL_symbols 115 = .ok (.dup, 1) := by decide +kernel
theorem dyL_symbols_116 : decode cL_symbols 116 = .ok (.iconst 0, 1) := by decide +kernel
theorem dyL_symbols_117 : decode cL_symbols 117 = .ok (.iconst 2, 1) := by decide +kernel
theorem dyL_symbols_118 : decode cL_symbols 118 = .ok (.iastore, 1) := by decide +kernel
theorem dyL_symbols_119 : decode cL_symbols 119 = .ok (.dup, 1) := by decide +kernel
theorem dyL_symbols_120 : decode cL_symbols 120 = .ok (.iconst 1, 1) := by decide +kernel
theorem dyL_symbols_121 : decode cL_symbols 121 = .ok (.bipush 9, 2) := by decide +kernel
theorem dyL_symbols_123 : decode cL_symbols 123 = .ok (.iastore, 1) := by decide +kernel
theorem dyL_symbols_124 : decode cL_symbols 124 = .ok (.dup, 1) := by decide +kernel
theorem dyL_symbols_125 : decode cL_symbols 125 = .ok (.iconst 2, 1) := by decide +kernel
theorem dyL_symbols_126 : decode cL_symbols 126 = .ok (.iconst 3, 1) := by decide +kernel
theorem dyL_symbols_127 : decode cL_symbols 127 = .ok (.iastore, 1) := by decide +kernel
theorem dyL_symbols_128 : decode cL_symbols 128 = .ok (.areturn, 1) := by decide +kernel
theorem dyL_symbols_129 : decode cL_symbols 129 = .ok (.iconst 1, 1) := by decide +kernel
theorem dyL_symbols_130 : decode cL_symbols 130 = .ok (.newarray .int, 2) := by decide +kernel
theorem dyL_symbols_132 : decode cL_symbols 132 = .ok (.dup, 1) := by decide +kernel
theorem dyL_symbols_133 : decode cL_symbols 133 = .ok (.iconst 0, 1) := by decide +kernel
theorem dyL_symbols_134 : decode cL_symbols 134 = .ok (.iconst 3, 1) := by decide +kernel
theorem dyL_symbols_135 : decode cL_symbols 135 = .ok (.iastore, 1) := by decide +kernel
theorem dyL_symbols_136 : decode cL_symbols 136 = .ok (.areturn, 1) := by decide +kernel
theorem dyL_symbols_137 : decode cL_symbols 137 = .ok (.iconst 3, 1) := by decide +kernel
theorem dyL_symbols_138 : decode cL_symbols 138 = .ok (.newarray .int, 2) := by decide +kernel
theorem dyL_symbols_140 : decode cL_symbols 140 = .ok (.dup, 1) := by decide +kernel
theorem dyL_symbols_141 : decode cL_symbols 141 = .ok (.iconst 0, 1) := by decide +kernel
theorem dyL_symbols_142 : decode cL_symbols 142 = .ok (.iconst 3, 1) := by decide +kernel
theorem dyL_symbols_143 : decode cL_symbols 143 = .ok (.iastore, 1) := by decide +kernel
theorem dyL_symbols_144 : decode cL_symbols 144 = .ok (.dup, 1) := by decide +kernel
theorem dyL_symbols_145 : decode cL_symbols 145 = .ok (.iconst 1, 1) := by decide +kernel
theorem dyL_symbols_146 : decode cL_symbols 146 = .ok (.bipush 10, 2) := by decide +kernel
theorem dyL_symbols_148 : decode cL_symbols 148 = .ok (.iastore, 1) := by decide +kernel
theorem dyL_symbols_149 : decode cL_symbols 149 = .ok (.dup, 1) := by decide +kernel
theorem dyL_symbols_150 : decode cL_symbols 150 = .ok (.iconst 2, 1) := by decide +kernel
theorem dyL_symbols_151 : decode cL_symbols 151 = .ok (.iconst 4, 1) := by decide +kernel
theorem dyL_symbols_152 : decode cL_symbols 152 = .ok (.iastore, 1) := by decide +kernel
theorem dyL_symbols_153 : decode cL_symbols 153 = .ok (.areturn, 1) := by decide +kernel
theorem dyL_symbols_154 : decode cL_symbols 154 = .ok (.iconst 1, 1) := by decide +kernel
theorem dyL_symbols_155 : decode cL_symbols 155 = .ok (.newarray .int, 2) := by decide +kernel
theorem dyL_symbols_157 : decode cL_symbols 157 = .ok (.dup, 1) := by decide +kernel
theorem dyL_symbols_158 : decode cL_symbols 158 = .ok (.iconst 0, 1) := by decide +kernel
theorem dyL_symbols_159 : decode cL_symbols 159 = .ok (.iconst 4, 1) := by decide +kernel
theorem dyL_symbols_160 : decode cL_symbols 160 = .ok (.iastore, 1) := by decide +kernel
theorem dyL_symbols_161 : decode cL_symbols 161 = .ok (.areturn, 1) := by decide +kernel
theorem dyL_symbols_162 : decode cL_symbols 162 = .ok (.iconst 1, 1) := by decide +kernel
theorem dyL_symbols_163 : decode cL_symbols 163 = .ok (.newarray .int, 2) := by decide +kernel
theorem dyL_symbols_165 : decode cL_symbols 165 = .ok (.dup, 1) := by decide +kernel
theorem dyL_symbols_166 : decode cL_symbols 166 = .ok (.iconst 0, 1) := by decide +kernel
theorem dyL_symbols_167 : decode cL_symbols 167 = .ok (.iconst 5, 1) := by decide +kernel
theorem dyL_symbols_168 : decode cL_symbols 168 = .ok (.iastore, 1) := by decide +kernel
theorem dyL_symbols_169 : decode cL_symbols 169 = .ok (.areturn, 1) := by decide +kernel
theorem dyL_symbols_170 : decode cL_symbols 170 = .ok (.iconst 1, 1) := by decide +kernel
theorem dyL_symbols_171 : decode cL_symbols 171 = .ok (.newarray .int, 2) := by decide +kernel
theorem dyL_symbols_173 : decode cL_symbols 173 = .ok (.dup, 1) := by decide +kernel
theorem dyL_symbols_174 : decode cL_symbols 174 = .ok (.iconst 0, 1) := by decide +kernel
theorem dyL_symbols_175 : decode cL_symbols 175 = .ok (.bipush 6, 2) := by decide +kernel
theorem dyL_symbols_177 : decode cL_symbols 177 = .ok (.iastore, 1) := by decide +kernel
theorem dyL_symbols_178 : decode cL_symbols 178 = .ok (.areturn, 1) := by decide +kernel
theorem dyL_symbols_179 : decode cL_symbols 179 = .ok (.iconst 3, 1) := by decide +kernel
theorem dyL_symbols_180 : decode cL_symbols 180 = .ok (.newarray .int, 2) := by decide +kernel
theorem dyL_symbols_182 : decode cL_symbols 182 = .ok (.dup, 1) := by decide +kernel
theorem dyL_symbols_183 : decode cL_symbols 183 = .ok (.iconst 0, 1) := by decide +kernel
theorem dyL_symbols_184 : decode cL_symbols 184 = .ok (.bipush 11, 2) := by decide +kernel
theorem dyL_symbols_186 : decode cL_symbols 186 = .ok (.iastore, 1) := by decide +kernel
theorem dyL_symbols_187 : decode cL_symbols 187 = .ok (.dup, 1) := by decide +kernel
theorem dyL_symbols_188 : decode cL_symbols 188 = .ok (.iconst 1, 1) := by decide +kernel
theorem dyL_symbols_189 : decode cL_symbols 189 = .ok (.iconst 2, 1) := by decide +kernel
theorem dyL_symbols_190 : decode cL_symbols 190 = .ok (.iastore, 1) := by decide +kernel
theorem dyL_symbols_191 : decode cL_symbols 191 = .ok (.dup, 1) := by decide +kernel
theorem dyL_symbols_192 : decode cL_symbols 192 = .ok (.iconst 2, 1) := by decide +kernel
theorem dyL_symbols_193 : decode cL_symbols 193 = .ok (.bipush 12, 2) := by decide +kernel
theorem dyL_symbols_195 : decode cL_symbols 195 = .ok (.iastore, 1) := by decide +kernel
theorem dyL_symbols_196 : decode cL_symbols 196 = .ok (.areturn, 1) := by decide +kernel
theorem zsg_yL_symbols : yL_symbols.cls ≠ "java/lang/invoke/MethodHandle" ∧ yL_symbols.cls ≠ "java/lang/invoke/VarHandle" ∧ (parseMethodDescriptor yL_symbols.desc).map (fun d => d.parameters.length) = some 1 := by decide +kernel
set_option maxHeartbeats 4000000 in
set_option maxRecDepth 20000 in
theorem c_Law_symbols {l : Launch} {D : va_G} {B : Nat} {cA : Nat → ClassId} {ad : Nat → Nat} {S : List zC} (hS : zOkX S) {a0 : Int32} {I : zI} {K : Nat → Nat → List zC → zI → Prop} (h : w_Law_symbols a0 S I K) : Met l yL_symbols (zws yL_symbols cL_symbols 1 (some (.array .int))) (zrA 0 0 1 4) (zPc D B cA ad [.int a0] S I) (zQc D B cA (zaA B S K)) 1 4 (fun q => B ≤ q) := by
  refine zm_of (cc := cL_symbols) (maxL := 1) (ret := (some (.array .int))) (by decide +kernel) rfl (Nat.le_of_ble_eq_true rfl) trivial ?_
  intro p e s m args below meth c C _
  unfold w_Law_symbols at h
  have g0 : zGo S 1 4 S 0 0 := zGo.start hS
  show zX p l e (zrA 0 0 1 4) s m args below meth c (MQ below (zQc D B cA (zaA B S K)) args s 1 4 (fun q => B ≤ q)) D B cA 1 0 0 S I [(0, .int a0)] [] 0
  refine zr_iload_n C dyL_symbols_0 rfl 0 rfl ?_
  by_cases hc_1 : a0 = 0
  · replace h := zif_pos hc_1 h
    refine zr_tableIn C dyL_symbols_1 (by rw [hc_1]; decide) (by rw [hc_1]; decide) (off := 55) (by rw [hc_1]; decide) (tgt := 56) (by decide) ?_
    refine zr_iconst C dyL_symbols_56 zc_i_0 ?_
    refine za_nn C g0 zk_ac_int rfl rfl h.1 dyL_symbols_57 (fun S_2 k_3 n_4 eS eK eN g_5 => ?_)
    replace h := h.2 S_2 k_3 n_4 eS eK eN
    refine zr_widen g_5.2.2.1 g_5.2.2.2 ?_
    exact zr_aretA C rfl dyL_symbols_59 ⟨g_5.2.1, _, _, rfl, h⟩
  replace h := zif_neg hc_1 h
  by_cases hc_6 : a0 = 1
  · replace h := zif_pos hc_6 h
    refine zr_tableIn C dyL_symbols_1 (by rw [hc_6]; decide) (by rw [hc_6]; decide) (off := 59) (by rw [hc_6]; decide) (tgt := 60) (by decide) ?_
    refine zr_iconst C dyL_symbols_60 zc_i_2 ?_
    refine za_nn C g0 zk_ac_int rfl rfl h.1 dyL_symbols_61 (fun S_7 k_8 n_9 eS eK eN g_10 => ?_)
    replace h := h.2 S_7 k_8 n_9 eS eK eN
    refine zr_dup C dyL_symbols_63 rfl ?_
    refine zr_iconst C dyL_symbols_64 zc_i_0 ?_
    refine zr_iconst C dyL_symbols_65 zc_i_0 ?_
    refine zr_iast C h.1.1 h.1.2 dyL_symbols_66 ?_
    replace h := h.2
    refine zn_mem C (fun I_11 eI_11 => ?_)
    replace h := h I_11 eI_11
    refine zr_dup C dyL_symbols_67 rfl ?_
    refine zr_iconst C dyL_symbols_68 zc_i_1 ?_
    refine zr_iconst C dyL_symbols_69 zc_i_1 ?_
    refine zr_iast C h.1.1 h.1.2 dyL_symbols_70 ?_
    replace h := h.2
    refine zn_mem C (fun I_12 eI_12 => ?_)
    replace h := h I_12 eI_12
    refine zr_widen g_10.2.2.1 g_10.2.2.2 ?_
    exact zr_aretA C rfl dyL_symbols_71 ⟨g_10.2.1, _, _, rfl, h⟩
  replace h := zif_neg hc_6 h
  by_cases hc_13 : a0 = 2
  · replace h := zif_pos hc_13 h
    refine zr_tableIn C dyL_symbols_1 (by rw [hc_13]; decide) (by rw [hc_13]; decide) (off := 71) (by rw [hc_13]; decide) (tgt := 72) (by decide) ?_
    refine zr_iconst C dyL_symbols_72 zc_i_4 ?_
    refine za_nn C g0 zk_ac_int rfl rfl h.1 dyL_symbols_73 (fun S_14 k_15 n_16 eS eK eN g_17 => ?_)
    replace h := h.2 S_14 k_15 n_16 eS eK eN
    refine zr_dup C dyL_symbols_75 rfl ?_
    refine zr_iconst C dyL_symbols_76 zc_i_0 ?_
    refine zr_iconst C dyL_symbols_77 zc_i_5 ?_
    refine zr_iast C h.1.1 h.1.2 dyL_symbols_78 ?_
    replace h := h.2
    refine zn_mem C (fun I_18 eI_18 => ?_)
    replace h := h I_18 eI_18
    refine zr_dup C dyL_symbols_79 rfl ?_
    refine zr_iconst C dyL_symbols_80 zc_i_1 ?_
    refine zr_bipush C dyL_symbols_81 zc_b_7 ?_
    refine zr_iast C h.1.1 h.1.2 dyL_symbols_83 ?_
    replace h := h.2
    refine zn_mem C (fun I_19 eI_19 => ?_)
    replace h := h I_19 eI_19
    refine zr_dup C dyL_symbols_84 rfl ?_
    refine zr_iconst C dyL_symbols_85 zc_i_2 ?_
    refine zr_iconst C dyL_symbols_86 zc_i_2 ?_
    refine zr_iast C h.1.1 h.1.2 dyL_symbols_87 ?_
    replace h := h.2
    refine zn_mem C (fun I_20 eI_20 => ?_)
    replace h := h I_20 eI_20
    refine zr_dup C dyL_symbols_88 rfl ?_
    refine zr_iconst C dyL_symbols_89 zc_i_3 ?_
    refine zr_bipush C dyL_symbols_90 zc_b_8 ?_
    refine zr_iast C h.1.1 h.1.2 dyL_symbols_92 ?_
    replace h := h.2
    refine zn_mem C (fun I_21 eI_21 => ?_)
    replace h := h I_21 eI_21
    refine zr_widen g_17.2.2.1 g_17.2.2.2 ?_
    exact zr_aretA C rfl dyL_symbols_93 ⟨g_17.2.1, _, _, rfl, h⟩
  replace h := zif_neg hc_13 h
  by_cases hc_22 : a0 = 3
  · replace h := zif_pos hc_22 h
    refine zr_tableIn C dyL_symbols_1 (by rw [hc_22]; decide) (by rw [hc_22]; decide) (off := 93) (by rw [hc_22]; decide) (tgt := 94) (by decide) ?_
    refine zr_iconst C dyL_symbols_94 zc_i_3 ?_
    refine za_nn C g0 zk_ac_int rfl rfl h.1 dyL_symbols_95 (fun S_23 k_24 n_25 eS eK eN g_26 => ?_)
    replace h := h.2 S_23 k_24 n_25 eS eK eN
    refine zr_dup C dyL_symbols_97 rfl ?_
    refine zr_iconst C dyL_symbols_98 zc_i_0 ?_
    refine zr_bipush C dyL_symbols_99 zc_b_13 ?_
    refine zr_iast C h.1.1 h.1.2 dyL_symbols_101 ?_
    replace h := h.2
    refine zn_mem C (fun I_27 eI_27 => ?_)
    replace h := h I_27 eI_27
    refine zr_dup C dyL_symbols_102 rfl ?_
    refine zr_iconst C dyL_symbols_103 zc_i_1 ?_
    refine zr_iconst C dyL_symbols_104 zc_i_0 ?_
    refine zr_iast C h.1.1 h.1.2 dyL_symbols_105 ?_
    replace h := h.2
    refine zn_mem C (fun I_28 eI_28 => ?_)
    replace h := h I_28 eI_28
    refine zr_dup C dyL_symbols_106 rfl ?_
    refine zr_iconst C dyL_symbols_107 zc_i_2 ?_
    refine zr_bipush C dyL_symbols_108 zc_b_14 ?_
    refine zr_iast C h.1.1 h.1.2 dyL_symbols_110 ?_
    replace h := h.2
    refine zn_mem C (fun I_29 eI_29 => ?_)
    replace h := h I_29 eI_29
    refine zr_widen g_26.2.2.1 g_26.2.2.2 ?_
    exact zr_aretA C rfl dyL_symbols_111 ⟨g_26.2.1, _, _, rfl, h⟩
  replace h := zif_neg hc_22 h
  by_cases hc_30 : a0 = 4
  · replace h := zif_pos hc_30 h
    refine zr_tableIn C dyL_symbols_1 (by rw [hc_30]; decide) (by rw [hc_30]; decide) (off := 111) (by rw [hc_30]; decide) (tgt := 112) (by decide) ?_
    refine zr_iconst C dyL_symbols_112 zc_i_3 ?_
    refine za_nn C g0 zk_ac_int rfl rfl h.1 dyL_symbols_113 (fun S_31 k_32 n_33 eS eK eN g_34 => ?_)
    replace h := h.2 S_31 k_32 n_33 eS eK eN
    refine zr_dup C dyL_symbols_115 rfl ?_
    refine zr_iconst C dyL_symbols_116 zc_i_0 ?_
    refine zr_iconst C dyL_symbols_117 zc_i_2 ?_
    refine zr_iast C h.1.1 h.1.2 dyL_symbols_118 ?_
    replace h := h.2
    refine zn_mem C (fun I_35 eI_35 => ?_)
    replace h := h I_35 eI_35
    refine zr_dup C dyL_symbols_119 rfl ?_
    refine zr_iconst C dyL_symbols_120 zc_i_1 ?_
    refine zr_bipush C dyL_symbols_121 zc_b_9 ?_
    refine zr_iast C h.1.1 h.1.2 dyL_symbols_123 ?_
    replace h := h.2
    refine zn_mem C (fun I_36 eI_36 => ?_)
    replace h := h I_36 eI_36
    refine zr_dup C dyL_symbols_124 rfl ?_
    refine zr_iconst C dyL_symbols_125 zc_i_2 ?_
    refine zr_iconst C dyL_symbols_126 zc_i_3 ?_
    refine zr_iast C h.1.1 h.1.2 dyL_symbols_127 ?_
    replace h := h.2
    refine zn_mem C (fun I_37 eI_37 => ?_)
    replace h := h I_37 eI_37
    refine zr_widen g_34.2.2.1 g_34.2.2.2 ?_
    exact zr_aretA C rfl dyL_symbols_128 ⟨g_34.2.1, _, _, rfl, h⟩
  replace h := zif_neg hc_30 h
  by_cases hc_38 : a0 = 5
  · replace h := zif_pos hc_38 h
    refine zr_tableIn C dyL_symbols_1 (by rw [hc_38]; decide) (by rw [hc_38]; decide) (off := 128) (by rw [hc_38]; decide) (tgt := 129) (by decide) ?_
    refine zr_iconst C dyL_symbols_129 zc_i_1 ?_
    refine za_nn C g0 zk_ac_int rfl rfl h.1 dyL_symbols_130 (fun S_39 k_40 n_41 eS eK eN g_42 => ?_)
    replace h := h.2 S_39 k_40 n_41 eS eK eN
    refine zr_dup C dyL_symbols_132 rfl ?_
    refine zr_iconst C dyL_symbols_133 zc_i_0 ?_
    refine zr_iconst C dyL_symbols_134 zc_i_3 ?_
    refine zr_iast C h.1.1 h.1.2 dyL_symbols_135 ?_
    replace h := h.2
    refine zn_mem C (fun I_43 eI_43 => ?_)
    replace h := h I_43 eI_43
    refine zr_widen g_42.2.2.1 g_42.2.2.2 ?_
    exact zr_aretA C rfl dyL_symbols_136 ⟨g_42.2.1, _, _, rfl, h⟩
  replace h := zif_neg hc_38 h
  by_cases hc_44 : a0 = 6
  · replace h := zif_pos hc_44 h
    refine zr_tableIn C dyL_symbols_1 (by rw [hc_44]; decide) (by rw [hc_44]; decide) (off := 136) (by rw [hc_44]; decide) (tgt := 137) (by decide) ?_
    refine zr_iconst C dyL_symbols_137 zc_i_3 ?_
    refine za_nn C g0 zk_ac_int rfl rfl h.1 dyL_symbols_138 (fun S_45 k_46 n_47 eS eK eN g_48 => ?_)
    replace h := h.2 S_45 k_46 n_47 eS eK eN
    refine zr_dup C dyL_symbols_140 rfl ?_
    refine zr_iconst C dyL_symbols_141 zc_i_0 ?_
    refine zr_iconst C dyL_symbols_142 zc_i_3 ?_
    refine zr_iast C h.1.1 h.1.2 dyL_symbols_143 ?_
    replace h := h.2
    refine zn_mem C (fun I_49 eI_49 => ?_)
    replace h := h I_49 eI_49
    refine zr_dup C dyL_symbols_144 rfl ?_
    refine zr_iconst C dyL_symbols_145 zc_i_1 ?_
    refine zr_bipush C dyL_symbols_146 zc_b_10 ?_
    refine zr_iast C h.1.1 h.1.2 dyL_symbols_148 ?_
    replace h := h.2
    refine zn_mem C (fun I_50 eI_50 => ?_)
    replace h := h I_50 eI_50
    refine zr_dup C dyL_symbols_149 rfl ?_
    refine zr_iconst C dyL_symbols_150 zc_i_2 ?_
    refine zr_iconst C dyL_symbols_151 zc_i_4 ?_
    refine zr_iast C h.1.1 h.1.2 dyL_symbols_152 ?_
    replace h := h.2
    refine zn_mem C (fun I_51 eI_51 => ?_)
    replace h := h I_51 eI_51
    refine zr_widen g_48.2.2.1 g_48.2.2.2 ?_
    exact zr_aretA C rfl dyL_symbols_153 ⟨g_48.2.1, _, _, rfl, h⟩
  replace h := zif_neg hc_44 h
  by_cases hc_52 : a0 = 7
  · replace h := zif_pos hc_52 h
    refine zr_tableIn C dyL_symbols_1 (by rw [hc_52]; decide) (by rw [hc_52]; decide) (off := 153) (by rw [hc_52]; decide) (tgt := 154) (by decide) ?_
    refine zr_iconst C dyL_symbols_154 zc_i_1 ?_
    refine za_nn C g0 zk_ac_int rfl rfl h.1 dyL_symbols_155 (fun S_53 k_54 n_55 eS eK eN g_56 => ?_)
    replace h := h.2 S_53 k_54 n_55 eS eK eN
    refine zr_dup C dyL_symbols_157 rfl ?_
    refine zr_iconst C dyL_symbols_158 zc_i_0 ?_
    refine zr_iconst C dyL_symbols_159 zc_i_4 ?_
    refine zr_iast C h.1.1 h.1.2 dyL_symbols_160 ?_
    replace h := h.2
    refine zn_mem C (fun I_57 eI_57 => ?_)
    replace h := h I_57 eI_57
    refine zr_widen g_56.2.2.1 g_56.2.2.2 ?_
    exact zr_aretA C rfl dyL_symbols_161 ⟨g_56.2.1, _, _, rfl, h⟩
  replace h := zif_neg hc_52 h
  by_cases hc_58 : a0 = 8
  · replace h := zif_pos hc_58 h
    refine zr_tableIn C dyL_symbols_1 (by rw [hc_58]; decide) (by rw [hc_58]; decide) (off := 161) (by rw [hc_58]; decide) (tgt := 162) (by decide) ?_
    refine zr_iconst C dyL_symbols_162 zc_i_1 ?_
    refine za_nn C g0 zk_ac_int rfl rfl h.1 dyL_symbols_163 (fun S_59 k_60 n_61 eS eK eN g_62 => ?_)
    replace h := h.2 S_59 k_60 n_61 eS eK eN
    refine zr_dup C dyL_symbols_165 rfl ?_
    refine zr_iconst C dyL_symbols_166 zc_i_0 ?_
    refine zr_iconst C dyL_symbols_167 zc_i_5 ?_
    refine zr_iast C h.1.1 h.1.2 dyL_symbols_168 ?_
    replace h := h.2
    refine zn_mem C (fun I_63 eI_63 => ?_)
    replace h := h I_63 eI_63
    refine zr_widen g_62.2.2.1 g_62.2.2.2 ?_
    exact zr_aretA C rfl dyL_symbols_169 ⟨g_62.2.1, _, _, rfl, h⟩
  replace h := zif_neg hc_58 h
  by_cases hc_64 : a0 = 9
  · replace h := zif_pos hc_64 h
    refine zr_tableIn C dyL_symbols_1 (by rw [hc_64]; decide) (by rw [hc_64]; decide) (off := 169) (by rw [hc_64]; decide) (tgt := 170) (by decide) ?_
    refine zr_iconst C dyL_symbols_170 zc_i_1 ?_
    refine za_nn C g0 zk_ac_int rfl rfl h.1 dyL_symbols_171 (fun S_65 k_66 n_67 eS eK eN g_68 => ?_)
    replace h := h.2 S_65 k_66 n_67 eS eK eN
    refine zr_dup C dyL_symbols_173 rfl ?_
    refine zr_iconst C dyL_symbols_174 zc_i_0 ?_
    refine zr_bipush C dyL_symbols_175 zc_b_6 ?_
    refine zr_iast C h.1.1 h.1.2 dyL_symbols_177 ?_
    replace h := h.2
    refine zn_mem C (fun I_69 eI_69 => ?_)
    replace h := h I_69 eI_69
    refine zr_widen g_68.2.2.1 g_68.2.2.2 ?_
    exact zr_aretA C rfl dyL_symbols_178 ⟨g_68.2.1, _, _, rfl, h⟩
  replace h := zif_neg hc_64 h
  refine zr_tableOut C dyL_symbols_1 (ztab_out (fun i h1 h2 => ?_)) (tgt := 179) (by decide) ?_
  · rcases (by omega : i = 0 ∨ i = 1 ∨ i = 2 ∨ i = 3 ∨ i = 4 ∨ i = 5 ∨ i = 6 ∨ i = 7 ∨ i = 8 ∨ i = 9) with rfl | rfl | rfl | rfl | rfl | rfl | rfl | rfl | rfl | rfl
    · exact hc_1
    · exact hc_6
    · exact hc_13
    · exact hc_22
    · exact hc_30
    · exact hc_38
    · exact hc_44
    · exact hc_52
    · exact hc_58
    · exact hc_64
  refine zr_iconst C dyL_symbols_179 zc_i_3 ?_
  refine za_nn C g0 zk_ac_int rfl rfl h.1 dyL_symbols_180 (fun S_70 k_71 n_72 eS eK eN g_73 => ?_)
  replace h := h.2 S_70 k_71 n_72 eS eK eN
  refine zr_dup C dyL_symbols_182 rfl ?_
  refine zr_iconst C dyL_symbols_183 zc_i_0 ?_
  refine zr_bipush C dyL_symbols_184 zc_b_11 ?_
  refine zr_iast C h.1.1 h.1.2 dyL_symbols_186 ?_
  replace h := h.2
  refine zn_mem C (fun I_74 eI_74 => ?_)
  replace h := h I_74 eI_74
  refine zr_dup C dyL_symbols_187 rfl ?_
  refine zr_iconst C dyL_symbols_188 zc_i_1 ?_
  refine zr_iconst C dyL_symbols_189 zc_i_2 ?_
  refine zr_iast C h.1.1 h.1.2 dyL_symbols_190 ?_
  replace h := h.2
  refine zn_mem C (fun I_75 eI_75 => ?_)
  replace h := h I_75 eI_75
  refine zr_dup C dyL_symbols_191 rfl ?_
  refine zr_iconst C dyL_symbols_192 zc_i_2 ?_
  refine zr_bipush C dyL_symbols_193 zc_b_12 ?_
  refine zr_iast C h.1.1 h.1.2 dyL_symbols_195 ?_
  replace h := h.2
  refine zn_mem C (fun I_76 eI_76 => ?_)
  replace h := h I_76 eI_76
  refine zr_widen g_73.2.2.1 g_73.2.2.2 ?_
  exact zr_aretA C rfl dyL_symbols_196 ⟨g_73.2.1, _, _, rfl, h⟩
def w_Law_stands  (S : List zC) (I : zI) (K : Int32 → List zC → zI → Prop) : Prop :=
  w_Desk_count 4 I (fun r_1 => (zZ I S.length ∧ (0 : Int32) ≤ 800 ∧ Int32.toNatClampNeg 800 ≤ 100000 ∧ 0 + 1 ≤ 500 ∧ 0 + Int32.toNatClampNeg 800 ≤ 3000) ∧ ∀ (S_2 : List zC) (k_3 n_4 : Nat), S_2 = S ++ [.inr (.inl (0, n_4))] → k_3 = S.length → n_4 = Int32.toNatClampNeg 800 → (zAt S_2 k_3 n_4 ∧ vp_in 0 n_4) ∧ ∀ I_6, I_6 = (zu I k_3 0 r_1) → w_Desk_node r_1 1 I_6 (fun r_7 => ∀ (P51 : Int32 → Prop), (∀ (t_8 : Int32), (∀ (P53 : Int32 → Int32 → Int32 → Int32 → (List zC) → Nat → Nat → zI → Prop), (∀ (v2_9 : Int32) (v3_10 : Int32) (v5_11 : Int32) (v6_12 : Int32) (S_13 : List zC) (c_14 : Nat) (u_15 : Nat) (I_17 : zI), (∀ (P494 : Prop), (((if v6_12 = 0 then K 0 S_13 I_17 else (w_Desk_count 10 I_17 (fun r_18 => (if v2_9 = r_18 then (w_Desk_count 3 I_17 (fun r_19 => (if v3_10 = (r_19 - (1 : Int32)) then (w_Desk_good v3_10 I_17 (fun r_20 => (if r_20 = 0 then K 1 S_13 I_17 else K 0 S_13 I_17))) else K 0 S_13 I_17))) else K 0 S_13 I_17))))) → P494) → (if v5_11 ≤ 0 then P494 else (if v6_12 = 0 then P494 else (∀ v5_25, v5_25 = (v5_11 + (-1)) → (zAt S_13 k_3 n_4 ∧ vp_in v5_25 n_4) ∧ ∀ v7_26, v7_26 = (I_17.1 k_3 (Int32.toNatClampNeg v5_25)) → w_Desk_node v7_26 0 I_17 (fun r_27 => w_Desk_node v7_26 2 I_17 (fun r_28 => ∀ v2_29, v2_29 = (v2_9 + 1) → w_Desk_node v7_26 6 I_17 (fun r_30 => ∀ (P124 : Int32 → Prop), (∀ (t_31 : Int32), ((if 0 ≤ r_27 then ((c_14 + 1 ≤ 500 ∧ u_15 + 4 ≤ 3000) ∧ w_Law_symbols r_27 S_13 I_17 (fun k_32 n_33 S_34 I_35 => ∀ (P302 : Int32 → Prop), (∀ (t_37 : Int32), (∀ v12_38, v12_38 = (r_28 - (1 : Int32)) → ∀ (P310 : Int32 → Int32 → Int32 → Int32 → zI → Prop), (∀ (v5_39 : Int32) (v6_40 : Int32) (v10_41 : Int32) (v12_42 : Int32) (I_43 : zI), ((if v12_42 < 0 then (∀ (P489 : Int32 → Prop), (∀ (t_44 : Int32), (P53 v2_29 v3_10 v5_39 t_44 S_34 (c_14 + 1) (u_15 + 4) I_43) → P489 t_44) → ∀ (P488 : Prop), ((P489 0) → P488) → (if v6_40 = 0 then P488 else (w_Desk_node v7_26 4 I_43 (fun r_45 => (if v10_41 = r_45 then (w_Desk_child v7_26 r_28 I_43 (fun r_46 => (if r_46 = (-1) then P489 1 else P488))) else P488))))) else (w_Desk_child v7_26 v12_42 I_43 (fun r_50 => w_Desk_node r_50 4 I_43 (fun r_51 => ∀ v10_52, v10_52 = (v10_41 + r_51) → ∀ (P437 : Int32 → Prop), (∀ (t_53 : Int32), (∀ v5_54, v5_54 = (v5_39 + 1) → (zAt S_34 k_3 n_4 ∧ vp_in v5_39 n_4) ∧ ∀ I_55, I_55 = (zu I_43 k_3 (Int32.toNatClampNeg v5_39) r_50) → ∀ v12_56, v12_56 = (v12_42 + (-1)) → P310 v5_54 t_53 v10_52 v12_56 I_55) → P437 t_53) → ∀ (P436 : Prop), ((P437 0) → P436) → (if v6_40 = 0 then P436 else (w_Desk_node r_50 7 I_43 (fun r_57 => (if r_57 = v7_26 then (w_Desk_node r_50 1 I_43 (fun r_58 => (zAt S_34 k_32 n_33 ∧ vp_in v12_42 n_33) ∧ (if r_58 = (I_43.1 k_32 (Int32.toNatClampNeg v12_42)) then (w_Desk_beside r_50 I_43 (fun r_59 => ∀ (P400 : Int32 → Prop), (∀ (t_60 : Int32), ((if r_59 = t_60 then (w_Desk_before r_50 I_43 (fun r_61 => ∀ (P429 : Int32 → Prop), (∀ (t_62 : Int32), ((if r_61 = t_62 then P437 1 else P436)) → P429 t_62) → (if v12_42 ≤ 0 then (P429 (-2)) else (w_Desk_child v7_26 (v12_42 - (1 : Int32)) I_43 (fun r_64 => P429 r_64))))) else P436)) → P400 t_60) → (if r_28 ≤ (v12_42 + (1 : Int32)) then (P400 (-2)) else (w_Desk_child v7_26 (v12_42 + (1 : Int32)) I_43 (fun r_67 => P400 r_67))))) else P436))) else P436))))))))) → P310 v5_39 v6_40 v10_41 v12_42 I_43) → P310 v5_25 t_37 0 v12_38 I_35) → P302 t_37) → ∀ (P301 : Prop), ((P302 0) → P301) → (if t_31 = 0 then P301 else (zAt S_34 k_32 n_33 ∧ (if r_28 = (Int32.ofNat n_33) then (w_Desk_node v7_26 1 I_35 (fun r_73 => ∀ (P267 : Int32 → Prop), (∀ (t_74 : Int32), ((if r_73 = t_74 then (w_Desk_node v7_26 8 I_35 (fun r_75 => w_Desk_node v7_26 4 I_35 (fun r_76 => ∀ (P294 : Int32 → Prop), (∀ (t_77 : Int32), ((if r_75 = t_77 then P302 1 else P301)) → P294 t_77) → (if r_76 = 0 then (P294 (-2)) else P294 v3_10)))) else P301)) → P267 t_74) → (if 2 ≤ r_27 then (if 4 ≤ r_27 then (if 6 ≤ r_27 then (if 8 ≤ r_27 then P267 4 else P267 3) else P267 2) else P267 1) else P267 0))) else P301))))) else (∀ (P189 : Int32 → Prop), (∀ (t_87 : Int32), (∀ v3_88, v3_88 = (v3_10 + 1) → P53 v2_29 v3_88 v5_25 t_87 S_13 c_14 u_15 I_17) → P189 t_87) → ∀ (P188 : Prop), ((P189 0) → P188) → (if t_31 = 0 then P188 else (w_Desk_good v3_10 I_17 (fun r_89 => (if r_89 = v7_26 then (if r_28 = 0 then (w_Desk_node v7_26 4 I_17 (fun r_90 => (if r_90 = 1 then (w_Desk_node v7_26 8 I_17 (fun r_91 => (if r_91 = v3_10 then (w_Desk_span v7_26 1 I_17 (fun r_92 => (if r_92 ≤ 0 then P188 else P189 1))) else P188))) else P188))) else P188) else P188))))))) → P124 t_31) → ∀ (P123 : Prop), ((P124 0) → P123) → (if r_30 = 1 then (w_Desk_node v7_26 3 I_17 (fun r_100 => (if r_100 < 0 then P123 else P124 1))) else P123)))))))) → P53 v2_9 v3_10 v5_11 v6_12 S_13 c_14 u_15 I_17) → P53 0 0 1 t_8 S_2 (0 + 1) (0 + n_4) I_6) → P51 t_8) → ∀ (P50 : Prop), ((P51 0) → P50) → (if r_7 = 0 then (w_Desk_node r_1 7 I_6 (fun r_105 => (if r_105 = (-2) then P51 1 else P50))) else P50)))
theorem dyL_stands_0 : decode cL_stands 0 = .ok (.aload_n 0, 1) := by decide +kernel
theorem dyL_stands_1 : decode cL_stands 1 = .ok (.iconst 4, 1) := by decide +kernel
theorem dyL_stands_2 : decode cL_stands 2 = .ok (.invokevirtual 36, 3) := by decide +kernel
theorem dyL_stands_5 : decode cL_stands 5 = .ok (.istore_n 1, 1) := by decide +kernel
theorem dyL_stands_6 : decode cL_stands 6 = .ok (.iconst 0, 1) := by decide +kernel
theorem dyL_stands_7 : decode cL_stands 7 = .ok (.istore_n 2, 1) := by decide +kernel
theorem dyL_stands_8 : decode cL_stands 8 = .ok (.iconst 0, 1) := by decide +kernel
theorem dyL_stands_9 : decode cL_stands 9 = .ok (.istore_n 3, 1) := by decide +kernel
theorem dyL_stands_10 : decode cL_stands 10 = .ok (.sipush 800, 3) := by decide +kernel
theorem dyL_stands_13 : decode cL_stands 13 = .ok (.newarray .int, 2) := by decide +kernel
theorem dyL_stands_15 : decode cL_stands 15 = .ok (.astore 4, 2) := by decide +kernel
theorem dyL_stands_17 : decode cL_stands 17 = .ok (.iconst 1, 1) := by decide +kernel
theorem dyL_stands_18 : decode cL_stands 18 = .ok (.istore 5, 2) := by decide +kernel
theorem dyL_stands_20 : decode cL_stands 20 = .ok (.aload 4, 2) := by decide +kernel
theorem dyL_stands_22 : decode cL_stands 22 = .ok (.iconst 0, 1) := by decide +kernel
theorem dyL_stands_23 : decode cL_stands 23 = .ok (.iload_n 1, 1) := by decide +kernel
theorem dyL_stands_24 : decode cL_stands 24 = .ok (.iastore, 1) := by decide +kernel
theorem dyL_stands_25 : decode cL_stands 25 = .ok (.aload_n 0, 1) := by decide +kernel
theorem dyL_stands_26 : decode cL_stands 26 = .ok (.iload_n 1, 1) := by decide +kernel
theorem dyL_stands_27 : decode cL_stands 27 = .ok (.iconst 1, 1) := by decide +kernel
theorem dyL_stands_28 : decode cL_stands 28 = .ok (.invokevirtual 39, 3) := by decide +kernel
theorem dyL_stands_31 : decode cL_stands 31 = .ok (.ifCond .ne 19, 3) := by decide +kernel
theorem dyL_stands_34 : decode cL_stands 34 = .ok (.aload_n 0, 1) := by decide +kernel
theorem dyL_stands_35 : decode cL_stands 35 = .ok (.iload_n 1, 1) := by decide +kernel
theorem dyL_stands_36 : decode cL_stands 36 = .ok (.bipush 7, 2) := by decide +kernel
theorem dyL_stands_38 : decode cL_stands 38 = .ok (.invokevirtual 39, 3) := by decide +kernel
theorem dyL_stands_41 : decode cL_stands 41 = .ok (.bipush (-2), 2) := by decide +kernel
theorem dyL_stands_43 : decode cL_stands 43 = .ok (.if_icmp .ne 7, 3) := by decide +kernel
theorem dyL_stands_46 : decode cL_stands 46 = .ok (.iconst 1, 1) := by decide +kernel
theorem dyL_stands_47 : decode cL_stands 47 = .ok (.goto 4, 3) := by decide +kernel
theorem dyL_stands_50 : decode cL_stands 50 = .ok (.iconst 0, 1) := by decide +kernel
theorem dyL_stands_51 : decode cL_stands 51 = .ok (.istore 6, 2) := by decide +kernel
theorem dyL_stands_53 : decode cL_stands 53 = .ok (.iload 5, 2) := by decide +kernel
theorem dyL_stands_55 : decode cL_stands 55 = .ok (.ifCond .le 439, 3) := by decide +kernel
theorem dyL_stands_58 : decode cL_stands 58 = .ok (.iload 6, 2) := by decide +kernel
theorem dyL_stands_60 : decode cL_stands 60 = .ok (.ifCond .eq 434, 3) := by decide +kernel
theorem dyL_stands_63 : decode cL_stands 63 = .ok (.aload 4, 2) := by decide +kernel
theorem dyL_stands_65 : decode cL_stands 65 = .ok (.iinc 5 (-1), 3) := by decide +kernel
theorem dyL_stands_68 : decode cL_stands 68 = .ok (.iload 5, 2) := by decide +kernel
theorem dyL_stands_70 : decode cL_stands 70 = .ok (.iaload, 1) := by decide +kernel
theorem dyL_stands_71 : decode cL_stands 71 = .ok (.istore 7, 2) := by decide +kernel
theorem dyL_stands_73 : decode cL_stands 73 = .ok (.aload_n 0, 1) := by decide +kernel
theorem dyL_stands_74 : decode cL_stands 74 = .ok (.iload 7, 2) := by decide +kernel
theorem dyL_stands_76 : decode cL_stands 76 = .ok (.iconst 0, 1) := by decide +kernel
theorem dyL_stands_77 : decode cL_stands 77 = .ok (.invokevirtual 39, 3) := by decide +kernel
theorem dyL_stands_80 : decode cL_stands 80 = .ok (.istore 8, 2) := by decide +kernel
theorem dyL_stands_82 : decode cL_stands 82 = .ok (.aload_n 0, 1) := by decide +kernel
theorem dyL_stands_83 : decode cL_stands 83 = .ok (.iload 7, 2) := by decide +kernel
theorem dyL_stands_85 : decode cL_stands 85 = .ok (.iconst 2, 1) := by decide +kernel
theorem dyL_stands_86 : decode cL_stands 86 = .ok (.invokevirtual 39, 3) := by decide +kernel
theorem dyL_stands_89 : decode cL_stands 89 = .ok (.istore 9, 2) := by decide +kernel
theorem dyL_stands_91 : decode cL_stands 91 = .ok (.iconst 0, 1) := by decide +kernel
theorem dyL_stands_92 : decode cL_stands 92 = .ok (.istore 10, 2) := by decide +kernel
theorem dyL_stands_94 : decode cL_stands 94 = .ok (.iinc 2 1, 3) := by decide +kernel
theorem dyL_stands_97 : decode cL_stands 97 = .ok (.aload_n 0, 1) := by decide +kernel
theorem dyL_stands_98 : decode cL_stands 98 = .ok (.iload 7, 2) := by decide +kernel
theorem dyL_stands_100 : decode cL_stands 100 = .ok (.bipush 6, 2) := by decide +kernel
theorem dyL_stands_102 : decode cL_stands 102 = .ok (.invokevirtual 39, 3) := by decide +kernel
theorem dyL_stands_105 : decode cL_stands 105 = .ok (.iconst 1, 1) := by decide +kernel
theorem dyL_stands_106 : decode cL_stands 106 = .ok (.if_icmp .ne 17, 3) := by decide +kernel
theorem dyL_stands_109 : decode cL_stands 109 = .ok (.aload_n 0, 1) := by decide +kernel
theorem dyL_stands_110 : decode cL_stands 110 = .ok (.iload 7, 2) := by decide +kernel
theorem dyL_stands_112 : decode cL_stands 112 = .ok (.iconst 3, 1) := by decide +kernel
theorem dyL_stands_113 : decode cL_stands 113 = .ok (.invokevirtual 39, 3) := by decide +kernel
theorem dyL_stands_116 : decode cL_stands 116 = .ok (.ifCond .lt 7, 3) := by decide +kernel
theorem dyL_stands_119 : decode cL_stands 119 = .ok (.iconst 1, 1) := by decide +kernel
theorem dyL_stands_120 : decode cL_stands 120 = .ok (.goto 4, 3) := by decide +kernel
theorem dyL_stands_123 : decode cL_stands 123 = .ok (.iconst 0, 1) := by decide +kernel
theorem dyL_stands_124 : decode cL_stands 124 = .ok (.istore 6, 2) := by decide +kernel
theorem dyL_stands_126 : decode cL_stands 126 = .ok (.iload 8, 2) := by decide +kernel
theorem dyL_stands_128 : decode cL_stands 128 = .ok (.ifCond .ge 69, 3) := by decide +kernel
theorem dyL_stands_131 : decode cL_stands 131 = .ok (.iload 6, 2) := by decide +kernel
theorem dyL_stands_133 : decode cL_stands 133 = .ok (.ifCond .eq 55, 3) := by decide +kernel
theorem dyL_stands_136 : decode cL_stands 136 = .ok (.aload_n 0, 1) := by decide +kernel
theorem dyL_stands_137 : decode cL_stands 137 = .ok (.iload_n 3, 1) := by decide +kernel
theorem dyL_stands_138 : decode cL_stands 138 = .ok (.invokevirtual 43, 3) := by decide +kernel
theorem dyL_stands_141 : decode cL_stands 141 = .ok (.iload 7, 2) := by decide +kernel
theorem dyL_stands_143 : decode cL_stands 143 = .ok (.if_icmp .ne 45, 3) := by decide +kernel
theorem dyL_stands_146 : decode cL_stands 146 = .ok (.iload 9, 2) := by decide +kernel
theorem dyL_stands_148 : decode cL_stands 148 = .ok (.ifCond .ne 40, 3) := by decide +kernel
theorem dyL_stands_151 : decode cL_stands 151 = .ok (.aload_n 0, 1) := by decide +kernel
theorem dyL_stands_152 : decode cL_stands 152 = .ok (.iload 7, 2) := by decide +kernel
theorem dyL_stands_154 : decode cL_stands 154 = .ok (.iconst 4, 1) := by decide +kernel
theorem dyL_stands_155 : decode cL_stands 155 = .ok (.invokevirtual 39, 3) := by decide +kernel
theorem dyL_stands_158 : decode cL_stands 158 = .ok (.iconst 1, 1) := by decide +kernel
theorem dyL_stands_159 : decode cL_stands 159 = .ok (.if_icmp .ne 29, 3) := by decide +kernel
theorem dyL_stands_162 : decode cL_stands 162 = .ok (.aload_n 0, 1) := by decide +kernel
theorem dyL_stands_163 : decode cL_stands 163 = .ok (.iload 7, 2) := by decide +kernel
theorem dyL_stands_165 : decode cL_stands 165 = .ok (.bipush 8, 2) := by decide +kernel
theorem dyL_stands_167 : decode cL_stands 167 = .ok (.invokevirtual 39, 3) := by decide +kernel
theorem dyL_stands_170 : decode cL_stands 170 = .ok (.iload_n 3, 1) := by decide +kernel
theorem dyL_stands_171 : decode cL_stands 171 = .ok (.if_icmp .ne 17, 3) := by decide +kernel
theorem dyL_stands_174 : decode cL_stands 174 = .ok (.aload_n 0, 1) := by decide +kernel
theorem dyL_stands_175 : decode cL_stands 175 = .ok (.iload 7, 2) := by decide +kernel
theorem dyL_stands_177 : decode cL_stands 177 = .ok (.iconst 1, 1) := by decide +kernel
theorem dyL_stands_178 : decode cL_stands 178 = .ok (.invokevirtual 46, 3) := by decide +kernel
theorem dyL_stands_181 : decode cL_stands 181 = .ok (.ifCond .le 7, 3) := by decide +kernel
theorem dyL_stands_184 : decode cL_stands 184 = .ok (.iconst 1, 1) := by decide +kernel
theorem dyL_stands_185 : decode cL_stands 185 = .ok (.goto 4, 3) := by decide +kernel
theorem dyL_stands_188 : decode cL_stands 188 = .ok (.iconst 0, 1) := by decide +kernel
theorem dyL_stands_189 : decode cL_stands 189 = .ok (.istore 6, 2) := by decide +kernel
theorem dyL_stands_191 : decode cL_stands 191 = .ok (.iinc 3 1, 3) := by decide +kernel
theorem dyL_stands_194 : decode cL_stands 194 = .ok (.goto (-141), 3) := by decide +kernel
theorem dyL_stands_197 : decode cL_stands 197 = .ok (.iload 8, 2) := by decide +kernel
theorem dyL_stands_199 : decode cL_stands 199 = .ok (.invokestatic 49, 3) := by decide +kernel
theorem dyL_stands_202 : decode cL_stands 202 = .ok (.astore 11, 2) := by decide +kernel
theorem dyL_stands_204 : decode cL_stands 204 = .ok (.iload 6, 2) := by decide +kernel
theorem dyL_stands_206 : decode cL_stands 206 = .ok (.ifCond .eq 95, 3) := by decide +kernel
theorem dyL_stands_209 : decode cL_stands 209 = .ok (.iload 9, 2) := by decide +kernel
theorem dyL_stands_211 : decode cL_stands 211 = .ok (.aload 11, 2) := by decide +kernel
theorem dyL_stands_213 : decode cL_stands 213 = .ok (.arraylength, 1) := by decide +kernel
theorem dyL_stands_214 : decode cL_stands 214 = .ok (.if_icmp .ne 87, 3) := by decide +kernel
theorem dyL_stands_217 : decode cL_stands 217 = .ok (.aload_n 0, 1) := by decide +kernel
theorem dyL_stands_218 : decode cL_stands 218 = .ok (.iload 7, 2) := by decide +kernel
theorem dyL_stands_220 : decode cL_stands 220 = .ok (.iconst 1, 1) := by decide +kernel
theorem dyL_stands_221 : decode cL_stands 221 = .ok (.invokevirtual 39, 3) := by decide +kernel
theorem dyL_stands_224 : decode cL_stands 224 = .ok (.iload 8, 2) := by decide +kernel
theorem dyL_stands_226 : decode cL_stands 226 = .ok (.iconst 2, 1) := by decide +kernel
theorem dyL_stands_227 : decode cL_stands 227 = .ok (.if_icmp .ge 7, 3) := by decide +kernel
theorem dyL_stands_230 : decode cL_stands 230 = .ok (.iconst 0, 1) := by decide +kernel
theorem dyL_stands_231 : decode cL_stands 231 = .ok (.goto 36, 3) := by decide +kernel
theorem dyL_stands_234 : decode cL_stands 234 = .ok (.iload 8, 2) := by decide +kernel
theorem dyL_stands_236 : decode cL_stands 236 = .ok (.iconst 4, 1) := by decide +kernel
theorem dyL_stands_237 : decode cL_stands 237 = .ok (.if_icmp .ge 7, 3) := by decide +kernel
theorem dyL_stands_240 : decode cL_stands 240 = .ok (.iconst 1, 1) := by decide +kernel
theorem dyL_stands_241 : decode cL_stands 241 = .ok (.goto 26, 3) := by decide +kernel
theorem dyL_stands_244 : decode cL_stands 244 = .ok (.iload 8, 2) := by decide +kernel
theorem dyL_stands_246 : decode cL_stands 246 = .ok (.bipush 6, 2) := by decide +kernel
theorem dyL_stands_248 : decode cL_stands 248 = .ok (.if_icmp .ge 7, 3) := by decide +kernel
theorem dyL_stands_251 : decode cL_stands 251 = .ok (.iconst 2, 1) := by decide +kernel
theorem dyL_stands_252 : decode cL_stands 252 = .ok (.goto 15, 3) := by decide +kernel
theorem dyL_stands_255 : decode cL_stands 255 = .ok (.iload 8, 2) := by decide +kernel
theorem dyL_stands_257 : decode cL_stands 257 = .ok (.bipush 8, 2) := by decide +kernel
theorem dyL_stands_259 : decode cL_stands 259 = .ok (.if_icmp .ge 7, 3) := by decide +kernel
theorem dyL_stands_262 : decode cL_stands 262 = .ok (.iconst 3, 1) := by decide +kernel
theorem dyL_stands_263 : decode cL_stands 263 = .ok (.goto 4, 3) := by decide +kernel
theorem dyL_stands_266 : decode cL_stands 266 = .ok (.iconst 4, 1) := by decide +kernel
theorem dyL_stands_267 : decode cL_stands 267 = .ok (.if_icmp .ne 34, 3) := by decide +kernel
theorem dyL_stands_270 : decode cL_stands 270 = .ok (.aload_n 0, 1) := by decide +kernel
theorem dyL_stands_271 : decode cL_stands 271 = .ok (.iload 7, 2) := by decide +kernel
theorem dyL_stands_273 : decode cL_stands 273 = .ok (.bipush 8, 2) := by decide +kernel
theorem dyL_stands_275 : decode cL_stands 275 = .ok (.invokevirtual 39, 3) := by decide +kernel
theorem dyL_stands_278 : decode cL_stands 278 = .ok (.aload_n 0, 1) := by decide +kernel
theorem dyL_stands_279 : decode cL_stands 279 = .ok (.iload 7, 2) := by decide +kernel
theorem dyL_stands_281 : decode cL_stands 281 = .ok (.iconst 4, 1) := by decide +kernel
theorem dyL_stands_282 : decode cL_stands 282 = .ok (.invokevirtual 39, 3) := by decide +kernel
theorem dyL_stands_285 : decode cL_stands 285 = .ok (.ifCond .ne 8, 3) := by decide +kernel
theorem dyL_stands_288 : decode cL_stands 288 = .ok (.bipush (-2), 2) := by decide +kernel
theorem dyL_stands_290 : decode cL_stands 290 = .ok (.goto 4, 3) := by decide +kernel
theorem dyL_stands_293 : decode cL_stands 293 = .ok (.iload_n 3, 1) := by decide +kernel
theorem dyL_stands_294 : decode cL_stands 294 = .ok (.if_icmp .ne 7, 3) := by decide +kernel
theorem dyL_stands_297 : decode cL_stands 297 = .ok (.iconst 1, 1) := by decide +kernel
theorem dyL_stands_298 : decode cL_stands 298 = .ok (.goto 4, 3) := by decide +kernel
theorem dyL_stands_301 : decode cL_stands 301 = .ok (.iconst 0, 1) := by decide +kernel
theorem dyL_stands_302 : decode cL_stands 302 = .ok (.istore 6, 2) := by decide +kernel
theorem dyL_stands_304 : decode cL_stands 304 = .ok (.iload 9, 2) := by decide +kernel
theorem dyL_stands_306 : decode cL_stands 306 = .ok (.iconst 1, 1) := by decide +kernel
theorem dyL_stands_307 : decode cL_stands 307 = .ok (.isub, 1) := by decide +kernel
theorem dyL_stands_308 : decode cL_stands 308 = .ok (.istore 12, 2) := by decide +kernel
theorem dyL_stands_310 : decode cL_stands 310 = .ok (.iload 12, 2) := by decide +kernel
theorem dyL_stands_312 : decode cL_stands 312 = .ok (.ifCond .lt 143, 3) := by decide +kernel
theorem dyL_stands_315 : decode cL_stands 315 = .ok (.aload_n 0, 1) := by decide +kernel
theorem dyL_stands_316 : decode cL_stands 316 = .ok (.iload 7, 2) := by decide +kernel
theorem dyL_stands_318 : decode cL_stands 318 = .ok (.iload 12, 2) := by decide +kernel
theorem dyL_stands_320 : decode cL_stands 320 = .ok (.invokevirtual 53, 3) := by decide +kernel
theorem dyL_stands_323 : decode cL_stands 323 = .ok (.istore 13, 2) := by decide +kernel
theorem dyL_stands_325 : decode cL_stands 325 = .ok (.iload 10, 2) := by decide +kernel
theorem dyL_stands_327 : decode cL_stands 327 = .ok (.aload_n 0, 1) := by decide +kernel
theorem dyL_stands_328 : decode cL_stands 328 = .ok (.iload 13, 2) := by decide +kernel
theorem dyL_stands_330 : decode cL_stands 330 = .ok (.iconst 4, 1) := by decide +kernel
theorem dyL_stands_331 : decode cL_stands 331 = .ok (.invokevirtual 39, 3) := by decide +kernel
theorem dyL_stands_334 : decode cL_stands 334 = .ok (.iadd, 1) := by decide +kernel
theorem dyL_stands_335 : decode cL_stands 335 = .ok (.istore 10, 2) := by decide +kernel
theorem dyL_stands_337 : decode cL_stands 337 = .ok (.iload 6, 2) := by decide +kernel
theorem dyL_stands_339 : decode cL_stands 339 = .ok (.ifCond .eq 97, 3) := by decide +kernel
theorem dyL_stands_342 : decode cL_stands 342 = .ok (.aload_n 0, 1) := by decide +kernel
theorem dyL_stands_343 : decode cL_stands 343 = .ok (.iload 13, 2) := by decide +kernel
theorem dyL_stands_345 : decode cL_stands 345 = .ok (.bipush 7, 2) := by decide +kernel
theorem dyL_stands_347 : decode cL_stands 347 = .ok (.invokevirtual 39, 3) := by decide +kernel
theorem dyL_stands_350 : decode cL_stands 350 = .ok (.iload 7, 2) := by decide +kernel
theorem dyL_stands_352 : decode cL_stands 352 = .ok (.if_icmp .ne 84, 3) := by decide +kernel
theorem dyL_stands_355 : decode cL_stands 355 = .ok (.aload_n 0, 1) := by decide +kernel
theorem dyL_stands_356 : decode cL_stands 356 = .ok (.iload 13, 2) := by decide +kernel
theorem dyL_stands_358 : decode cL_stands 358 = .ok (.iconst 1, 1) := by decide +kernel
theorem dyL_stands_359 : decode cL_stands 359 = .ok (.invokevirtual 39, 3) := by decide +kernel
theorem dyL_stands_362 : decode cL_stands 362 = .ok (.aload 11, 2) := by decide +kernel
theorem dyL_stands_364 : decode cL_stands 364 = .ok (.iload 12, 2) := by decide +kernel
theorem dyL_stands_366 : decode cL_stands 366 = .ok (.iaload, 1) := by decide +kernel
theorem dyL_stands_367 : decode cL_stands 367 = .ok (.if_icmp .ne 69, 3) := by decide +kernel
theorem dyL_stands_370 : decode cL_stands 370 = .ok (.aload_n 0, 1) := by decide +kernel
theorem dyL_stands_371 : decode cL_stands 371 = .ok (.iload 13, 2) := by decide +kernel
theorem dyL_stands_373 : decode cL_stands 373 = .ok (.invokevirtual 56, 3) := by decide +kernel
theorem dyL_stands_376 : decode cL_stands 376 = .ok (.iload 12, 2) := by decide +kernel
theorem dyL_stands_378 : decode cL_stands 378 = .ok (.iconst 1, 1) := by decide +kernel
theorem dyL_stands_379 : decode cL_stands 379 = .ok (.iadd, 1) := by decide +kernel
theorem dyL_stands_380 : decode cL_stands 380 = .ok (.iload 9, 2) := by decide +kernel
theorem dyL_stands_382 : decode cL_stands 382 = .ok (.if_icmp .ge 16, 3) := by decide +kernel
theorem dyL_stands_385 : decode cL_stands 385 = .ok (.aload_n 0, 1) := by decide +kernel
theorem dyL_stands_386 : decode cL_stands 386 = .ok (.iload 7, 2) := by decide +kernel
theorem dyL_stands_388 : decode cL_stands 388 = .ok (.iload 12, 2) := by decide +kernel
theorem dyL_stands_390 : decode cL_stands 390 = .ok (.iconst 1, 1) := by decide +kernel
theorem dyL_stands_391 : decode cL_stands 391 = .ok (.iadd, 1) := by decide +kernel
theorem dyL_stands_392 : decode cL_stands 392 = .ok (.invokevirtual 53, 3) := by decide +kernel
theorem dyL_stands_395 : decode cL_stands 395 = .ok (.goto 5, 3) := by decide +kernel
theorem dyL_stands_398 : decode cL_stands 398 = .ok (.bipush (-2), 2) := by decide +kernel
theorem dyL_stands_400 : decode cL_stands 400 = .ok (.if_icmp .ne 36, 3) := by decide +kernel
theorem dyL_stands_403 : decode cL_stands 403 = .ok (.aload_n 0, 1) := by decide +kernel
theorem dyL_stands_404 : decode cL_stands 404 = .ok (.iload 13, 2) := by decide +kernel
theorem dyL_stands_406 : decode cL_stands 406 = .ok (.invokevirtual 59, 3) := by decide +kernel
theorem dyL_stands_409 : decode cL_stands 409 = .ok (.iload 12, 2) := by decide +kernel
theorem dyL_stands_411 : decode cL_stands 411 = .ok (.ifCond .le 16, 3) := by decide +kernel
theorem dyL_stands_414 : decode cL_stands 414 = .ok (.aload_n 0, 1) := by decide +kernel
theorem dyL_stands_415 : decode cL_stands 415 = .ok (.iload 7, 2) := by decide +kernel
theorem dyL_stands_417 : decode cL_stands 417 = .ok (.iload 12, 2) := by decide +kernel
theorem dyL_stands_419 : decode cL_stands 419 = .ok (.iconst 1, 1) := by decide +kernel
theorem dyL_stands_420 : decode cL_stands 420 = .ok (.isub, 1) := by decide +kernel
theorem dyL_stands_421 : decode cL_stands 421 = .ok (.invokevirtual 53, 3) := by decide +kernel
theorem dyL_stands_424 : decode cL_stands 424 = .ok (.goto 5, 3) := by decide +kernel
theorem dyL_stands_427 : decode cL_stands 427 = .ok (.bipush (-2), 2) := by decide +kernel
theorem dyL_stands_429 : decode cL_stands 429 = .ok (.if_icmp .ne 7, 3) := by decide +kernel
theorem dyL_stands_432 : decode cL_stands 432 = .ok (.iconst 1, 1) := by decide +kernel
theorem dyL_stands_433 : decode cL_stands 433 = .ok (.goto 4, 3) := by decide +kernel
theorem dyL_stands_436 : decode cL_stands 436 = .ok (.iconst 0, 1) := by decide +kernel
theorem dyL_stands_437 : decode cL_stands 437 = .ok (.istore 6, 2) := by decide +kernel
theorem dyL_stands_439 : decode cL_stands 439 = .ok (.aload 4, 2) := by decide +kernel
theorem dyL_stands_441 : decode cL_stands 441 = .ok (.iload 5, 2) := by decide +kernel
theorem dyL_stands_443 : decode cL_stands 443 = .ok (.iinc 5 1, 3) := by decide +kernel
theorem dyL_stands_446 : decode cL_stands 446 = .ok (.iload 13, 2) := by decide +kernel
theorem dyL_stands_448 : decode cL_stands 448 = .ok (.iastore, 1) := by decide +kernel
theorem dyL_stands_449 : decode cL_stands 449 = .ok (.iinc 12 (-1), 3) := by decide +kernel
theorem dyL_stands_452 : decode cL_stands 452 = .ok (.goto (-142), 3) := by decide +kernel
theorem dyL_stands_455 : decode cL_stands 455 = .ok (.iload 6, 2) := by decide +kernel
theorem dyL_stands_457 : decode cL_stands 457 = .ok (.ifCond .eq 31, 3) := by decide +kernel
theorem dyL_stands_460 : decode cL_stands 460 = .ok (.iload 10, 2) := by decide +kernel
theorem dyL_stands_462 : decode cL_stands 462 = .ok (.aload_n 0, 1) := by decide +kernel
theorem dyL_stands_463 : decode cL_stands 463 = .ok (.iload 7, 2) := by decide +kernel
theorem dyL_stands_465 : decode cL_stands 465 = .ok (.iconst 4, 1) := by decide +kernel
theorem dyL_stands_466 : decode cL_stands 466 = .ok (.invokevirtual 39, 3) := by decide +kernel
theorem dyL_stands_469 : decode cL_stands 469 = .ok (.if_icmp .ne 19, 3) := by decide +kernel
theorem dyL_stands_472 : decode cL_stands 472 = .ok (.aload_n 0, 1) := by decide +kernel
theorem dyL_stands_473 : decode cL_stands 473 = .ok (.iload 7, 2) := by decide +kernel
theorem dyL_stands_475 : decode cL_stands 475 = .ok (.iload 9, 2) := by decide +kernel
theorem dyL_stands_477 : decode cL_stands 477 = .ok (.invokevirtual 53, 3) := by decide +kernel
theorem dyL_stands_480 : decode cL_stands 480 = .ok (.iconst (-1), 1) := by decide +kernel
theorem dyL_stands_481 : decode cL_stands 481 = .ok (.if_icmp .ne 7, 3) := by decide +kernel
theorem dyL_stands_484 : decode cL_stands 484 = .ok (.iconst 1, 1) := by decide +kernel
theorem dyL_stands_485 : decode cL_stands 485 = .ok (.goto 4, 3) := by decide +kernel
theorem dyL_stands_488 : decode cL_stands 488 = .ok (.iconst 0, 1) := by decide +kernel
theorem dyL_stands_489 : decode cL_stands 489 = .ok (.istore 6, 2) := by decide +kernel
theorem dyL_stands_491 : decode cL_stands 491 = .ok (.goto (-438), 3) := by decide +kernel
theorem dyL_stands_494 : decode cL_stands 494 = .ok (.iload 6, 2) := by decide +kernel
theorem dyL_stands_496 : decode cL_stands 496 = .ok (.ifCond .eq 36, 3) := by decide +kernel
theorem dyL_stands_499 : decode cL_stands 499 = .ok (.iload_n 2, 1) := by decide +kernel
theorem dyL_stands_500 : decode cL_stands 500 = .ok (.aload_n 0, 1) := by decide +kernel
theorem dyL_stands_501 : decode cL_stands 501 = .ok (.bipush 10, 2) := by decide +kernel
theorem dyL_stands_503 : decode cL_stands 503 = .ok (.invokevirtual 36, 3) := by decide +kernel
theorem dyL_stands_506 : decode cL_stands 506 = .ok (.if_icmp .ne 26, 3) := by decide +kernel
theorem dyL_stands_509 : decode cL_stands 509 = .ok (.iload_n 3, 1) := by decide +kernel
theorem dyL_stands_510 : decode cL_stands 510 = .ok (.aload_n 0, 1) := by decide +kernel
theorem dyL_stands_511 : decode cL_stands 511 = .ok (.iconst 3, 1) := by decide +kernel
theorem dyL_stands_512 : decode cL_stands 512 = .ok (.invokevirtual 36, 3) := by decide +kernel
theorem dyL_stands_515 : decode cL_stands 515 = .ok (.iconst 1, 1) := by decide +kernel
theorem dyL_stands_516 : decode cL_stands 516 = .ok (.isub, 1) := by decide +kernel
theorem dyL_stands_517 : decode cL_stands 517 = .ok (.if_icmp .ne 15, 3) := by decide +kernel
theorem dyL_stands_520 : decode cL_stands 520 = .ok (.aload_n 0, 1) := by decide +kernel
theorem dyL_stands_521 : decode cL_stands 521 = .ok (.iload_n 3, 1) := by decide +kernel
theorem dyL_stands_522 : decode cL_stands 522 = .ok (.invokevirtual 43, 3) := by decide +kernel
theorem dyL_stands_525 : decode cL_stands 525 = .ok (.ifCond .ne 7, 3) := by decide +kernel
theorem dyL_stands_528 : decode cL_stands 528 = .ok (.iconst 1, 1) := by decide +kernel
theorem dyL_stands_529 : decode cL_stands 529 = .ok (.goto 4, 3) := by decide +kernel
theorem dyL_stands_532 : decode cL_stands 532 = .ok (.iconst 0, 1) := by decide +kernel
theorem dyL_stands_533 : decode cL_stands 533 = .ok (.ireturn, 1) := by decide +kernel
theorem zsg_yL_stands : yL_stands.cls ≠ "java/lang/invoke/MethodHandle" ∧ yL_stands.cls ≠ "java/lang/invoke/VarHandle" ∧ (parseMethodDescriptor yL_stands.desc).map (fun d => d.parameters.length) = some 1 := by decide +kernel
theorem zv_L_36t {p : Program} {l : Launch} {e : Env} {R : Room} {s : State} {m : MethodId} {args : Array Value} {below : List Frame} {meth : Method} {c : Code} {Q : State → Prop} {D : va_G} {B : Nat} {cA : Nat → ClassId} {ad : Nat → Nat} {cc : ByteArray} {nL : Nat} {ret : Option FieldType} {S : List zC} {I : zI} {lv : List (Nat × Value)} {st : List Value} {pc cells slots : Nat} (C : zCx p s m args meth c cc nL RL ret D B cA ad) {K : Int32 → Prop} {xa1 : Int32} (hS : zOkX S)  (h : w_Desk_count xa1 I K) (hR : 4 + 1 ≤ R.frames ∧ 8 + (3 + 11) + (89) ≤ R.locals) (hw : (st.map fun v => v.category).sum ≤ 8) (hd : decode cc pc = .ok (.invokevirtual 36, 3)) (hf : cells ≤ R.cells ∧ slots ≤ R.slots) (kk : ∀ v, K v → zX p l e R s m args below meth c Q D B cA nL cells slots S I lv (.int v :: st) (pc + 3)) : zX p l e R s m args below meth c Q D B cA nL cells slots S I lv (.int xa1 :: .ref (B + 0) :: st) pc :=
  zc_VpI C (ci := 11) (q := (RX11, TX11, 19)) (k := 0) (fs := [some (some 1), none, some (some 3), some (some 4), none, none, none, none, some (some 22), some (some 24), some (some 43), some (some 64), some (some 69), some (some 88), some (some 97), some (some 100), some (some 109), some (some 111), none]) (As := [.int xa1]) (st := st) rfl (hS _ _ zs_0) (c_Desk_count hS h) (zgV zk_ml_L_36 zk_im_yX11_count zk_se_yX11_count zk_in_11 zk_cd_yX11_count) zsg_yX11_count hR rfl rfl hw hd hf kk
theorem zv_L_39t {p : Program} {l : Launch} {e : Env} {R : Room} {s : State} {m : MethodId} {args : Array Value} {below : List Frame} {meth : Method} {c : Code} {Q : State → Prop} {D : va_G} {B : Nat} {cA : Nat → ClassId} {ad : Nat → Nat} {cc : ByteArray} {nL : Nat} {ret : Option FieldType} {S : List zC} {I : zI} {lv : List (Nat × Value)} {st : List Value} {pc cells slots : Nat} (C : zCx p s m args meth c cc nL RL ret D B cA ad) {K : Int32 → Prop} {xa1 : Int32} {xa2 : Int32} (hS : zOkX S)  (h : w_Desk_node xa1 xa2 I K) (hR : 3 + 1 ≤ R.frames ∧ 8 + (3 + 11) + (64) ≤ R.locals) (hw : (st.map fun v => v.category).sum ≤ 8) (hd : decode cc pc = .ok (.invokevirtual 39, 3)) (hf : cells ≤ R.cells ∧ slots ≤ R.slots) (kk : ∀ v, K v → zX p l e R s m args below meth c Q D B cA nL cells slots S I lv (.int v :: st) (pc + 3)) : zX p l e R s m args below meth c Q D B cA nL cells slots S I lv (.int xa2 :: .int xa1 :: .ref (B + 0) :: st) pc :=
  zc_VpI C (ci := 11) (q := (RX11, TX11, 19)) (k := 0) (fs := [some (some 1), none, some (some 3), some (some 4), none, none, none, none, some (some 22), some (some 24), some (some 43), some (some 64), some (some 69), some (some 88), some (some 97), some (some 100), some (some 109), some (some 111), none]) (As := [.int xa1, .int xa2]) (st := st) rfl (hS _ _ zs_0) (c_Desk_node hS h) (zgV zk_ml_L_39 zk_im_yX11_node zk_se_yX11_node zk_in_11 zk_cd_yX11_node) zsg_yX11_node hR rfl rfl hw hd hf kk
theorem zv_L_43t {p : Program} {l : Launch} {e : Env} {R : Room} {s : State} {m : MethodId} {args : Array Value} {below : List Frame} {meth : Method} {c : Code} {Q : State → Prop} {D : va_G} {B : Nat} {cA : Nat → ClassId} {ad : Nat → Nat} {cc : ByteArray} {nL : Nat} {ret : Option FieldType} {S : List zC} {I : zI} {lv : List (Nat × Value)} {st : List Value} {pc cells slots : Nat} (C : zCx p s m args meth c cc nL RL ret D B cA ad) {K : Int32 → Prop} {xa1 : Int32} (hS : zOkX S)  (h : w_Desk_good xa1 I K) (hR : 1 + 1 ≤ R.frames ∧ 8 + (3 + 11) + (21) ≤ R.locals) (hw : (st.map fun v => v.category).sum ≤ 8) (hd : decode cc pc = .ok (.invokevirtual 43, 3)) (hf : cells ≤ R.cells ∧ slots ≤ R.slots) (kk : ∀ v, K v → zX p l e R s m args below meth c Q D B cA nL cells slots S I lv (.int v :: st) (pc + 3)) : zX p l e R s m args below meth c Q D B cA nL cells slots S I lv (.int xa1 :: .ref (B + 0) :: st) pc :=
  zc_VpI C (ci := 11) (q := (RX11, TX11, 19)) (k := 0) (fs := [some (some 1), none, some (some 3), some (some 4), none, none, none, none, some (some 22), some (some 24), some (some 43), some (some 64), some (some 69), some (some 88), some (some 97), some (some 100), some (some 109), some (some 111), none]) (As := [.int xa1]) (st := st) rfl (hS _ _ zs_0) (c_Desk_good hS h) (zgV zk_ml_L_43 zk_im_yX11_good zk_se_yX11_good zk_in_11 zk_cd_yX11_good) zsg_yX11_good hR rfl rfl hw hd hf kk
theorem zv_L_49t {p : Program} {l : Launch} {e : Env} {R : Room} {s : State} {m : MethodId} {args : Array Value} {below : List Frame} {meth : Method} {c : Code} {Q : State → Prop} {D : va_G} {B : Nat} {cA : Nat → ClassId} {ad : Nat → Nat} {cc : ByteArray} {nL : Nat} {ret : Option FieldType} {S : List zC} {I : zI} {lv : List (Nat × Value)} {st : List Value} {pc cells slots : Nat} (C : zCx p s m args meth c cc nL RL ret D B cA ad) {S0 : List zC} {MC MS : Nat} {K : Nat → Nat → List zC → zI → Prop} {xa0 : Int32} (g : zGo S0 MC MS S cells slots) (h : w_Law_symbols xa0 S I K) (hR : 0 + 1 ≤ R.frames ∧ 8 + (1 + 11) + 0 ≤ R.locals) (hw : (st.map fun v => v.category).sum ≤ 8) (hd : decode cc pc = .ok (.invokestatic 49, 3)) (hq : cells + 1 ≤ MC ∧ slots + 4 ≤ MS) (kk : ∀ (k n : Nat) (S2 : List zC) (I2 : zI), zGo S0 MC MS S2 (cells + 1) (slots + 4) → K k n S2 I2 → zX p l e R s m args below meth c Q D B cA nL (cells + 1) (slots + 4) S2 I2 lv (.ref (B + k) :: st) (pc + 3)) (hMC : R.cells = MC := by rfl) (hMS : R.slots = MS := by rfl) : zX p l e R s m args below meth c Q D B cA nL cells slots S I lv (.int xa0 :: st) pc :=
  zc_SaA C (As := [.int xa0]) (st := st) (c_Law_symbols g.1 h) (zgM zk_cd_yL_symbols) zk_ml_L_49 zk_st_yL_symbols zk_in_L zsg_yL_symbols hR rfl rfl hw hd ⟨hMC.symm ▸ hq.1, hMS.symm ▸ hq.2⟩ (fun k n S2 I2 hT hK => kk k n S2 I2 (g.call hT hq.1 hq.2) hK)
theorem zv_L_53t {p : Program} {l : Launch} {e : Env} {R : Room} {s : State} {m : MethodId} {args : Array Value} {below : List Frame} {meth : Method} {c : Code} {Q : State → Prop} {D : va_G} {B : Nat} {cA : Nat → ClassId} {ad : Nat → Nat} {cc : ByteArray} {nL : Nat} {ret : Option FieldType} {S : List zC} {I : zI} {lv : List (Nat × Value)} {st : List Value} {pc cells slots : Nat} (C : zCx p s m args meth c cc nL RL ret D B cA ad) {K : Int32 → Prop} {xa1 : Int32} {xa2 : Int32} (hS : zOkX S)  (h : w_Desk_child xa1 xa2 I K) (hR : 2 + 1 ≤ R.frames ∧ 8 + (3 + 11) + (43) ≤ R.locals) (hw : (st.map fun v => v.category).sum ≤ 8) (hd : decode cc pc = .ok (.invokevirtual 53, 3)) (hf : cells ≤ R.cells ∧ slots ≤ R.slots) (kk : ∀ v, K v → zX p l e R s m args below meth c Q D B cA nL cells slots S I lv (.int v :: st) (pc + 3)) : zX p l e R s m args below meth c Q D B cA nL cells slots S I lv (.int xa2 :: .int xa1 :: .ref (B + 0) :: st) pc :=
  zc_VpI C (ci := 11) (q := (RX11, TX11, 19)) (k := 0) (fs := [some (some 1), none, some (some 3), some (some 4), none, none, none, none, some (some 22), some (some 24), some (some 43), some (some 64), some (some 69), some (some 88), some (some 97), some (some 100), some (some 109), some (some 111), none]) (As := [.int xa1, .int xa2]) (st := st) rfl (hS _ _ zs_0) (c_Desk_child hS h) (zgV zk_ml_L_53 zk_im_yX11_child zk_se_yX11_child zk_in_11 zk_cd_yX11_child) zsg_yX11_child hR rfl rfl hw hd hf kk
theorem zv_L_56t {p : Program} {l : Launch} {e : Env} {R : Room} {s : State} {m : MethodId} {args : Array Value} {below : List Frame} {meth : Method} {c : Code} {Q : State → Prop} {D : va_G} {B : Nat} {cA : Nat → ClassId} {ad : Nat → Nat} {cc : ByteArray} {nL : Nat} {ret : Option FieldType} {S : List zC} {I : zI} {lv : List (Nat × Value)} {st : List Value} {pc cells slots : Nat} (C : zCx p s m args meth c cc nL RL ret D B cA ad) {K : Int32 → Prop} {xa1 : Int32} (hS : zOkX S)  (h : w_Desk_beside xa1 I K) (hR : 4 + 1 ≤ R.frames ∧ 8 + (2 + 11) + (90) ≤ R.locals) (hw : (st.map fun v => v.category).sum ≤ 8) (hd : decode cc pc = .ok (.invokevirtual 56, 3)) (hf : cells ≤ R.cells ∧ slots ≤ R.slots) (kk : ∀ v, K v → zX p l e R s m args below meth c Q D B cA nL cells slots S I lv (.int v :: st) (pc + 3)) : zX p l e R s m args below meth c Q D B cA nL cells slots S I lv (.int xa1 :: .ref (B + 0) :: st) pc :=
  zc_VpI C (ci := 11) (q := (RX11, TX11, 19)) (k := 0) (fs := [some (some 1), none, some (some 3), some (some 4), none, none, none, none, some (some 22), some (some 24), some (some 43), some (some 64), some (some 69), some (some 88), some (some 97), some (some 100), some (some 109), some (some 111), none]) (As := [.int xa1]) (st := st) rfl (hS _ _ zs_0) (c_Desk_beside hS h) (zgV zk_ml_L_56 zk_im_yX11_beside zk_se_yX11_beside zk_in_11 zk_cd_yX11_beside) zsg_yX11_beside hR rfl rfl hw hd hf kk
theorem zv_L_59t {p : Program} {l : Launch} {e : Env} {R : Room} {s : State} {m : MethodId} {args : Array Value} {below : List Frame} {meth : Method} {c : Code} {Q : State → Prop} {D : va_G} {B : Nat} {cA : Nat → ClassId} {ad : Nat → Nat} {cc : ByteArray} {nL : Nat} {ret : Option FieldType} {S : List zC} {I : zI} {lv : List (Nat × Value)} {st : List Value} {pc cells slots : Nat} (C : zCx p s m args meth c cc nL RL ret D B cA ad) {K : Int32 → Prop} {xa1 : Int32} (hS : zOkX S)  (h : w_Desk_before xa1 I K) (hR : 4 + 1 ≤ R.frames ∧ 8 + (2 + 11) + (90) ≤ R.locals) (hw : (st.map fun v => v.category).sum ≤ 8) (hd : decode cc pc = .ok (.invokevirtual 59, 3)) (hf : cells ≤ R.cells ∧ slots ≤ R.slots) (kk : ∀ v, K v → zX p l e R s m args below meth c Q D B cA nL cells slots S I lv (.int v :: st) (pc + 3)) : zX p l e R s m args below meth c Q D B cA nL cells slots S I lv (.int xa1 :: .ref (B + 0) :: st) pc :=
  zc_VpI C (ci := 11) (q := (RX11, TX11, 19)) (k := 0) (fs := [some (some 1), none, some (some 3), some (some 4), none, none, none, none, some (some 22), some (some 24), some (some 43), some (some 64), some (some 69), some (some 88), some (some 97), some (some 100), some (some 109), some (some 111), none]) (As := [.int xa1]) (st := st) rfl (hS _ _ zs_0) (c_Desk_before hS h) (zgV zk_ml_L_59 zk_im_yX11_before zk_se_yX11_before zk_in_11 zk_cd_yX11_before) zsg_yX11_before hR rfl rfl hw hd hf kk
theorem zv_L_46t {p : Program} {l : Launch} {e : Env} {R : Room} {s : State} {m : MethodId} {args : Array Value} {below : List Frame} {meth : Method} {c : Code} {Q : State → Prop} {D : va_G} {B : Nat} {cA : Nat → ClassId} {ad : Nat → Nat} {cc : ByteArray} {nL : Nat} {ret : Option FieldType} {S : List zC} {I : zI} {lv : List (Nat × Value)} {st : List Value} {pc cells slots : Nat} (C : zCx p s m args meth c cc nL RL ret D B cA ad) {K : Int32 → Prop} {xa1 : Int32} {xa2 : Int32} (hS : zOkX S)  (h : w_Desk_span xa1 xa2 I K) (hR : 4 + 1 ≤ R.frames ∧ 8 + (3 + 11) + (87) ≤ R.locals) (hw : (st.map fun v => v.category).sum ≤ 8) (hd : decode cc pc = .ok (.invokevirtual 46, 3)) (hf : cells ≤ R.cells ∧ slots ≤ R.slots) (kk : ∀ v, K v → zX p l e R s m args below meth c Q D B cA nL cells slots S I lv (.int v :: st) (pc + 3)) : zX p l e R s m args below meth c Q D B cA nL cells slots S I lv (.int xa2 :: .int xa1 :: .ref (B + 0) :: st) pc :=
  zc_VpI C (ci := 11) (q := (RX11, TX11, 19)) (k := 0) (fs := [some (some 1), none, some (some 3), some (some 4), none, none, none, none, some (some 22), some (some 24), some (some 43), some (some 64), some (some 69), some (some 88), some (some 97), some (some 100), some (some 109), some (some 111), none]) (As := [.int xa1, .int xa2]) (st := st) rfl (hS _ _ zs_0) (c_Desk_span hS h) (zgV zk_ml_L_46 zk_im_yX11_span zk_se_yX11_span zk_in_11 zk_cd_yX11_span) zsg_yX11_span hR rfl rfl hw hd hf kk
set_option maxHeartbeats 4000000 in
set_option maxRecDepth 20000 in
theorem c_Law_stands {l : Launch} {D : va_G} {B : Nat} {cA : Nat → ClassId} {ad : Nat → Nat} {S : List zC} (hS : zOkX S)  {I : zI} {K : Int32 → List zC → zI → Prop} (h : w_Law_stands S I K) : Met l yL_stands (zws yL_stands cL_stands 14 (some .boolean)) (zrA 5 111 500 3000) (zPc D B cA ad [.ref (B + 0)] S I) (zQc D B cA (zaI S K)) 500 3000 (fun q => B ≤ q) := by
  refine zm_of (cc := cL_stands) (maxL := 14) (ret := (some .boolean)) (by decide +kernel) rfl (Nat.le_of_ble_eq_true rfl) trivial ?_
  intro p e s m args below meth c C _
  unfold w_Law_stands at h
  have g0 : zGo S 500 3000 S 0 0 := zGo.start hS
  show zX p l e (zrA 5 111 500 3000) s m args below meth c (MQ below (zQc D B cA (zaI S K)) args s 500 3000 (fun q => B ≤ q)) D B cA 14 0 0 S I [(0, .ref (B + 0))] [] 0
  refine zr_aload_n C dyL_stands_0 rfl 0 rfl ?_
  refine zr_iconst C dyL_stands_1 zc_i_4 ?_
  refine zv_L_36t C g0.1 (st := []) h ⟨Nat.le_of_ble_eq_true rfl, Nat.le_of_ble_eq_true rfl⟩ (Nat.le_of_ble_eq_true rfl) dyL_stands_2 ⟨g0.2.2.1, g0.2.2.2⟩ (fun r_1 h => ?_)
  refine zr_istore_n C dyL_stands_5 rfl (Nat.le_of_ble_eq_true rfl) (lv2 := [(1, .int r_1), (0, .ref (B + 0))]) rfl ?_
  refine zr_iconst C dyL_stands_6 zc_i_0 ?_
  refine zr_istore_n C dyL_stands_7 rfl (Nat.le_of_ble_eq_true rfl) (lv2 := [(2, .int 0), (1, .int r_1), (0, .ref (B + 0))]) rfl ?_
  refine zr_iconst C dyL_stands_8 zc_i_0 ?_
  refine zr_istore_n C dyL_stands_9 rfl (Nat.le_of_ble_eq_true rfl) (lv2 := [(3, .int 0), (2, .int 0), (1, .int r_1), (0, .ref (B + 0))]) rfl ?_
  refine zr_sipush C dyL_stands_10 zc_s_800 ?_
  refine za_nn C g0 zk_ac_int rfl rfl h.1 dyL_stands_13 (fun S_2 k_3 n_4 eS eK eN g_5 => ?_)
  replace h := h.2 S_2 k_3 n_4 eS eK eN
  refine zr_astore C dyL_stands_15 (Nat.le_of_ble_eq_true rfl) (lv2 := [(4, .ref (B + k_3)), (3, .int 0), (2, .int 0), (1, .int r_1), (0, .ref (B + 0))]) rfl ?_
  refine zr_iconst C dyL_stands_17 zc_i_1 ?_
  refine zr_istore C dyL_stands_18 (Nat.le_of_ble_eq_true rfl) (lv2 := [(5, .int 1), (4, .ref (B + k_3)), (3, .int 0), (2, .int 0), (1, .int r_1), (0, .ref (B + 0))]) rfl ?_
  refine zr_aload C dyL_stands_20 1 rfl ?_
  refine zr_iconst C dyL_stands_22 zc_i_0 ?_
  refine zr_iload_n C dyL_stands_23 rfl 4 rfl ?_
  refine zr_iast C h.1.1 h.1.2 dyL_stands_24 ?_
  replace h := h.2
  refine zn_mem C (fun I_6 eI_6 => ?_)
  replace h := h I_6 eI_6
  refine zr_aload_n C dyL_stands_25 rfl 5 rfl ?_
  refine zr_iload_n C dyL_stands_26 rfl 4 rfl ?_
  refine zr_iconst C dyL_stands_27 zc_i_1 ?_
  refine zv_L_39t C g_5.1 (st := []) h ⟨Nat.le_of_ble_eq_true rfl, Nat.le_of_ble_eq_true rfl⟩ (Nat.le_of_ble_eq_true rfl) dyL_stands_28 ⟨g_5.2.2.1, g_5.2.2.2⟩ (fun r_7 h => ?_)
  refine zjn (h (fun (t_8 : Int32) => zX p l e (zrA 5 111 500 3000) s m args below meth c (MQ below (zQc D B cA (zaI S K)) args s 500 3000 (fun q => B ≤ q)) D B cA 14 (0 + 1) (0 + n_4) S_2 I_6 [(5, .int 1), (4, .ref (B + k_3)), (3, .int 0), (2, .int 0), (0, .ref (B + 0))] [.int t_8] 51) (fun t_8 h => ?_)) (fun h => ?_)
  · refine zr_istore C dyL_stands_51 (Nat.le_of_ble_eq_true rfl) (lv2 := [(6, .int t_8), (5, .int 1), (4, .ref (B + k_3)), (3, .int 0), (2, .int 0), (0, .ref (B + 0))]) rfl ?_
    refine zjn (h (fun (v2_9 : Int32) (v3_10 : Int32) (v5_11 : Int32) (v6_12 : Int32) (S_13 : List zC) (c_14 : Nat) (u_15 : Nat) (I_17 : zI) => zGo S 500 3000 S_13 c_14 u_15 → zX p l e (zrA 5 111 500 3000) s m args below meth c (MQ below (zQc D B cA (zaI S K)) args s 500 3000 (fun q => B ≤ q)) D B cA 14 c_14 u_15 S_13 I_17 [(6, .int v6_12), (5, .int v5_11), (4, .ref (B + k_3)), (3, .int v3_10), (2, .int v2_9), (0, .ref (B + 0))] [] 53) (fun v2_9 v3_10 v5_11 v6_12 S_13 c_14 u_15 I_17 h g_16 => ?_)) (fun h => ?_)
    · refine zr_iload C dyL_stands_53 1 rfl ?_
      refine zjn (h (zX p l e (zrA 5 111 500 3000) s m args below meth c (MQ below (zQc D B cA (zaI S K)) args s 500 3000 (fun q => B ≤ q)) D B cA 14 c_14 u_15 S_13 I_17 [(6, .int v6_12), (3, .int v3_10), (2, .int v2_9), (0, .ref (B + 0))] [] 494) (fun  h => ?_)) (fun h => ?_)
      · refine zr_iload C dyL_stands_494 0 rfl ?_
        refine zr_if_eq C dyL_stands_496 (tgt := 532) (by decide) (fun hc_24 => ?_) (fun hc_24 => ?_)
        · replace h := zif_pos hc_24 h
          refine zr_iconst C dyL_stands_532 zc_i_0 ?_
          refine zr_widen g_16.2.2.1 g_16.2.2.2 ?_
          exact zr_zret C rfl (zb.nar zb_0) dyL_stands_533 ⟨g_16.2.1, _, rfl, h⟩
        · replace h := zif_neg hc_24 h
          refine zr_iload_n C dyL_stands_499 rfl 2 rfl ?_
          refine zr_aload_n C dyL_stands_500 rfl 3 rfl ?_
          refine zr_bipush C dyL_stands_501 zc_b_10 ?_
          refine zv_L_36t C g_16.1 (st := [.int v2_9]) h ⟨Nat.le_of_ble_eq_true rfl, Nat.le_of_ble_eq_true rfl⟩ (Nat.le_of_ble_eq_true rfl) dyL_stands_503 ⟨g_16.2.2.1, g_16.2.2.2⟩ (fun r_18 h => ?_)
          refine zr_icmp_ne C dyL_stands_506 (tgt := 532) (by decide) (fun hc_23 => ?_) (fun hc_23 => ?_)
          · replace h := zif_neg hc_23 h
            refine zr_iconst C dyL_stands_532 zc_i_0 ?_
            refine zr_widen g_16.2.2.1 g_16.2.2.2 ?_
            exact zr_zret C rfl (zb.nar zb_0) dyL_stands_533 ⟨g_16.2.1, _, rfl, h⟩
          · replace h := zif_pos hc_23 h
            refine zr_iload_n C dyL_stands_509 rfl 1 rfl ?_
            refine zr_aload_n C dyL_stands_510 rfl 3 rfl ?_
            refine zr_iconst C dyL_stands_511 zc_i_3 ?_
            refine zv_L_36t C g_16.1 (st := [.int v3_10]) h ⟨Nat.le_of_ble_eq_true rfl, Nat.le_of_ble_eq_true rfl⟩ (Nat.le_of_ble_eq_true rfl) dyL_stands_512 ⟨g_16.2.2.1, g_16.2.2.2⟩ (fun r_19 h => ?_)
            refine zr_iconst C dyL_stands_515 zc_i_1 ?_
            refine zr_isub C dyL_stands_516 ?_
            refine zr_icmp_ne C dyL_stands_517 (tgt := 532) (by decide) (fun hc_22 => ?_) (fun hc_22 => ?_)
            · replace h := zif_neg hc_22 h
              refine zr_iconst C dyL_stands_532 zc_i_0 ?_
              refine zr_widen g_16.2.2.1 g_16.2.2.2 ?_
              exact zr_zret C rfl (zb.nar zb_0) dyL_stands_533 ⟨g_16.2.1, _, rfl, h⟩
            · replace h := zif_pos hc_22 h
              refine zr_aload_n C dyL_stands_520 rfl 3 rfl ?_
              refine zr_iload_n C dyL_stands_521 rfl 1 rfl ?_
              refine zv_L_43t C g_16.1 (st := []) h ⟨Nat.le_of_ble_eq_true rfl, Nat.le_of_ble_eq_true rfl⟩ (Nat.le_of_ble_eq_true rfl) dyL_stands_522 ⟨g_16.2.2.1, g_16.2.2.2⟩ (fun r_20 h => ?_)
              refine zr_if_ne C dyL_stands_525 (tgt := 532) (by decide) (fun hc_21 => ?_) (fun hc_21 => ?_)
              · replace h := zif_neg hc_21 h
                refine zr_iconst C dyL_stands_532 zc_i_0 ?_
                refine zr_widen g_16.2.2.1 g_16.2.2.2 ?_
                exact zr_zret C rfl (zb.nar zb_0) dyL_stands_533 ⟨g_16.2.1, _, rfl, h⟩
              · replace h := zif_pos hc_21 h
                refine zr_iconst C dyL_stands_528 zc_i_1 ?_
                refine zr_goto C dyL_stands_529 (tgt := 533) (by decide) ?_
                refine zr_widen g_16.2.2.1 g_16.2.2.2 ?_
                exact zr_zret C rfl (zb.nar zb_1) dyL_stands_533 ⟨g_16.2.1, _, rfl, h⟩
      refine zr_if_le C dyL_stands_55 (tgt := 494) (by decide) (fun hc_104 => ?_) (fun hc_104 => ?_)
      · replace h := zif_pos hc_104 h
        refine zr_sub (lv2 := [(6, .int v6_12), (3, .int v3_10), (2, .int v2_9), (0, .ref (B + 0))]) [0, 3, 4, 5] rfl ?_
        exact h
      · replace h := zif_neg hc_104 h
        refine zr_iload C dyL_stands_58 0 rfl ?_
        refine zr_if_eq C dyL_stands_60 (tgt := 494) (by decide) (fun hc_103 => ?_) (fun hc_103 => ?_)
        · replace h := zif_pos hc_103 h
          refine zr_sub (lv2 := [(6, .int v6_12), (3, .int v3_10), (2, .int v2_9), (0, .ref (B + 0))]) [0, 3, 4, 5] rfl ?_
          exact h
        · replace h := zif_neg hc_103 h
          refine zr_aload C dyL_stands_63 2 rfl ?_
          refine zn_iinc C (fun v5_25 => [(5, .int v5_25), (6, .int v6_12), (4, .ref (B + k_3)), (3, .int v3_10), (2, .int v2_9), (0, .ref (B + 0))]) dyL_stands_65 1 rfl zc_i_m1 (Nat.le_of_ble_eq_true rfl) (fun _ => rfl) (fun v5_25 ev5_25 => ?_)
          replace h := h v5_25 ev5_25
          refine zr_iload C dyL_stands_68 0 rfl ?_
          refine zr_iald C h.1.1 h.1.2 dyL_stands_70 ?_
          replace h := h.2
          refine zn_istore C (fun v7_26 => [(7, .int v7_26), (5, .int v5_25), (6, .int v6_12), (4, .ref (B + k_3)), (3, .int v3_10), (2, .int v2_9), (0, .ref (B + 0))]) dyL_stands_71 (Nat.le_of_ble_eq_true rfl) (fun _ => rfl) (fun v7_26 ev7_26 => ?_)
          replace h := h v7_26 ev7_26
          refine zr_aload_n C dyL_stands_73 rfl 6 rfl ?_
          refine zr_iload C dyL_stands_74 0 rfl ?_
          refine zr_iconst C dyL_stands_76 zc_i_0 ?_
          refine zv_L_39t C g_16.1 (st := []) h ⟨Nat.le_of_ble_eq_true rfl, Nat.le_of_ble_eq_true rfl⟩ (Nat.le_of_ble_eq_true rfl) dyL_stands_77 ⟨g_16.2.2.1, g_16.2.2.2⟩ (fun r_27 h => ?_)
          refine zr_istore C dyL_stands_80 (Nat.le_of_ble_eq_true rfl) (lv2 := [(8, .int r_27), (7, .int v7_26), (5, .int v5_25), (6, .int v6_12), (4, .ref (B + k_3)), (3, .int v3_10), (2, .int v2_9), (0, .ref (B + 0))]) rfl ?_
          refine zr_aload_n C dyL_stands_82 rfl 7 rfl ?_
          refine zr_iload C dyL_stands_83 1 rfl ?_
          refine zr_iconst C dyL_stands_85 zc_i_2 ?_
          refine zv_L_39t C g_16.1 (st := []) h ⟨Nat.le_of_ble_eq_true rfl, Nat.le_of_ble_eq_true rfl⟩ (Nat.le_of_ble_eq_true rfl) dyL_stands_86 ⟨g_16.2.2.1, g_16.2.2.2⟩ (fun r_28 h => ?_)
          refine zr_istore C dyL_stands_89 (Nat.le_of_ble_eq_true rfl) (lv2 := [(9, .int r_28), (8, .int r_27), (7, .int v7_26), (5, .int v5_25), (6, .int v6_12), (4, .ref (B + k_3)), (3, .int v3_10), (2, .int v2_9), (0, .ref (B + 0))]) rfl ?_
          refine zr_iconst C dyL_stands_91 zc_i_0 ?_
          refine zr_istore C dyL_stands_92 (Nat.le_of_ble_eq_true rfl) (lv2 := [(10, .int 0), (9, .int r_28), (8, .int r_27), (7, .int v7_26), (5, .int v5_25), (6, .int v6_12), (4, .ref (B + k_3)), (3, .int v3_10), (2, .int v2_9), (0, .ref (B + 0))]) rfl ?_
          refine zn_iinc C (fun v2_29 => [(2, .int v2_29), (10, .int 0), (9, .int r_28), (8, .int r_27), (7, .int v7_26), (5, .int v5_25), (6, .int v6_12), (4, .ref (B + k_3)), (3, .int v3_10), (0, .ref (B + 0))]) dyL_stands_94 8 rfl zc_i_1 (Nat.le_of_ble_eq_true rfl) (fun _ => rfl) (fun v2_29 ev2_29 => ?_)
          replace h := h v2_29 ev2_29
          refine zr_aload_n C dyL_stands_97 rfl 9 rfl ?_
          refine zr_iload C dyL_stands_98 4 rfl ?_
          refine zr_bipush C dyL_stands_100 zc_b_6 ?_
          refine zv_L_39t C g_16.1 (st := []) h ⟨Nat.le_of_ble_eq_true rfl, Nat.le_of_ble_eq_true rfl⟩ (Nat.le_of_ble_eq_true rfl) dyL_stands_102 ⟨g_16.2.2.1, g_16.2.2.2⟩ (fun r_30 h => ?_)
          refine zr_iconst C dyL_stands_105 zc_i_1 ?_
          refine zjn (h (fun (t_31 : Int32) => zX p l e (zrA 5 111 500 3000) s m args below meth c (MQ below (zQc D B cA (zaI S K)) args s 500 3000 (fun q => B ≤ q)) D B cA 14 c_14 u_15 S_13 I_17 [(2, .int v2_29), (10, .int 0), (9, .int r_28), (8, .int r_27), (7, .int v7_26), (5, .int v5_25), (4, .ref (B + k_3)), (3, .int v3_10), (0, .ref (B + 0))] [.int t_31] 124) (fun t_31 h => ?_)) (fun h => ?_)
          · refine zr_istore C dyL_stands_124 (Nat.le_of_ble_eq_true rfl) (lv2 := [(6, .int t_31), (2, .int v2_29), (10, .int 0), (9, .int r_28), (8, .int r_27), (7, .int v7_26), (5, .int v5_25), (4, .ref (B + k_3)), (3, .int v3_10), (0, .ref (B + 0))]) rfl ?_
            refine zr_iload C dyL_stands_126 4 rfl ?_
            refine zr_if_ge C dyL_stands_128 (tgt := 197) (by decide) (fun hc_99 => ?_) (fun hc_99 => ?_)
            · replace h := zif_pos hc_99 h
              refine zr_iload C dyL_stands_197 4 rfl ?_
              refine zv_L_49t C g_16 (st := []) h.2 ⟨Nat.le_of_ble_eq_true rfl, Nat.le_of_ble_eq_true rfl⟩ (Nat.le_of_ble_eq_true rfl) dyL_stands_199 h.1 (fun k_32 n_33 S_34 I_35 g_36 h => ?_)
              refine zr_astore C dyL_stands_202 (Nat.le_of_ble_eq_true rfl) (lv2 := [(11, .ref (B + k_32)), (6, .int t_31), (2, .int v2_29), (10, .int 0), (9, .int r_28), (8, .int r_27), (7, .int v7_26), (5, .int v5_25), (4, .ref (B + k_3)), (3, .int v3_10), (0, .ref (B + 0))]) rfl ?_
              refine zr_iload C dyL_stands_204 1 rfl ?_
              refine zjn (h (fun (t_37 : Int32) => zX p l e (zrA 5 111 500 3000) s m args below meth c (MQ below (zQc D B cA (zaI S K)) args s 500 3000 (fun q => B ≤ q)) D B cA 14 (c_14 + 1) (u_15 + 4) S_34 I_35 [(11, .ref (B + k_32)), (2, .int v2_29), (10, .int 0), (9, .int r_28), (7, .int v7_26), (5, .int v5_25), (4, .ref (B + k_3)), (3, .int v3_10), (0, .ref (B + 0))] [.int t_37] 302) (fun t_37 h => ?_)) (fun h => ?_)
              · refine zr_istore C dyL_stands_302 (Nat.le_of_ble_eq_true rfl) (lv2 := [(6, .int t_37), (11, .ref (B + k_32)), (2, .int v2_29), (10, .int 0), (9, .int r_28), (7, .int v7_26), (5, .int v5_25), (4, .ref (B + k_3)), (3, .int v3_10), (0, .ref (B + 0))]) rfl ?_
                refine zr_iload C dyL_stands_304 4 rfl ?_
                refine zr_iconst C dyL_stands_306 zc_i_1 ?_
                refine zr_isub C dyL_stands_307 ?_
                refine zn_istore C (fun v12_38 => [(12, .int v12_38), (6, .int t_37), (11, .ref (B + k_32)), (2, .int v2_29), (10, .int 0), (9, .int r_28), (7, .int v7_26), (5, .int v5_25), (4, .ref (B + k_3)), (3, .int v3_10), (0, .ref (B + 0))]) dyL_stands_308 (Nat.le_of_ble_eq_true rfl) (fun _ => rfl) (fun v12_38 ev12_38 => ?_)
                replace h := h v12_38 ev12_38
                refine zjn (h (fun (v5_39 : Int32) (v6_40 : Int32) (v10_41 : Int32) (v12_42 : Int32) (I_43 : zI) => zX p l e (zrA 5 111 500 3000) s m args below meth c (MQ below (zQc D B cA (zaI S K)) args s 500 3000 (fun q => B ≤ q)) D B cA 14 (c_14 + 1) (u_15 + 4) S_34 I_43 [(12, .int v12_42), (6, .int v6_40), (11, .ref (B + k_32)), (2, .int v2_29), (10, .int v10_41), (9, .int r_28), (7, .int v7_26), (5, .int v5_39), (4, .ref (B + k_3)), (3, .int v3_10), (0, .ref (B + 0))] [] 310) (fun v5_39 v6_40 v10_41 v12_42 I_43 h => ?_)) (fun h => ?_)
                · refine zr_iload C dyL_stands_310 0 rfl ?_
                  refine zr_if_lt C dyL_stands_312 (tgt := 455) (by decide) (fun hc_72 => ?_) (fun hc_72 => ?_)
                  · replace h := zif_pos hc_72 h
                    refine zr_iload C dyL_stands_455 1 rfl ?_
                    refine zjn (h (fun (t_44 : Int32) => zX p l e (zrA 5 111 500 3000) s m args below meth c (MQ below (zQc D B cA (zaI S K)) args s 500 3000 (fun q => B ≤ q)) D B cA 14 (c_14 + 1) (u_15 + 4) S_34 I_43 [(2, .int v2_29), (5, .int v5_39), (4, .ref (B + k_3)), (3, .int v3_10), (0, .ref (B + 0))] [.int t_44] 489) (fun t_44 h => ?_)) (fun h => ?_)
                    · refine zr_istore C dyL_stands_489 (Nat.le_of_ble_eq_true rfl) (lv2 := [(6, .int t_44), (2, .int v2_29), (5, .int v5_39), (4, .ref (B + k_3)), (3, .int v3_10), (0, .ref (B + 0))]) rfl ?_
                      refine zr_goto C dyL_stands_491 (tgt := 53) (by decide) ?_
                      refine zr_sub (lv2 := [(6, .int t_44), (5, .int v5_39), (4, .ref (B + k_3)), (3, .int v3_10), (2, .int v2_29), (0, .ref (B + 0))]) [0, 2, 3, 4, 1, 5] rfl ?_
                      exact h g_36
                    refine zjn (h (zX p l e (zrA 5 111 500 3000) s m args below meth c (MQ below (zQc D B cA (zaI S K)) args s 500 3000 (fun q => B ≤ q)) D B cA 14 (c_14 + 1) (u_15 + 4) S_34 I_43 [(2, .int v2_29), (5, .int v5_39), (4, .ref (B + k_3)), (3, .int v3_10), (0, .ref (B + 0))] [] 488) (fun  h => ?_)) (fun h => ?_)
                    · refine zr_iconst C dyL_stands_488 zc_i_0 ?_
                      exact h
                    refine zr_if_eq C dyL_stands_457 (tgt := 488) (by decide) (fun hc_49 => ?_) (fun hc_49 => ?_)
                    · replace h := zif_pos hc_49 h
                      refine zr_sub (lv2 := [(2, .int v2_29), (5, .int v5_39), (4, .ref (B + k_3)), (3, .int v3_10), (0, .ref (B + 0))]) [3, 7, 8, 9, 10] rfl ?_
                      exact h
                    · replace h := zif_neg hc_49 h
                      refine zr_iload C dyL_stands_460 4 rfl ?_
                      refine zr_aload_n C dyL_stands_462 rfl 10 rfl ?_
                      refine zr_iload C dyL_stands_463 6 rfl ?_
                      refine zr_iconst C dyL_stands_465 zc_i_4 ?_
                      refine zv_L_39t C g_36.1 (st := [.int v10_41]) h ⟨Nat.le_of_ble_eq_true rfl, Nat.le_of_ble_eq_true rfl⟩ (Nat.le_of_ble_eq_true rfl) dyL_stands_466 ⟨g_36.2.2.1, g_36.2.2.2⟩ (fun r_45 h => ?_)
                      refine zr_icmp_ne C dyL_stands_469 (tgt := 488) (by decide) (fun hc_48 => ?_) (fun hc_48 => ?_)
                      · replace h := zif_neg hc_48 h
                        refine zr_sub (lv2 := [(2, .int v2_29), (5, .int v5_39), (4, .ref (B + k_3)), (3, .int v3_10), (0, .ref (B + 0))]) [3, 7, 8, 9, 10] rfl ?_
                        exact h
                      · replace h := zif_pos hc_48 h
                        refine zr_aload_n C dyL_stands_472 rfl 10 rfl ?_
                        refine zr_iload C dyL_stands_473 6 rfl ?_
                        refine zr_iload C dyL_stands_475 5 rfl ?_
                        refine zv_L_53t C g_36.1 (st := []) h ⟨Nat.le_of_ble_eq_true rfl, Nat.le_of_ble_eq_true rfl⟩ (Nat.le_of_ble_eq_true rfl) dyL_stands_477 ⟨g_36.2.2.1, g_36.2.2.2⟩ (fun r_46 h => ?_)
                        refine zr_iconst C dyL_stands_480 zc_i_m1 ?_
                        refine zr_icmp_ne C dyL_stands_481 (tgt := 488) (by decide) (fun hc_47 => ?_) (fun hc_47 => ?_)
                        · replace h := zif_neg hc_47 h
                          refine zr_sub (lv2 := [(2, .int v2_29), (5, .int v5_39), (4, .ref (B + k_3)), (3, .int v3_10), (0, .ref (B + 0))]) [3, 7, 8, 9, 10] rfl ?_
                          exact h
                        · replace h := zif_pos hc_47 h
                          refine zr_iconst C dyL_stands_484 zc_i_1 ?_
                          refine zr_goto C dyL_stands_485 (tgt := 489) (by decide) ?_
                          refine zr_sub (lv2 := [(2, .int v2_29), (5, .int v5_39), (4, .ref (B + k_3)), (3, .int v3_10), (0, .ref (B + 0))]) [3, 7, 8, 9, 10] rfl ?_
                          exact h
                  · replace h := zif_neg hc_72 h
                    refine zr_aload_n C dyL_stands_315 rfl 10 rfl ?_
                    refine zr_iload C dyL_stands_316 6 rfl ?_
                    refine zr_iload C dyL_stands_318 0 rfl ?_
                    refine zv_L_53t C g_36.1 (st := []) h ⟨Nat.le_of_ble_eq_true rfl, Nat.le_of_ble_eq_true rfl⟩ (Nat.le_of_ble_eq_true rfl) dyL_stands_320 ⟨g_36.2.2.1, g_36.2.2.2⟩ (fun r_50 h => ?_)
                    refine zr_istore C dyL_stands_323 (Nat.le_of_ble_eq_true rfl) (lv2 := [(13, .int r_50), (12, .int v12_42), (6, .int v6_40), (11, .ref (B + k_32)), (2, .int v2_29), (10, .int v10_41), (9, .int r_28), (7, .int v7_26), (5, .int v5_39), (4, .ref (B + k_3)), (3, .int v3_10), (0, .ref (B + 0))]) rfl ?_
                    refine zr_iload C dyL_stands_325 5 rfl ?_
                    refine zr_aload_n C dyL_stands_327 rfl 11 rfl ?_
                    refine zr_iload C dyL_stands_328 0 rfl ?_
                    refine zr_iconst C dyL_stands_330 zc_i_4 ?_
                    refine zv_L_39t C g_36.1 (st := [.int v10_41]) h ⟨Nat.le_of_ble_eq_true rfl, Nat.le_of_ble_eq_true rfl⟩ (Nat.le_of_ble_eq_true rfl) dyL_stands_331 ⟨g_36.2.2.1, g_36.2.2.2⟩ (fun r_51 h => ?_)
                    refine zr_iadd C dyL_stands_334 ?_
                    refine zn_istore C (fun v10_52 => [(10, .int v10_52), (13, .int r_50), (12, .int v12_42), (6, .int v6_40), (11, .ref (B + k_32)), (2, .int v2_29), (9, .int r_28), (7, .int v7_26), (5, .int v5_39), (4, .ref (B + k_3)), (3, .int v3_10), (0, .ref (B + 0))]) dyL_stands_335 (Nat.le_of_ble_eq_true rfl) (fun _ => rfl) (fun v10_52 ev10_52 => ?_)
                    replace h := h v10_52 ev10_52
                    refine zr_iload C dyL_stands_337 3 rfl ?_
                    refine zjn (h (fun (t_53 : Int32) => zX p l e (zrA 5 111 500 3000) s m args below meth c (MQ below (zQc D B cA (zaI S K)) args s 500 3000 (fun q => B ≤ q)) D B cA 14 (c_14 + 1) (u_15 + 4) S_34 I_43 [(10, .int v10_52), (13, .int r_50), (12, .int v12_42), (11, .ref (B + k_32)), (2, .int v2_29), (9, .int r_28), (7, .int v7_26), (5, .int v5_39), (4, .ref (B + k_3)), (3, .int v3_10), (0, .ref (B + 0))] [.int t_53] 437) (fun t_53 h => ?_)) (fun h => ?_)
                    · refine zr_istore C dyL_stands_437 (Nat.le_of_ble_eq_true rfl) (lv2 := [(6, .int t_53), (10, .int v10_52), (13, .int r_50), (12, .int v12_42), (11, .ref (B + k_32)), (2, .int v2_29), (9, .int r_28), (7, .int v7_26), (5, .int v5_39), (4, .ref (B + k_3)), (3, .int v3_10), (0, .ref (B + 0))]) rfl ?_
                      refine zr_aload C dyL_stands_439 9 rfl ?_
                      refine zr_iload C dyL_stands_441 8 rfl ?_
                      refine zn_iinc C (fun v5_54 => [(5, .int v5_54), (6, .int t_53), (10, .int v10_52), (13, .int r_50), (12, .int v12_42), (11, .ref (B + k_32)), (2, .int v2_29), (9, .int r_28), (7, .int v7_26), (4, .ref (B + k_3)), (3, .int v3_10), (0, .ref (B + 0))]) dyL_stands_443 8 rfl zc_i_1 (Nat.le_of_ble_eq_true rfl) (fun _ => rfl) (fun v5_54 ev5_54 => ?_)
                      replace h := h v5_54 ev5_54
                      refine zr_iload C dyL_stands_446 3 rfl ?_
                      refine zr_iast C h.1.1 h.1.2 dyL_stands_448 ?_
                      replace h := h.2
                      refine zn_mem C (fun I_55 eI_55 => ?_)
                      replace h := h I_55 eI_55
                      refine zn_iinc C (fun v12_56 => [(12, .int v12_56), (5, .int v5_54), (6, .int t_53), (10, .int v10_52), (13, .int r_50), (11, .ref (B + k_32)), (2, .int v2_29), (9, .int r_28), (7, .int v7_26), (4, .ref (B + k_3)), (3, .int v3_10), (0, .ref (B + 0))]) dyL_stands_449 4 rfl zc_i_m1 (Nat.le_of_ble_eq_true rfl) (fun _ => rfl) (fun v12_56 ev12_56 => ?_)
                      replace h := h v12_56 ev12_56
                      refine zr_goto C dyL_stands_452 (tgt := 310) (by decide) ?_
                      refine zr_sub (lv2 := [(12, .int v12_56), (6, .int t_53), (11, .ref (B + k_32)), (2, .int v2_29), (10, .int v10_52), (9, .int r_28), (7, .int v7_26), (5, .int v5_54), (4, .ref (B + k_3)), (3, .int v3_10), (0, .ref (B + 0))]) [0, 2, 5, 6, 3, 7, 8, 1, 9, 10, 11] rfl ?_
                      exact h
                    refine zjn (h (zX p l e (zrA 5 111 500 3000) s m args below meth c (MQ below (zQc D B cA (zaI S K)) args s 500 3000 (fun q => B ≤ q)) D B cA 14 (c_14 + 1) (u_15 + 4) S_34 I_43 [(10, .int v10_52), (13, .int r_50), (12, .int v12_42), (11, .ref (B + k_32)), (2, .int v2_29), (9, .int r_28), (7, .int v7_26), (5, .int v5_39), (4, .ref (B + k_3)), (3, .int v3_10), (0, .ref (B + 0))] [] 436) (fun  h => ?_)) (fun h => ?_)
                    · refine zr_iconst C dyL_stands_436 zc_i_0 ?_
                      exact h
                    refine zr_if_eq C dyL_stands_339 (tgt := 436) (by decide) (fun hc_71 => ?_) (fun hc_71 => ?_)
                    · replace h := zif_pos hc_71 h
                      refine zr_sub (lv2 := [(10, .int v10_52), (13, .int r_50), (12, .int v12_42), (11, .ref (B + k_32)), (2, .int v2_29), (9, .int r_28), (7, .int v7_26), (5, .int v5_39), (4, .ref (B + k_3)), (3, .int v3_10), (0, .ref (B + 0))]) [0, 1, 2, 4, 5, 6, 7, 8, 9, 10, 11] rfl ?_
                      exact h
                    · replace h := zif_neg hc_71 h
                      refine zr_aload_n C dyL_stands_342 rfl 11 rfl ?_
                      refine zr_iload C dyL_stands_343 1 rfl ?_
                      refine zr_bipush C dyL_stands_345 zc_b_7 ?_
                      refine zv_L_39t C g_36.1 (st := []) h ⟨Nat.le_of_ble_eq_true rfl, Nat.le_of_ble_eq_true rfl⟩ (Nat.le_of_ble_eq_true rfl) dyL_stands_347 ⟨g_36.2.2.1, g_36.2.2.2⟩ (fun r_57 h => ?_)
                      refine zr_iload C dyL_stands_350 7 rfl ?_
                      refine zr_icmp_ne C dyL_stands_352 (tgt := 436) (by decide) (fun hc_70 => ?_) (fun hc_70 => ?_)
                      · replace h := zif_neg hc_70 h
                        refine zr_sub (lv2 := [(10, .int v10_52), (13, .int r_50), (12, .int v12_42), (11, .ref (B + k_32)), (2, .int v2_29), (9, .int r_28), (7, .int v7_26), (5, .int v5_39), (4, .ref (B + k_3)), (3, .int v3_10), (0, .ref (B + 0))]) [0, 1, 2, 4, 5, 6, 7, 8, 9, 10, 11] rfl ?_
                        exact h
                      · replace h := zif_pos hc_70 h
                        refine zr_aload_n C dyL_stands_355 rfl 11 rfl ?_
                        refine zr_iload C dyL_stands_356 1 rfl ?_
                        refine zr_iconst C dyL_stands_358 zc_i_1 ?_
                        refine zv_L_39t C g_36.1 (st := []) h ⟨Nat.le_of_ble_eq_true rfl, Nat.le_of_ble_eq_true rfl⟩ (Nat.le_of_ble_eq_true rfl) dyL_stands_359 ⟨g_36.2.2.1, g_36.2.2.2⟩ (fun r_58 h => ?_)
                        refine zr_aload C dyL_stands_362 4 rfl ?_
                        refine zr_iload C dyL_stands_364 2 rfl ?_
                        refine zr_iald C h.1.1 h.1.2 dyL_stands_366 ?_
                        replace h := h.2
                        refine zr_icmp_ne C dyL_stands_367 (tgt := 436) (by decide) (fun hc_69 => ?_) (fun hc_69 => ?_)
                        · replace h := zif_neg hc_69 h
                          refine zr_sub (lv2 := [(10, .int v10_52), (13, .int r_50), (12, .int v12_42), (11, .ref (B + k_32)), (2, .int v2_29), (9, .int r_28), (7, .int v7_26), (5, .int v5_39), (4, .ref (B + k_3)), (3, .int v3_10), (0, .ref (B + 0))]) [0, 1, 2, 4, 5, 6, 7, 8, 9, 10, 11] rfl ?_
                          exact h
                        · replace h := zif_pos hc_69 h
                          refine zr_aload_n C dyL_stands_370 rfl 11 rfl ?_
                          refine zr_iload C dyL_stands_371 1 rfl ?_
                          refine zv_L_56t C g_36.1 (st := []) h ⟨Nat.le_of_ble_eq_true rfl, Nat.le_of_ble_eq_true rfl⟩ (Nat.le_of_ble_eq_true rfl) dyL_stands_373 ⟨g_36.2.2.1, g_36.2.2.2⟩ (fun r_59 h => ?_)
                          refine zr_iload C dyL_stands_376 2 rfl ?_
                          refine zr_iconst C dyL_stands_378 zc_i_1 ?_
                          refine zr_iadd C dyL_stands_379 ?_
                          refine zr_iload C dyL_stands_380 6 rfl ?_
                          refine zjn (h (fun (t_60 : Int32) => zX p l e (zrA 5 111 500 3000) s m args below meth c (MQ below (zQc D B cA (zaI S K)) args s 500 3000 (fun q => B ≤ q)) D B cA 14 (c_14 + 1) (u_15 + 4) S_34 I_43 [(10, .int v10_52), (13, .int r_50), (12, .int v12_42), (11, .ref (B + k_32)), (2, .int v2_29), (9, .int r_28), (7, .int v7_26), (5, .int v5_39), (4, .ref (B + k_3)), (3, .int v3_10), (0, .ref (B + 0))] [.int t_60, .int r_59] 400) (fun t_60 h => ?_)) (fun h => ?_)
                          · refine zr_icmp_ne C dyL_stands_400 (tgt := 436) (by decide) (fun hc_66 => ?_) (fun hc_66 => ?_)
                            · replace h := zif_neg hc_66 h
                              exact h
                            · replace h := zif_pos hc_66 h
                              refine zr_aload_n C dyL_stands_403 rfl 10 rfl ?_
                              refine zr_iload C dyL_stands_404 1 rfl ?_
                              refine zv_L_59t C g_36.1 (st := []) h ⟨Nat.le_of_ble_eq_true rfl, Nat.le_of_ble_eq_true rfl⟩ (Nat.le_of_ble_eq_true rfl) dyL_stands_406 ⟨g_36.2.2.1, g_36.2.2.2⟩ (fun r_61 h => ?_)
                              refine zr_iload C dyL_stands_409 2 rfl ?_
                              refine zjn (h (fun (t_62 : Int32) => zX p l e (zrA 5 111 500 3000) s m args below meth c (MQ below (zQc D B cA (zaI S K)) args s 500 3000 (fun q => B ≤ q)) D B cA 14 (c_14 + 1) (u_15 + 4) S_34 I_43 [(10, .int v10_52), (13, .int r_50), (12, .int v12_42), (11, .ref (B + k_32)), (2, .int v2_29), (9, .int r_28), (7, .int v7_26), (5, .int v5_39), (4, .ref (B + k_3)), (3, .int v3_10), (0, .ref (B + 0))] [.int t_62, .int r_61] 429) (fun t_62 h => ?_)) (fun h => ?_)
                              · refine zr_icmp_ne C dyL_stands_429 (tgt := 436) (by decide) (fun hc_63 => ?_) (fun hc_63 => ?_)
                                · replace h := zif_neg hc_63 h
                                  exact h
                                · replace h := zif_pos hc_63 h
                                  refine zr_iconst C dyL_stands_432 zc_i_1 ?_
                                  refine zr_goto C dyL_stands_433 (tgt := 437) (by decide) ?_
                                  exact h
                              refine zr_if_le C dyL_stands_411 (tgt := 427) (by decide) (fun hc_65 => ?_) (fun hc_65 => ?_)
                              · replace h := zif_pos hc_65 h
                                refine zr_bipush C dyL_stands_427 zc_b_m2 ?_
                                exact h
                              · replace h := zif_neg hc_65 h
                                refine zr_aload_n C dyL_stands_414 rfl 10 rfl ?_
                                refine zr_iload C dyL_stands_415 6 rfl ?_
                                refine zr_iload C dyL_stands_417 2 rfl ?_
                                refine zr_iconst C dyL_stands_419 zc_i_1 ?_
                                refine zr_isub C dyL_stands_420 ?_
                                refine zv_L_53t C g_36.1 (st := [.int r_61]) h ⟨Nat.le_of_ble_eq_true rfl, Nat.le_of_ble_eq_true rfl⟩ (Nat.le_of_ble_eq_true rfl) dyL_stands_421 ⟨g_36.2.2.1, g_36.2.2.2⟩ (fun r_64 h => ?_)
                                refine zr_goto C dyL_stands_424 (tgt := 429) (by decide) ?_
                                exact h
                          refine zr_icmp_ge C dyL_stands_382 (tgt := 398) (by decide) (fun hc_68 => ?_) (fun hc_68 => ?_)
                          · replace h := zif_pos hc_68 h
                            refine zr_bipush C dyL_stands_398 zc_b_m2 ?_
                            refine zr_sub (lv2 := [(10, .int v10_52), (13, .int r_50), (12, .int v12_42), (11, .ref (B + k_32)), (2, .int v2_29), (9, .int r_28), (7, .int v7_26), (5, .int v5_39), (4, .ref (B + k_3)), (3, .int v3_10), (0, .ref (B + 0))]) [0, 1, 2, 4, 5, 6, 7, 8, 9, 10, 11] rfl ?_
                            exact h
                          · replace h := zif_neg hc_68 h
                            refine zr_aload_n C dyL_stands_385 rfl 11 rfl ?_
                            refine zr_iload C dyL_stands_386 7 rfl ?_
                            refine zr_iload C dyL_stands_388 2 rfl ?_
                            refine zr_iconst C dyL_stands_390 zc_i_1 ?_
                            refine zr_iadd C dyL_stands_391 ?_
                            refine zv_L_53t C g_36.1 (st := [.int r_59]) h ⟨Nat.le_of_ble_eq_true rfl, Nat.le_of_ble_eq_true rfl⟩ (Nat.le_of_ble_eq_true rfl) dyL_stands_392 ⟨g_36.2.2.1, g_36.2.2.2⟩ (fun r_67 h => ?_)
                            refine zr_goto C dyL_stands_395 (tgt := 400) (by decide) ?_
                            refine zr_sub (lv2 := [(10, .int v10_52), (13, .int r_50), (12, .int v12_42), (11, .ref (B + k_32)), (2, .int v2_29), (9, .int r_28), (7, .int v7_26), (5, .int v5_39), (4, .ref (B + k_3)), (3, .int v3_10), (0, .ref (B + 0))]) [0, 1, 2, 4, 5, 6, 7, 8, 9, 10, 11] rfl ?_
                            exact h
                exact h
              refine zjn (h (zX p l e (zrA 5 111 500 3000) s m args below meth c (MQ below (zQc D B cA (zaI S K)) args s 500 3000 (fun q => B ≤ q)) D B cA 14 (c_14 + 1) (u_15 + 4) S_34 I_35 [(11, .ref (B + k_32)), (2, .int v2_29), (10, .int 0), (9, .int r_28), (7, .int v7_26), (5, .int v5_25), (4, .ref (B + k_3)), (3, .int v3_10), (0, .ref (B + 0))] [] 301) (fun  h => ?_)) (fun h => ?_)
              · refine zr_iconst C dyL_stands_301 zc_i_0 ?_
                exact h
              refine zr_if_eq C dyL_stands_206 (tgt := 301) (by decide) (fun hc_86 => ?_) (fun hc_86 => ?_)
              · replace h := zif_pos hc_86 h
                refine zr_sub (lv2 := [(11, .ref (B + k_32)), (2, .int v2_29), (10, .int 0), (9, .int r_28), (7, .int v7_26), (5, .int v5_25), (4, .ref (B + k_3)), (3, .int v3_10), (0, .ref (B + 0))]) [0, 2, 3, 4, 6, 7, 8, 9, 10] rfl ?_
                exact h
              · replace h := zif_neg hc_86 h
                refine zr_iload C dyL_stands_209 4 rfl ?_
                refine zr_aload C dyL_stands_211 0 rfl ?_
                refine zr_alen C h.1 dyL_stands_213 ?_
                replace h := h.2
                refine zr_icmp_ne C dyL_stands_214 (tgt := 301) (by decide) (fun hc_85 => ?_) (fun hc_85 => ?_)
                · replace h := zif_neg hc_85 h
                  refine zr_sub (lv2 := [(11, .ref (B + k_32)), (2, .int v2_29), (10, .int 0), (9, .int r_28), (7, .int v7_26), (5, .int v5_25), (4, .ref (B + k_3)), (3, .int v3_10), (0, .ref (B + 0))]) [0, 2, 3, 4, 6, 7, 8, 9, 10] rfl ?_
                  exact h
                · replace h := zif_pos hc_85 h
                  refine zr_aload_n C dyL_stands_217 rfl 10 rfl ?_
                  refine zr_iload C dyL_stands_218 6 rfl ?_
                  refine zr_iconst C dyL_stands_220 zc_i_1 ?_
                  refine zv_L_39t C g_36.1 (st := []) h ⟨Nat.le_of_ble_eq_true rfl, Nat.le_of_ble_eq_true rfl⟩ (Nat.le_of_ble_eq_true rfl) dyL_stands_221 ⟨g_36.2.2.1, g_36.2.2.2⟩ (fun r_73 h => ?_)
                  refine zr_iload C dyL_stands_224 5 rfl ?_
                  refine zr_iconst C dyL_stands_226 zc_i_2 ?_
                  refine zjn (h (fun (t_74 : Int32) => zX p l e (zrA 5 111 500 3000) s m args below meth c (MQ below (zQc D B cA (zaI S K)) args s 500 3000 (fun q => B ≤ q)) D B cA 14 (c_14 + 1) (u_15 + 4) S_34 I_35 [(11, .ref (B + k_32)), (2, .int v2_29), (10, .int 0), (9, .int r_28), (7, .int v7_26), (5, .int v5_25), (4, .ref (B + k_3)), (3, .int v3_10), (0, .ref (B + 0))] [.int t_74, .int r_73] 267) (fun t_74 h => ?_)) (fun h => ?_)
                  · refine zr_icmp_ne C dyL_stands_267 (tgt := 301) (by decide) (fun hc_80 => ?_) (fun hc_80 => ?_)
                    · replace h := zif_neg hc_80 h
                      exact h
                    · replace h := zif_pos hc_80 h
                      refine zr_aload_n C dyL_stands_270 rfl 8 rfl ?_
                      refine zr_iload C dyL_stands_271 4 rfl ?_
                      refine zr_bipush C dyL_stands_273 zc_b_8 ?_
                      refine zv_L_39t C g_36.1 (st := []) h ⟨Nat.le_of_ble_eq_true rfl, Nat.le_of_ble_eq_true rfl⟩ (Nat.le_of_ble_eq_true rfl) dyL_stands_275 ⟨g_36.2.2.1, g_36.2.2.2⟩ (fun r_75 h => ?_)
                      refine zr_aload_n C dyL_stands_278 rfl 8 rfl ?_
                      refine zr_iload C dyL_stands_279 4 rfl ?_
                      refine zr_iconst C dyL_stands_281 zc_i_4 ?_
                      refine zv_L_39t C g_36.1 (st := [.int r_75]) h ⟨Nat.le_of_ble_eq_true rfl, Nat.le_of_ble_eq_true rfl⟩ (Nat.le_of_ble_eq_true rfl) dyL_stands_282 ⟨g_36.2.2.1, g_36.2.2.2⟩ (fun r_76 h => ?_)
                      refine zjn (h (fun (t_77 : Int32) => zX p l e (zrA 5 111 500 3000) s m args below meth c (MQ below (zQc D B cA (zaI S K)) args s 500 3000 (fun q => B ≤ q)) D B cA 14 (c_14 + 1) (u_15 + 4) S_34 I_35 [(11, .ref (B + k_32)), (2, .int v2_29), (10, .int 0), (9, .int r_28), (7, .int v7_26), (5, .int v5_25), (4, .ref (B + k_3)), (3, .int v3_10), (0, .ref (B + 0))] [.int t_77, .int r_75] 294) (fun t_77 h => ?_)) (fun h => ?_)
                      · refine zr_icmp_ne C dyL_stands_294 (tgt := 301) (by decide) (fun hc_78 => ?_) (fun hc_78 => ?_)
                        · replace h := zif_neg hc_78 h
                          exact h
                        · replace h := zif_pos hc_78 h
                          refine zr_iconst C dyL_stands_297 zc_i_1 ?_
                          refine zr_goto C dyL_stands_298 (tgt := 302) (by decide) ?_
                          exact h
                      refine zr_if_ne C dyL_stands_285 (tgt := 293) (by decide) (fun hc_79 => ?_) (fun hc_79 => ?_)
                      · replace h := zif_neg hc_79 h
                        refine zr_iload_n C dyL_stands_293 rfl 7 rfl ?_
                        exact h
                      · replace h := zif_pos hc_79 h
                        refine zr_bipush C dyL_stands_288 zc_b_m2 ?_
                        refine zr_goto C dyL_stands_290 (tgt := 294) (by decide) ?_
                        exact h
                  refine zr_icmp_ge C dyL_stands_227 (tgt := 234) (by decide) (fun hc_84 => ?_) (fun hc_84 => ?_)
                  · replace h := zif_pos hc_84 h
                    refine zr_iload C dyL_stands_234 5 rfl ?_
                    refine zr_iconst C dyL_stands_236 zc_i_4 ?_
                    refine zr_icmp_ge C dyL_stands_237 (tgt := 244) (by decide) (fun hc_83 => ?_) (fun hc_83 => ?_)
                    · replace h := zif_pos hc_83 h
                      refine zr_iload C dyL_stands_244 5 rfl ?_
                      refine zr_bipush C dyL_stands_246 zc_b_6 ?_
                      refine zr_icmp_ge C dyL_stands_248 (tgt := 255) (by decide) (fun hc_82 => ?_) (fun hc_82 => ?_)
                      · replace h := zif_pos hc_82 h
                        refine zr_iload C dyL_stands_255 5 rfl ?_
                        refine zr_bipush C dyL_stands_257 zc_b_8 ?_
                        refine zr_icmp_ge C dyL_stands_259 (tgt := 266) (by decide) (fun hc_81 => ?_) (fun hc_81 => ?_)
                        · replace h := zif_pos hc_81 h
                          refine zr_iconst C dyL_stands_266 zc_i_4 ?_
                          refine zr_sub (lv2 := [(11, .ref (B + k_32)), (2, .int v2_29), (10, .int 0), (9, .int r_28), (7, .int v7_26), (5, .int v5_25), (4, .ref (B + k_3)), (3, .int v3_10), (0, .ref (B + 0))]) [0, 2, 3, 4, 6, 7, 8, 9, 10] rfl ?_
                          exact h
                        · replace h := zif_neg hc_81 h
                          refine zr_iconst C dyL_stands_262 zc_i_3 ?_
                          refine zr_goto C dyL_stands_263 (tgt := 267) (by decide) ?_
                          refine zr_sub (lv2 := [(11, .ref (B + k_32)), (2, .int v2_29), (10, .int 0), (9, .int r_28), (7, .int v7_26), (5, .int v5_25), (4, .ref (B + k_3)), (3, .int v3_10), (0, .ref (B + 0))]) [0, 2, 3, 4, 6, 7, 8, 9, 10] rfl ?_
                          exact h
                      · replace h := zif_neg hc_82 h
                        refine zr_iconst C dyL_stands_251 zc_i_2 ?_
                        refine zr_goto C dyL_stands_252 (tgt := 267) (by decide) ?_
                        refine zr_sub (lv2 := [(11, .ref (B + k_32)), (2, .int v2_29), (10, .int 0), (9, .int r_28), (7, .int v7_26), (5, .int v5_25), (4, .ref (B + k_3)), (3, .int v3_10), (0, .ref (B + 0))]) [0, 2, 3, 4, 6, 7, 8, 9, 10] rfl ?_
                        exact h
                    · replace h := zif_neg hc_83 h
                      refine zr_iconst C dyL_stands_240 zc_i_1 ?_
                      refine zr_goto C dyL_stands_241 (tgt := 267) (by decide) ?_
                      refine zr_sub (lv2 := [(11, .ref (B + k_32)), (2, .int v2_29), (10, .int 0), (9, .int r_28), (7, .int v7_26), (5, .int v5_25), (4, .ref (B + k_3)), (3, .int v3_10), (0, .ref (B + 0))]) [0, 2, 3, 4, 6, 7, 8, 9, 10] rfl ?_
                      exact h
                  · replace h := zif_neg hc_84 h
                    refine zr_iconst C dyL_stands_230 zc_i_0 ?_
                    refine zr_goto C dyL_stands_231 (tgt := 267) (by decide) ?_
                    refine zr_sub (lv2 := [(11, .ref (B + k_32)), (2, .int v2_29), (10, .int 0), (9, .int r_28), (7, .int v7_26), (5, .int v5_25), (4, .ref (B + k_3)), (3, .int v3_10), (0, .ref (B + 0))]) [0, 2, 3, 4, 6, 7, 8, 9, 10] rfl ?_
                    exact h
            · replace h := zif_neg hc_99 h
              refine zr_iload C dyL_stands_131 0 rfl ?_
              refine zjn (h (fun (t_87 : Int32) => zX p l e (zrA 5 111 500 3000) s m args below meth c (MQ below (zQc D B cA (zaI S K)) args s 500 3000 (fun q => B ≤ q)) D B cA 14 c_14 u_15 S_13 I_17 [(2, .int v2_29), (5, .int v5_25), (4, .ref (B + k_3)), (3, .int v3_10), (0, .ref (B + 0))] [.int t_87] 189) (fun t_87 h => ?_)) (fun h => ?_)
              · refine zr_istore C dyL_stands_189 (Nat.le_of_ble_eq_true rfl) (lv2 := [(6, .int t_87), (2, .int v2_29), (5, .int v5_25), (4, .ref (B + k_3)), (3, .int v3_10), (0, .ref (B + 0))]) rfl ?_
                refine zn_iinc C (fun v3_88 => [(3, .int v3_88), (6, .int t_87), (2, .int v2_29), (5, .int v5_25), (4, .ref (B + k_3)), (0, .ref (B + 0))]) dyL_stands_191 4 rfl zc_i_1 (Nat.le_of_ble_eq_true rfl) (fun _ => rfl) (fun v3_88 ev3_88 => ?_)
                replace h := h v3_88 ev3_88
                refine zr_goto C dyL_stands_194 (tgt := 53) (by decide) ?_
                refine zr_sub (lv2 := [(6, .int t_87), (5, .int v5_25), (4, .ref (B + k_3)), (3, .int v3_88), (2, .int v2_29), (0, .ref (B + 0))]) [1, 3, 4, 0, 2, 5] rfl ?_
                exact h g_16
              refine zjn (h (zX p l e (zrA 5 111 500 3000) s m args below meth c (MQ below (zQc D B cA (zaI S K)) args s 500 3000 (fun q => B ≤ q)) D B cA 14 c_14 u_15 S_13 I_17 [(2, .int v2_29), (5, .int v5_25), (4, .ref (B + k_3)), (3, .int v3_10), (0, .ref (B + 0))] [] 188) (fun  h => ?_)) (fun h => ?_)
              · refine zr_iconst C dyL_stands_188 zc_i_0 ?_
                exact h
              refine zr_if_eq C dyL_stands_133 (tgt := 188) (by decide) (fun hc_98 => ?_) (fun hc_98 => ?_)
              · replace h := zif_pos hc_98 h
                refine zr_sub (lv2 := [(2, .int v2_29), (5, .int v5_25), (4, .ref (B + k_3)), (3, .int v3_10), (0, .ref (B + 0))]) [1, 6, 7, 8, 9] rfl ?_
                exact h
              · replace h := zif_neg hc_98 h
                refine zr_aload_n C dyL_stands_136 rfl 9 rfl ?_
                refine zr_iload_n C dyL_stands_137 rfl 8 rfl ?_
                refine zv_L_43t C g_16.1 (st := []) h ⟨Nat.le_of_ble_eq_true rfl, Nat.le_of_ble_eq_true rfl⟩ (Nat.le_of_ble_eq_true rfl) dyL_stands_138 ⟨g_16.2.2.1, g_16.2.2.2⟩ (fun r_89 h => ?_)
                refine zr_iload C dyL_stands_141 5 rfl ?_
                refine zr_icmp_ne C dyL_stands_143 (tgt := 188) (by decide) (fun hc_97 => ?_) (fun hc_97 => ?_)
                · replace h := zif_neg hc_97 h
                  refine zr_sub (lv2 := [(2, .int v2_29), (5, .int v5_25), (4, .ref (B + k_3)), (3, .int v3_10), (0, .ref (B + 0))]) [1, 6, 7, 8, 9] rfl ?_
                  exact h
                · replace h := zif_pos hc_97 h
                  refine zr_iload C dyL_stands_146 3 rfl ?_
                  refine zr_if_ne C dyL_stands_148 (tgt := 188) (by decide) (fun hc_96 => ?_) (fun hc_96 => ?_)
                  · replace h := zif_neg hc_96 h
                    refine zr_sub (lv2 := [(2, .int v2_29), (5, .int v5_25), (4, .ref (B + k_3)), (3, .int v3_10), (0, .ref (B + 0))]) [1, 6, 7, 8, 9] rfl ?_
                    exact h
                  · replace h := zif_pos hc_96 h
                    refine zr_aload_n C dyL_stands_151 rfl 9 rfl ?_
                    refine zr_iload C dyL_stands_152 5 rfl ?_
                    refine zr_iconst C dyL_stands_154 zc_i_4 ?_
                    refine zv_L_39t C g_16.1 (st := []) h ⟨Nat.le_of_ble_eq_true rfl, Nat.le_of_ble_eq_true rfl⟩ (Nat.le_of_ble_eq_true rfl) dyL_stands_155 ⟨g_16.2.2.1, g_16.2.2.2⟩ (fun r_90 h => ?_)
                    refine zr_iconst C dyL_stands_158 zc_i_1 ?_
                    refine zr_icmp_ne C dyL_stands_159 (tgt := 188) (by decide) (fun hc_95 => ?_) (fun hc_95 => ?_)
                    · replace h := zif_neg hc_95 h
                      refine zr_sub (lv2 := [(2, .int v2_29), (5, .int v5_25), (4, .ref (B + k_3)), (3, .int v3_10), (0, .ref (B + 0))]) [1, 6, 7, 8, 9] rfl ?_
                      exact h
                    · replace h := zif_pos hc_95 h
                      refine zr_aload_n C dyL_stands_162 rfl 9 rfl ?_
                      refine zr_iload C dyL_stands_163 5 rfl ?_
                      refine zr_bipush C dyL_stands_165 zc_b_8 ?_
                      refine zv_L_39t C g_16.1 (st := []) h ⟨Nat.le_of_ble_eq_true rfl, Nat.le_of_ble_eq_true rfl⟩ (Nat.le_of_ble_eq_true rfl) dyL_stands_167 ⟨g_16.2.2.1, g_16.2.2.2⟩ (fun r_91 h => ?_)
                      refine zr_iload_n C dyL_stands_170 rfl 8 rfl ?_
                      refine zr_icmp_ne C dyL_stands_171 (tgt := 188) (by decide) (fun hc_94 => ?_) (fun hc_94 => ?_)
                      · replace h := zif_neg hc_94 h
                        refine zr_sub (lv2 := [(2, .int v2_29), (5, .int v5_25), (4, .ref (B + k_3)), (3, .int v3_10), (0, .ref (B + 0))]) [1, 6, 7, 8, 9] rfl ?_
                        exact h
                      · replace h := zif_pos hc_94 h
                        refine zr_aload_n C dyL_stands_174 rfl 9 rfl ?_
                        refine zr_iload C dyL_stands_175 5 rfl ?_
                        refine zr_iconst C dyL_stands_177 zc_i_1 ?_
                        refine zv_L_46t C g_16.1 (st := []) h ⟨Nat.le_of_ble_eq_true rfl, Nat.le_of_ble_eq_true rfl⟩ (Nat.le_of_ble_eq_true rfl) dyL_stands_178 ⟨g_16.2.2.1, g_16.2.2.2⟩ (fun r_92 h => ?_)
                        refine zr_if_le C dyL_stands_181 (tgt := 188) (by decide) (fun hc_93 => ?_) (fun hc_93 => ?_)
                        · replace h := zif_pos hc_93 h
                          refine zr_sub (lv2 := [(2, .int v2_29), (5, .int v5_25), (4, .ref (B + k_3)), (3, .int v3_10), (0, .ref (B + 0))]) [1, 6, 7, 8, 9] rfl ?_
                          exact h
                        · replace h := zif_neg hc_93 h
                          refine zr_iconst C dyL_stands_184 zc_i_1 ?_
                          refine zr_goto C dyL_stands_185 (tgt := 189) (by decide) ?_
                          refine zr_sub (lv2 := [(2, .int v2_29), (5, .int v5_25), (4, .ref (B + k_3)), (3, .int v3_10), (0, .ref (B + 0))]) [1, 6, 7, 8, 9] rfl ?_
                          exact h
          refine zjn (h (zX p l e (zrA 5 111 500 3000) s m args below meth c (MQ below (zQc D B cA (zaI S K)) args s 500 3000 (fun q => B ≤ q)) D B cA 14 c_14 u_15 S_13 I_17 [(2, .int v2_29), (10, .int 0), (9, .int r_28), (8, .int r_27), (7, .int v7_26), (5, .int v5_25), (4, .ref (B + k_3)), (3, .int v3_10), (0, .ref (B + 0))] [] 123) (fun  h => ?_)) (fun h => ?_)
          · refine zr_iconst C dyL_stands_123 zc_i_0 ?_
            exact h
          refine zr_icmp_ne C dyL_stands_106 (tgt := 123) (by decide) (fun hc_102 => ?_) (fun hc_102 => ?_)
          · replace h := zif_neg hc_102 h
            refine zr_sub (lv2 := [(2, .int v2_29), (10, .int 0), (9, .int r_28), (8, .int r_27), (7, .int v7_26), (5, .int v5_25), (4, .ref (B + k_3)), (3, .int v3_10), (0, .ref (B + 0))]) [0, 1, 2, 3, 4, 5, 7, 8, 9] rfl ?_
            exact h
          · replace h := zif_pos hc_102 h
            refine zr_aload_n C dyL_stands_109 rfl 9 rfl ?_
            refine zr_iload C dyL_stands_110 4 rfl ?_
            refine zr_iconst C dyL_stands_112 zc_i_3 ?_
            refine zv_L_39t C g_16.1 (st := []) h ⟨Nat.le_of_ble_eq_true rfl, Nat.le_of_ble_eq_true rfl⟩ (Nat.le_of_ble_eq_true rfl) dyL_stands_113 ⟨g_16.2.2.1, g_16.2.2.2⟩ (fun r_100 h => ?_)
            refine zr_if_lt C dyL_stands_116 (tgt := 123) (by decide) (fun hc_101 => ?_) (fun hc_101 => ?_)
            · replace h := zif_pos hc_101 h
              refine zr_sub (lv2 := [(2, .int v2_29), (10, .int 0), (9, .int r_28), (8, .int r_27), (7, .int v7_26), (5, .int v5_25), (4, .ref (B + k_3)), (3, .int v3_10), (0, .ref (B + 0))]) [0, 1, 2, 3, 4, 5, 7, 8, 9] rfl ?_
              exact h
            · replace h := zif_neg hc_101 h
              refine zr_iconst C dyL_stands_119 zc_i_1 ?_
              refine zr_goto C dyL_stands_120 (tgt := 124) (by decide) ?_
              refine zr_sub (lv2 := [(2, .int v2_29), (10, .int 0), (9, .int r_28), (8, .int r_27), (7, .int v7_26), (5, .int v5_25), (4, .ref (B + k_3)), (3, .int v3_10), (0, .ref (B + 0))]) [0, 1, 2, 3, 4, 5, 7, 8, 9] rfl ?_
              exact h
    exact h g_5
  refine zjn (h (zX p l e (zrA 5 111 500 3000) s m args below meth c (MQ below (zQc D B cA (zaI S K)) args s 500 3000 (fun q => B ≤ q)) D B cA 14 (0 + 1) (0 + n_4) S_2 I_6 [(5, .int 1), (4, .ref (B + k_3)), (3, .int 0), (2, .int 0), (0, .ref (B + 0))] [] 50) (fun  h => ?_)) (fun h => ?_)
  · refine zr_iconst C dyL_stands_50 zc_i_0 ?_
    exact h
  refine zr_if_ne C dyL_stands_31 (tgt := 50) (by decide) (fun hc_107 => ?_) (fun hc_107 => ?_)
  · replace h := zif_neg hc_107 h
    refine zr_sub (lv2 := [(5, .int 1), (4, .ref (B + k_3)), (3, .int 0), (2, .int 0), (0, .ref (B + 0))]) [0, 1, 2, 3, 5] rfl ?_
    exact h
  · replace h := zif_pos hc_107 h
    refine zr_aload_n C dyL_stands_34 rfl 5 rfl ?_
    refine zr_iload_n C dyL_stands_35 rfl 4 rfl ?_
    refine zr_bipush C dyL_stands_36 zc_b_7 ?_
    refine zv_L_39t C g_5.1 (st := []) h ⟨Nat.le_of_ble_eq_true rfl, Nat.le_of_ble_eq_true rfl⟩ (Nat.le_of_ble_eq_true rfl) dyL_stands_38 ⟨g_5.2.2.1, g_5.2.2.2⟩ (fun r_105 h => ?_)
    refine zr_bipush C dyL_stands_41 zc_b_m2 ?_
    refine zr_icmp_ne C dyL_stands_43 (tgt := 50) (by decide) (fun hc_106 => ?_) (fun hc_106 => ?_)
    · replace h := zif_neg hc_106 h
      refine zr_sub (lv2 := [(5, .int 1), (4, .ref (B + k_3)), (3, .int 0), (2, .int 0), (0, .ref (B + 0))]) [0, 1, 2, 3, 5] rfl ?_
      exact h
    · replace h := zif_pos hc_106 h
      refine zr_iconst C dyL_stands_46 zc_i_1 ?_
      refine zr_goto C dyL_stands_47 (tgt := 51) (by decide) ?_
      refine zr_sub (lv2 := [(5, .int 1), (4, .ref (B + k_3)), (3, .int 0), (2, .int 0), (0, .ref (B + 0))]) [0, 1, 2, 3, 5] rfl ?_
      exact h
def w_Law_text  (S : List zC) (I : zI) (K : Nat → Nat → List zC → zI → Prop) : Prop :=
  w_Desk_count 0 I (fun r_1 => (zZ I S.length ∧ (0 : Int32) ≤ r_1 ∧ Int32.toNatClampNeg r_1 ≤ 100000 ∧ 0 + 1 ≤ 1 ∧ 0 + Int32.toNatClampNeg r_1 ≤ 400) ∧ ∀ (S_2 : List zC) (k_3 n_4 : Nat), S_2 = S ++ [.inr (.inl (0, n_4))] → k_3 = S.length → n_4 = Int32.toNatClampNeg r_1 → ∀ (P10 : Int32 → zI → Prop), (∀ (v2_6 : Int32) (I_7 : zI), (zAt S_2 k_3 n_4 ∧ (if (Int32.ofNat n_4) ≤ v2_6 then K k_3 n_4 S_2 I_7 else (w_Desk_text v2_6 I_7 (fun r_8 => (zAt S_2 k_3 n_4 ∧ vp_in v2_6 n_4) ∧ ∀ I_9, I_9 = (zu I_7 k_3 (Int32.toNatClampNeg v2_6) r_8) → ∀ v2_10, v2_10 = (v2_6 + 1) → P10 v2_10 I_9)))) → P10 v2_6 I_7) → P10 0 I)
theorem dyL_text_0 : decode cL_text 0 = .ok (.aload_n 0, 1) := by decide +kernel
theorem dyL_text_1 : decode cL_text 1 = .ok (.iconst 0, 1) := by decide +kernel
theorem dyL_text_2 : decode cL_text 2 = .ok (.invokevirtual 36, 3) := by decide +kernel
theorem dyL_text_5 : decode cL_text 5 = .ok (.newarray .int, 2) := by decide +kernel
theorem dyL_text_7 : decode cL_text 7 = .ok (.astore_n 1, 1) := by decide +kernel
theorem dyL_text_8 : decode cL_text 8 = .ok (.iconst 0, 1) := by decide +kernel
theorem dyL_text_9 : decode cL_text 9 = .ok (.istore_n 2, 1) := by decide +kernel
theorem dyL_text_10 : decode cL_text 10 = .ok (.iload_n 2, 1) := by decide +kernel
theorem dyL_text_11 : decode cL_text 11 = .ok (.aload_n 1, 1) := by decide +kernel
theorem dyL_text_12 : decode cL_text 12 = .ok (.arraylength, 1) := by decide +kernel
theorem dyL_text_13 : decode cL_text 13 = .ok (.if_icmp .ge 17, 3) := by decide +kernel
theorem dyL_text_16 : decode cL_text 16 = .ok (.aload_n 1, 1) := by decide +kernel
theorem dyL_text_17 : decode cL_text 17 = .ok (.iload_n 2, 1) := by decide +kernel
theorem dyL_text_18 : decode cL_text 18 = .ok (.aload_n 0, 1) := by decide +kernel
theorem dyL_text_19 : decode cL_text 19 = .ok (.iload_n 2, 1) := by decide +kernel
theorem dyL_text_20 : decode cL_text 20 = .ok (.invokevirtual 62, 3) := by decide +kernel
theorem dyL_text_23 : decode cL_text 23 = .ok (.iastore, 1) := by decide +kernel
theorem dyL_text_24 : decode cL_text 24 = .ok (.iinc 2 1, 3) := by decide +kernel
theorem dyL_text_27 : decode cL_text 27 = .ok (.goto (-17), 3) := by decide +kernel
theorem dyL_text_30 : decode cL_text 30 = .ok (.aload_n 1, 1) := by decide +kernel
theorem dyL_text_31 : decode cL_text 31 = .ok (.areturn, 1) := by decide +kernel
theorem zsg_yL_text : yL_text.cls ≠ "java/lang/invoke/MethodHandle" ∧ yL_text.cls ≠ "java/lang/invoke/VarHandle" ∧ (parseMethodDescriptor yL_text.desc).map (fun d => d.parameters.length) = some 1 := by decide +kernel
theorem zv_L_62t {p : Program} {l : Launch} {e : Env} {R : Room} {s : State} {m : MethodId} {args : Array Value} {below : List Frame} {meth : Method} {c : Code} {Q : State → Prop} {D : va_G} {B : Nat} {cA : Nat → ClassId} {ad : Nat → Nat} {cc : ByteArray} {nL : Nat} {ret : Option FieldType} {S : List zC} {I : zI} {lv : List (Nat × Value)} {st : List Value} {pc cells slots : Nat} (C : zCx p s m args meth c cc nL RL ret D B cA ad) {K : Int32 → Prop} {xa1 : Int32} (hS : zOkX S)  (h : w_Desk_text xa1 I K) (hR : 1 + 1 ≤ R.frames ∧ 8 + (3 + 11) + (21) ≤ R.locals) (hw : (st.map fun v => v.category).sum ≤ 8) (hd : decode cc pc = .ok (.invokevirtual 62, 3)) (hf : cells ≤ R.cells ∧ slots ≤ R.slots) (kk : ∀ v, K v → zX p l e R s m args below meth c Q D B cA nL cells slots S I lv (.int v :: st) (pc + 3)) : zX p l e R s m args below meth c Q D B cA nL cells slots S I lv (.int xa1 :: .ref (B + 0) :: st) pc :=
  zc_VpI C (ci := 11) (q := (RX11, TX11, 19)) (k := 0) (fs := [some (some 1), none, some (some 3), some (some 4), none, none, none, none, some (some 22), some (some 24), some (some 43), some (some 64), some (some 69), some (some 88), some (some 97), some (some 100), some (some 109), some (some 111), none]) (As := [.int xa1]) (st := st) rfl (hS _ _ zs_0) (c_Desk_text hS h) (zgV zk_ml_L_62 zk_im_yX11_text zk_se_yX11_text zk_in_11 zk_cd_yX11_text) zsg_yX11_text hR rfl rfl hw hd hf kk
set_option maxHeartbeats 4000000 in
set_option maxRecDepth 20000 in
theorem c_Law_text {l : Launch} {D : va_G} {B : Nat} {cA : Nat → ClassId} {ad : Nat → Nat} {S : List zC} (hS : zOkX S)  {I : zI} {K : Nat → Nat → List zC → zI → Prop} (h : w_Law_text S I K) : Met l yL_text (zws yL_text cL_text 3 (some (.array .int))) (zrA 5 111 1 400) (zPc D B cA ad [.ref (B + 0)] S I) (zQc D B cA (zaA B S K)) 1 400 (fun q => B ≤ q) := by
  refine zm_of (cc := cL_text) (maxL := 3) (ret := (some (.array .int))) (by decide +kernel) rfl (Nat.le_of_ble_eq_true rfl) trivial ?_
  intro p e s m args below meth c C _
  unfold w_Law_text at h
  have g0 : zGo S 1 400 S 0 0 := zGo.start hS
  show zX p l e (zrA 5 111 1 400) s m args below meth c (MQ below (zQc D B cA (zaA B S K)) args s 1 400 (fun q => B ≤ q)) D B cA 3 0 0 S I [(0, .ref (B + 0))] [] 0
  refine zr_aload_n C dyL_text_0 rfl 0 rfl ?_
  refine zr_iconst C dyL_text_1 zc_i_0 ?_
  refine zv_L_36t C g0.1 (st := []) h ⟨Nat.le_of_ble_eq_true rfl, Nat.le_of_ble_eq_true rfl⟩ (Nat.le_of_ble_eq_true rfl) dyL_text_2 ⟨g0.2.2.1, g0.2.2.2⟩ (fun r_1 h => ?_)
  refine za_nn C g0 zk_ac_int rfl rfl h.1 dyL_text_5 (fun S_2 k_3 n_4 eS eK eN g_5 => ?_)
  replace h := h.2 S_2 k_3 n_4 eS eK eN
  refine zr_astore_n C dyL_text_7 rfl (Nat.le_of_ble_eq_true rfl) (lv2 := [(1, .ref (B + k_3)), (0, .ref (B + 0))]) rfl ?_
  refine zr_iconst C dyL_text_8 zc_i_0 ?_
  refine zr_istore_n C dyL_text_9 rfl (Nat.le_of_ble_eq_true rfl) (lv2 := [(2, .int 0), (1, .ref (B + k_3)), (0, .ref (B + 0))]) rfl ?_
  refine zjn (h (fun (v2_6 : Int32) (I_7 : zI) => zX p l e (zrA 5 111 1 400) s m args below meth c (MQ below (zQc D B cA (zaA B S K)) args s 1 400 (fun q => B ≤ q)) D B cA 3 (0 + 1) (0 + n_4) S_2 I_7 [(2, .int v2_6), (1, .ref (B + k_3)), (0, .ref (B + 0))] [] 10) (fun v2_6 I_7 h => ?_)) (fun h => ?_)
  · refine zr_iload_n C dyL_text_10 rfl 0 rfl ?_
    refine zr_aload_n C dyL_text_11 rfl 1 rfl ?_
    refine zr_alen C h.1 dyL_text_12 ?_
    replace h := h.2
    refine zr_icmp_ge C dyL_text_13 (tgt := 30) (by decide) (fun hc_11 => ?_) (fun hc_11 => ?_)
    · replace h := zif_pos hc_11 h
      refine zr_aload_n C dyL_text_30 rfl 1 rfl ?_
      refine zr_widen g_5.2.2.1 g_5.2.2.2 ?_
      exact zr_aretA C rfl dyL_text_31 ⟨g_5.2.1, _, _, rfl, h⟩
    · replace h := zif_neg hc_11 h
      refine zr_aload_n C dyL_text_16 rfl 1 rfl ?_
      refine zr_iload_n C dyL_text_17 rfl 0 rfl ?_
      refine zr_aload_n C dyL_text_18 rfl 2 rfl ?_
      refine zr_iload_n C dyL_text_19 rfl 0 rfl ?_
      refine zv_L_62t C g_5.1 (st := [.int v2_6, .ref (B + k_3)]) h ⟨Nat.le_of_ble_eq_true rfl, Nat.le_of_ble_eq_true rfl⟩ (Nat.le_of_ble_eq_true rfl) dyL_text_20 ⟨g_5.2.2.1, g_5.2.2.2⟩ (fun r_8 h => ?_)
      refine zr_iast C h.1.1 h.1.2 dyL_text_23 ?_
      replace h := h.2
      refine zn_mem C (fun I_9 eI_9 => ?_)
      replace h := h I_9 eI_9
      refine zn_iinc C (fun v2_10 => [(2, .int v2_10), (1, .ref (B + k_3)), (0, .ref (B + 0))]) dyL_text_24 0 rfl zc_i_1 (Nat.le_of_ble_eq_true rfl) (fun _ => rfl) (fun v2_10 ev2_10 => ?_)
      replace h := h v2_10 ev2_10
      refine zr_goto C dyL_text_27 (tgt := 10) (by decide) ?_
      exact h
  exact h
def w_Law_replaced (a1 : Nat) (a1n : Nat) (S : List zC) (I : zI) (K : Int32 → List zC → zI → Prop) : Prop :=
  w_Desk_count 0 I (fun r_1 => w_Desk_edit 0 r_1 I (fun r_2 I_3 => ∀ (P13 : Int32 → Int32 → (List zC) → Nat → Nat → zI → Prop), (∀ (v2_4 : Int32) (v3_5 : Int32) (S_6 : List zC) (c_7 : Nat) (u_8 : Nat) (I_10 : zI), (zAt S_6 a1 a1n ∧ (if (Int32.ofNat a1n) ≤ v2_4 then K v3_5 S_6 I_10 else (if v3_5 < 0 then K v3_5 S_6 I_10 else (zAt S_6 a1 a1n ∧ (c_7 + 1 ≤ 10 ∧ u_8 + 1000 ≤ 10000) ∧ w_Law_part a1 a1n v2_4 (if (v2_4 + (150 : Int32)) < (Int32.ofNat a1n) then (v2_4 + (150 : Int32)) else (Int32.ofNat a1n)) S_6 I_10 (fun k_11 n_12 S_13 I_14 => w_Law_tape k_11 n_12 S_13 I_14 (fun I_16 => w_Desk_edit v2_4 0 I_16 (fun r_17 I_18 => zAt S_13 k_11 n_12 ∧ ∀ v2_19, v2_19 = (v2_4 + (Int32.ofNat n_12)) → P13 v2_19 r_17 S_13 (c_7 + 1) (u_8 + 1000) I_18))))))) → P13 v2_4 v3_5 S_6 c_7 u_8 I_10) → P13 0 r_2 S 0 0 I_3))
theorem dyL_replaced_0 : decode cL_replaced 0 = .ok (.iconst 0, 1) := by decide +kernel
theorem dyL_replaced_1 : decode cL_replaced 1 = .ok (.istore_n 2, 1) := by decide +kernel
theorem dyL_replaced_2 : decode cL_replaced 2 = .ok (.aload_n 0, 1) := by decide +kernel
theorem dyL_replaced_3 : decode cL_replaced 3 = .ok (.iconst 0, 1) := by decide +kernel
theorem dyL_replaced_4 : decode cL_replaced 4 = .ok (.aload_n 0, 1) := by decide +kernel
theorem dyL_replaced_5 : decode cL_replaced 5 = .ok (.iconst 0, 1) := by decide +kernel
theorem dyL_replaced_6 : decode cL_replaced 6 = .ok (.invokevirtual 36, 3) := by decide +kernel
theorem dyL_replaced_9 : decode cL_replaced 9 = .ok (.invokevirtual 65, 3) := by decide +kernel
theorem dyL_replaced_12 : decode cL_replaced 12 = .ok (.istore_n 3, 1) := by decide +kernel
theorem dyL_replaced_13 : decode cL_replaced 13 = .ok (.iload_n 2, 1) := by decide +kernel
theorem dyL_replaced_14 : decode cL_replaced 14 = .ok (.aload_n 1, 1) := by decide +kernel
theorem dyL_replaced_15 : decode cL_replaced 15 = .ok (.arraylength, 1) := by decide +kernel
theorem dyL_replaced_16 : decode cL_replaced 16 = .ok (.if_icmp .ge 46, 3) := by decide +kernel
theorem dyL_replaced_19 : decode cL_replaced 19 = .ok (.iload_n 3, 1) := by decide +kernel
theorem dyL_replaced_20 : decode cL_replaced 20 = .ok (.ifCond .lt 42, 3) := by decide +kernel
theorem dyL_replaced_23 : decode cL_replaced 23 = .ok (.aload_n 1, 1) := by decide +kernel
theorem dyL_replaced_24 : decode cL_replaced 24 = .ok (.iload_n 2, 1) := by decide +kernel
theorem dyL_replaced_25 : decode cL_replaced 25 = .ok (.aload_n 1, 1) := by decide +kernel
theorem dyL_replaced_26 : decode cL_replaced 26 = .ok (.arraylength, 1) := by decide +kernel
theorem dyL_replaced_27 : decode cL_replaced 27 = .ok (.iload_n 2, 1) := by decide +kernel
theorem dyL_replaced_28 : decode cL_replaced 28 = .ok (.sipush 150, 3) := by decide +kernel
theorem dyL_replaced_31 : decode cL_replaced 31 = .ok (.iadd, 1) := by decide +kernel
theorem dyL_replaced_32 : decode cL_replaced 32 = .ok (.invokestatic 68, 3) := by decide +kernel
theorem dyL_replaced_35 : decode cL_replaced 35 = .ok (.invokestatic 73, 3) := by decide +kernel
theorem dyL_replaced_38 : decode cL_replaced 38 = .ok (.astore 4, 2) := by decide +kernel
theorem dyL_replaced_40 : decode cL_replaced 40 = .ok (.aload_n 0, 1) := by decide +kernel
theorem dyL_replaced_41 : decode cL_replaced 41 = .ok (.aload 4, 2) := by decide +kernel
theorem dyL_replaced_43 : decode cL_replaced 43 = .ok (.invokestatic 77, 3) := by decide +kernel
theorem dyL_replaced_46 : decode cL_replaced 46 = .ok (.aload_n 0, 1) := by decide +kernel
theorem dyL_replaced_47 : decode cL_replaced 47 = .ok (.iload_n 2, 1) := by decide +kernel
theorem dyL_replaced_48 : decode cL_replaced 48 = .ok (.iconst 0, 1) := by decide +kernel
theorem dyL_replaced_49 : decode cL_replaced 49 = .ok (.invokevirtual 65, 3) := by decide +kernel
theorem dyL_replaced_52 : decode cL_replaced 52 = .ok (.istore_n 3, 1) := by decide +kernel
theorem dyL_replaced_53 : decode cL_replaced 53 = .ok (.iload_n 2, 1) := by decide +kernel
theorem dyL_replaced_54 : decode cL_replaced 54 = .ok (.aload 4, 2) := by decide +kernel
theorem dyL_replaced_56 : decode cL_replaced 56 = .ok (.arraylength, 1) := by decide +kernel
theorem dyL_replaced_57 : decode cL_replaced 57 = .ok (.iadd, 1) := by decide +kernel
theorem dyL_replaced_58 : decode cL_replaced 58 = .ok (.istore_n 2, 1) := by decide +kernel
theorem dyL_replaced_59 : decode cL_replaced 59 = .ok (.goto (-46), 3) := by decide +kernel
theorem dyL_replaced_62 : decode cL_replaced 62 = .ok (.iload_n 3, 1) := by decide +kernel
theorem dyL_replaced_63 : decode cL_replaced 63 = .ok (.ireturn, 1) := by decide +kernel
theorem zsg_yL_replaced : yL_replaced.cls ≠ "java/lang/invoke/MethodHandle" ∧ yL_replaced.cls ≠ "java/lang/invoke/VarHandle" ∧ (parseMethodDescriptor yL_replaced.desc).map (fun d => d.parameters.length) = some 2 := by decide +kernel
theorem zv_L_65t {p : Program} {l : Launch} {e : Env} {R : Room} {s : State} {m : MethodId} {args : Array Value} {below : List Frame} {meth : Method} {c : Code} {Q : State → Prop} {D : va_G} {B : Nat} {cA : Nat → ClassId} {ad : Nat → Nat} {cc : ByteArray} {nL : Nat} {ret : Option FieldType} {S : List zC} {I : zI} {lv : List (Nat × Value)} {st : List Value} {pc cells slots : Nat} (C : zCx p s m args meth c cc nL RL ret D B cA ad) {K : Int32 → zI → Prop} {xa1 : Int32} {xa2 : Int32} (hS : zOkX S)  (h : w_Desk_edit xa1 xa2 I K) (hR : 18 + 1 ≤ R.frames ∧ 8 + (4 + 11) + (594) ≤ R.locals) (hw : (st.map fun v => v.category).sum ≤ 8) (hd : decode cc pc = .ok (.invokevirtual 65, 3)) (hf : cells ≤ R.cells ∧ slots ≤ R.slots) (kk : ∀ v I2, K v I2 → zX p l e R s m args below meth c Q D B cA nL cells slots S I2 lv (.int v :: st) (pc + 3)) : zX p l e R s m args below meth c Q D B cA nL cells slots S I lv (.int xa2 :: .int xa1 :: .ref (B + 0) :: st) pc :=
  zc_VqI C (ci := 11) (q := (RX11, TX11, 19)) (k := 0) (fs := [some (some 1), none, some (some 3), some (some 4), none, none, none, none, some (some 22), some (some 24), some (some 43), some (some 64), some (some 69), some (some 88), some (some 97), some (some 100), some (some 109), some (some 111), none]) (As := [.int xa1, .int xa2]) (st := st) rfl (hS _ _ zs_0) (c_Desk_edit hS h) (zgV zk_ml_L_65 zk_im_yX11_edit zk_se_yX11_edit zk_in_11 zk_cd_yX11_edit) zsg_yX11_edit hR rfl rfl hw hd hf kk
theorem zv_L_73t {p : Program} {l : Launch} {e : Env} {R : Room} {s : State} {m : MethodId} {args : Array Value} {below : List Frame} {meth : Method} {c : Code} {Q : State → Prop} {D : va_G} {B : Nat} {cA : Nat → ClassId} {ad : Nat → Nat} {cc : ByteArray} {nL : Nat} {ret : Option FieldType} {S : List zC} {I : zI} {lv : List (Nat × Value)} {st : List Value} {pc cells slots : Nat} (C : zCx p s m args meth c cc nL RL ret D B cA ad) {S0 : List zC} {MC MS : Nat} {K : Nat → Nat → List zC → zI → Prop} {xa0 : Nat} {xa0n : Nat} {xa1 : Int32} {xa2 : Int32} (g : zGo S0 MC MS S cells slots) (h : w_Law_part xa0 xa0n xa1 xa2 S I K) (hR : 0 + 1 ≤ R.frames ∧ 8 + (5 + 11) + 0 ≤ R.locals) (hw : (st.map fun v => v.category).sum ≤ 8) (hd : decode cc pc = .ok (.invokestatic 73, 3)) (hq : cells + 1 ≤ MC ∧ slots + 1000 ≤ MS) (kk : ∀ (k n : Nat) (S2 : List zC) (I2 : zI), zGo S0 MC MS S2 (cells + 1) (slots + 1000) → K k n S2 I2 → zX p l e R s m args below meth c Q D B cA nL (cells + 1) (slots + 1000) S2 I2 lv (.ref (B + k) :: st) (pc + 3)) (hMC : R.cells = MC := by rfl) (hMS : R.slots = MS := by rfl) : zX p l e R s m args below meth c Q D B cA nL cells slots S I lv (.int xa2 :: .int xa1 :: .ref (B + xa0) :: st) pc :=
  zc_SaA C (As := [.ref (B + xa0), .int xa1, .int xa2]) (st := st) (c_Law_part g.1 h) (zgM zk_cd_yL_part) zk_ml_L_73 zk_st_yL_part zk_in_L zsg_yL_part hR rfl rfl hw hd ⟨hMC.symm ▸ hq.1, hMS.symm ▸ hq.2⟩ (fun k n S2 I2 hT hK => kk k n S2 I2 (g.call hT hq.1 hq.2) hK)
theorem zv_L_77t {p : Program} {l : Launch} {e : Env} {R : Room} {s : State} {m : MethodId} {args : Array Value} {below : List Frame} {meth : Method} {c : Code} {Q : State → Prop} {D : va_G} {B : Nat} {cA : Nat → ClassId} {ad : Nat → Nat} {cc : ByteArray} {nL : Nat} {ret : Option FieldType} {S : List zC} {I : zI} {lv : List (Nat × Value)} {st : List Value} {pc cells slots : Nat} (C : zCx p s m args meth c cc nL RL ret D B cA ad) {K : zI → Prop} {xa1 : Nat} {xa1n : Nat} (hS : zOkX S) (h : w_Law_tape xa1 xa1n S I K) (hR : 4 + 1 ≤ R.frames ∧ 8 + (6 + 11) + 90 ≤ R.locals) (hw : (st.map fun v => v.category).sum ≤ 8) (hd : decode cc pc = .ok (.invokestatic 77, 3)) (hf : cells ≤ R.cells ∧ slots ≤ R.slots) (kk : ∀ I2, K I2 → zX p l e R s m args below meth c Q D B cA nL cells slots S I2 lv st (pc + 3)) : zX p l e R s m args below meth c Q D B cA nL cells slots S I lv (.ref (B + xa1) :: .ref (B + 0) :: st) pc :=
  zc_SqV C (As := [.ref (B + 0), .ref (B + xa1)]) (st := st) (c_Law_tape hS h) (zgM zk_cd_yL_tape) zk_ml_L_77 zk_st_yL_tape zk_in_L zsg_yL_tape hR rfl rfl hw hd hf kk
set_option maxHeartbeats 4000000 in
set_option maxRecDepth 20000 in
theorem c_Law_replaced {l : Launch} {D : va_G} {B : Nat} {cA : Nat → ClassId} {ad : Nat → Nat} {S : List zC} (hS : zOkX S) {a1 : Nat} {a1n : Nat} {I : zI} {K : Int32 → List zC → zI → Prop} (h : w_Law_replaced a1 a1n S I K) : Met l yL_replaced (zws yL_replaced cL_replaced 5 (some .int)) (zrA 19 617 10 10000) (zPc D B cA ad [.ref (B + 0), .ref (B + a1)] S I) (zQc D B cA (zaI S K)) 10 10000 (fun q => B ≤ q) := by
  refine zm_of (cc := cL_replaced) (maxL := 5) (ret := (some .int)) (by decide +kernel) rfl (Nat.le_of_ble_eq_true rfl) trivial ?_
  intro p e s m args below meth c C _
  unfold w_Law_replaced at h
  have g0 : zGo S 10 10000 S 0 0 := zGo.start hS
  show zX p l e (zrA 19 617 10 10000) s m args below meth c (MQ below (zQc D B cA (zaI S K)) args s 10 10000 (fun q => B ≤ q)) D B cA 5 0 0 S I [(0, .ref (B + 0)), (1, .ref (B + a1))] [] 0
  refine zr_iconst C dyL_replaced_0 zc_i_0 ?_
  refine zr_istore_n C dyL_replaced_1 rfl (Nat.le_of_ble_eq_true rfl) (lv2 := [(2, .int 0), (0, .ref (B + 0)), (1, .ref (B + a1))]) rfl ?_
  refine zr_aload_n C dyL_replaced_2 rfl 1 rfl ?_
  refine zr_iconst C dyL_replaced_3 zc_i_0 ?_
  refine zr_aload_n C dyL_replaced_4 rfl 1 rfl ?_
  refine zr_iconst C dyL_replaced_5 zc_i_0 ?_
  refine zv_L_36t C g0.1 (st := [.int 0, .ref (B + 0)]) h ⟨Nat.le_of_ble_eq_true rfl, Nat.le_of_ble_eq_true rfl⟩ (Nat.le_of_ble_eq_true rfl) dyL_replaced_6 ⟨g0.2.2.1, g0.2.2.2⟩ (fun r_1 h => ?_)
  refine zv_L_65t C g0.1 (st := []) h ⟨Nat.le_of_ble_eq_true rfl, Nat.le_of_ble_eq_true rfl⟩ (Nat.le_of_ble_eq_true rfl) dyL_replaced_9 ⟨g0.2.2.1, g0.2.2.2⟩ (fun r_2 I_3 h => ?_)
  refine zr_istore_n C dyL_replaced_12 rfl (Nat.le_of_ble_eq_true rfl) (lv2 := [(3, .int r_2), (2, .int 0), (0, .ref (B + 0)), (1, .ref (B + a1))]) rfl ?_
  refine zjn (h (fun (v2_4 : Int32) (v3_5 : Int32) (S_6 : List zC) (c_7 : Nat) (u_8 : Nat) (I_10 : zI) => zGo S 10 10000 S_6 c_7 u_8 → zX p l e (zrA 19 617 10 10000) s m args below meth c (MQ below (zQc D B cA (zaI S K)) args s 10 10000 (fun q => B ≤ q)) D B cA 5 c_7 u_8 S_6 I_10 [(3, .int v3_5), (2, .int v2_4), (0, .ref (B + 0)), (1, .ref (B + a1))] [] 13) (fun v2_4 v3_5 S_6 c_7 u_8 I_10 h g_9 => ?_)) (fun h => ?_)
  · refine zr_iload_n C dyL_replaced_13 rfl 1 rfl ?_
    refine zr_aload_n C dyL_replaced_14 rfl 3 rfl ?_
    refine zr_alen C h.1 dyL_replaced_15 ?_
    replace h := h.2
    refine zr_icmp_ge C dyL_replaced_16 (tgt := 62) (by decide) (fun hc_21 => ?_) (fun hc_21 => ?_)
    · replace h := zif_pos hc_21 h
      refine zr_iload_n C dyL_replaced_62 rfl 0 rfl ?_
      refine zr_widen g_9.2.2.1 g_9.2.2.2 ?_
      exact zr_iret C rfl dyL_replaced_63 ⟨g_9.2.1, _, rfl, h⟩
    · replace h := zif_neg hc_21 h
      refine zr_iload_n C dyL_replaced_19 rfl 0 rfl ?_
      refine zr_if_lt C dyL_replaced_20 (tgt := 62) (by decide) (fun hc_20 => ?_) (fun hc_20 => ?_)
      · replace h := zif_pos hc_20 h
        refine zr_iload_n C dyL_replaced_62 rfl 0 rfl ?_
        refine zr_widen g_9.2.2.1 g_9.2.2.2 ?_
        exact zr_iret C rfl dyL_replaced_63 ⟨g_9.2.1, _, rfl, h⟩
      · replace h := zif_neg hc_20 h
        refine zr_aload_n C dyL_replaced_23 rfl 3 rfl ?_
        refine zr_iload_n C dyL_replaced_24 rfl 1 rfl ?_
        refine zr_aload_n C dyL_replaced_25 rfl 3 rfl ?_
        refine zr_alen C h.1 dyL_replaced_26 ?_
        replace h := h.2
        refine zr_iload_n C dyL_replaced_27 rfl 1 rfl ?_
        refine zr_sipush C dyL_replaced_28 zc_s_150 ?_
        refine zr_iadd C dyL_replaced_31 ?_
        refine zr_mmin C zk_ml_L_68 zk_st_J_min zk_in_Math zk_cd_J_min (Nat.le_of_ble_eq_true rfl) (Nat.le_of_ble_eq_true rfl) (Nat.le_of_ble_eq_true rfl) g_9.2.2.1 g_9.2.2.2 dyL_replaced_32 ?_
        refine zv_L_73t C g_9 (st := []) h.2 ⟨Nat.le_of_ble_eq_true rfl, Nat.le_of_ble_eq_true rfl⟩ (Nat.le_of_ble_eq_true rfl) dyL_replaced_35 h.1 (fun k_11 n_12 S_13 I_14 g_15 h => ?_)
        refine zr_astore C dyL_replaced_38 (Nat.le_of_ble_eq_true rfl) (lv2 := [(4, .ref (B + k_11)), (3, .int v3_5), (2, .int v2_4), (0, .ref (B + 0)), (1, .ref (B + a1))]) rfl ?_
        refine zr_aload_n C dyL_replaced_40 rfl 3 rfl ?_
        refine zr_aload C dyL_replaced_41 0 rfl ?_
        refine zv_L_77t C g_15.1 (st := []) h ⟨Nat.le_of_ble_eq_true rfl, Nat.le_of_ble_eq_true rfl⟩ (Nat.le_of_ble_eq_true rfl) dyL_replaced_43 ⟨g_15.2.2.1, g_15.2.2.2⟩ (fun I_16 h => ?_)
        refine zr_aload_n C dyL_replaced_46 rfl 3 rfl ?_
        refine zr_iload_n C dyL_replaced_47 rfl 2 rfl ?_
        refine zr_iconst C dyL_replaced_48 zc_i_0 ?_
        refine zv_L_65t C g_15.1 (st := []) h ⟨Nat.le_of_ble_eq_true rfl, Nat.le_of_ble_eq_true rfl⟩ (Nat.le_of_ble_eq_true rfl) dyL_replaced_49 ⟨g_15.2.2.1, g_15.2.2.2⟩ (fun r_17 I_18 h => ?_)
        refine zr_istore_n C dyL_replaced_52 rfl (Nat.le_of_ble_eq_true rfl) (lv2 := [(3, .int r_17), (4, .ref (B + k_11)), (2, .int v2_4), (0, .ref (B + 0)), (1, .ref (B + a1))]) rfl ?_
        refine zr_iload_n C dyL_replaced_53 rfl 2 rfl ?_
        refine zr_aload C dyL_replaced_54 1 rfl ?_
        refine zr_alen C h.1 dyL_replaced_56 ?_
        replace h := h.2
        refine zr_iadd C dyL_replaced_57 ?_
        refine zn_istore_n C (fun v2_19 => [(2, .int v2_19), (3, .int r_17), (4, .ref (B + k_11)), (0, .ref (B + 0)), (1, .ref (B + a1))]) dyL_replaced_58 rfl (Nat.le_of_ble_eq_true rfl) (fun _ => rfl) (fun v2_19 ev2_19 => ?_)
        replace h := h v2_19 ev2_19
        refine zr_goto C dyL_replaced_59 (tgt := 13) (by decide) ?_
        refine zr_sub (lv2 := [(3, .int r_17), (2, .int v2_19), (0, .ref (B + 0)), (1, .ref (B + a1))]) [1, 0, 3, 4] rfl ?_
        exact h g_15
  exact h g0
