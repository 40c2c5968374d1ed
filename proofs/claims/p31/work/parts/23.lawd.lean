theorem dyL_law_1014 : decode cL_law 1014 = .ok (.aload_n 0, 1) := by decide +kernel
theorem dyL_law_1015 : decode cL_law 1015 = .ok (.iload_n 3, 1) := by decide +kernel
theorem dyL_law_1016 : decode cL_law 1016 = .ok (.iconst 1, 1) := by decide +kernel
theorem dyL_law_1017 : decode cL_law 1017 = .ok (.iadd, 1) := by decide +kernel
theorem dyL_law_1018 : decode cL_law 1018 = .ok (.iaload, 1) := by decide +kernel
theorem dyL_law_1019 : decode cL_law 1019 = .ok (.aload_n 0, 1) := by decide +kernel
theorem dyL_law_1020 : decode cL_law 1020 = .ok (.iload_n 3, 1) := by decide +kernel
theorem dyL_law_1021 : decode cL_law 1021 = .ok (.iconst 2, 1) := by decide +kernel
theorem dyL_law_1022 : decode cL_law 1022 = .ok (.iadd, 1) := by decide +kernel
theorem dyL_law_1023 : decode cL_law 1023 = .ok (.iaload, 1) := by decide +kernel
theorem dyL_law_1024 : decode cL_law 1024 = .ok (.invokevirtual 149, 3) := by decide +kernel
theorem dyL_law_1027 : decode cL_law 1027 = .ok (.pop, 1) := by decide +kernel
theorem dyL_law_1028 : decode cL_law 1028 = .ok (.goto 217, 3) := by decide +kernel
theorem dyL_law_1031 : decode cL_law 1031 = .ok (.aload_n 1, 1) := by decide +kernel
theorem dyL_law_1032 : decode cL_law 1032 = .ok (.aload_n 0, 1) := by decide +kernel
theorem dyL_law_1033 : decode cL_law 1033 = .ok (.iload_n 3, 1) := by decide +kernel
theorem dyL_law_1034 : decode cL_law 1034 = .ok (.iconst 1, 1) := by decide +kernel
theorem dyL_law_1035 : decode cL_law 1035 = .ok (.iadd, 1) := by decide +kernel
theorem dyL_law_1036 : decode cL_law 1036 = .ok (.iaload, 1) := by decide +kernel
theorem dyL_law_1037 : decode cL_law 1037 = .ok (.aload_n 0, 1) := by decide +kernel
theorem dyL_law_1038 : decode cL_law 1038 = .ok (.iload_n 3, 1) := by decide +kernel
theorem dyL_law_1039 : decode cL_law 1039 = .ok (.iconst 2, 1) := by decide +kernel
theorem dyL_law_1040 : decode cL_law 1040 = .ok (.iadd, 1) := by decide +kernel
theorem dyL_law_1041 : decode cL_law 1041 = .ok (.iaload, 1) := by decide +kernel
theorem dyL_law_1042 : decode cL_law 1042 = .ok (.invokevirtual 150, 3) := by decide +kernel
theorem dyL_law_1045 : decode cL_law 1045 = .ok (.pop, 1) := by decide +kernel
theorem dyL_law_1046 : decode cL_law 1046 = .ok (.aload_n 2, 1) := by decide +kernel
theorem dyL_law_1047 : decode cL_law 1047 = .ok (.aload_n 0, 1) := by decide +kernel
theorem dyL_law_1048 : decode cL_law 1048 = .ok (.iload_n 3, 1) := by decide +kernel
theorem dyL_law_1049 : decode cL_law 1049 = .ok (.iconst 1, 1) := by decide +kernel
theorem dyL_law_1050 : decode cL_law 1050 = .ok (.iadd, 1) := by decide +kernel
theorem dyL_law_1051 : decode cL_law 1051 = .ok (.iaload, 1) := by decide +kernel
theorem dyL_law_1052 : decode cL_law 1052 = .ok (.aload_n 0, 1) := by decide +kernel
theorem dyL_law_1053 : decode cL_law 1053 = .ok (.iload_n 3, 1) := by decide +kernel
theorem dyL_law_1054 : decode cL_law 1054 = .ok (.iconst 2, 1) := by decide +kernel
theorem dyL_law_1055 : decode cL_law 1055 = .ok (.iadd, 1) := by decide +kernel
theorem dyL_law_1056 : decode cL_law 1056 = .ok (.iaload, 1) := by decide +kernel
theorem dyL_law_1057 : decode cL_law 1057 = .ok (.invokevirtual 153, 3) := by decide +kernel
theorem dyL_law_1060 : decode cL_law 1060 = .ok (.pop, 1) := by decide +kernel
theorem dyL_law_1061 : decode cL_law 1061 = .ok (.goto 184, 3) := by decide +kernel
theorem dyL_law_1064 : decode cL_law 1064 = .ok (.aload_n 1, 1) := by decide +kernel
theorem dyL_law_1065 : decode cL_law 1065 = .ok (.aload_n 0, 1) := by decide +kernel
theorem dyL_law_1066 : decode cL_law 1066 = .ok (.iload_n 3, 1) := by decide +kernel
theorem dyL_law_1067 : decode cL_law 1067 = .ok (.iconst 1, 1) := by decide +kernel
theorem dyL_law_1068 : decode cL_law 1068 = .ok (.iadd, 1) := by decide +kernel
theorem dyL_law_1069 : decode cL_law 1069 = .ok (.iaload, 1) := by decide +kernel
theorem dyL_law_1070 : decode cL_law 1070 = .ok (.invokevirtual 154, 3) := by decide +kernel
theorem dyL_law_1073 : decode cL_law 1073 = .ok (.pop, 1) := by decide +kernel
theorem dyL_law_1074 : decode cL_law 1074 = .ok (.aload_n 2, 1) := by decide +kernel
theorem dyL_law_1075 : decode cL_law 1075 = .ok (.aload_n 0, 1) := by decide +kernel
theorem dyL_law_1076 : decode cL_law 1076 = .ok (.iload_n 3, 1) := by decide +kernel
theorem dyL_law_1077 : decode cL_law 1077 = .ok (.iconst 1, 1) := by decide +kernel
theorem dyL_law_1078 : decode cL_law 1078 = .ok (.iadd, 1) := by decide +kernel
theorem dyL_law_1079 : decode cL_law 1079 = .ok (.iaload, 1) := by decide +kernel
theorem dyL_law_1080 : decode cL_law 1080 = .ok (.invokevirtual 157, 3) := by decide +kernel
theorem dyL_law_1083 : decode cL_law 1083 = .ok (.pop, 1) := by decide +kernel
theorem dyL_law_1084 : decode cL_law 1084 = .ok (.goto 161, 3) := by decide +kernel
theorem dyL_law_1087 : decode cL_law 1087 = .ok (.aload_n 1, 1) := by decide +kernel
theorem dyL_law_1088 : decode cL_law 1088 = .ok (.aload_n 0, 1) := by decide +kernel
theorem dyL_law_1089 : decode cL_law 1089 = .ok (.iload_n 3, 1) := by decide +kernel
theorem dyL_law_1090 : decode cL_law 1090 = .ok (.iconst 1, 1) := by decide +kernel
theorem dyL_law_1091 : decode cL_law 1091 = .ok (.iadd, 1) := by decide +kernel
theorem dyL_law_1092 : decode cL_law 1092 = .ok (.iaload, 1) := by decide +kernel
theorem dyL_law_1093 : decode cL_law 1093 = .ok (.invokevirtual 158, 3) := by decide +kernel
theorem dyL_law_1096 : decode cL_law 1096 = .ok (.pop, 1) := by decide +kernel
theorem dyL_law_1097 : decode cL_law 1097 = .ok (.aload_n 2, 1) := by decide +kernel
theorem dyL_law_1098 : decode cL_law 1098 = .ok (.aload_n 0, 1) := by decide +kernel
theorem dyL_law_1099 : decode cL_law 1099 = .ok (.iload_n 3, 1) := by decide +kernel
theorem dyL_law_1100 : decode cL_law 1100 = .ok (.iconst 1, 1) := by decide +kernel
theorem dyL_law_1101 : decode cL_law 1101 = .ok (.iadd, 1) := by decide +kernel
theorem dyL_law_1102 : decode cL_law 1102 = .ok (.iaload, 1) := by decide +kernel
theorem dyL_law_1103 : decode cL_law 1103 = .ok (.invokevirtual 161, 3) := by decide +kernel
theorem dyL_law_1106 : decode cL_law 1106 = .ok (.pop, 1) := by decide +kernel
theorem dyL_law_1107 : decode cL_law 1107 = .ok (.goto 138, 3) := by decide +kernel
theorem dyL_law_1110 : decode cL_law 1110 = .ok (.aload_n 1, 1) := by decide +kernel
theorem dyL_law_1111 : decode cL_law 1111 = .ok (.aload_n 0, 1) := by decide +kernel
theorem dyL_law_1112 : decode cL_law 1112 = .ok (.iload_n 3, 1) := by decide +kernel
theorem dyL_law_1113 : decode cL_law 1113 = .ok (.iconst 1, 1) := by decide +kernel
theorem dyL_law_1114 : decode cL_law 1114 = .ok (.iadd, 1) := by decide +kernel
theorem dyL_law_1115 : decode cL_law 1115 = .ok (.iaload, 1) := by decide +kernel
theorem dyL_law_1116 : decode cL_law 1116 = .ok (.invokevirtual 162, 3) := by decide +kernel
theorem dyL_law_1119 : decode cL_law 1119 = .ok (.pop, 1) := by decide +kernel
theorem dyL_law_1120 : decode cL_law 1120 = .ok (.aload_n 2, 1) := by decide +kernel
theorem dyL_law_1121 : decode cL_law 1121 = .ok (.aload_n 0, 1) := by decide +kernel
theorem dyL_law_1122 : decode cL_law 1122 = .ok (.iload_n 3, 1) := by decide +kernel
theorem dyL_law_1123 : decode cL_law 1123 = .ok (.iconst 1, 1) := by decide +kernel
theorem dyL_law_1124 : decode cL_law 1124 = .ok (.iadd, 1) := by decide +kernel
theorem dyL_law_1125 : decode cL_law 1125 = .ok (.iaload, 1) := by decide +kernel
theorem dyL_law_1126 : decode cL_law 1126 = .ok (.invokevirtual 165, 3) := by decide +kernel
theorem dyL_law_1129 : decode cL_law 1129 = .ok (.pop, 1) := by decide +kernel
theorem dyL_law_1130 : decode cL_law 1130 = .ok (.goto 115, 3) := by decide +kernel
theorem dyL_law_1133 : decode cL_law 1133 = .ok (.aload_n 1, 1) := by decide +kernel
theorem dyL_law_1134 : decode cL_law 1134 = .ok (.aload_n 0, 1) := by decide +kernel
theorem dyL_law_1135 : decode cL_law 1135 = .ok (.iload_n 3, 1) := by decide +kernel
theorem dyL_law_1136 : decode cL_law 1136 = .ok (.iconst 1, 1) := by decide +kernel
theorem dyL_law_1137 : decode cL_law 1137 = .ok (.iadd, 1) := by decide +kernel
theorem dyL_law_1138 : decode cL_law 1138 = .ok (.iaload, 1) := by decide +kernel
theorem dyL_law_1139 : decode cL_law 1139 = .ok (.aload_n 0, 1) := by decide +kernel
theorem dyL_law_1140 : decode cL_law 1140 = .ok (.iload_n 3, 1) := by decide +kernel
theorem dyL_law_1141 : decode cL_law 1141 = .ok (.iconst 2, 1) := by decide +kernel
theorem dyL_law_1142 : decode cL_law 1142 = .ok (.iadd, 1) := by decide +kernel
theorem dyL_law_1143 : decode cL_law 1143 = .ok (.iaload, 1) := by decide +kernel
theorem dyL_law_1144 : decode cL_law 1144 = .ok (.invokevirtual 166, 3) := by decide +kernel
theorem dyL_law_1147 : decode cL_law 1147 = .ok (.pop, 1) := by decide +kernel
theorem dyL_law_1148 : decode cL_law 1148 = .ok (.aload_n 2, 1) := by decide +kernel
theorem dyL_law_1149 : decode cL_law 1149 = .ok (.aload_n 0, 1) := by decide +kernel
theorem dyL_law_1150 : decode cL_law 1150 = .ok (.iload_n 3, 1) := by decide +kernel
theorem dyL_law_1151 : decode cL_law 1151 = .ok (.iconst 1, 1) := by decide +kernel
theorem dyL_law_1152 : decode cL_law 1152 = .ok (.iadd, 1) := by decide +kernel
theorem dyL_law_1153 : decode cL_law 1153 = .ok (.iaload, 1) := by decide +kernel
theorem dyL_law_1154 : decode cL_law 1154 = .ok (.aload_n 0, 1) := by decide +kernel
theorem dyL_law_1155 : decode cL_law 1155 = .ok (.iload_n 3, 1) := by decide +kernel
theorem dyL_law_1156 : decode cL_law 1156 = .ok (.iconst 2, 1) := by decide +kernel
theorem dyL_law_1157 : decode cL_law 1157 = .ok (.iadd, 1) := by decide +kernel
theorem dyL_law_1158 : decode cL_law 1158 = .ok (.iaload, 1) := by decide +kernel
theorem dyL_law_1159 : decode cL_law 1159 = .ok (.invokevirtual 169, 3) := by decide +kernel
theorem dyL_law_1162 : decode cL_law 1162 = .ok (.pop, 1) := by decide +kernel
theorem dyL_law_1163 : decode cL_law 1163 = .ok (.goto 82, 3) := by decide +kernel
theorem dyL_law_1166 : decode cL_law 1166 = .ok (.aload_n 1, 1) := by decide +kernel
theorem dyL_law_1167 : decode cL_law 1167 = .ok (.aload_n 0, 1) := by decide +kernel
theorem dyL_law_1168 : decode cL_law 1168 = .ok (.iload_n 3, 1) := by decide +kernel
theorem dyL_law_1169 : decode cL_law 1169 = .ok (.iconst 1, 1) := by decide +kernel
theorem dyL_law_1170 : decode cL_law 1170 = .ok (.iadd, 1) := by decide +kernel
theorem dyL_law_1171 : decode cL_law 1171 = .ok (.iaload, 1) := by decide +kernel
theorem dyL_law_1172 : decode cL_law 1172 = .ok (.aload_n 0, 1) := by decide +kernel
theorem dyL_law_1173 : decode cL_law 1173 = .ok (.iload_n 3, 1) := by decide +kernel
theorem dyL_law_1174 : decode cL_law 1174 = .ok (.iconst 2, 1) := by decide +kernel
theorem dyL_law_1175 : decode cL_law 1175 = .ok (.iadd, 1) := by decide +kernel
theorem dyL_law_1176 : decode cL_law 1176 = .ok (.iaload, 1) := by decide +kernel
theorem dyL_law_1177 : decode cL_law 1177 = .ok (.invokevirtual 170, 3) := by decide +kernel
theorem dyL_law_1180 : decode cL_law 1180 = .ok (.pop, 1) := by decide +kernel
theorem dyL_law_1181 : decode cL_law 1181 = .ok (.aload_n 2, 1) := by decide +kernel
theorem dyL_law_1182 : decode cL_law 1182 = .ok (.aload_n 0, 1) := by decide +kernel
theorem dyL_law_1183 : decode cL_law 1183 = .ok (.iload_n 3, 1) := by decide +kernel
theorem dyL_law_1184 : decode cL_law 1184 = .ok (.iconst 1, 1) := by decide +kernel
theorem dyL_law_1185 : decode cL_law 1185 = .ok (.iadd, 1) := by decide +kernel
theorem dyL_law_1186 : decode cL_law 1186 = .ok (.iaload, 1) := by decide +kernel
theorem dyL_law_1187 : decode cL_law 1187 = .ok (.aload_n 0, 1) := by decide +kernel
theorem dyL_law_1188 : decode cL_law 1188 = .ok (.iload_n 3, 1) := by decide +kernel
theorem dyL_law_1189 : decode cL_law 1189 = .ok (.iconst 2, 1) := by decide +kernel
theorem dyL_law_1190 : decode cL_law 1190 = .ok (.iadd, 1) := by decide +kernel
theorem dyL_law_1191 : decode cL_law 1191 = .ok (.iaload, 1) := by decide +kernel
theorem dyL_law_1192 : decode cL_law 1192 = .ok (.invokevirtual 173, 3) := by decide +kernel
theorem dyL_law_1195 : decode cL_law 1195 = .ok (.pop, 1) := by decide +kernel
theorem dyL_law_1196 : decode cL_law 1196 = .ok (.goto 49, 3) := by decide +kernel
theorem dyL_law_1199 : decode cL_law 1199 = .ok (.aload_n 1, 1) := by decide +kernel
theorem dyL_law_1200 : decode cL_law 1200 = .ok (.aload_n 0, 1) := by decide +kernel
theorem dyL_law_1201 : decode cL_law 1201 = .ok (.iload_n 3, 1) := by decide +kernel
theorem dyL_law_1202 : decode cL_law 1202 = .ok (.iconst 1, 1) := by decide +kernel
theorem dyL_law_1203 : decode cL_law 1203 = .ok (.iadd, 1) := by decide +kernel
theorem dyL_law_1204 : decode cL_law 1204 = .ok (.iaload, 1) := by decide +kernel
theorem dyL_law_1205 : decode cL_law 1205 = .ok (.invokevirtual 174, 3) := by decide +kernel
theorem dyL_law_1208 : decode cL_law 1208 = .ok (.pop, 1) := by decide +kernel
theorem dyL_law_1209 : decode cL_law 1209 = .ok (.aload_n 2, 1) := by decide +kernel
theorem dyL_law_1210 : decode cL_law 1210 = .ok (.aload_n 0, 1) := by decide +kernel
theorem dyL_law_1211 : decode cL_law 1211 = .ok (.iload_n 3, 1) := by decide +kernel
theorem dyL_law_1212 : decode cL_law 1212 = .ok (.iconst 1, 1) := by decide +kernel
theorem dyL_law_1213 : decode cL_law 1213 = .ok (.iadd, 1) := by decide +kernel
theorem dyL_law_1214 : decode cL_law 1214 = .ok (.iaload, 1) := by decide +kernel
theorem dyL_law_1215 : decode cL_law 1215 = .ok (.invokevirtual 177, 3) := by decide +kernel
theorem dyL_law_1218 : decode cL_law 1218 = .ok (.pop, 1) := by decide +kernel
theorem dyL_law_1219 : decode cL_law 1219 = .ok (.goto 26, 3) := by decide +kernel
theorem dyL_law_1222 : decode cL_law 1222 = .ok (.aload_n 1, 1) := by decide +kernel
theorem dyL_law_1223 : decode cL_law 1223 = .ok (.aload_n 0, 1) := by decide +kernel
theorem dyL_law_1224 : decode cL_law 1224 = .ok (.iload_n 3, 1) := by decide +kernel
theorem dyL_law_1225 : decode cL_law 1225 = .ok (.iconst 1, 1) := by decide +kernel
theorem dyL_law_1226 : decode cL_law 1226 = .ok (.iadd, 1) := by decide +kernel
theorem dyL_law_1227 : decode cL_law 1227 = .ok (.iaload, 1) := by decide +kernel
theorem dyL_law_1228 : decode cL_law 1228 = .ok (.invokevirtual 178, 3) := by decide +kernel
theorem dyL_law_1231 : decode cL_law 1231 = .ok (.pop, 1) := by decide +kernel
theorem dyL_law_1232 : decode cL_law 1232 = .ok (.aload_n 2, 1) := by decide +kernel
theorem dyL_law_1233 : decode cL_law 1233 = .ok (.aload_n 0, 1) := by decide +kernel
theorem dyL_law_1234 : decode cL_law 1234 = .ok (.iload_n 3, 1) := by decide +kernel
theorem dyL_law_1235 : decode cL_law 1235 = .ok (.iconst 1, 1) := by decide +kernel
theorem dyL_law_1236 : decode cL_law 1236 = .ok (.iadd, 1) := by decide +kernel
theorem dyL_law_1237 : decode cL_law 1237 = .ok (.iaload, 1) := by decide +kernel
theorem dyL_law_1238 : decode cL_law 1238 = .ok (.invokevirtual 181, 3) := by decide +kernel
theorem dyL_law_1241 : decode cL_law 1241 = .ok (.pop, 1) := by decide +kernel
theorem dyL_law_1242 : decode cL_law 1242 = .ok (.goto 3, 3) := by decide +kernel
theorem dyL_law_1245 : decode cL_law 1245 = .ok (.iinc 3 6, 3) := by decide +kernel
theorem dyL_law_1248 : decode cL_law 1248 = .ok (.goto (-1230), 3) := by decide +kernel
theorem dyL_law_1251 : decode cL_law 1251 = .ok (.iconst 1, 1) := by decide +kernel
theorem dyL_law_1252 : decode cL_law 1252 = .ok (.ireturn, 1) := by decide +kernel
