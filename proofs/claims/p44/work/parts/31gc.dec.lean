theorem dyL_law_837 : decode cL_law 837 = .ok (.iastore, 1) := by decide +kernel
theorem dyL_law_838 : decode cL_law 838 = .ok (.astore 21, 2) := by decide +kernel
theorem dyL_law_840 : decode cL_law 840 = .ok (.iconst 1, 1) := by decide +kernel
theorem dyL_law_841 : decode cL_law 841 = .ok (.istore 22, 2) := by decide +kernel
theorem dyL_law_843 : decode cL_law 843 = .ok (.iconst 0, 1) := by decide +kernel
theorem dyL_law_844 : decode cL_law 844 = .ok (.istore 23, 2) := by decide +kernel
theorem dyL_law_846 : decode cL_law 846 = .ok (.iload 23, 2) := by decide +kernel
theorem dyL_law_848 : decode cL_law 848 = .ok (.aload_n 2, 1) := by decide +kernel
theorem dyL_law_849 : decode cL_law 849 = .ok (.iconst 1, 1) := by decide +kernel
theorem dyL_law_850 : decode cL_law 850 = .ok (.invokevirtual 36, 3) := by decide +kernel
theorem dyL_law_853 : decode cL_law 853 = .ok (.if_icmp .ge 72, 3) := by decide +kernel
theorem dyL_law_856 : decode cL_law 856 = .ok (.aload_n 2, 1) := by decide +kernel
theorem dyL_law_857 : decode cL_law 857 = .ok (.iload 23, 2) := by decide +kernel
theorem dyL_law_859 : decode cL_law 859 = .ok (.iconst 1, 1) := by decide +kernel
theorem dyL_law_860 : decode cL_law 860 = .ok (.invokevirtual 108, 3) := by decide +kernel
theorem dyL_law_863 : decode cL_law 863 = .ok (.istore 24, 2) := by decide +kernel
theorem dyL_law_865 : decode cL_law 865 = .ok (.aload_n 2, 1) := by decide +kernel
theorem dyL_law_866 : decode cL_law 866 = .ok (.iload 23, 2) := by decide +kernel
theorem dyL_law_868 : decode cL_law 868 = .ok (.iconst 2, 1) := by decide +kernel
theorem dyL_law_869 : decode cL_law 869 = .ok (.invokevirtual 108, 3) := by decide +kernel
theorem dyL_law_872 : decode cL_law 872 = .ok (.iconst 3, 1) := by decide +kernel
theorem dyL_law_873 : decode cL_law 873 = .ok (.if_icmp .ne 46, 3) := by decide +kernel
theorem dyL_law_876 : decode cL_law 876 = .ok (.aload 14, 2) := by decide +kernel
theorem dyL_law_878 : decode cL_law 878 = .ok (.iload 24, 2) := by decide +kernel
theorem dyL_law_880 : decode cL_law 880 = .ok (.iaload, 1) := by decide +kernel
theorem dyL_law_881 : decode cL_law 881 = .ok (.aload 21, 2) := by decide +kernel
theorem dyL_law_883 : decode cL_law 883 = .ok (.iconst 0, 1) := by decide +kernel
theorem dyL_law_884 : decode cL_law 884 = .ok (.iaload, 1) := by decide +kernel
theorem dyL_law_885 : decode cL_law 885 = .ok (.if_icmp .ne 34, 3) := by decide +kernel
theorem dyL_law_888 : decode cL_law 888 = .ok (.aload 14, 2) := by decide +kernel
theorem dyL_law_890 : decode cL_law 890 = .ok (.iload 24, 2) := by decide +kernel
theorem dyL_law_892 : decode cL_law 892 = .ok (.iconst 1, 1) := by decide +kernel
theorem dyL_law_893 : decode cL_law 893 = .ok (.iadd, 1) := by decide +kernel
theorem dyL_law_894 : decode cL_law 894 = .ok (.iaload, 1) := by decide +kernel
theorem dyL_law_895 : decode cL_law 895 = .ok (.aload 21, 2) := by decide +kernel
theorem dyL_law_897 : decode cL_law 897 = .ok (.iconst 1, 1) := by decide +kernel
theorem dyL_law_898 : decode cL_law 898 = .ok (.iaload, 1) := by decide +kernel
theorem dyL_law_899 : decode cL_law 899 = .ok (.if_icmp .ne 20, 3) := by decide +kernel
theorem dyL_law_902 : decode cL_law 902 = .ok (.aload 14, 2) := by decide +kernel
theorem dyL_law_904 : decode cL_law 904 = .ok (.iload 24, 2) := by decide +kernel
theorem dyL_law_906 : decode cL_law 906 = .ok (.iconst 2, 1) := by decide +kernel
theorem dyL_law_907 : decode cL_law 907 = .ok (.iadd, 1) := by decide +kernel
theorem dyL_law_908 : decode cL_law 908 = .ok (.iaload, 1) := by decide +kernel
theorem dyL_law_909 : decode cL_law 909 = .ok (.aload 21, 2) := by decide +kernel
theorem dyL_law_911 : decode cL_law 911 = .ok (.iconst 2, 1) := by decide +kernel
theorem dyL_law_912 : decode cL_law 912 = .ok (.iaload, 1) := by decide +kernel
theorem dyL_law_913 : decode cL_law 913 = .ok (.if_icmp .ne 6, 3) := by decide +kernel
theorem dyL_law_916 : decode cL_law 916 = .ok (.iconst 0, 1) := by decide +kernel
theorem dyL_law_917 : decode cL_law 917 = .ok (.istore 22, 2) := by decide +kernel
theorem dyL_law_919 : decode cL_law 919 = .ok (.iinc 23 1, 3) := by decide +kernel
theorem dyL_law_922 : decode cL_law 922 = .ok (.goto (-76), 3) := by decide +kernel
theorem dyL_law_925 : decode cL_law 925 = .ok (.aload_n 2, 1) := by decide +kernel
theorem dyL_law_926 : decode cL_law 926 = .ok (.aload 21, 2) := by decide +kernel
theorem dyL_law_928 : decode cL_law 928 = .ok (.invokestatic 77, 3) := by decide +kernel
theorem dyL_law_931 : decode cL_law 931 = .ok (.aload_n 2, 1) := by decide +kernel
theorem dyL_law_932 : decode cL_law 932 = .ok (.iload 16, 2) := by decide +kernel
theorem dyL_law_934 : decode cL_law 934 = .ok (.invokevirtual 120, 3) := by decide +kernel
theorem dyL_law_937 : decode cL_law 937 = .ok (.istore 15, 2) := by decide +kernel
theorem dyL_law_939 : decode cL_law 939 = .ok (.iload 15, 2) := by decide +kernel
theorem dyL_law_941 : decode cL_law 941 = .ok (.ifCond .gt 42, 3) := by decide +kernel
theorem dyL_law_944 : decode cL_law 944 = .ok (.iload 15, 2) := by decide +kernel
theorem dyL_law_946 : decode cL_law 946 = .ok (.ifCond .lt 8, 3) := by decide +kernel
theorem dyL_law_949 : decode cL_law 949 = .ok (.iload 17, 2) := by decide +kernel
theorem dyL_law_951 : decode cL_law 951 = .ok (.ifCond .eq 32, 3) := by decide +kernel
theorem dyL_law_954 : decode cL_law 954 = .ok (.iload 15, 2) := by decide +kernel
theorem dyL_law_956 : decode cL_law 956 = .ok (.ifCond .eq 23, 3) := by decide +kernel
theorem dyL_law_959 : decode cL_law 959 = .ok (.iload 17, 2) := by decide +kernel
theorem dyL_law_961 : decode cL_law 961 = .ok (.ifCond .eq 18, 3) := by decide +kernel
theorem dyL_law_964 : decode cL_law 964 = .ok (.iload 5, 2) := by decide +kernel
theorem dyL_law_966 : decode cL_law 966 = .ok (.bipush 90, 2) := by decide +kernel
theorem dyL_law_968 : decode cL_law 968 = .ok (.if_icmp .gt 11, 3) := by decide +kernel
theorem dyL_law_971 : decode cL_law 971 = .ok (.iload 11, 2) := by decide +kernel
theorem dyL_law_973 : decode cL_law 973 = .ok (.sipush 3000, 3) := by decide +kernel
theorem dyL_law_976 : decode cL_law 976 = .ok (.if_icmp .lt 7, 3) := by decide +kernel
theorem dyL_law_979 : decode cL_law 979 = .ok (.iconst 1, 1) := by decide +kernel
theorem dyL_law_980 : decode cL_law 980 = .ok (.goto 4, 3) := by decide +kernel
theorem dyL_law_983 : decode cL_law 983 = .ok (.iconst 0, 1) := by decide +kernel
theorem dyL_law_984 : decode cL_law 984 = .ok (.istore_n 3, 1) := by decide +kernel
theorem dyL_law_985 : decode cL_law 985 = .ok (.iload_n 3, 1) := by decide +kernel
theorem dyL_law_986 : decode cL_law 986 = .ok (.ifCond .eq 99, 3) := by decide +kernel
theorem dyL_law_989 : decode cL_law 989 = .ok (.iload 15, 2) := by decide +kernel
theorem dyL_law_991 : decode cL_law 991 = .ok (.ifCond .ge 14, 3) := by decide +kernel
theorem dyL_law_994 : decode cL_law 994 = .ok (.aload_n 2, 1) := by decide +kernel
theorem dyL_law_995 : decode cL_law 995 = .ok (.iconst 3, 1) := by decide +kernel
theorem dyL_law_996 : decode cL_law 996 = .ok (.invokevirtual 13, 3) := by decide +kernel
theorem dyL_law_999 : decode cL_law 999 = .ok (.ifCond .ne 86, 3) := by decide +kernel
theorem dyL_law_1002 : decode cL_law 1002 = .ok (.goto 79, 3) := by decide +kernel
theorem dyL_law_1005 : decode cL_law 1005 = .ok (.aload_n 2, 1) := by decide +kernel
theorem dyL_law_1006 : decode cL_law 1006 = .ok (.bipush 7, 2) := by decide +kernel
theorem dyL_law_1008 : decode cL_law 1008 = .ok (.invokevirtual 36, 3) := by decide +kernel
theorem dyL_law_1011 : decode cL_law 1011 = .ok (.ifCond .ne 74, 3) := by decide +kernel
theorem dyL_law_1014 : decode cL_law 1014 = .ok (.aload_n 2, 1) := by decide +kernel
theorem dyL_law_1015 : decode cL_law 1015 = .ok (.iload 16, 2) := by decide +kernel
theorem dyL_law_1017 : decode cL_law 1017 = .ok (.iconst 2, 1) := by decide +kernel
theorem dyL_law_1018 : decode cL_law 1018 = .ok (.invokevirtual 108, 3) := by decide +kernel
theorem dyL_law_1021 : decode cL_law 1021 = .ok (.iconst 3, 1) := by decide +kernel
theorem dyL_law_1022 : decode cL_law 1022 = .ok (.if_icmp .ne 63, 3) := by decide +kernel
theorem dyL_law_1025 : decode cL_law 1025 = .ok (.aload_n 2, 1) := by decide +kernel
theorem dyL_law_1026 : decode cL_law 1026 = .ok (.invokevirtual 117, 3) := by decide +kernel
theorem dyL_law_1029 : decode cL_law 1029 = .ok (.iload 20, 2) := by decide +kernel
theorem dyL_law_1031 : decode cL_law 1031 = .ok (.if_icmp .ne 54, 3) := by decide +kernel
theorem dyL_law_1034 : decode cL_law 1034 = .ok (.aload_n 2, 1) := by decide +kernel
theorem dyL_law_1035 : decode cL_law 1035 = .ok (.invokevirtual 82, 3) := by decide +kernel
theorem dyL_law_1038 : decode cL_law 1038 = .ok (.iload 12, 2) := by decide +kernel
theorem dyL_law_1040 : decode cL_law 1040 = .ok (.if_icmp .ne 45, 3) := by decide +kernel
theorem dyL_law_1043 : decode cL_law 1043 = .ok (.aload_n 2, 1) := by decide +kernel
theorem dyL_law_1044 : decode cL_law 1044 = .ok (.iload 16, 2) := by decide +kernel
theorem dyL_law_1046 : decode cL_law 1046 = .ok (.invokevirtual 114, 3) := by decide +kernel
theorem dyL_law_1049 : decode cL_law 1049 = .ok (.iload 19, 2) := by decide +kernel
theorem dyL_law_1051 : decode cL_law 1051 = .ok (.if_icmp .lt 34, 3) := by decide +kernel
theorem dyL_law_1054 : decode cL_law 1054 = .ok (.iload 22, 2) := by decide +kernel
theorem dyL_law_1056 : decode cL_law 1056 = .ok (.ifCond .eq 25, 3) := by decide +kernel
theorem dyL_law_1059 : decode cL_law 1059 = .ok (.aload_n 2, 1) := by decide +kernel
theorem dyL_law_1060 : decode cL_law 1060 = .ok (.iload 16, 2) := by decide +kernel
theorem dyL_law_1062 : decode cL_law 1062 = .ok (.invokevirtual 114, 3) := by decide +kernel
theorem dyL_law_1065 : decode cL_law 1065 = .ok (.iload 19, 2) := by decide +kernel
theorem dyL_law_1067 : decode cL_law 1067 = .ok (.if_icmp .ne 18, 3) := by decide +kernel
theorem dyL_law_1070 : decode cL_law 1070 = .ok (.aload_n 2, 1) := by decide +kernel
theorem dyL_law_1071 : decode cL_law 1071 = .ok (.iload 16, 2) := by decide +kernel
theorem dyL_law_1073 : decode cL_law 1073 = .ok (.invokevirtual 111, 3) := by decide +kernel
theorem dyL_law_1076 : decode cL_law 1076 = .ok (.iload 18, 2) := by decide +kernel
theorem dyL_law_1078 : decode cL_law 1078 = .ok (.if_icmp .ne 7, 3) := by decide +kernel
theorem dyL_law_1081 : decode cL_law 1081 = .ok (.iconst 1, 1) := by decide +kernel
theorem dyL_law_1082 : decode cL_law 1082 = .ok (.goto 4, 3) := by decide +kernel
theorem dyL_law_1085 : decode cL_law 1085 = .ok (.iconst 0, 1) := by decide +kernel
theorem dyL_law_1086 : decode cL_law 1086 = .ok (.istore_n 3, 1) := by decide +kernel
theorem dyL_law_1087 : decode cL_law 1087 = .ok (.goto 335, 3) := by decide +kernel
theorem dyL_law_1090 : decode cL_law 1090 = .ok (.aload_n 1, 1) := by decide +kernel
theorem dyL_law_1091 : decode cL_law 1091 = .ok (.iload 4, 2) := by decide +kernel
theorem dyL_law_1093 : decode cL_law 1093 = .ok (.iaload, 1) := by decide +kernel
theorem dyL_law_1094 : decode cL_law 1094 = .ok (.iconst 1, 1) := by decide +kernel
theorem dyL_law_1095 : decode cL_law 1095 = .ok (.aload_n 1, 1) := by decide +kernel
theorem dyL_law_1096 : decode cL_law 1096 = .ok (.iload 4, 2) := by decide +kernel
theorem dyL_law_1098 : decode cL_law 1098 = .ok (.iaload, 1) := by decide +kernel
theorem dyL_law_1099 : decode cL_law 1099 = .ok (.iconst 4, 1) := by decide +kernel
theorem dyL_law_1100 : decode cL_law 1100 = .ok (.ishr, 1) := by decide +kernel
theorem dyL_law_1101 : decode cL_law 1101 = .ok (.iconst 3, 1) := by decide +kernel
theorem dyL_law_1102 : decode cL_law 1102 = .ok (.iand, 1) := by decide +kernel
theorem dyL_law_1103 : decode cL_law 1103 = .ok (.iadd, 1) := by decide +kernel
theorem dyL_law_1104 : decode cL_law 1104 = .ok (.invokestatic 123, 3) := by decide +kernel
theorem dyL_law_1107 : decode cL_law 1107 = .ok (.astore 16, 2) := by decide +kernel
theorem dyL_law_1109 : decode cL_law 1109 = .ok (.aload 16, 2) := by decide +kernel
theorem dyL_law_1111 : decode cL_law 1111 = .ok (.arraylength, 1) := by decide +kernel
theorem dyL_law_1112 : decode cL_law 1112 = .ok (.bipush 80, 2) := by decide +kernel
theorem dyL_law_1114 : decode cL_law 1114 = .ok (.if_icmp .le 13, 3) := by decide +kernel
theorem dyL_law_1117 : decode cL_law 1117 = .ok (.aload 16, 2) := by decide +kernel
theorem dyL_law_1119 : decode cL_law 1119 = .ok (.iconst 0, 1) := by decide +kernel
theorem dyL_law_1120 : decode cL_law 1120 = .ok (.bipush 80, 2) := by decide +kernel
theorem dyL_law_1122 : decode cL_law 1122 = .ok (.invokestatic 73, 3) := by decide +kernel
theorem dyL_law_1125 : decode cL_law 1125 = .ok (.astore 16, 2) := by decide +kernel
theorem dyL_law_1127 : decode cL_law 1127 = .ok (.aload_n 1, 1) := by decide +kernel
theorem dyL_law_1128 : decode cL_law 1128 = .ok (.iload 4, 2) := by decide +kernel
theorem dyL_law_1130 : decode cL_law 1130 = .ok (.iaload, 1) := by decide +kernel
theorem dyL_law_1131 : decode cL_law 1131 = .ok (.iconst 5, 1) := by decide +kernel
theorem dyL_law_1132 : decode cL_law 1132 = .ok (.ishr, 1) := by decide +kernel
theorem dyL_law_1133 : decode cL_law 1133 = .ok (.sipush 511, 3) := by decide +kernel
theorem dyL_law_1136 : decode cL_law 1136 = .ok (.iand, 1) := by decide +kernel
theorem dyL_law_1137 : decode cL_law 1137 = .ok (.iload 5, 2) := by decide +kernel
theorem dyL_law_1139 : decode cL_law 1139 = .ok (.iconst 1, 1) := by decide +kernel
theorem dyL_law_1140 : decode cL_law 1140 = .ok (.iadd, 1) := by decide +kernel
theorem dyL_law_1141 : decode cL_law 1141 = .ok (.irem, 1) := by decide +kernel
theorem dyL_law_1142 : decode cL_law 1142 = .ok (.istore 17, 2) := by decide +kernel
theorem dyL_law_1144 : decode cL_law 1144 = .ok (.iload 5, 2) := by decide +kernel
theorem dyL_law_1146 : decode cL_law 1146 = .ok (.iload 17, 2) := by decide +kernel
theorem dyL_law_1148 : decode cL_law 1148 = .ok (.isub, 1) := by decide +kernel
theorem dyL_law_1149 : decode cL_law 1149 = .ok (.aload_n 1, 1) := by decide +kernel
theorem dyL_law_1150 : decode cL_law 1150 = .ok (.iload 4, 2) := by decide +kernel
theorem dyL_law_1152 : decode cL_law 1152 = .ok (.iaload, 1) := by decide +kernel
theorem dyL_law_1153 : decode cL_law 1153 = .ok (.bipush 8, 2) := by decide +kernel
theorem dyL_law_1155 : decode cL_law 1155 = .ok (.ishr, 1) := by decide +kernel
theorem dyL_law_1156 : decode cL_law 1156 = .ok (.iconst 3, 1) := by decide +kernel
theorem dyL_law_1157 : decode cL_law 1157 = .ok (.iand, 1) := by decide +kernel
theorem dyL_law_1158 : decode cL_law 1158 = .ok (.ifCond .ne 16, 3) := by decide +kernel
theorem dyL_law_1161 : decode cL_law 1161 = .ok (.aload_n 1, 1) := by decide +kernel
theorem dyL_law_1162 : decode cL_law 1162 = .ok (.iload 4, 2) := by decide +kernel
theorem dyL_law_1164 : decode cL_law 1164 = .ok (.iaload, 1) := by decide +kernel
theorem dyL_law_1165 : decode cL_law 1165 = .ok (.bipush 10, 2) := by decide +kernel
theorem dyL_law_1167 : decode cL_law 1167 = .ok (.ishr, 1) := by decide +kernel
theorem dyL_law_1168 : decode cL_law 1168 = .ok (.bipush 15, 2) := by decide +kernel
theorem dyL_law_1170 : decode cL_law 1170 = .ok (.iand, 1) := by decide +kernel
theorem dyL_law_1171 : decode cL_law 1171 = .ok (.goto 4, 3) := by decide +kernel
theorem dyL_law_1174 : decode cL_law 1174 = .ok (.iconst 0, 1) := by decide +kernel
theorem dyL_law_1175 : decode cL_law 1175 = .ok (.invokestatic 68, 3) := by decide +kernel
theorem dyL_law_1178 : decode cL_law 1178 = .ok (.istore 18, 2) := by decide +kernel
theorem dyL_law_1180 : decode cL_law 1180 = .ok (.aload_n 1, 1) := by decide +kernel
theorem dyL_law_1181 : decode cL_law 1181 = .ok (.iload 4, 2) := by decide +kernel
theorem dyL_law_1183 : decode cL_law 1183 = .ok (.iaload, 1) := by decide +kernel
theorem dyL_law_1184 : decode cL_law 1184 = .ok (.bipush 7, 2) := by decide +kernel
theorem dyL_law_1186 : decode cL_law 1186 = .ok (.ishr, 1) := by decide +kernel
theorem dyL_law_1187 : decode cL_law 1187 = .ok (.iconst 1, 1) := by decide +kernel
theorem dyL_law_1188 : decode cL_law 1188 = .ok (.iand, 1) := by decide +kernel
theorem dyL_law_1189 : decode cL_law 1189 = .ok (.ifCond .ne 29, 3) := by decide +kernel
theorem dyL_law_1192 : decode cL_law 1192 = .ok (.aload_n 2, 1) := by decide +kernel
theorem dyL_law_1193 : decode cL_law 1193 = .ok (.aload_n 1, 1) := by decide +kernel
theorem dyL_law_1194 : decode cL_law 1194 = .ok (.iload 4, 2) := by decide +kernel
theorem dyL_law_1196 : decode cL_law 1196 = .ok (.iaload, 1) := by decide +kernel
theorem dyL_law_1197 : decode cL_law 1197 = .ok (.iconst 5, 1) := by decide +kernel
theorem dyL_law_1198 : decode cL_law 1198 = .ok (.ishr, 1) := by decide +kernel
theorem dyL_law_1199 : decode cL_law 1199 = .ok (.sipush 255, 3) := by decide +kernel
theorem dyL_law_1202 : decode cL_law 1202 = .ok (.iand, 1) := by decide +kernel
theorem dyL_law_1203 : decode cL_law 1203 = .ok (.aload_n 2, 1) := by decide +kernel
theorem dyL_law_1204 : decode cL_law 1204 = .ok (.iconst 1, 1) := by decide +kernel
theorem dyL_law_1205 : decode cL_law 1205 = .ok (.invokevirtual 36, 3) := by decide +kernel
theorem dyL_law_1208 : decode cL_law 1208 = .ok (.irem, 1) := by decide +kernel
theorem dyL_law_1209 : decode cL_law 1209 = .ok (.iconst 1, 1) := by decide +kernel
theorem dyL_law_1210 : decode cL_law 1210 = .ok (.invokevirtual 108, 3) := by decide +kernel
theorem dyL_law_1213 : decode cL_law 1213 = .ok (.istore 17, 2) := by decide +kernel
theorem dyL_law_1215 : decode cL_law 1215 = .ok (.iconst 0, 1) := by decide +kernel
theorem dyL_law_1216 : decode cL_law 1216 = .ok (.istore 18, 2) := by decide +kernel
theorem dyL_law_1218 : decode cL_law 1218 = .ok (.aload 14, 2) := by decide +kernel
