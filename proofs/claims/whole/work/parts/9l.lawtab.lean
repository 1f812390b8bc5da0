/-! the law: its links, its cases; written by wip/whole/gen/gen_law.py -/
set_option maxRecDepth 100000 in
theorem lw_m_15 : lw_mlok (15, 66) := ⟨(am_in 420 (by decide +kernel) (by decide +kernel)), (am_in 421 (by decide +kernel) (by decide +kernel)), (am_in 422 (by decide +kernel) (by decide +kernel)), (am_in 56 (by decide +kernel) (by decide +kernel))⟩
set_option maxRecDepth 100000 in
theorem lw_m_19 : lw_mlok (19, 104) := ⟨(am_in 1028 (by decide +kernel) (by decide +kernel)), (am_in 1029 (by decide +kernel) (by decide +kernel)), (am_in 1030 (by decide +kernel) (by decide +kernel)), (am_in 68 (by decide +kernel) (by decide +kernel))⟩
set_option maxRecDepth 100000 in
theorem lw_m_20 : lw_mlok (20, 67) := ⟨(am_in 429 (by decide +kernel) (by decide +kernel)), (am_in 430 (by decide +kernel) (by decide +kernel)), (am_in 431 (by decide +kernel) (by decide +kernel)), (am_in 56 (by decide +kernel) (by decide +kernel))⟩
set_option maxRecDepth 100000 in
theorem lw_m_24 : lw_mlok (24, 105) := ⟨(am_in 1036 (by decide +kernel) (by decide +kernel)), (am_in 1037 (by decide +kernel) (by decide +kernel)), (am_in 1038 (by decide +kernel) (by decide +kernel)), (am_in 68 (by decide +kernel) (by decide +kernel))⟩
set_option maxRecDepth 100000 in
theorem lw_m_25 : lw_mlok (25, 68) := ⟨(am_in 437 (by decide +kernel) (by decide +kernel)), (am_in 438 (by decide +kernel) (by decide +kernel)), (am_in 439 (by decide +kernel) (by decide +kernel)), (am_in 56 (by decide +kernel) (by decide +kernel))⟩
set_option maxRecDepth 100000 in
theorem lw_m_28 : lw_mlok (28, 113) := ⟨(am_in 1040 (by decide +kernel) (by decide +kernel)), (am_in 1041 (by decide +kernel) (by decide +kernel)), (am_in 1042 (by decide +kernel) (by decide +kernel)), (am_in 68 (by decide +kernel) (by decide +kernel))⟩
set_option maxRecDepth 100000 in
theorem lw_m_29 : lw_mlok (29, 69) := ⟨(am_in 544 (by decide +kernel) (by decide +kernel)), (am_in 545 (by decide +kernel) (by decide +kernel)), (am_in 546 (by decide +kernel) (by decide +kernel)), (am_in 56 (by decide +kernel) (by decide +kernel))⟩
set_option maxRecDepth 100000 in
theorem lw_m_32 : lw_mlok (32, 115) := ⟨(am_in 1088 (by decide +kernel) (by decide +kernel)), (am_in 1089 (by decide +kernel) (by decide +kernel)), (am_in 1090 (by decide +kernel) (by decide +kernel)), (am_in 68 (by decide +kernel) (by decide +kernel))⟩
set_option maxRecDepth 100000 in
theorem lw_m_33 : lw_mlok (33, 70) := ⟨(am_in 591 (by decide +kernel) (by decide +kernel)), (am_in 592 (by decide +kernel) (by decide +kernel)), (am_in 593 (by decide +kernel) (by decide +kernel)), (am_in 56 (by decide +kernel) (by decide +kernel))⟩
set_option maxRecDepth 100000 in
theorem lw_m_37 : lw_mlok (37, 116) := ⟨(am_in 1100 (by decide +kernel) (by decide +kernel)), (am_in 1101 (by decide +kernel) (by decide +kernel)), (am_in 1102 (by decide +kernel) (by decide +kernel)), (am_in 68 (by decide +kernel) (by decide +kernel))⟩
set_option maxRecDepth 100000 in
theorem lw_m_38 : lw_mlok (38, 71) := ⟨(am_in 599 (by decide +kernel) (by decide +kernel)), (am_in 600 (by decide +kernel) (by decide +kernel)), (am_in 601 (by decide +kernel) (by decide +kernel)), (am_in 56 (by decide +kernel) (by decide +kernel))⟩
set_option maxRecDepth 100000 in
theorem lw_m_41 : lw_mlok (41, 117) := ⟨(am_in 1108 (by decide +kernel) (by decide +kernel)), (am_in 1109 (by decide +kernel) (by decide +kernel)), (am_in 1110 (by decide +kernel) (by decide +kernel)), (am_in 68 (by decide +kernel) (by decide +kernel))⟩
set_option maxRecDepth 100000 in
theorem lw_m_42 : lw_mlok (42, 72) := ⟨(am_in 611 (by decide +kernel) (by decide +kernel)), (am_in 612 (by decide +kernel) (by decide +kernel)), (am_in 613 (by decide +kernel) (by decide +kernel)), (am_in 56 (by decide +kernel) (by decide +kernel))⟩
set_option maxRecDepth 100000 in
theorem lw_m_46 : lw_mlok (46, 120) := ⟨(am_in 1116 (by decide +kernel) (by decide +kernel)), (am_in 1117 (by decide +kernel) (by decide +kernel)), (am_in 1118 (by decide +kernel) (by decide +kernel)), (am_in 68 (by decide +kernel) (by decide +kernel))⟩
set_option maxRecDepth 100000 in
theorem lw_m_47 : lw_mlok (47, 73) := ⟨(am_in 656 (by decide +kernel) (by decide +kernel)), (am_in 657 (by decide +kernel) (by decide +kernel)), (am_in 658 (by decide +kernel) (by decide +kernel)), (am_in 56 (by decide +kernel) (by decide +kernel))⟩
set_option maxRecDepth 100000 in
theorem lw_m_50 : lw_mlok (50, 121) := ⟨(am_in 1127 (by decide +kernel) (by decide +kernel)), (am_in 1128 (by decide +kernel) (by decide +kernel)), (am_in 1129 (by decide +kernel) (by decide +kernel)), (am_in 68 (by decide +kernel) (by decide +kernel))⟩
set_option maxRecDepth 100000 in
theorem lw_m_51 : lw_mlok (51, 74) := ⟨(am_in 661 (by decide +kernel) (by decide +kernel)), (am_in 662 (by decide +kernel) (by decide +kernel)), (am_in 663 (by decide +kernel) (by decide +kernel)), (am_in 56 (by decide +kernel) (by decide +kernel))⟩
set_option maxRecDepth 100000 in
theorem lw_m_55 : lw_mlok (55, 122) := ⟨(am_in 1131 (by decide +kernel) (by decide +kernel)), (am_in 1132 (by decide +kernel) (by decide +kernel)), (am_in 1133 (by decide +kernel) (by decide +kernel)), (am_in 68 (by decide +kernel) (by decide +kernel))⟩
set_option maxRecDepth 100000 in
theorem lw_m_56 : lw_mlok (56, 75) := ⟨(am_in 665 (by decide +kernel) (by decide +kernel)), (am_in 666 (by decide +kernel) (by decide +kernel)), (am_in 667 (by decide +kernel) (by decide +kernel)), (am_in 56 (by decide +kernel) (by decide +kernel))⟩
set_option maxRecDepth 100000 in
theorem lw_m_59 : lw_mlok (59, 124) := ⟨(am_in 1135 (by decide +kernel) (by decide +kernel)), (am_in 1136 (by decide +kernel) (by decide +kernel)), (am_in 1137 (by decide +kernel) (by decide +kernel)), (am_in 68 (by decide +kernel) (by decide +kernel))⟩
set_option maxRecDepth 100000 in
theorem lw_m_60 : lw_mlok (60, 76) := ⟨(am_in 681 (by decide +kernel) (by decide +kernel)), (am_in 682 (by decide +kernel) (by decide +kernel)), (am_in 683 (by decide +kernel) (by decide +kernel)), (am_in 56 (by decide +kernel) (by decide +kernel))⟩
set_option maxRecDepth 100000 in
theorem lw_m_63 : lw_mlok (63, 129) := ⟨(am_in 1143 (by decide +kernel) (by decide +kernel)), (am_in 1144 (by decide +kernel) (by decide +kernel)), (am_in 1145 (by decide +kernel) (by decide +kernel)), (am_in 68 (by decide +kernel) (by decide +kernel))⟩
set_option maxRecDepth 100000 in
theorem lw_m_64 : lw_mlok (64, 77) := ⟨(am_in 729 (by decide +kernel) (by decide +kernel)), (am_in 730 (by decide +kernel) (by decide +kernel)), (am_in 731 (by decide +kernel) (by decide +kernel)), (am_in 56 (by decide +kernel) (by decide +kernel))⟩
set_option maxRecDepth 100000 in
theorem lw_m_67 : lw_mlok (67, 131) := ⟨(am_in 1163 (by decide +kernel) (by decide +kernel)), (am_in 1164 (by decide +kernel) (by decide +kernel)), (am_in 1165 (by decide +kernel) (by decide +kernel)), (am_in 68 (by decide +kernel) (by decide +kernel))⟩
set_option maxRecDepth 100000 in
theorem lw_m_68 : lw_mlok (68, 78) := ⟨(am_in 737 (by decide +kernel) (by decide +kernel)), (am_in 738 (by decide +kernel) (by decide +kernel)), (am_in 739 (by decide +kernel) (by decide +kernel)), (am_in 56 (by decide +kernel) (by decide +kernel))⟩
set_option maxRecDepth 100000 in
theorem lw_m_71 : lw_mlok (71, 132) := ⟨(am_in 1171 (by decide +kernel) (by decide +kernel)), (am_in 1172 (by decide +kernel) (by decide +kernel)), (am_in 1173 (by decide +kernel) (by decide +kernel)), (am_in 68 (by decide +kernel) (by decide +kernel))⟩
set_option maxRecDepth 100000 in
theorem lw_m_72 : lw_mlok (72, 79) := ⟨(am_in 741 (by decide +kernel) (by decide +kernel)), (am_in 742 (by decide +kernel) (by decide +kernel)), (am_in 743 (by decide +kernel) (by decide +kernel)), (am_in 56 (by decide +kernel) (by decide +kernel))⟩
set_option maxRecDepth 100000 in
theorem lw_m_75 : lw_mlok (75, 134) := ⟨(am_in 1175 (by decide +kernel) (by decide +kernel)), (am_in 1176 (by decide +kernel) (by decide +kernel)), (am_in 1177 (by decide +kernel) (by decide +kernel)), (am_in 68 (by decide +kernel) (by decide +kernel))⟩
set_option maxRecDepth 100000 in
theorem lw_m_76 : lw_mlok (76, 80) := ⟨(am_in 749 (by decide +kernel) (by decide +kernel)), (am_in 750 (by decide +kernel) (by decide +kernel)), (am_in 751 (by decide +kernel) (by decide +kernel)), (am_in 56 (by decide +kernel) (by decide +kernel))⟩
set_option maxRecDepth 100000 in
theorem lw_m_79 : lw_mlok (79, 135) := ⟨(am_in 1182 (by decide +kernel) (by decide +kernel)), (am_in 1183 (by decide +kernel) (by decide +kernel)), (am_in 1184 (by decide +kernel) (by decide +kernel)), (am_in 68 (by decide +kernel) (by decide +kernel))⟩
set_option maxRecDepth 100000 in
theorem lw_m_80 : lw_mlok (80, 81) := ⟨(am_in 753 (by decide +kernel) (by decide +kernel)), (am_in 754 (by decide +kernel) (by decide +kernel)), (am_in 755 (by decide +kernel) (by decide +kernel)), (am_in 56 (by decide +kernel) (by decide +kernel))⟩
set_option maxRecDepth 100000 in
theorem lw_m_83 : lw_mlok (83, 139) := ⟨(am_in 1186 (by decide +kernel) (by decide +kernel)), (am_in 1187 (by decide +kernel) (by decide +kernel)), (am_in 1188 (by decide +kernel) (by decide +kernel)), (am_in 68 (by decide +kernel) (by decide +kernel))⟩
set_option maxRecDepth 100000 in
theorem lw_m_84 : lw_mlok (84, 82) := ⟨(am_in 771 (by decide +kernel) (by decide +kernel)), (am_in 772 (by decide +kernel) (by decide +kernel)), (am_in 773 (by decide +kernel) (by decide +kernel)), (am_in 56 (by decide +kernel) (by decide +kernel))⟩
set_option maxRecDepth 100000 in
theorem lw_m_87 : lw_mlok (87, 140) := ⟨(am_in 1202 (by decide +kernel) (by decide +kernel)), (am_in 1203 (by decide +kernel) (by decide +kernel)), (am_in 1204 (by decide +kernel) (by decide +kernel)), (am_in 68 (by decide +kernel) (by decide +kernel))⟩
set_option maxRecDepth 100000 in
theorem lw_m_88 : lw_mlok (88, 83) := ⟨(am_in 780 (by decide +kernel) (by decide +kernel)), (am_in 781 (by decide +kernel) (by decide +kernel)), (am_in 782 (by decide +kernel) (by decide +kernel)), (am_in 56 (by decide +kernel) (by decide +kernel))⟩
set_option maxRecDepth 100000 in
theorem lw_m_91 : lw_mlok (91, 141) := ⟨(am_in 1207 (by decide +kernel) (by decide +kernel)), (am_in 1208 (by decide +kernel) (by decide +kernel)), (am_in 1209 (by decide +kernel) (by decide +kernel)), (am_in 68 (by decide +kernel) (by decide +kernel))⟩
set_option maxRecDepth 100000 in
theorem lw_m_92 : lw_mlok (92, 84) := ⟨(am_in 788 (by decide +kernel) (by decide +kernel)), (am_in 789 (by decide +kernel) (by decide +kernel)), (am_in 790 (by decide +kernel) (by decide +kernel)), (am_in 56 (by decide +kernel) (by decide +kernel))⟩
set_option maxRecDepth 100000 in
theorem lw_m_95 : lw_mlok (95, 144) := ⟨(am_in 1211 (by decide +kernel) (by decide +kernel)), (am_in 1212 (by decide +kernel) (by decide +kernel)), (am_in 1213 (by decide +kernel) (by decide +kernel)), (am_in 68 (by decide +kernel) (by decide +kernel))⟩
set_option maxRecDepth 100000 in
theorem lw_m_96 : lw_mlok (96, 85) := ⟨(am_in 823 (by decide +kernel) (by decide +kernel)), (am_in 824 (by decide +kernel) (by decide +kernel)), (am_in 825 (by decide +kernel) (by decide +kernel)), (am_in 56 (by decide +kernel) (by decide +kernel))⟩
set_option maxRecDepth 100000 in
theorem lw_m_99 : lw_mlok (99, 147) := ⟨(am_in 1223 (by decide +kernel) (by decide +kernel)), (am_in 1224 (by decide +kernel) (by decide +kernel)), (am_in 1225 (by decide +kernel) (by decide +kernel)), (am_in 68 (by decide +kernel) (by decide +kernel))⟩
set_option maxRecDepth 100000 in
theorem lw_m_100 : lw_mlok (100, 86) := ⟨(am_in 842 (by decide +kernel) (by decide +kernel)), (am_in 843 (by decide +kernel) (by decide +kernel)), (am_in 844 (by decide +kernel) (by decide +kernel)), (am_in 56 (by decide +kernel) (by decide +kernel))⟩
set_option maxRecDepth 100000 in
theorem lw_m_103 : lw_mlok (103, 149) := ⟨(am_in 1235 (by decide +kernel) (by decide +kernel)), (am_in 1236 (by decide +kernel) (by decide +kernel)), (am_in 1237 (by decide +kernel) (by decide +kernel)), (am_in 68 (by decide +kernel) (by decide +kernel))⟩
set_option maxRecDepth 100000 in
theorem lw_m_104 : lw_mlok (104, 87) := ⟨(am_in 855 (by decide +kernel) (by decide +kernel)), (am_in 856 (by decide +kernel) (by decide +kernel)), (am_in 857 (by decide +kernel) (by decide +kernel)), (am_in 56 (by decide +kernel) (by decide +kernel))⟩
set_option maxRecDepth 100000 in
theorem lw_m_107 : lw_mlok (107, 150) := ⟨(am_in 1243 (by decide +kernel) (by decide +kernel)), (am_in 1244 (by decide +kernel) (by decide +kernel)), (am_in 1245 (by decide +kernel) (by decide +kernel)), (am_in 68 (by decide +kernel) (by decide +kernel))⟩
set_option maxRecDepth 100000 in
theorem lw_m_108 : lw_mlok (108, 88) := ⟨(am_in 864 (by decide +kernel) (by decide +kernel)), (am_in 865 (by decide +kernel) (by decide +kernel)), (am_in 866 (by decide +kernel) (by decide +kernel)), (am_in 56 (by decide +kernel) (by decide +kernel))⟩
set_option maxRecDepth 100000 in
theorem lw_m_111 : lw_mlok (111, 152) := ⟨(am_in 1247 (by decide +kernel) (by decide +kernel)), (am_in 1248 (by decide +kernel) (by decide +kernel)), (am_in 1249 (by decide +kernel) (by decide +kernel)), (am_in 68 (by decide +kernel) (by decide +kernel))⟩
set_option maxRecDepth 100000 in
theorem lw_m_112 : lw_mlok (112, 89) := ⟨(am_in 879 (by decide +kernel) (by decide +kernel)), (am_in 880 (by decide +kernel) (by decide +kernel)), (am_in 881 (by decide +kernel) (by decide +kernel)), (am_in 56 (by decide +kernel) (by decide +kernel))⟩
set_option maxRecDepth 100000 in
theorem lw_m_115 : lw_mlok (115, 153) := ⟨(am_in 1255 (by decide +kernel) (by decide +kernel)), (am_in 1256 (by decide +kernel) (by decide +kernel)), (am_in 1257 (by decide +kernel) (by decide +kernel)), (am_in 68 (by decide +kernel) (by decide +kernel))⟩
set_option maxRecDepth 100000 in
theorem lw_m_116 : lw_mlok (116, 90) := ⟨(am_in 887 (by decide +kernel) (by decide +kernel)), (am_in 888 (by decide +kernel) (by decide +kernel)), (am_in 889 (by decide +kernel) (by decide +kernel)), (am_in 56 (by decide +kernel) (by decide +kernel))⟩
set_option maxRecDepth 100000 in
theorem lw_m_120 : lw_mlok (120, 154) := ⟨(am_in 1259 (by decide +kernel) (by decide +kernel)), (am_in 1260 (by decide +kernel) (by decide +kernel)), (am_in 1261 (by decide +kernel) (by decide +kernel)), (am_in 68 (by decide +kernel) (by decide +kernel))⟩
set_option maxRecDepth 100000 in
theorem lw_m_121 : lw_mlok (121, 91) := ⟨(am_in 895 (by decide +kernel) (by decide +kernel)), (am_in 896 (by decide +kernel) (by decide +kernel)), (am_in 897 (by decide +kernel) (by decide +kernel)), (am_in 56 (by decide +kernel) (by decide +kernel))⟩
set_option maxRecDepth 100000 in
theorem lw_m_124 : lw_mlok (124, 155) := ⟨(am_in 1263 (by decide +kernel) (by decide +kernel)), (am_in 1264 (by decide +kernel) (by decide +kernel)), (am_in 1265 (by decide +kernel) (by decide +kernel)), (am_in 68 (by decide +kernel) (by decide +kernel))⟩
set_option maxRecDepth 100000 in
theorem lw_m_125 : lw_mlok (125, 92) := ⟨(am_in 899 (by decide +kernel) (by decide +kernel)), (am_in 900 (by decide +kernel) (by decide +kernel)), (am_in 901 (by decide +kernel) (by decide +kernel)), (am_in 56 (by decide +kernel) (by decide +kernel))⟩
set_option maxRecDepth 100000 in
theorem lw_m_128 : lw_mlok (128, 156) := ⟨(am_in 1267 (by decide +kernel) (by decide +kernel)), (am_in 1268 (by decide +kernel) (by decide +kernel)), (am_in 1269 (by decide +kernel) (by decide +kernel)), (am_in 68 (by decide +kernel) (by decide +kernel))⟩
set_option maxRecDepth 100000 in
theorem lw_m_129 : lw_mlok (129, 93) := ⟨(am_in 908 (by decide +kernel) (by decide +kernel)), (am_in 909 (by decide +kernel) (by decide +kernel)), (am_in 910 (by decide +kernel) (by decide +kernel)), (am_in 56 (by decide +kernel) (by decide +kernel))⟩
set_option maxRecDepth 100000 in
theorem lw_m_132 : lw_mlok (132, 157) := ⟨(am_in 1271 (by decide +kernel) (by decide +kernel)), (am_in 1272 (by decide +kernel) (by decide +kernel)), (am_in 1273 (by decide +kernel) (by decide +kernel)), (am_in 68 (by decide +kernel) (by decide +kernel))⟩
set_option maxRecDepth 100000 in
theorem lw_m_133 : lw_mlok (133, 94) := ⟨(am_in 912 (by decide +kernel) (by decide +kernel)), (am_in 913 (by decide +kernel) (by decide +kernel)), (am_in 914 (by decide +kernel) (by decide +kernel)), (am_in 56 (by decide +kernel) (by decide +kernel))⟩
set_option maxRecDepth 100000 in
theorem lw_m_136 : lw_mlok (136, 158) := ⟨(am_in 1275 (by decide +kernel) (by decide +kernel)), (am_in 1276 (by decide +kernel) (by decide +kernel)), (am_in 1277 (by decide +kernel) (by decide +kernel)), (am_in 68 (by decide +kernel) (by decide +kernel))⟩
set_option maxRecDepth 100000 in
theorem lw_k_1 : lw_ckS 227 0 20 67 24 105 = true := by decide +kernel
set_option maxRecDepth 100000 in
theorem lw_k_2 : lw_ckS 240 0 25 68 28 113 = true := by decide +kernel
set_option maxRecDepth 100000 in
theorem lw_k_3 : lw_ckS 253 0 29 69 32 115 = true := by decide +kernel
set_option maxRecDepth 100000 in
theorem lw_k_4 : lw_ckS 266 2 33 70 37 116 = true := by decide +kernel
set_option maxRecDepth 100000 in
theorem lw_k_5 : lw_ckS 299 2 38 71 41 117 = true := by decide +kernel
set_option maxRecDepth 100000 in
theorem lw_k_6 : lw_ckS 332 3 42 72 46 120 = true := by decide +kernel
set_option maxRecDepth 100000 in
theorem lw_k_7 : lw_ckS 375 3 47 73 50 121 = true := by decide +kernel
set_option maxRecDepth 100000 in
theorem lw_k_8 : lw_ckS 418 1 51 74 55 122 = true := by decide +kernel
set_option maxRecDepth 100000 in
theorem lw_k_9 : lw_ckS 441 1 56 75 59 124 = true := by decide +kernel
set_option maxRecDepth 100000 in
theorem lw_k_10 : lw_ckS 464 0 60 76 63 129 = true := by decide +kernel
set_option maxRecDepth 100000 in
theorem lw_k_11 : lw_ckS 477 2 64 77 67 131 = true := by decide +kernel
set_option maxRecDepth 100000 in
theorem lw_k_12 : lw_ckS 510 2 68 78 71 132 = true := by decide +kernel
set_option maxRecDepth 100000 in
theorem lw_k_13 : lw_ckS 543 1 72 79 75 134 = true := by decide +kernel
set_option maxRecDepth 100000 in
theorem lw_k_14 : lw_ckS 566 1 76 80 79 135 = true := by decide +kernel
set_option maxRecDepth 100000 in
theorem lw_k_15 : lw_ckS 589 0 80 81 83 139 = true := by decide +kernel
set_option maxRecDepth 100000 in
theorem lw_k_16 : lw_ckS 602 1 84 82 87 140 = true := by decide +kernel
set_option maxRecDepth 100000 in
theorem lw_k_17 : lw_ckS 625 0 88 83 91 141 = true := by decide +kernel
set_option maxRecDepth 100000 in
theorem lw_k_18 : lw_ckS 638 3 92 84 95 144 = true := by decide +kernel
set_option maxRecDepth 100000 in
theorem lw_k_19 : lw_ckS 681 2 96 85 99 147 = true := by decide +kernel
set_option maxRecDepth 100000 in
theorem lw_k_20 : lw_ckS 714 2 100 86 103 149 = true := by decide +kernel
set_option maxRecDepth 100000 in
theorem lw_k_21 : lw_ckS 747 1 104 87 107 150 = true := by decide +kernel
set_option maxRecDepth 100000 in
theorem lw_k_22 : lw_ckS 770 1 108 88 111 152 = true := by decide +kernel
set_option maxRecDepth 100000 in
theorem lw_k_23 : lw_ckS 793 1 112 89 115 153 = true := by decide +kernel
set_option maxRecDepth 100000 in
theorem lw_k_24 : lw_ckS 816 4 116 90 120 154 = true := by decide +kernel
set_option maxRecDepth 100000 in
theorem lw_k_25 : lw_ckS 869 0 121 91 124 155 = true := by decide +kernel
set_option maxRecDepth 100000 in
theorem lw_k_26 : lw_ckS 882 0 125 92 128 156 = true := by decide +kernel
set_option maxRecDepth 100000 in
theorem lw_k_27 : lw_ckS 895 2 129 93 132 157 = true := by decide +kernel
set_option maxRecDepth 100000 in
theorem lw_k_28 : lw_ckS 928 1 133 94 136 158 = true := by decide +kernel
theorem lw_cl : Cond.constantLong R_law 13 4294967295 ∈ am_tbl := (am_in 1279 (by decide +kernel) (by decide +kernel))
