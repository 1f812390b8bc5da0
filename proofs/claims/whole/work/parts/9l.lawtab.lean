/-! the law: its links, its cases; written by wip/whole/gen/gen_law.py -/
set_option maxRecDepth 100000 in
theorem lw_m_15 : lw_mlok (15, 70) := ⟨(am_in 423 (by decide +kernel) (by decide +kernel)), (am_in 424 (by decide +kernel) (by decide +kernel)), (am_in 425 (by decide +kernel) (by decide +kernel)), (am_in 59 (by decide +kernel) (by decide +kernel))⟩
set_option maxRecDepth 100000 in
theorem lw_m_19 : lw_mlok (19, 108) := ⟨(am_in 1048 (by decide +kernel) (by decide +kernel)), (am_in 1049 (by decide +kernel) (by decide +kernel)), (am_in 1050 (by decide +kernel) (by decide +kernel)), (am_in 71 (by decide +kernel) (by decide +kernel))⟩
set_option maxRecDepth 100000 in
theorem lw_m_20 : lw_mlok (20, 71) := ⟨(am_in 432 (by decide +kernel) (by decide +kernel)), (am_in 433 (by decide +kernel) (by decide +kernel)), (am_in 434 (by decide +kernel) (by decide +kernel)), (am_in 59 (by decide +kernel) (by decide +kernel))⟩
set_option maxRecDepth 100000 in
theorem lw_m_24 : lw_mlok (24, 109) := ⟨(am_in 1056 (by decide +kernel) (by decide +kernel)), (am_in 1057 (by decide +kernel) (by decide +kernel)), (am_in 1058 (by decide +kernel) (by decide +kernel)), (am_in 71 (by decide +kernel) (by decide +kernel))⟩
set_option maxRecDepth 100000 in
theorem lw_m_25 : lw_mlok (25, 72) := ⟨(am_in 440 (by decide +kernel) (by decide +kernel)), (am_in 441 (by decide +kernel) (by decide +kernel)), (am_in 442 (by decide +kernel) (by decide +kernel)), (am_in 59 (by decide +kernel) (by decide +kernel))⟩
set_option maxRecDepth 100000 in
theorem lw_m_28 : lw_mlok (28, 117) := ⟨(am_in 1060 (by decide +kernel) (by decide +kernel)), (am_in 1061 (by decide +kernel) (by decide +kernel)), (am_in 1062 (by decide +kernel) (by decide +kernel)), (am_in 71 (by decide +kernel) (by decide +kernel))⟩
set_option maxRecDepth 100000 in
theorem lw_m_29 : lw_mlok (29, 73) := ⟨(am_in 547 (by decide +kernel) (by decide +kernel)), (am_in 548 (by decide +kernel) (by decide +kernel)), (am_in 549 (by decide +kernel) (by decide +kernel)), (am_in 59 (by decide +kernel) (by decide +kernel))⟩
set_option maxRecDepth 100000 in
theorem lw_m_32 : lw_mlok (32, 119) := ⟨(am_in 1108 (by decide +kernel) (by decide +kernel)), (am_in 1109 (by decide +kernel) (by decide +kernel)), (am_in 1110 (by decide +kernel) (by decide +kernel)), (am_in 71 (by decide +kernel) (by decide +kernel))⟩
set_option maxRecDepth 100000 in
theorem lw_m_33 : lw_mlok (33, 74) := ⟨(am_in 594 (by decide +kernel) (by decide +kernel)), (am_in 595 (by decide +kernel) (by decide +kernel)), (am_in 596 (by decide +kernel) (by decide +kernel)), (am_in 59 (by decide +kernel) (by decide +kernel))⟩
set_option maxRecDepth 100000 in
theorem lw_m_37 : lw_mlok (37, 120) := ⟨(am_in 1120 (by decide +kernel) (by decide +kernel)), (am_in 1121 (by decide +kernel) (by decide +kernel)), (am_in 1122 (by decide +kernel) (by decide +kernel)), (am_in 71 (by decide +kernel) (by decide +kernel))⟩
set_option maxRecDepth 100000 in
theorem lw_m_38 : lw_mlok (38, 75) := ⟨(am_in 602 (by decide +kernel) (by decide +kernel)), (am_in 603 (by decide +kernel) (by decide +kernel)), (am_in 604 (by decide +kernel) (by decide +kernel)), (am_in 59 (by decide +kernel) (by decide +kernel))⟩
set_option maxRecDepth 100000 in
theorem lw_m_41 : lw_mlok (41, 121) := ⟨(am_in 1128 (by decide +kernel) (by decide +kernel)), (am_in 1129 (by decide +kernel) (by decide +kernel)), (am_in 1130 (by decide +kernel) (by decide +kernel)), (am_in 71 (by decide +kernel) (by decide +kernel))⟩
set_option maxRecDepth 100000 in
theorem lw_m_42 : lw_mlok (42, 76) := ⟨(am_in 614 (by decide +kernel) (by decide +kernel)), (am_in 615 (by decide +kernel) (by decide +kernel)), (am_in 616 (by decide +kernel) (by decide +kernel)), (am_in 59 (by decide +kernel) (by decide +kernel))⟩
set_option maxRecDepth 100000 in
theorem lw_m_46 : lw_mlok (46, 124) := ⟨(am_in 1136 (by decide +kernel) (by decide +kernel)), (am_in 1137 (by decide +kernel) (by decide +kernel)), (am_in 1138 (by decide +kernel) (by decide +kernel)), (am_in 71 (by decide +kernel) (by decide +kernel))⟩
set_option maxRecDepth 100000 in
theorem lw_m_47 : lw_mlok (47, 77) := ⟨(am_in 659 (by decide +kernel) (by decide +kernel)), (am_in 660 (by decide +kernel) (by decide +kernel)), (am_in 661 (by decide +kernel) (by decide +kernel)), (am_in 59 (by decide +kernel) (by decide +kernel))⟩
set_option maxRecDepth 100000 in
theorem lw_m_50 : lw_mlok (50, 125) := ⟨(am_in 1147 (by decide +kernel) (by decide +kernel)), (am_in 1148 (by decide +kernel) (by decide +kernel)), (am_in 1149 (by decide +kernel) (by decide +kernel)), (am_in 71 (by decide +kernel) (by decide +kernel))⟩
set_option maxRecDepth 100000 in
theorem lw_m_51 : lw_mlok (51, 78) := ⟨(am_in 664 (by decide +kernel) (by decide +kernel)), (am_in 665 (by decide +kernel) (by decide +kernel)), (am_in 666 (by decide +kernel) (by decide +kernel)), (am_in 59 (by decide +kernel) (by decide +kernel))⟩
set_option maxRecDepth 100000 in
theorem lw_m_55 : lw_mlok (55, 126) := ⟨(am_in 1151 (by decide +kernel) (by decide +kernel)), (am_in 1152 (by decide +kernel) (by decide +kernel)), (am_in 1153 (by decide +kernel) (by decide +kernel)), (am_in 71 (by decide +kernel) (by decide +kernel))⟩
set_option maxRecDepth 100000 in
theorem lw_m_56 : lw_mlok (56, 79) := ⟨(am_in 668 (by decide +kernel) (by decide +kernel)), (am_in 669 (by decide +kernel) (by decide +kernel)), (am_in 670 (by decide +kernel) (by decide +kernel)), (am_in 59 (by decide +kernel) (by decide +kernel))⟩
set_option maxRecDepth 100000 in
theorem lw_m_59 : lw_mlok (59, 128) := ⟨(am_in 1155 (by decide +kernel) (by decide +kernel)), (am_in 1156 (by decide +kernel) (by decide +kernel)), (am_in 1157 (by decide +kernel) (by decide +kernel)), (am_in 71 (by decide +kernel) (by decide +kernel))⟩
set_option maxRecDepth 100000 in
theorem lw_m_60 : lw_mlok (60, 80) := ⟨(am_in 684 (by decide +kernel) (by decide +kernel)), (am_in 685 (by decide +kernel) (by decide +kernel)), (am_in 686 (by decide +kernel) (by decide +kernel)), (am_in 59 (by decide +kernel) (by decide +kernel))⟩
set_option maxRecDepth 100000 in
theorem lw_m_63 : lw_mlok (63, 133) := ⟨(am_in 1163 (by decide +kernel) (by decide +kernel)), (am_in 1164 (by decide +kernel) (by decide +kernel)), (am_in 1165 (by decide +kernel) (by decide +kernel)), (am_in 71 (by decide +kernel) (by decide +kernel))⟩
set_option maxRecDepth 100000 in
theorem lw_m_64 : lw_mlok (64, 81) := ⟨(am_in 732 (by decide +kernel) (by decide +kernel)), (am_in 733 (by decide +kernel) (by decide +kernel)), (am_in 734 (by decide +kernel) (by decide +kernel)), (am_in 59 (by decide +kernel) (by decide +kernel))⟩
set_option maxRecDepth 100000 in
theorem lw_m_67 : lw_mlok (67, 135) := ⟨(am_in 1183 (by decide +kernel) (by decide +kernel)), (am_in 1184 (by decide +kernel) (by decide +kernel)), (am_in 1185 (by decide +kernel) (by decide +kernel)), (am_in 71 (by decide +kernel) (by decide +kernel))⟩
set_option maxRecDepth 100000 in
theorem lw_m_68 : lw_mlok (68, 82) := ⟨(am_in 740 (by decide +kernel) (by decide +kernel)), (am_in 741 (by decide +kernel) (by decide +kernel)), (am_in 742 (by decide +kernel) (by decide +kernel)), (am_in 59 (by decide +kernel) (by decide +kernel))⟩
set_option maxRecDepth 100000 in
theorem lw_m_71 : lw_mlok (71, 136) := ⟨(am_in 1191 (by decide +kernel) (by decide +kernel)), (am_in 1192 (by decide +kernel) (by decide +kernel)), (am_in 1193 (by decide +kernel) (by decide +kernel)), (am_in 71 (by decide +kernel) (by decide +kernel))⟩
set_option maxRecDepth 100000 in
theorem lw_m_72 : lw_mlok (72, 83) := ⟨(am_in 744 (by decide +kernel) (by decide +kernel)), (am_in 745 (by decide +kernel) (by decide +kernel)), (am_in 746 (by decide +kernel) (by decide +kernel)), (am_in 59 (by decide +kernel) (by decide +kernel))⟩
set_option maxRecDepth 100000 in
theorem lw_m_75 : lw_mlok (75, 138) := ⟨(am_in 1195 (by decide +kernel) (by decide +kernel)), (am_in 1196 (by decide +kernel) (by decide +kernel)), (am_in 1197 (by decide +kernel) (by decide +kernel)), (am_in 71 (by decide +kernel) (by decide +kernel))⟩
set_option maxRecDepth 100000 in
theorem lw_m_76 : lw_mlok (76, 84) := ⟨(am_in 752 (by decide +kernel) (by decide +kernel)), (am_in 753 (by decide +kernel) (by decide +kernel)), (am_in 754 (by decide +kernel) (by decide +kernel)), (am_in 59 (by decide +kernel) (by decide +kernel))⟩
set_option maxRecDepth 100000 in
theorem lw_m_79 : lw_mlok (79, 139) := ⟨(am_in 1202 (by decide +kernel) (by decide +kernel)), (am_in 1203 (by decide +kernel) (by decide +kernel)), (am_in 1204 (by decide +kernel) (by decide +kernel)), (am_in 71 (by decide +kernel) (by decide +kernel))⟩
set_option maxRecDepth 100000 in
theorem lw_m_80 : lw_mlok (80, 85) := ⟨(am_in 756 (by decide +kernel) (by decide +kernel)), (am_in 757 (by decide +kernel) (by decide +kernel)), (am_in 758 (by decide +kernel) (by decide +kernel)), (am_in 59 (by decide +kernel) (by decide +kernel))⟩
set_option maxRecDepth 100000 in
theorem lw_m_83 : lw_mlok (83, 143) := ⟨(am_in 1206 (by decide +kernel) (by decide +kernel)), (am_in 1207 (by decide +kernel) (by decide +kernel)), (am_in 1208 (by decide +kernel) (by decide +kernel)), (am_in 71 (by decide +kernel) (by decide +kernel))⟩
set_option maxRecDepth 100000 in
theorem lw_m_84 : lw_mlok (84, 86) := ⟨(am_in 774 (by decide +kernel) (by decide +kernel)), (am_in 775 (by decide +kernel) (by decide +kernel)), (am_in 776 (by decide +kernel) (by decide +kernel)), (am_in 59 (by decide +kernel) (by decide +kernel))⟩
set_option maxRecDepth 100000 in
theorem lw_m_87 : lw_mlok (87, 144) := ⟨(am_in 1222 (by decide +kernel) (by decide +kernel)), (am_in 1223 (by decide +kernel) (by decide +kernel)), (am_in 1224 (by decide +kernel) (by decide +kernel)), (am_in 71 (by decide +kernel) (by decide +kernel))⟩
set_option maxRecDepth 100000 in
theorem lw_m_88 : lw_mlok (88, 87) := ⟨(am_in 783 (by decide +kernel) (by decide +kernel)), (am_in 784 (by decide +kernel) (by decide +kernel)), (am_in 785 (by decide +kernel) (by decide +kernel)), (am_in 59 (by decide +kernel) (by decide +kernel))⟩
set_option maxRecDepth 100000 in
theorem lw_m_91 : lw_mlok (91, 145) := ⟨(am_in 1227 (by decide +kernel) (by decide +kernel)), (am_in 1228 (by decide +kernel) (by decide +kernel)), (am_in 1229 (by decide +kernel) (by decide +kernel)), (am_in 71 (by decide +kernel) (by decide +kernel))⟩
set_option maxRecDepth 100000 in
theorem lw_m_92 : lw_mlok (92, 88) := ⟨(am_in 791 (by decide +kernel) (by decide +kernel)), (am_in 792 (by decide +kernel) (by decide +kernel)), (am_in 793 (by decide +kernel) (by decide +kernel)), (am_in 59 (by decide +kernel) (by decide +kernel))⟩
set_option maxRecDepth 100000 in
theorem lw_m_95 : lw_mlok (95, 148) := ⟨(am_in 1231 (by decide +kernel) (by decide +kernel)), (am_in 1232 (by decide +kernel) (by decide +kernel)), (am_in 1233 (by decide +kernel) (by decide +kernel)), (am_in 71 (by decide +kernel) (by decide +kernel))⟩
set_option maxRecDepth 100000 in
theorem lw_m_96 : lw_mlok (96, 89) := ⟨(am_in 843 (by decide +kernel) (by decide +kernel)), (am_in 844 (by decide +kernel) (by decide +kernel)), (am_in 845 (by decide +kernel) (by decide +kernel)), (am_in 59 (by decide +kernel) (by decide +kernel))⟩
set_option maxRecDepth 100000 in
theorem lw_m_99 : lw_mlok (99, 151) := ⟨(am_in 1243 (by decide +kernel) (by decide +kernel)), (am_in 1244 (by decide +kernel) (by decide +kernel)), (am_in 1245 (by decide +kernel) (by decide +kernel)), (am_in 71 (by decide +kernel) (by decide +kernel))⟩
set_option maxRecDepth 100000 in
theorem lw_m_100 : lw_mlok (100, 90) := ⟨(am_in 862 (by decide +kernel) (by decide +kernel)), (am_in 863 (by decide +kernel) (by decide +kernel)), (am_in 864 (by decide +kernel) (by decide +kernel)), (am_in 59 (by decide +kernel) (by decide +kernel))⟩
set_option maxRecDepth 100000 in
theorem lw_m_103 : lw_mlok (103, 153) := ⟨(am_in 1255 (by decide +kernel) (by decide +kernel)), (am_in 1256 (by decide +kernel) (by decide +kernel)), (am_in 1257 (by decide +kernel) (by decide +kernel)), (am_in 71 (by decide +kernel) (by decide +kernel))⟩
set_option maxRecDepth 100000 in
theorem lw_m_104 : lw_mlok (104, 91) := ⟨(am_in 875 (by decide +kernel) (by decide +kernel)), (am_in 876 (by decide +kernel) (by decide +kernel)), (am_in 877 (by decide +kernel) (by decide +kernel)), (am_in 59 (by decide +kernel) (by decide +kernel))⟩
set_option maxRecDepth 100000 in
theorem lw_m_107 : lw_mlok (107, 154) := ⟨(am_in 1263 (by decide +kernel) (by decide +kernel)), (am_in 1264 (by decide +kernel) (by decide +kernel)), (am_in 1265 (by decide +kernel) (by decide +kernel)), (am_in 71 (by decide +kernel) (by decide +kernel))⟩
set_option maxRecDepth 100000 in
theorem lw_m_108 : lw_mlok (108, 92) := ⟨(am_in 884 (by decide +kernel) (by decide +kernel)), (am_in 885 (by decide +kernel) (by decide +kernel)), (am_in 886 (by decide +kernel) (by decide +kernel)), (am_in 59 (by decide +kernel) (by decide +kernel))⟩
set_option maxRecDepth 100000 in
theorem lw_m_111 : lw_mlok (111, 156) := ⟨(am_in 1267 (by decide +kernel) (by decide +kernel)), (am_in 1268 (by decide +kernel) (by decide +kernel)), (am_in 1269 (by decide +kernel) (by decide +kernel)), (am_in 71 (by decide +kernel) (by decide +kernel))⟩
set_option maxRecDepth 100000 in
theorem lw_m_112 : lw_mlok (112, 93) := ⟨(am_in 899 (by decide +kernel) (by decide +kernel)), (am_in 900 (by decide +kernel) (by decide +kernel)), (am_in 901 (by decide +kernel) (by decide +kernel)), (am_in 59 (by decide +kernel) (by decide +kernel))⟩
set_option maxRecDepth 100000 in
theorem lw_m_115 : lw_mlok (115, 157) := ⟨(am_in 1275 (by decide +kernel) (by decide +kernel)), (am_in 1276 (by decide +kernel) (by decide +kernel)), (am_in 1277 (by decide +kernel) (by decide +kernel)), (am_in 71 (by decide +kernel) (by decide +kernel))⟩
set_option maxRecDepth 100000 in
theorem lw_m_116 : lw_mlok (116, 94) := ⟨(am_in 907 (by decide +kernel) (by decide +kernel)), (am_in 908 (by decide +kernel) (by decide +kernel)), (am_in 909 (by decide +kernel) (by decide +kernel)), (am_in 59 (by decide +kernel) (by decide +kernel))⟩
set_option maxRecDepth 100000 in
theorem lw_m_120 : lw_mlok (120, 158) := ⟨(am_in 1279 (by decide +kernel) (by decide +kernel)), (am_in 1280 (by decide +kernel) (by decide +kernel)), (am_in 1281 (by decide +kernel) (by decide +kernel)), (am_in 71 (by decide +kernel) (by decide +kernel))⟩
set_option maxRecDepth 100000 in
theorem lw_m_121 : lw_mlok (121, 95) := ⟨(am_in 915 (by decide +kernel) (by decide +kernel)), (am_in 916 (by decide +kernel) (by decide +kernel)), (am_in 917 (by decide +kernel) (by decide +kernel)), (am_in 59 (by decide +kernel) (by decide +kernel))⟩
set_option maxRecDepth 100000 in
theorem lw_m_124 : lw_mlok (124, 159) := ⟨(am_in 1283 (by decide +kernel) (by decide +kernel)), (am_in 1284 (by decide +kernel) (by decide +kernel)), (am_in 1285 (by decide +kernel) (by decide +kernel)), (am_in 71 (by decide +kernel) (by decide +kernel))⟩
set_option maxRecDepth 100000 in
theorem lw_m_125 : lw_mlok (125, 96) := ⟨(am_in 919 (by decide +kernel) (by decide +kernel)), (am_in 920 (by decide +kernel) (by decide +kernel)), (am_in 921 (by decide +kernel) (by decide +kernel)), (am_in 59 (by decide +kernel) (by decide +kernel))⟩
set_option maxRecDepth 100000 in
theorem lw_m_128 : lw_mlok (128, 160) := ⟨(am_in 1287 (by decide +kernel) (by decide +kernel)), (am_in 1288 (by decide +kernel) (by decide +kernel)), (am_in 1289 (by decide +kernel) (by decide +kernel)), (am_in 71 (by decide +kernel) (by decide +kernel))⟩
set_option maxRecDepth 100000 in
theorem lw_m_129 : lw_mlok (129, 97) := ⟨(am_in 928 (by decide +kernel) (by decide +kernel)), (am_in 929 (by decide +kernel) (by decide +kernel)), (am_in 930 (by decide +kernel) (by decide +kernel)), (am_in 59 (by decide +kernel) (by decide +kernel))⟩
set_option maxRecDepth 100000 in
theorem lw_m_132 : lw_mlok (132, 161) := ⟨(am_in 1291 (by decide +kernel) (by decide +kernel)), (am_in 1292 (by decide +kernel) (by decide +kernel)), (am_in 1293 (by decide +kernel) (by decide +kernel)), (am_in 71 (by decide +kernel) (by decide +kernel))⟩
set_option maxRecDepth 100000 in
theorem lw_m_133 : lw_mlok (133, 98) := ⟨(am_in 932 (by decide +kernel) (by decide +kernel)), (am_in 933 (by decide +kernel) (by decide +kernel)), (am_in 934 (by decide +kernel) (by decide +kernel)), (am_in 59 (by decide +kernel) (by decide +kernel))⟩
set_option maxRecDepth 100000 in
theorem lw_m_136 : lw_mlok (136, 162) := ⟨(am_in 1295 (by decide +kernel) (by decide +kernel)), (am_in 1296 (by decide +kernel) (by decide +kernel)), (am_in 1297 (by decide +kernel) (by decide +kernel)), (am_in 71 (by decide +kernel) (by decide +kernel))⟩
set_option maxRecDepth 100000 in
theorem lw_k_1 : lw_ckS 227 0 20 71 24 109 = true := by decide +kernel
set_option maxRecDepth 100000 in
theorem lw_k_2 : lw_ckS 240 0 25 72 28 117 = true := by decide +kernel
set_option maxRecDepth 100000 in
theorem lw_k_3 : lw_ckS 253 0 29 73 32 119 = true := by decide +kernel
set_option maxRecDepth 100000 in
theorem lw_k_4 : lw_ckS 266 2 33 74 37 120 = true := by decide +kernel
set_option maxRecDepth 100000 in
theorem lw_k_5 : lw_ckS 299 2 38 75 41 121 = true := by decide +kernel
set_option maxRecDepth 100000 in
theorem lw_k_6 : lw_ckS 332 3 42 76 46 124 = true := by decide +kernel
set_option maxRecDepth 100000 in
theorem lw_k_7 : lw_ckS 375 3 47 77 50 125 = true := by decide +kernel
set_option maxRecDepth 100000 in
theorem lw_k_8 : lw_ckS 418 1 51 78 55 126 = true := by decide +kernel
set_option maxRecDepth 100000 in
theorem lw_k_9 : lw_ckS 441 1 56 79 59 128 = true := by decide +kernel
set_option maxRecDepth 100000 in
theorem lw_k_10 : lw_ckS 464 0 60 80 63 133 = true := by decide +kernel
set_option maxRecDepth 100000 in
theorem lw_k_11 : lw_ckS 477 2 64 81 67 135 = true := by decide +kernel
set_option maxRecDepth 100000 in
theorem lw_k_12 : lw_ckS 510 2 68 82 71 136 = true := by decide +kernel
set_option maxRecDepth 100000 in
theorem lw_k_13 : lw_ckS 543 1 72 83 75 138 = true := by decide +kernel
set_option maxRecDepth 100000 in
theorem lw_k_14 : lw_ckS 566 1 76 84 79 139 = true := by decide +kernel
set_option maxRecDepth 100000 in
theorem lw_k_15 : lw_ckS 589 0 80 85 83 143 = true := by decide +kernel
set_option maxRecDepth 100000 in
theorem lw_k_16 : lw_ckS 602 1 84 86 87 144 = true := by decide +kernel
set_option maxRecDepth 100000 in
theorem lw_k_17 : lw_ckS 625 0 88 87 91 145 = true := by decide +kernel
set_option maxRecDepth 100000 in
theorem lw_k_18 : lw_ckS 638 3 92 88 95 148 = true := by decide +kernel
set_option maxRecDepth 100000 in
theorem lw_k_19 : lw_ckS 681 2 96 89 99 151 = true := by decide +kernel
set_option maxRecDepth 100000 in
theorem lw_k_20 : lw_ckS 714 2 100 90 103 153 = true := by decide +kernel
set_option maxRecDepth 100000 in
theorem lw_k_21 : lw_ckS 747 1 104 91 107 154 = true := by decide +kernel
set_option maxRecDepth 100000 in
theorem lw_k_22 : lw_ckS 770 1 108 92 111 156 = true := by decide +kernel
set_option maxRecDepth 100000 in
theorem lw_k_23 : lw_ckS 793 1 112 93 115 157 = true := by decide +kernel
set_option maxRecDepth 100000 in
theorem lw_k_24 : lw_ckS 816 4 116 94 120 158 = true := by decide +kernel
set_option maxRecDepth 100000 in
theorem lw_k_25 : lw_ckS 869 0 121 95 124 159 = true := by decide +kernel
set_option maxRecDepth 100000 in
theorem lw_k_26 : lw_ckS 882 0 125 96 128 160 = true := by decide +kernel
set_option maxRecDepth 100000 in
theorem lw_k_27 : lw_ckS 895 2 129 97 132 161 = true := by decide +kernel
set_option maxRecDepth 100000 in
theorem lw_k_28 : lw_ckS 928 1 133 98 136 162 = true := by decide +kernel
theorem lw_cl : Cond.constantLong R_law 13 4294967295 ∈ am_tbl := (am_in 1299 (by decide +kernel) (by decide +kernel))
