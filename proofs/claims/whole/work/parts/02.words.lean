/-! the words that the methods need, all in one list -/
noncomputable def wA : List Cond := MTs.map fun m => Cond.code (meN m) (meB m) (meL m) (meR m)
def wB : List Cond := FT.map fun q => Cond.fieldLink (cn q.1) q.2.1 (cn q.2.2.1) (fT q.2.2.1 q.2.2.2).2.1 (fT q.2.2.1 q.2.2.2).2.2.1
noncomputable def csW (q : Nat × (Nat × (Nat × Nat))) : List Cond := match q with
  | (0, (o, (i, m))) => [.methodLink (cn o) i (meN (mt m)), .instanceMethod (meN (mt m)), .selects (meN (mt m)).cls (meN (mt m)) (meN (mt m))]
  | (1, (o, (i, m))) => [.methodLink (cn o) i (meN (mt m)), .static (meN (mt m))]
  | (2, (o, (i, m))) => [.methodLink (cn o) i (meN (mt m)), .instanceMethod (meN (mt m))]
  | (3, (_, (_, m))) => [.static (meN (mt m))]
  | (_, (_, (_, m))) => [.instanceMethod (meN (mt m))]
noncomputable def wC : List Cond := CS.flatMap csW
def wD : List Cond := (KT.map fun q => Cond.constant (cn q.1) q.2.1 q.2.2) ++ (KL.map fun q => Cond.constantLong (cn q.1) q.2.1 q.2.2)
def wE : List Cond := cnL.map Cond.initialized
def wF : List Cond := (CL.flatMap fun q => u_ws q.1 q.2.1 q.2.2)
def wG : List Cond := (OI.map fun q => Cond.methodLink (cn q.1) q.2 Lib.objectInit) ++ [.instanceMethod Lib.objectInit, .code Lib.objectInit ⟨#[0xb1]⟩ 1 none]
def wH : List Cond := (CLk.map fun q => Cond.classLink (cn q.1) q.2.1 (cn q.2.2)) ++ ((CL.map fun q => Cond.instantiable q.1 q.2.2) ++ [.arrayClass .int, .arrayClass .long, .arrayClass .byte, .arrayClass .boolean])
def wI : List Cond := [.methodLink "ListenerIsTired" 287 arraycopyName, .static arraycopyName, .native arraycopyName]
def wJ : List Cond := [.fieldLink "ListenerIsTired" 296 "ListenerIsTired" "UNDER" "[I", .fieldLink "java/lang/String" 9 "java/lang/String" "value" "[B", .fieldLink "java/lang/String" 15 "java/lang/String" "coder" "B", .fieldLink "java/lang/String" 38 "java/lang/String" "COMPACT_STRINGS" "Z", .fieldLink "java/lang/String" 1053 "jdk/internal/util/Preconditions" "SIOOBE_FORMATTER" "Ljava/util/function/BiFunction;"]
noncomputable def WS : List Cond := wA ++ (wB ++ (wC ++ (wD ++ (wE ++ (wF ++ (wG ++ (wH ++ (wI ++ wJ))))))))
set_option maxRecDepth 100000 in
theorem wA_in : wA = [90, 100, 127, 147, 170, 188, 193, 197, 203, 207, 210, 213, 218, 241, 245, 249, 252, 256, 260, 263, 267, 270, 274, 277, 293, 297, 300, 304, 309, 313, 317, 320, 323, 326, 329, 368, 372, 376, 380, 384, 388, 392, 396, 400, 404, 408, 412, 416, 420, 424, 429, 436, 531, 535, 539, 543, 546, 550, 554, 558, 562, 566, 570, 574, 578, 582, 585, 592, 595, 598, 601, 604, 608, 613, 617, 621, 625, 629, 633, 638, 642, 646, 650, 656, 661, 665, 670, 675, 679, 683, 687, 692, 696, 700, 704, 708, 712, 716, 720, 724, 728, 732, 736, 742, 746, 751, 755, 759, 762, 766, 769, 773, 777, 781, 785, 789, 793, 797, 801, 807, 811, 815, 819, 822, 827, 831, 835, 839, 843, 846, 850, 855, 859, 866, 870, 873, 880, 885, 1019, 1023, 1027, 1031, 1038, 1042, 1046, 1050, 1054, 1058, 1068, 1072, 1076, 1085, 1089, 1093, 1097, 1101, 1105, 1109, 1113, 1117, 1121, 1125, 1129, 1133, 1138, 1142, 1146, 1150, 1156, 1161, 1165, 1170, 1174, 1178, 1181, 1185, 1189, 1193, 1197, 1201, 1205, 1211, 1215, 1219, 1223, 1227, 1231, 1235, 1240, 1244, 1247, 1251, 1255, 1259, 1263, 1266, 1271, 1274, 1279, 1283, 1288, 1293, 1298, 1304, 1308, 1312, 1317, 1321, 1325].filterMap (fun i => lw_tbl[i]?) := rfl
set_option maxRecDepth 100000 in
theorem wB_in : wB = [451, 438, 440, 443, 447, 454, 458, 129, 130, 132, 131, 151, 153, 154, 149, 152, 444, 448, 441, 455, 172, 174, 176, 102, 105, 106, 107, 104, 108, 477, 483, 479, 481, 459, 445, 449, 456, 452, 494, 496, 497, 502, 503, 504, 103, 495, 498, 499, 500, 478, 482, 480, 439, 484, 150, 460, 446, 450, 457, 453, 177, 442, 173, 501, 175, 886, 887, 890, 893, 894, 911, 912, 913, 915, 916, 920, 921, 924, 925, 926, 927, 888, 895, 892, 889, 891, 903, 902, 904, 906, 905, 907, 909, 910, 908, 896, 897, 898, 899, 900, 901, 914, 917, 918, 919, 922, 923].filterMap (fun i => lw_tbl[i]?) := by decide +kernel
set_option maxRecDepth 100000 in
theorem wC_in : wC = [246, 247, 248, 253, 254, 255, 365, 367, 6, 373, 375, 7, 421, 422, 423, 369, 370, 371, 377, 379, 8, 381, 383, 9, 417, 418, 419, 385, 387, 10, 413, 414, 415, 389, 391, 11, 393, 395, 12, 397, 399, 13, 401, 403, 14, 405, 407, 15, 409, 410, 411, 250, 251, 593, 594, 596, 597, 599, 600, 803, 251, 808, 809, 810, 190, 191, 192, 200, 201, 202, 238, 239, 240, 257, 259, 0, 264, 266, 1, 261, 262, 268, 269, 271, 273, 2, 298, 299, 301, 303, 5, 306, 307, 308, 294, 296, 4, 275, 276, 290, 292, 3, 680, 681, 682, 651, 537, 538, 579, 580, 581, 583, 584, 575, 576, 577, 589, 590, 591, 605, 606, 607, 614, 615, 616, 626, 627, 628, 737, 623, 624, 666, 654, 655, 667, 669, 19, 688, 663, 664, 125, 126, 145, 146, 185, 186, 187, 242, 243, 244, 427, 428, 532, 534, 16, 536, 537, 538, 540, 542, 17, 547, 548, 549, 551, 552, 553, 544, 545, 559, 561, 18, 563, 564, 565, 571, 572, 573, 610, 611, 612, 622, 623, 624, 634, 239, 240, 647, 648, 649, 652, 576, 577, 653, 654, 655, 662, 663, 664, 671, 580, 581, 676, 677, 678, 684, 685, 686, 689, 690, 691, 701, 702, 703, 705, 706, 707, 709, 711, 20, 717, 719, 21, 721, 723, 22, 729, 731, 23, 733, 734, 735, 738, 584, 743, 745, 24, 747, 322, 757, 758, 760, 761, 767, 768, 770, 771, 772, 774, 776, 25, 786, 788, 28, 790, 792, 29, 782, 784, 27, 778, 780, 26, 798, 799, 800, 804, 805, 806, 816, 818, 30, 820, 821, 844, 845, 851, 809, 810, 856, 857, 858, 871, 872, 882, 884, 31, 1021, 1022, 1024, 1026, 32, 1028, 1030, 33, 1035, 1036, 1037, 1143, 1145, 56, 1039, 1041, 34, 1043, 1045, 35, 1139, 1141, 55, 1158, 1160, 57, 1073, 1075, 41, 1086, 1088, 43, 1094, 1096, 45, 1069, 1071, 40, 1082, 1084, 42, 1126, 1128, 53, 1110, 1112, 49, 1122, 1124, 52, 1098, 1100, 46, 1130, 1132, 54, 1118, 1120, 51, 1106, 1108, 48, 1114, 1116, 50, 1102, 1104, 47, 1090, 1092, 44, 1065, 1067, 39, 1051, 1053, 37, 1055, 1057, 38, 1136, 1137, 1047, 1049, 36, 1179, 1180, 1186, 1188, 58, 1194, 1196, 59, 1198, 1200, 60, 1208, 1210, 61, 1212, 1214, 62, 1216, 1218, 63, 1228, 1230, 64, 1237, 1239, 65, 1245, 1246, 1248, 1250, 66, 1264, 1265, 1272, 1273, 1276, 1278, 67, 1285, 1286, 1287, 1300, 1291, 1292, 1326, 1148, 1149, 88, 89, 878, 879, 528, 529, 530, 1016, 1017, 1018, 555, 556, 557, 1147, 1148, 1149, 567, 568, 569, 1152, 1036, 1037, 618, 619, 620, 1153, 1154, 1155, 630, 631, 632, 1162, 1163, 1164, 635, 636, 637, 1167, 1168, 1169, 639, 640, 641, 1171, 1172, 1173, 643, 644, 645, 1182, 1183, 1184, 658, 659, 660, 1190, 1191, 1192, 672, 673, 674, 1202, 1203, 1204, 693, 694, 695, 1220, 1221, 1222, 697, 698, 699, 1224, 1225, 1226, 713, 714, 715, 1232, 1233, 1234, 725, 726, 727, 1241, 1242, 1243, 739, 740, 741, 1252, 1253, 1254, 748, 749, 750, 1256, 1257, 1258, 752, 753, 754, 1260, 1261, 1262, 763, 764, 765, 1268, 1269, 1270, 794, 795, 796, 1280, 1281, 1282, 812, 813, 814, 1290, 1291, 1292, 824, 825, 826, 1295, 1296, 1297, 828, 829, 830, 1301, 1302, 1303, 832, 833, 834, 1305, 1306, 1307, 836, 837, 838, 1309, 1310, 1311, 840, 841, 842, 1313, 1286, 1287, 847, 848, 849, 1314, 1315, 1316, 852, 853, 854, 1318, 1319, 1320, 863, 864, 865, 1322, 1323, 1324, 867, 868, 869, 1175, 1176, 1177, 194, 195, 196, 204, 205, 206, 208, 209, 314, 191, 192, 310, 311, 312, 315, 316, 216, 217, 211, 212, 324, 325, 318, 319, 321, 322, 327, 328, 603, 603, 603, 435, 603, 99, 169].filterMap (fun i => lw_tbl[i]?) := by decide +kernel
set_option maxRecDepth 100000 in
theorem wD_in : wD = [823, 1294, 586, 587, 588, 756, 1032, 1033, 1034, 1020, 1151, 1157, 1166, 1077, 1078, 1079, 1080, 1081, 1134, 1135, 1059, 1060, 1061, 1062, 1063, 1064, 1206, 1207, 1236, 1267, 1275, 1284, 1299, 1289].filterMap (fun i => lw_tbl[i]?) := by decide +kernel
set_option maxRecDepth 100000 in
theorem wE_in : wE = [82, 71, 72, 73, 70, 81, 69, 83, 68, 74, 75, 76, 78, 79, 84, 85].filterMap (fun i => lw_tbl[i]?) := by decide +kernel
set_option maxRecDepth 100000 in
theorem wF_in : wF = [461, 463, 465, 467, 469, 471, 473, 133, 135, 137, 139, 155, 157, 159, 161, 163, 178, 180, 182, 109, 111, 113, 115, 117, 119, 485, 487, 489, 491, 505, 507, 509, 511, 513, 515, 517, 519, 521, 523, 525, 928, 930, 932, 934, 936, 938, 940, 942, 944, 946, 948, 950, 952, 954, 956, 958, 960, 962, 964, 966, 968, 970, 972, 974, 976, 978, 980, 982, 984, 986, 988, 990, 992, 994, 996, 998, 1000, 1002, 1004, 1006, 1008, 1010, 1012].filterMap (fun i => lw_tbl[i]?) := by decide +kernel
set_option maxRecDepth 100000 in
theorem wG_in : wG = [437, 128, 148, 171, 101, 430, 91, 881, 92, 93].filterMap (fun i => lw_tbl[i]?) := rfl
set_option maxRecDepth 100000 in
theorem wH_in : wH = [86, 94, 96, 123, 142, 425, 431, 876, 433, 124, 144, 167, 97, 426, 87, 877, 122, 166, 476, 1015].filterMap (fun i => lw_tbl[i]?) := by decide +kernel
set_option maxRecDepth 100000 in
theorem wI_in : wI = [860, 861, 862].filterMap (fun i => lw_tbl[i]?) := by decide +kernel
set_option maxRecDepth 100000 in
theorem wJ_in : wJ = [874, 1327, 1328, 198, 214].filterMap (fun i => lw_tbl[i]?) := by decide +kernel
theorem in_of_ix {ws big : List Cond} (ps : List Nat) (h : ws = ps.filterMap (fun i => big[i]?)) : ∀ w ∈ ws, w ∈ big := by
  intro w hw
  rw [h] at hw
  obtain ⟨i, -, hi⟩ := List.mem_filterMap.mp hw
  exact List.mem_of_getElem? hi
theorem WS_in : ∀ w ∈ WS, w ∈ lw_tbl := by
  intro w h
  unfold WS at h
  simp only [List.mem_append] at h
  rcases h with h | h | h | h | h | h | h | h | h | h
  · exact in_of_ix _ wA_in w h
  · exact in_of_ix _ wB_in w h
  · exact in_of_ix _ wC_in w h
  · exact in_of_ix _ wD_in w h
  · exact in_of_ix _ wE_in w h
  · exact in_of_ix _ wF_in w h
  · exact in_of_ix _ wG_in w h
  · exact in_of_ix _ wH_in w h
  · exact in_of_ix _ wI_in w h
  · exact in_of_ix _ wJ_in w h
set_option maxRecDepth 100000 in
theorem WS_good : WS.all goodWord = true := by decide +kernel
theorem WS_goodIn {big : List Cond} (h : ∀ w ∈ WS, w ∈ big) : GoodIn big WS := fun w hw => ⟨h w hw, good_of_word (List.all_eq_true.mp WS_good w hw)⟩
/-- links of nest mates -/
noncomputable def NW : List Cond := (CS.filter (fun q => Nat.ble 3 q.1)).map fun q => Cond.methodLinkNest (cn q.2.1) q.2.2.1 (meN (mt q.2.2.2)) "ListenerIsTired"
set_option maxRecDepth 100000 in
theorem NW_in : NW = [609, 602, 802, 434, 657, 98, 168].filterMap (fun i => lw_tbl[i]?) := by decide +kernel
