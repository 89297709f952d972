theorem tb_r {ws : List Cond} (ps : List Nat) (hp : ws = ps.filterMap (fun i => lw_tbl[i]?)) : ∀ w ∈ ws, w ∈ lw_tbl := by
  intro w hw
  rw [hp] at hw
  obtain ⟨i, -, hi⟩ := List.mem_filterMap.mp hw
  exact List.mem_of_getElem? hi
set_option maxRecDepth 20000 in
theorem tbR1 : ∀ w ∈ wsL_law_r1, w ∈ lw_tbl := tb_r [72, 73, 54, 902, 903, 59, 74, 75, 76, 77, 78, 79, 80, 81, 55, 198, 199, 194, 87, 56, 200, 196, 148, 57] (by decide +kernel)
set_option maxRecDepth 20000 in
theorem tbR2 : ∀ w ∈ wsL_law_r2, w ∈ lw_tbl := tb_r [201, 146, 202, 203, 82, 83, 84, 85, 86, 169, 147, 171, 173, 175, 177, 88, 89, 90, 91, 92, 94, 95, 96, 98] (by decide +kernel)
set_option maxRecDepth 20000 in
theorem tbR3 : ∀ w ∈ wsL_law_r3, w ∈ lw_tbl := tb_r [100, 101, 111, 113, 115, 149, 150, 151, 152, 153, 154, 58, 155, 156, 195, 197, 904, 905, 906, 907, 908, 909, 910, 917] (by decide +kernel)
set_option maxRecDepth 20000 in
theorem tbR4 : ∀ w ∈ wsL_law_r4, w ∈ lw_tbl := tb_r [992, 918, 922, 923, 924, 926, 927, 929, 930, 220, 221, 222, 223, 224, 225, 226, 227, 160, 157, 993, 994, 995, 996, 997] (by decide +kernel)
set_option maxRecDepth 20000 in
theorem tbR5 : ∀ w ∈ wsL_law_r5, w ∈ lw_tbl := tb_r [998, 999, 228, 229, 230, 231, 232, 233, 60, 234, 235, 236, 237, 238, 239, 240, 241, 242, 243, 248, 250, 275, 276, 277] (by decide +kernel)
set_option maxRecDepth 20000 in
theorem tbR6 : ∀ w ∈ wsL_law_r6, w ∈ lw_tbl := tb_r [278, 244, 279, 281, 0, 282, 246, 247, 283, 285, 1, 286, 287, 288, 289, 290, 292, 294, 2, 295, 296, 297, 298, 61] (by decide +kernel)
set_option maxRecDepth 20000 in
theorem tbR7 : ∀ w ∈ wsL_law_r7, w ∈ lw_tbl := tb_r [299, 1303, 300, 301, 302, 303, 304, 1304, 306, 307, 308, 309, 310, 311, 312, 313, 314, 315, 62, 316, 317, 318, 319, 320] (by decide +kernel)
set_option maxRecDepth 20000 in
theorem tbR8 : ∀ w ∈ wsL_law_r8, w ∈ lw_tbl := tb_r [322, 323, 63, 324, 325, 326, 64, 327, 328, 329, 330, 331, 332, 333, 334, 335, 336, 337, 338, 340, 342, 344, 346, 3] (by decide +kernel)
set_option maxRecDepth 20000 in
theorem tbR9 : ∀ w ∈ wsL_law_r9, w ∈ lw_tbl := tb_r [347, 351, 353, 4, 354, 355, 356, 357, 358, 360, 5, 361, 362, 364, 6, 376, 378, 8, 379, 365, 366, 368, 7, 369] (by decide +kernel)
set_option maxRecDepth 20000 in
theorem tbR10 : ∀ w ∈ wsL_law_r10, w ∈ lw_tbl := tb_r [370, 371, 372, 373, 374, 375, 380, 381, 382, 383, 384, 385, 386, 387, 102, 1000, 1001, 1002, 1003, 912, 914, 913, 915, 916] (by decide +kernel)
set_option maxRecDepth 20000 in
theorem tbR11 : ∀ w ∈ wsL_law_r11, w ∈ lw_tbl := tb_r [1004, 1006, 14, 1007, 1008, 1010, 15, 1011, 1013, 1015, 16, 1016, 1017, 1019, 17, 1020, 1021, 1022, 1023, 1025, 18, 1026, 1027, 1029] (by decide +kernel)
set_option maxRecDepth 20000 in
theorem tbR12 : ∀ w ∈ wsL_law_r12, w ∈ lw_tbl := tb_r [19, 1030, 1033, 1035, 20, 1036, 1037, 1039, 21, 1040, 1041, 1043, 22, 1049, 1051, 24, 1052, 1044, 1045, 1047, 23, 1048, 1054, 1056] (by decide +kernel)
set_option maxRecDepth 20000 in
theorem tbR13 : ∀ w ∈ wsL_law_r13, w ∈ lw_tbl := tb_r [25, 1057, 389, 390, 391, 392, 393, 394, 395, 396, 397, 398, 399, 400, 401, 402, 403, 66, 436, 437, 67, 446, 447, 68] (by decide +kernel)
set_option maxRecDepth 20000 in
theorem tbR14 : ∀ w ∈ wsL_law_r14, w ∈ lw_tbl := tb_r [456, 457, 69, 466, 467, 70, 476, 477, 71, 486, 487, 65, 404, 405, 406, 407, 408, 409, 410, 411, 415, 423, 438, 439] (by decide +kernel)
set_option maxRecDepth 20000 in
theorem tbR15 : ∀ w ∈ wsL_law_r15, w ∈ lw_tbl := tb_r [440, 441, 448, 449, 450, 451, 458, 459, 460, 461, 468, 469, 470, 471, 478, 479, 480, 481, 488, 493, 494, 495, 496, 103] (by decide +kernel)
set_option maxRecDepth 20000 in
theorem tbR16 : ∀ w ∈ wsL_law_r16, w ∈ lw_tbl := tb_r [1060, 1061, 1062, 1063, 497, 498, 499, 500, 422, 428, 501, 502, 503, 504, 505, 508, 506, 509, 510, 511, 527, 512, 513, 514] (by decide +kernel)
set_option maxRecDepth 20000 in
theorem tbR17 : ∀ w ∈ wsL_law_r17, w ∈ lw_tbl := tb_r [515, 516, 517, 505, 506, 507, 518, 519, 520, 521, 522, 523, 524, 525, 526, 528, 529, 530, 531, 105, 532, 533, 536, 537] (by decide +kernel)
set_option maxRecDepth 20000 in
theorem tbR18 : ∀ w ∈ wsL_law_r18, w ∈ lw_tbl := tb_r [534, 549, 534, 538, 539, 540, 424, 425, 541, 533, 535, 542, 543, 544, 426, 427, 545, 546, 547, 548, 550, 551, 552, 553] (by decide +kernel)
set_option maxRecDepth 20000 in
theorem tbR19 : ∀ w ∈ wsL_law_r19, w ∈ lw_tbl := tb_r [1064, 1065, 1066, 1067, 1068, 1070, 26, 1071, 1072, 1074, 27, 1075, 1076, 1078, 28, 1079, 554, 555, 556, 557, 1080, 1081, 1082, 1083] (by decide +kernel)
set_option maxRecDepth 20000 in
theorem tbR20 : ∀ w ∈ wsL_law_r20, w ∈ lw_tbl := tb_r [558, 559, 560, 561, 562, 563, 564, 565, 566, 568, 569, 1084, 1085, 1086, 1087, 570, 571, 572, 573, 1088, 1089, 1090, 1091, 574] (by decide +kernel)
set_option maxRecDepth 20000 in
theorem tbR21 : ∀ w ∈ wsL_law_r21, w ∈ lw_tbl := tb_r [575, 576, 577, 578, 579, 580, 581, 1092, 1093, 1094, 1095, 1096, 1098, 29, 1099, 582, 583, 584, 585, 586, 587, 588, 589, 590] (by decide +kernel)
set_option maxRecDepth 20000 in
theorem tbR22 : ∀ w ∈ wsL_law_r22, w ∈ lw_tbl := tb_r [591, 592, 593, 594, 597, 595, 598, 599, 600, 416, 417, 610, 601, 602, 603, 418, 419, 604, 595, 594, 596, 605, 606, 607] (by decide +kernel)
set_option maxRecDepth 20000 in
theorem tbR23 : ∀ w ∈ wsL_law_r23, w ∈ lw_tbl := tb_r [608, 609, 611, 613, 9, 614, 414, 615, 615, 616, 617, 618, 619, 620, 622, 10, 623, 624, 625, 626, 627, 628, 629, 630] (by decide +kernel)
set_option maxRecDepth 20000 in
theorem tbR24 : ∀ w ∈ wsL_law_r24, w ∈ lw_tbl := tb_r [631, 632, 633, 1100, 1101, 1102, 1103, 920, 1104, 1106, 30, 1107, 919, 1108, 1110, 31, 1111, 1112, 1114, 32, 1115, 634, 635, 636] (by decide +kernel)
set_option maxRecDepth 20000 in
theorem tbR25 : ∀ w ∈ wsL_law_r25, w ∈ lw_tbl := tb_r [637, 638, 639, 640, 641, 109, 107, 642, 643, 644, 645, 646, 1116, 1117, 1118, 1119, 1120, 1122, 33, 1123, 921, 1124, 1126, 34] (by decide +kernel)
set_option maxRecDepth 20000 in
theorem tbR26 : ∀ w ∈ wsL_law_r26, w ∈ lw_tbl := tb_r [1127, 1128, 1130, 35, 1131, 1132, 1134, 36, 1135, 647, 648, 649, 650, 651, 652, 653, 654, 655, 656, 657, 658, 1136, 1137, 1138] (by decide +kernel)
set_option maxRecDepth 20000 in
theorem tbR27 : ∀ w ∈ wsL_law_r27, w ∈ lw_tbl := tb_r [1139, 1140, 1142, 37, 1143, 1144, 1146, 38, 1147, 1148, 1150, 39, 1151, 659, 660, 661, 662, 663, 664, 665, 666, 667, 669, 11] (by decide +kernel)
set_option maxRecDepth 20000 in
theorem tbR28 : ∀ w ∈ wsL_law_r28, w ∈ lw_tbl := tb_r [670, 671, 672, 673, 674, 675, 676, 677, 1152, 1153, 1154, 1155, 925, 1156, 1158, 40, 1159, 1160, 1162, 41, 1163, 678, 679, 680] (by decide +kernel)
set_option maxRecDepth 20000 in
theorem tbR29 : ∀ w ∈ wsL_law_r29, w ∈ lw_tbl := tb_r [681, 1164, 1165, 1166, 1167, 682, 683, 684, 685, 1168, 1169, 1170, 1171, 1172, 686, 687, 688, 689, 690, 692, 12, 693, 698, 694] (by decide +kernel)
set_option maxRecDepth 20000 in
theorem tbR30 : ∀ w ∈ wsL_law_r30, w ∈ lw_tbl := tb_r [695, 696, 697, 699, 700, 701, 702, 1173, 1174, 1175, 1176, 928, 1177, 1179, 42, 1180, 1181, 1183, 43, 1184, 703, 704, 705, 706] (by decide +kernel)
set_option maxRecDepth 20000 in
theorem tbR31 : ∀ w ∈ wsL_law_r31, w ∈ lw_tbl := tb_r [707, 708, 709, 710, 1185, 1186, 1187, 1188, 711, 712, 713, 714, 715, 716, 717, 718, 1189, 1190, 1191, 1192, 1193, 1195, 44, 1196] (by decide +kernel)
set_option maxRecDepth 20000 in
theorem tbR32 : ∀ w ∈ wsL_law_r32, w ∈ lw_tbl := tb_r [719, 720, 721, 722, 723, 724, 725, 726, 727, 1197, 1198, 1199, 1200, 1201, 1202, 1203, 728, 729, 730, 731, 1204, 1205, 1206, 1207] (by decide +kernel)
set_option maxRecDepth 20000 in
theorem tbR33 : ∀ w ∈ wsL_law_r33, w ∈ lw_tbl := tb_r [732, 733, 734, 735, 736, 738, 13, 739, 740, 1208, 1209, 1210, 1211, 1212, 1214, 45, 1215, 741, 742, 743, 744, 745, 746, 747] (by decide +kernel)
set_option maxRecDepth 20000 in
theorem tbR34 : ∀ w ∈ wsL_law_r34, w ∈ lw_tbl := tb_r [748, 749, 750, 1216, 1217, 1218, 1219, 1220, 1221, 1222, 1223, 1224, 751, 752, 753, 754, 1225, 1226, 1227, 1228, 755, 756, 757, 758] (by decide +kernel)
set_option maxRecDepth 20000 in
theorem tbR35 : ∀ w ∈ wsL_law_r35, w ∈ lw_tbl := tb_r [759, 1229, 1230, 1231, 1232, 1233, 760, 761, 762, 763, 764, 765, 766, 767, 1234, 1235, 1236, 1237, 1238, 768, 769, 770, 771, 772] (by decide +kernel)
set_option maxRecDepth 20000 in
theorem tbR36 : ∀ w ∈ wsL_law_r36, w ∈ lw_tbl := tb_r [775, 776, 773, 792, 793, 773, 777, 778, 779, 412, 413, 780, 784, 772, 774, 785, 786, 787, 788, 789, 435, 790, 791, 794] (by decide +kernel)
set_option maxRecDepth 20000 in
theorem tbR37 : ∀ w ∈ wsL_law_r37, w ∈ lw_tbl := tb_r [797, 798, 795, 814, 815, 815, 795, 799, 800, 801, 802, 803, 445, 804, 794, 796, 805, 806, 807, 808, 809, 420, 421, 810] (by decide +kernel)
set_option maxRecDepth 20000 in
theorem tbR38 : ∀ w ∈ wsL_law_r38, w ∈ lw_tbl := tb_r [816, 819, 817, 820, 821, 822, 823, 824, 455, 817, 840, 841, 841, 825, 826, 816, 818, 827, 828, 829, 830, 831, 835, 836] (by decide +kernel)
set_option maxRecDepth 20000 in
theorem tbR39 : ∀ w ∈ wsL_law_r39, w ∈ lw_tbl := tb_r [838, 839, 1239, 1240, 1241, 1242, 931, 932, 933, 934, 1243, 1245, 46, 1246, 1247, 1248, 1249, 1250, 1252, 47, 1253, 1254, 1256, 48] (by decide +kernel)
set_option maxRecDepth 20000 in
theorem tbR40 : ∀ w ∈ wsL_law_r40, w ∈ lw_tbl := tb_r [1257, 1258, 1260, 49, 1261, 1262, 1264, 50, 1265, 1266, 1268, 51, 1269, 1270, 1272, 52, 1273, 842, 843, 844, 845, 1274, 1275, 1276] (by decide +kernel)
set_option maxRecDepth 20000 in
theorem tbR41 : ∀ w ∈ wsL_law_r41, w ∈ lw_tbl := tb_r [1277, 846, 847, 848, 849, 850, 853, 851, 854, 855, 856, 857, 851, 878, 858, 859, 860, 861, 1294, 475, 862, 863, 864, 865] (by decide +kernel)
set_option maxRecDepth 20000 in
theorem tbR42 : ∀ w ∈ wsL_law_r42, w ∈ lw_tbl := tb_r [850, 852, 866, 867, 868, 869, 870, 871, 872, 873, 1295, 465, 874, 875, 876, 877, 1296, 485, 1278, 1279, 1280, 1281, 879, 880] (by decide +kernel)
set_option maxRecDepth 20000 in
theorem tbR43 : ∀ w ∈ wsL_law_r43, w ∈ lw_tbl := tb_r [881, 882, 204, 883, 884, 885, 886, 179, 887, 888, 889, 890, 891, 892, 893, 1282, 1283, 1284, 1285, 911, 894, 895, 896, 897] (by decide +kernel)
set_option maxRecDepth 20000 in
theorem tbR44 : ∀ w ∈ wsL_law_r44, w ∈ lw_tbl := tb_r [1286, 1287, 1288, 1289, 898, 899, 900, 901, 1290, 1291, 1292, 1293] (by decide +kernel)
set_option maxRecDepth 20000 in
theorem tbR0 : ∀ w ∈ wsL_law_r0, w ∈ lw_tbl := tb_r [537, 604, 605, 781, 782, 776, 784, 791, 811, 812, 798, 805, 806, 832, 833, 825, 826, 827] (by decide +kernel)
set_option maxRecDepth 20000 in
theorem tbwsX00 : ∀ w ∈ wsX00, w ∈ lw_tbl := tb_r [452, 453, 454] (by decide +kernel)
set_option maxRecDepth 20000 in
theorem tbwsX10 : ∀ w ∈ wsX10, w ∈ lw_tbl := tb_r [252, 254, 256, 258, 260, 262, 264, 266, 268, 270, 272] (by decide +kernel)
set_option maxRecDepth 20000 in
theorem tbwsX20 : ∀ w ∈ wsX20, w ∈ lw_tbl := tb_r [472, 473, 474] (by decide +kernel)
set_option maxRecDepth 20000 in
theorem tbwsX30 : ∀ w ∈ wsX30, w ∈ lw_tbl := tb_r [442, 443, 444] (by decide +kernel)
set_option maxRecDepth 20000 in
theorem tbwsX40 : ∀ w ∈ wsX40, w ∈ lw_tbl := tb_r [489, 490, 491] (by decide +kernel)
set_option maxRecDepth 20000 in
theorem tbwsX50 : ∀ w ∈ wsX50, w ∈ lw_tbl := tb_r [117, 119, 121, 123, 125, 127, 129, 131, 133, 135, 137, 139, 141, 143] (by decide +kernel)
set_option maxRecDepth 20000 in
theorem tbwsX60 : ∀ w ∈ wsX60, w ∈ lw_tbl := tb_r [429, 431, 433] (by decide +kernel)
set_option maxRecDepth 20000 in
theorem tbwsX70 : ∀ w ∈ wsX70, w ∈ lw_tbl := tb_r [162, 164, 166] (by decide +kernel)
set_option maxRecDepth 20000 in
theorem tbwsX80 : ∀ w ∈ wsX80, w ∈ lw_tbl := tb_r [462, 463, 464] (by decide +kernel)
set_option maxRecDepth 20000 in
theorem tbwsX90 : ∀ w ∈ wsX90, w ∈ lw_tbl := tb_r [181, 183, 185, 187, 189, 191] (by decide +kernel)
set_option maxRecDepth 20000 in
theorem tbwsX100 : ∀ w ∈ wsX100, w ∈ lw_tbl := tb_r [482, 483, 484] (by decide +kernel)
set_option maxRecDepth 20000 in
theorem tbwsX110 : ∀ w ∈ wsX110, w ∈ lw_tbl := tb_r [205, 207, 209, 211, 213, 215, 217] (by decide +kernel)
set_option maxRecDepth 20000 in
theorem tbwsX120 : ∀ w ∈ wsX120, w ∈ lw_tbl := tb_r [935, 937, 939, 941, 943, 945, 947, 949, 951, 953, 955, 957, 959, 961, 963, 965, 967, 969, 971, 973, 975, 977, 979, 981, 983, 985, 987, 989] (by decide +kernel)
theorem tb_app {a b : List Cond} (ha : ∀ w ∈ a, w ∈ lw_tbl) (hb : ∀ w ∈ b, w ∈ lw_tbl) : ∀ w ∈ a ++ b, w ∈ lw_tbl := fun w h => (List.mem_append.mp h).elim (ha w) (hb w)
theorem wsL_law_in : ∀ w ∈ wsL_law, w ∈ lw_tbl := (tb_app tbR0 (tb_app (tb_app (tb_app (tb_app (tb_app (tb_app (tb_app (tb_app (tb_app (tb_app (tb_app (tb_app (tb_app (tb_app (tb_app tbR1 (tb_app tbR2 (tb_app tbR3 (tb_app tbR4 (tb_app tbR5 (tb_app tbR6 (tb_app tbR7 (tb_app tbR8 (tb_app tbR9 (tb_app tbR10 (tb_app tbR11 (tb_app tbR12 (tb_app tbR13 (tb_app tbR14 (tb_app tbR15 (tb_app tbR16 (tb_app tbR17 (tb_app tbR18 (tb_app tbR19 (tb_app tbR20 (tb_app tbR21 (tb_app tbR22 (tb_app tbR23 (tb_app tbR24 (tb_app tbR25 (tb_app tbR26 (tb_app tbR27 (tb_app tbR28 (tb_app tbR29 (tb_app tbR30 (tb_app tbR31 (tb_app tbR32 (tb_app tbR33 (tb_app tbR34 (tb_app tbR35 (tb_app tbR36 (tb_app tbR37 (tb_app tbR38 (tb_app tbR39 (tb_app tbR40 (tb_app tbR41 (tb_app tbR42 (tb_app tbR43 tbR44))))))))))))))))))))))))))))))))))))))))))) tbwsX110) tbwsX120) tbwsX90) tbwsX50) tbwsX70) tbwsX10) tbwsX60) tbwsX30) tbwsX00) tbwsX80) tbwsX20) tbwsX100) tbwsX40) (fun w h => absurd h List.not_mem_nil)))
