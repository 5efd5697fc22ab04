set_option maxRecDepth 20000 in
theorem lin1 : GoodIn lw_tbl wsL_law_r1 := goodIn_r _ [80, 81, 65, 748, 749, 70, 82, 83, 84, 85, 86, 87, 88, 89, 66, 253, 194, 95, 67, 254, 255, 196, 197, 68] (by decide +kernel) (by decide +kernel)
set_option maxRecDepth 20000 in
theorem lin2 : GoodIn lw_tbl wsL_law_r2 := goodIn_r _ [256, 157, 257, 258, 252, 259, 229, 260, 231, 69, 91, 92, 93, 156, 158, 94, 162, 96, 97, 98, 99, 110, 100, 114] (by decide +kernel) (by decide +kernel)
set_option maxRecDepth 20000 in
theorem lin3 : GoodIn lw_tbl wsL_law_r3 := goodIn_r _ [122, 128, 131, 102, 103, 104, 105, 106, 118, 125, 134, 195, 199, 200, 201, 202, 204, 206, 210, 211, 233, 234, 235, 242] (by decide +kernel) (by decide +kernel)
set_option maxRecDepth 20000 in
theorem lin4 : GoodIn lw_tbl wsL_law_r4 := goodIn_r _ [750, 751, 752, 753, 762, 763, 764, 766, 770, 778, 779, 780, 781, 782, 783, 787, 788, 789, 790, 791, 793, 754, 756, 22] (by decide +kernel) (by decide +kernel)
set_option maxRecDepth 20000 in
theorem lin5 : GoodIn lw_tbl wsL_law_r5 := goodIn_r _ [757, 767, 768, 769, 758, 760, 23, 761, 765, 281, 282, 283, 284, 160, 159, 859, 860, 861, 862, 863, 771, 864, 865, 866] (by decide +kernel) (by decide +kernel)
set_option maxRecDepth 20000 in
theorem lin6 : GoodIn lw_tbl wsL_law_r6 := goodIn_r _ [285, 286, 287, 288, 867, 868, 869, 870, 289, 290, 291, 292, 165, 167, 163, 293, 294, 295, 296, 168, 164, 166, 172, 169] (by decide +kernel) (by decide +kernel)
set_option maxRecDepth 20000 in
theorem lin7 : GoodIn lw_tbl wsL_law_r7 := goodIn_r _ [297, 298, 300, 0, 301, 161, 170, 171, 302, 304, 1, 305, 306, 308, 2, 309, 310, 312, 3, 313, 314, 315, 316, 324] (by decide +kernel) (by decide +kernel)
set_option maxRecDepth 20000 in
theorem lin8 : GoodIn lw_tbl wsL_law_r8 := goodIn_r _ [326, 4, 327, 328, 329, 330, 71, 331, 1233, 332, 333, 334, 335, 336, 1234, 338, 339, 340, 341, 342, 343, 344, 345, 346] (by decide +kernel) (by decide +kernel)
set_option maxRecDepth 20000 in
theorem lin9 : GoodIn lw_tbl wsL_law_r9 := goodIn_r _ [347, 72, 348, 349, 350, 351, 352, 354, 355, 73, 356, 357, 358, 74, 359, 360, 361, 362, 363, 364, 365, 366, 367, 368] (by decide +kernel) (by decide +kernel)
set_option maxRecDepth 20000 in
theorem lin10 : GoodIn lw_tbl wsL_law_r10 := goodIn_r _ [369, 370, 372, 374, 376, 378, 5, 379, 119, 115, 380, 382, 6, 383, 384, 385, 75, 386, 387, 388, 389, 390, 392, 7] (by decide +kernel) (by decide +kernel)
set_option maxRecDepth 20000 in
theorem lin11 : GoodIn lw_tbl wsL_law_r11 := goodIn_r _ [393, 394, 396, 8, 397, 108, 398, 399, 76, 400, 401, 402, 403, 404, 405, 406, 407, 408, 409, 410, 412, 9, 413, 112] (by decide +kernel) (by decide +kernel)
set_option maxRecDepth 20000 in
theorem lin12 : GoodIn lw_tbl wsL_law_r12 := goodIn_r _ [414, 416, 10, 417, 127, 123, 418, 419, 420, 421, 422, 424, 423, 77, 871, 872, 873, 874, 776, 772, 774, 777, 875, 877] (by decide +kernel) (by decide +kernel)
set_option maxRecDepth 20000 in
theorem lin13 : GoodIn lw_tbl wsL_law_r13 := goodIn_r _ [24, 878, 773, 883, 884, 885, 886, 775, 879, 881, 25, 882, 887, 889, 26, 890, 891, 893, 27, 894, 895, 897, 28, 898] (by decide +kernel) (by decide +kernel)
set_option maxRecDepth 20000 in
theorem lin14 : GoodIn lw_tbl wsL_law_r14 := goodIn_r _ [899, 901, 29, 902, 903, 905, 30, 906, 907, 909, 31, 910, 911, 913, 32, 914, 915, 917, 33, 918, 919, 921, 34, 922] (by decide +kernel) (by decide +kernel)
set_option maxRecDepth 20000 in
theorem lin15 : GoodIn lw_tbl wsL_law_r15 := goodIn_r _ [923, 925, 35, 926, 927, 929, 36, 930, 931, 932, 933, 934, 936, 37, 937, 938, 940, 38, 941, 942, 944, 39, 945, 946] (by decide +kernel) (by decide +kernel)
set_option maxRecDepth 20000 in
theorem lin16 : GoodIn lw_tbl wsL_law_r16 := goodIn_r _ [948, 40, 949, 425, 426, 427, 428, 950, 951, 952, 953, 429, 430, 431, 432, 121, 126, 109, 433, 434, 435, 436, 437, 954] (by decide +kernel) (by decide +kernel)
set_option maxRecDepth 20000 in
theorem lin17 : GoodIn lw_tbl wsL_law_r17 := goodIn_r _ [955, 956, 957, 958, 960, 41, 961, 962, 963, 964, 965, 967, 42, 968, 969, 970, 971, 438, 439, 440, 441, 117, 442, 443] (by decide +kernel) (by decide +kernel)
set_option maxRecDepth 20000 in
theorem lin18 : GoodIn lw_tbl wsL_law_r18 := goodIn_r _ [444, 445, 446, 447, 448, 972, 973, 974, 975, 980, 976, 978, 43, 979, 981, 983, 44, 984, 985, 987, 45, 988, 449, 450] (by decide +kernel) (by decide +kernel)
set_option maxRecDepth 20000 in
theorem lin19 : GoodIn lw_tbl wsL_law_r19 := goodIn_r _ [451, 452, 124, 453, 454, 455, 456, 989, 990, 991, 992, 993, 995, 46, 996, 457, 458, 459, 460, 461, 462, 463, 997, 998] (by decide +kernel) (by decide +kernel)
set_option maxRecDepth 20000 in
theorem lin20 : GoodIn lw_tbl wsL_law_r20 := goodIn_r _ [999, 1000, 1001, 1003, 47, 1004, 464, 465, 466, 467, 113, 468, 1005, 1006, 1007, 1008, 1009, 469, 470, 471, 472, 1010, 1011, 1012] (by decide +kernel) (by decide +kernel)
set_option maxRecDepth 20000 in
theorem lin21 : GoodIn lw_tbl wsL_law_r21 := goodIn_r _ [1013, 1014, 1015, 1016, 1017, 1018, 1020, 48, 1021, 473, 474, 475, 476, 1022, 1023, 1024, 1025, 477, 478, 479, 480, 481, 1026, 1027] (by decide +kernel) (by decide +kernel)
set_option maxRecDepth 20000 in
theorem lin22 : GoodIn lw_tbl wsL_law_r22 := goodIn_r _ [1028, 1029, 482, 483, 484, 485, 1030, 1031, 1032, 1033, 1034, 486, 487, 488, 489, 490, 491, 492, 493, 494, 1035, 1036, 1037, 1038] (by decide +kernel) (by decide +kernel)
set_option maxRecDepth 20000 in
theorem lin23 : GoodIn lw_tbl wsL_law_r23 := goodIn_r _ [495, 496, 497, 498, 203, 205, 207, 499, 500, 501, 502, 212, 503, 505, 11, 506, 107, 208, 120, 111, 507, 116, 508, 510] (by decide +kernel) (by decide +kernel)
set_option maxRecDepth 20000 in
theorem lin24 : GoodIn lw_tbl wsL_law_r24 := goodIn_r _ [12, 511, 522, 523, 78, 524, 512, 513, 514, 515, 516, 517, 519, 13, 520, 521, 525, 527, 14, 528, 529, 530, 531, 532] (by decide +kernel) (by decide +kernel)
set_option maxRecDepth 20000 in
theorem lin25 : GoodIn lw_tbl wsL_law_r25 := goodIn_r _ [1039, 1040, 1041, 1042, 1043, 1044, 1046, 49, 1047, 1048, 1050, 50, 1051, 1052, 1054, 51, 1055, 1056, 1057, 1058, 1059, 533, 534, 535] (by decide +kernel) (by decide +kernel)
set_option maxRecDepth 20000 in
theorem lin26 : GoodIn lw_tbl wsL_law_r26 := goodIn_r _ [536, 537, 538, 539, 540, 1060, 1061, 1062, 1063, 1064, 1066, 52, 1067, 541, 542, 543, 544, 209, 1068, 1069, 1070, 1071, 1072, 1073] (by decide +kernel) (by decide +kernel)
set_option maxRecDepth 20000 in
theorem lin27 : GoodIn lw_tbl wsL_law_r27 := goodIn_r _ [1074, 545, 546, 547, 548, 549, 550, 551, 552, 553, 554, 555, 556, 557, 558, 559, 560, 561, 562, 563, 564, 565, 1075, 1076] (by decide +kernel) (by decide +kernel)
set_option maxRecDepth 20000 in
theorem lin28 : GoodIn lw_tbl wsL_law_r28 := goodIn_r _ [1077, 1078, 1079, 1081, 53, 1082, 1083, 1085, 54, 1086, 566, 567, 568, 569, 570, 571, 79, 572, 573, 574, 575, 1087, 1088, 1089] (by decide +kernel) (by decide +kernel)
set_option maxRecDepth 20000 in
theorem lin29 : GoodIn lw_tbl wsL_law_r29 := goodIn_r _ [1090, 1091, 1092, 1093, 1094, 1096, 55, 1097, 576, 577, 578, 579, 580, 582, 15, 583, 1098, 1099, 1100, 1101, 1102, 1104, 56, 1105] (by decide +kernel) (by decide +kernel)
set_option maxRecDepth 20000 in
theorem lin30 : GoodIn lw_tbl wsL_law_r30 := goodIn_r _ [1106, 1108, 57, 1109, 584, 585, 586, 587, 1110, 1111, 1112, 1113, 588, 589, 590, 591, 1114, 1115, 1116, 1117, 592, 593, 594, 595] (by decide +kernel) (by decide +kernel)
set_option maxRecDepth 20000 in
theorem lin31 : GoodIn lw_tbl wsL_law_r31 := goodIn_r _ [596, 598, 16, 599, 600, 602, 17, 603, 604, 605, 606, 607, 608, 610, 18, 611, 612, 613, 614, 615, 616, 1118, 1119, 1120] (by decide +kernel) (by decide +kernel)
set_option maxRecDepth 20000 in
theorem lin32 : GoodIn lw_tbl wsL_law_r32 := goodIn_r _ [1121, 1122, 1124, 58, 1125, 1126, 1128, 59, 1129, 1130, 1132, 60, 1133, 617, 618, 619, 620, 1134, 1135, 1136, 1137, 621, 622, 623] (by decide +kernel) (by decide +kernel)
set_option maxRecDepth 20000 in
theorem lin33 : GoodIn lw_tbl wsL_law_r33 := goodIn_r _ [624, 625, 1138, 1139, 1140, 1141, 626, 627, 628, 629, 639, 630, 631, 632, 633, 634, 635, 636, 637, 638, 640, 641, 642, 1142] (by decide +kernel) (by decide +kernel)
set_option maxRecDepth 20000 in
theorem lin34 : GoodIn lw_tbl wsL_law_r34 := goodIn_r _ [1143, 1144, 1145, 1146, 1147, 784, 786, 1148, 1150, 61, 1151, 785, 1152, 1153, 1154, 1155, 1156, 1157, 643, 644, 645, 646, 1158, 1159] (by decide +kernel) (by decide +kernel)
set_option maxRecDepth 20000 in
theorem lin35 : GoodIn lw_tbl wsL_law_r35 := goodIn_r _ [1160, 1161, 647, 648, 649, 650, 136, 130, 133, 1162, 1163, 1164, 1165, 651, 652, 653, 654, 1166, 1167, 1168, 1169, 655, 656, 657] (by decide +kernel) (by decide +kernel)
set_option maxRecDepth 20000 in
theorem lin36 : GoodIn lw_tbl wsL_law_r36 := goodIn_r _ [658, 659, 661, 19, 662, 663, 664, 665, 666, 135, 129, 132, 1170, 1171, 1172, 1173, 1174, 1176, 62, 1177, 667, 668, 669, 670] (by decide +kernel) (by decide +kernel)
set_option maxRecDepth 20000 in
theorem lin37 : GoodIn lw_tbl wsL_law_r37 := goodIn_r _ [1178, 1179, 1180, 1181, 671, 672, 673, 674, 1182, 1183, 1184, 1185, 675, 676, 677, 678, 679, 681, 20, 682, 683, 684, 685, 1186] (by decide +kernel) (by decide +kernel)
set_option maxRecDepth 20000 in
theorem lin38 : GoodIn lw_tbl wsL_law_r38 := goodIn_r _ [1187, 1188, 1189, 686, 687, 688, 689, 690, 1190, 1191, 1192, 1193, 1194, 1195, 691, 692, 693, 694, 1196, 1197, 1198, 1199, 1200, 1202] (by decide +kernel) (by decide +kernel)
set_option maxRecDepth 20000 in
theorem lin39 : GoodIn lw_tbl wsL_law_r39 := goodIn_r _ [63, 1203, 695, 696, 697, 698, 1204, 1205, 1206, 1207, 699, 700, 701, 702, 703, 704, 705, 706, 236, 238, 240, 1208, 1209, 1210] (by decide +kernel) (by decide +kernel)
set_option maxRecDepth 20000 in
theorem lin40 : GoodIn lw_tbl wsL_law_r40 := goodIn_r _ [1211, 1212, 1213, 1214, 707, 708, 709, 710, 239, 711, 712, 713, 714, 715, 716, 717, 718, 1215, 1216, 1217, 1218, 719, 720, 721] (by decide +kernel) (by decide +kernel)
set_option maxRecDepth 20000 in
theorem lin41 : GoodIn lw_tbl wsL_law_r41 := goodIn_r _ [722, 261, 723, 724, 725, 726, 727, 728, 729, 730, 731, 1219, 1220, 1221, 1222, 1223, 792, 1224, 732, 733, 734, 735, 1225, 1226] (by decide +kernel) (by decide +kernel)
set_option maxRecDepth 20000 in
theorem lin42 : GoodIn lw_tbl wsL_law_r42 := goodIn_r _ [1227, 1228, 736, 737, 738, 739, 237, 241, 740, 742, 21, 743, 744, 745, 746, 747, 1229, 1230, 1231, 1232] (by decide +kernel) (by decide +kernel)
set_option maxRecDepth 20000 in
theorem lin_wsX50 : GoodIn lw_tbl wsX50 := goodIn_r _ [262, 264, 266, 268, 270, 272, 274, 276, 278] (by decide +kernel) (by decide +kernel)
set_option maxRecDepth 20000 in
theorem lin_wsX60 : GoodIn lw_tbl wsX60 := goodIn_r _ [794, 796, 798, 800, 802, 804, 806, 808, 810, 812, 814, 816, 818, 820, 822, 824, 826, 828, 830, 832, 834, 836, 838, 840, 842, 844, 846, 848, 850, 852, 854, 856] (by decide +kernel) (by decide +kernel)
set_option maxRecDepth 20000 in
theorem lin_wsX20 : GoodIn lw_tbl wsX20 := goodIn_r _ [173, 175, 177, 179, 181, 183, 185, 187, 189, 191] (by decide +kernel) (by decide +kernel)
set_option maxRecDepth 20000 in
theorem lin_wsX00 : GoodIn lw_tbl wsX00 := goodIn_r _ [137, 139, 141, 143, 145, 147, 149, 151, 153] (by decide +kernel) (by decide +kernel)
set_option maxRecDepth 20000 in
theorem lin_wsX10 : GoodIn lw_tbl wsX10 := goodIn_r _ [213, 215, 217, 219, 221, 223, 225] (by decide +kernel) (by decide +kernel)
set_option maxRecDepth 20000 in
theorem lin_wsX40 : GoodIn lw_tbl wsX40 := goodIn_r _ [243, 245, 247, 249] (by decide +kernel) (by decide +kernel)
theorem lin_all : GoodIn lw_tbl wsL_law := goodIn_app (goodIn_app (goodIn_app (goodIn_app (goodIn_app (goodIn_app (goodIn_app (goodIn_app lin1 (goodIn_app lin2 (goodIn_app lin3 (goodIn_app lin4 (goodIn_app lin5 (goodIn_app lin6 (goodIn_app lin7 (goodIn_app lin8 (goodIn_app lin9 (goodIn_app lin10 (goodIn_app lin11 (goodIn_app lin12 (goodIn_app lin13 (goodIn_app lin14 (goodIn_app lin15 (goodIn_app lin16 (goodIn_app lin17 (goodIn_app lin18 (goodIn_app lin19 (goodIn_app lin20 (goodIn_app lin21 (goodIn_app lin22 (goodIn_app lin23 (goodIn_app lin24 (goodIn_app lin25 (goodIn_app lin26 (goodIn_app lin27 (goodIn_app lin28 (goodIn_app lin29 (goodIn_app lin30 (goodIn_app lin31 (goodIn_app lin32 (goodIn_app lin33 (goodIn_app lin34 (goodIn_app lin35 (goodIn_app lin36 (goodIn_app lin37 (goodIn_app lin38 (goodIn_app lin39 (goodIn_app lin40 (goodIn_app lin41 (lin42)))))))))))))))))))))))))))))))))))))))))) lin_wsX50) lin_wsX60) lin_wsX20) lin_wsX00) lin_wsX10) lin_wsX40) (fun _ h => absurd h List.not_mem_nil)
