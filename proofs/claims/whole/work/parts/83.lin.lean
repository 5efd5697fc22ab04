set_option maxRecDepth 20000 in
theorem lin1 : GoodIn lw_tbl wsL_law_r1 := goodIn_p _ [84, 87] (by decide +kernel) (by decide +kernel)
set_option maxRecDepth 20000 in
theorem lin2 : GoodIn lw_tbl wsL_law_r2 := goodIn_p _ [92, 98] (by decide +kernel) (by decide +kernel)
set_option maxRecDepth 20000 in
theorem lin3 : GoodIn lw_tbl wsL_law_r3 := goodIn_p _ [105, 200, 234] (by decide +kernel) (by decide +kernel)
set_option maxRecDepth 20000 in
theorem lin4 : GoodIn lw_tbl wsL_law_r4 := goodIn_p _ [752] (by decide +kernel) (by decide +kernel)
set_option maxRecDepth 20000 in
theorem lin5 : GoodIn lw_tbl wsL_law_r5 := goodIn_p _ [757, 761, 284, 862, 866] (by decide +kernel) (by decide +kernel)
set_option maxRecDepth 20000 in
theorem lin6 : GoodIn lw_tbl wsL_law_r6 := goodIn_p _ [288, 870, 292, 296] (by decide +kernel) (by decide +kernel)
set_option maxRecDepth 20000 in
theorem lin7 : GoodIn lw_tbl wsL_law_r7 := goodIn_p _ [301, 305, 309, 313, 316] (by decide +kernel) (by decide +kernel)
set_option maxRecDepth 20000 in
theorem lin8 : GoodIn lw_tbl wsL_law_r8 := goodIn_p _ [327, 331, 335, 341, 345] (by decide +kernel) (by decide +kernel)
set_option maxRecDepth 20000 in
theorem lin9 : GoodIn lw_tbl wsL_law_r9 := goodIn_p _ [348, 351, 356, 359, 362, 365] (by decide +kernel) (by decide +kernel)
set_option maxRecDepth 20000 in
theorem lin10 : GoodIn lw_tbl wsL_law_r10 := goodIn_p _ [369, 379, 383, 386, 389] (by decide +kernel) (by decide +kernel)
set_option maxRecDepth 20000 in
theorem lin11 : GoodIn lw_tbl wsL_law_r11 := goodIn_p _ [393, 397, 400, 406, 409, 413] (by decide +kernel) (by decide +kernel)
set_option maxRecDepth 20000 in
theorem lin12 : GoodIn lw_tbl wsL_law_r12 := goodIn_p _ [417, 421, 874] (by decide +kernel) (by decide +kernel)
set_option maxRecDepth 20000 in
theorem lin13 : GoodIn lw_tbl wsL_law_r13 := goodIn_p _ [878, 882, 890, 894, 898] (by decide +kernel) (by decide +kernel)
set_option maxRecDepth 20000 in
theorem lin14 : GoodIn lw_tbl wsL_law_r14 := goodIn_p _ [902, 906, 910, 914, 918, 922] (by decide +kernel) (by decide +kernel)
set_option maxRecDepth 20000 in
theorem lin15 : GoodIn lw_tbl wsL_law_r15 := goodIn_p _ [926, 930, 933, 937, 941, 945] (by decide +kernel) (by decide +kernel)
set_option maxRecDepth 20000 in
theorem lin16 : GoodIn lw_tbl wsL_law_r16 := goodIn_p _ [949, 428, 953, 432, 437] (by decide +kernel) (by decide +kernel)
set_option maxRecDepth 20000 in
theorem lin17 : GoodIn lw_tbl wsL_law_r17 := goodIn_p _ [957, 961, 964, 968, 971, 441] (by decide +kernel) (by decide +kernel)
set_option maxRecDepth 20000 in
theorem lin18 : GoodIn lw_tbl wsL_law_r18 := goodIn_p _ [445, 448, 975, 979, 984, 988] (by decide +kernel) (by decide +kernel)
set_option maxRecDepth 20000 in
theorem lin19 : GoodIn lw_tbl wsL_law_r19 := goodIn_p _ [452, 456, 992, 996, 460] (by decide +kernel) (by decide +kernel)
set_option maxRecDepth 20000 in
theorem lin20 : GoodIn lw_tbl wsL_law_r20 := goodIn_p _ [1000, 1004, 467, 1008, 472] (by decide +kernel) (by decide +kernel)
set_option maxRecDepth 20000 in
theorem lin21 : GoodIn lw_tbl wsL_law_r21 := goodIn_p _ [1013, 1016, 1021, 476, 1025, 480] (by decide +kernel) (by decide +kernel)
set_option maxRecDepth 20000 in
theorem lin22 : GoodIn lw_tbl wsL_law_r22 := goodIn_p _ [1029, 485, 1033, 489, 493, 1038] (by decide +kernel) (by decide +kernel)
set_option maxRecDepth 20000 in
theorem lin23 : GoodIn lw_tbl wsL_law_r23 := goodIn_p _ [498, 502, 506] (by decide +kernel) (by decide +kernel)
set_option maxRecDepth 20000 in
theorem lin24 : GoodIn lw_tbl wsL_law_r24 := goodIn_p _ [511, 524, 516, 520, 528, 532] (by decide +kernel) (by decide +kernel)
set_option maxRecDepth 20000 in
theorem lin25 : GoodIn lw_tbl wsL_law_r25 := goodIn_p _ [1042, 1047, 1051, 1055, 1058] (by decide +kernel) (by decide +kernel)
set_option maxRecDepth 20000 in
theorem lin26 : GoodIn lw_tbl wsL_law_r26 := goodIn_p _ [536, 540, 1063, 1067, 544, 1071] (by decide +kernel) (by decide +kernel)
set_option maxRecDepth 20000 in
theorem lin27 : GoodIn lw_tbl wsL_law_r27 := goodIn_p _ [1074, 548, 552, 556, 561, 565] (by decide +kernel) (by decide +kernel)
set_option maxRecDepth 20000 in
theorem lin28 : GoodIn lw_tbl wsL_law_r28 := goodIn_p _ [1078, 1082, 1086, 569, 572] (by decide +kernel) (by decide +kernel)
set_option maxRecDepth 20000 in
theorem lin29 : GoodIn lw_tbl wsL_law_r29 := goodIn_p _ [1090, 1093, 1097, 579, 583, 1101, 1105] (by decide +kernel) (by decide +kernel)
set_option maxRecDepth 20000 in
theorem lin30 : GoodIn lw_tbl wsL_law_r30 := goodIn_p _ [1109, 587, 1113, 591, 1117, 595] (by decide +kernel) (by decide +kernel)
set_option maxRecDepth 20000 in
theorem lin31 : GoodIn lw_tbl wsL_law_r31 := goodIn_p _ [599, 603, 607, 611, 614] (by decide +kernel) (by decide +kernel)
set_option maxRecDepth 20000 in
theorem lin32 : GoodIn lw_tbl wsL_law_r32 := goodIn_p _ [1121, 1125, 1129, 1133, 620, 1137] (by decide +kernel) (by decide +kernel)
set_option maxRecDepth 20000 in
theorem lin33 : GoodIn lw_tbl wsL_law_r33 := goodIn_p _ [624, 1141, 629, 632, 636, 642] (by decide +kernel) (by decide +kernel)
set_option maxRecDepth 20000 in
theorem lin34 : GoodIn lw_tbl wsL_law_r34 := goodIn_p _ [1145, 1151, 1154, 1157, 646] (by decide +kernel) (by decide +kernel)
set_option maxRecDepth 20000 in
theorem lin35 : GoodIn lw_tbl wsL_law_r35 := goodIn_p _ [1161, 650, 1165, 654, 1169] (by decide +kernel) (by decide +kernel)
set_option maxRecDepth 20000 in
theorem lin36 : GoodIn lw_tbl wsL_law_r36 := goodIn_p _ [658, 662, 666, 1173, 1177, 670] (by decide +kernel) (by decide +kernel)
set_option maxRecDepth 20000 in
theorem lin37 : GoodIn lw_tbl wsL_law_r37 := goodIn_p _ [1181, 674, 1185, 678, 682, 685] (by decide +kernel) (by decide +kernel)
set_option maxRecDepth 20000 in
theorem lin38 : GoodIn lw_tbl wsL_law_r38 := goodIn_p _ [1189, 689, 1193, 694, 1199] (by decide +kernel) (by decide +kernel)
set_option maxRecDepth 20000 in
theorem lin39 : GoodIn lw_tbl wsL_law_r39 := goodIn_p _ [1203, 698, 1207, 702, 706] (by decide +kernel) (by decide +kernel)
set_option maxRecDepth 20000 in
theorem lin40 : GoodIn lw_tbl wsL_law_r40 := goodIn_p _ [1211, 1214, 710, 714, 718, 1218] (by decide +kernel) (by decide +kernel)
set_option maxRecDepth 20000 in
theorem lin41 : GoodIn lw_tbl wsL_law_r41 := goodIn_p _ [722, 726, 731, 1222, 735] (by decide +kernel) (by decide +kernel)
set_option maxRecDepth 20000 in
theorem lin42 : GoodIn lw_tbl wsL_law_r42 := goodIn_p _ [1228, 739, 743, 747, 1232] (by decide +kernel) (by decide +kernel)
set_option maxRecDepth 20000 in
theorem lin_wsX50 : GoodIn lw_tbl wsX50 := goodIn_of _ (by decide +kernel)
set_option maxRecDepth 20000 in
theorem lin_wsX60 : GoodIn lw_tbl wsX60 := goodIn_of _ (by decide +kernel)
set_option maxRecDepth 20000 in
theorem lin_wsX20 : GoodIn lw_tbl wsX20 := goodIn_of _ (by decide +kernel)
set_option maxRecDepth 20000 in
theorem lin_wsX00 : GoodIn lw_tbl wsX00 := goodIn_of _ (by decide +kernel)
set_option maxRecDepth 20000 in
theorem lin_wsX10 : GoodIn lw_tbl wsX10 := goodIn_of _ (by decide +kernel)
set_option maxRecDepth 20000 in
theorem lin_wsX40 : GoodIn lw_tbl wsX40 := goodIn_of _ (by decide +kernel)
theorem lin_all : GoodIn lw_tbl wsL_law := goodIn_app (goodIn_app (goodIn_app (goodIn_app (goodIn_app (goodIn_app (goodIn_app (goodIn_app lin1 (goodIn_app lin2 (goodIn_app lin3 (goodIn_app lin4 (goodIn_app lin5 (goodIn_app lin6 (goodIn_app lin7 (goodIn_app lin8 (goodIn_app lin9 (goodIn_app lin10 (goodIn_app lin11 (goodIn_app lin12 (goodIn_app lin13 (goodIn_app lin14 (goodIn_app lin15 (goodIn_app lin16 (goodIn_app lin17 (goodIn_app lin18 (goodIn_app lin19 (goodIn_app lin20 (goodIn_app lin21 (goodIn_app lin22 (goodIn_app lin23 (goodIn_app lin24 (goodIn_app lin25 (goodIn_app lin26 (goodIn_app lin27 (goodIn_app lin28 (goodIn_app lin29 (goodIn_app lin30 (goodIn_app lin31 (goodIn_app lin32 (goodIn_app lin33 (goodIn_app lin34 (goodIn_app lin35 (goodIn_app lin36 (goodIn_app lin37 (goodIn_app lin38 (goodIn_app lin39 (goodIn_app lin40 (goodIn_app lin41 (lin42)))))))))))))))))))))))))))))))))))))))))) lin_wsX50) lin_wsX60) lin_wsX20) lin_wsX00) lin_wsX10) lin_wsX40) (fun _ h => absurd h List.not_mem_nil)
