theorem fl0_11 : plk 0 11 flt = some (false, 0, 3, 1009) := by decide +kernel
theorem fl0_15 : plk 0 15 flt = some (false, 0, 4, 1010) := by decide +kernel
theorem ci0_19 : plk 0 19 ilt = some ((65536 : Int32), 1003) := by decide +kernel
theorem fl0_20 : plk 0 20 flt = some (false, 0, 5, 1011) := by decide +kernel
theorem fl0_23 : plk 0 23 flt = some (false, 0, 6, 1012) := by decide +kernel
theorem fl0_27 : plk 0 27 flt = some (false, 0, 7, 1013) := by decide +kernel
theorem fl0_31 : plk 0 31 flt = some (false, 0, 0, 1006) := by decide +kernel
theorem fl0_35 : plk 0 35 flt = some (false, 0, 1, 1007) := by decide +kernel
theorem mm0_41 : plk 0 41 mlt = some (5, 59, 1005, 687, 0) := by decide +kernel
theorem fl0_44 : plk 0 44 flt = some (false, 0, 2, 1008) := by decide +kernel
theorem fl0_48 : plk 0 48 flt = some (true, 1, 5, 257) := by decide +kernel
theorem mm0_53 : plk 0 53 mlt = some (1, 42, 1054, 556, 26) := by decide +kernel
theorem mm0_59 : plk 0 59 mlt = some (1, 63, 1057, 964, 76) := by decide +kernel
theorem fl0_63 : plk 0 63 flt = some (false, 0, 8, 1014) := by decide +kernel
theorem mm0_66 : plk 0 66 mlt = some (2, 4, 1075, 1076, 0) := by decide +kernel
theorem fl0_70 : plk 0 70 flt = some (true, 6, 2, 694) := by decide +kernel
theorem mm0_73 : plk 0 73 mlt = some (0, 6, 1038, 1040, 81) := by decide +kernel
theorem mm0_77 : plk 0 77 mlt = some (2, 10, 1058, 1059, 0) := by decide +kernel
theorem mm0_81 : plk 0 81 mlt = some (1, 60, 1042, 755, 46) := by decide +kernel
theorem mm0_84 : plk 0 84 mlt = some (1, 40, 1043, 236, 2) := by decide +kernel
theorem mm0_88 : plk 0 88 mlt = some (1, 62, 1044, 760, 47) := by decide +kernel
theorem mm0_92 : plk 0 92 mlt = some (0, 8, 1045, 1047, 82) := by decide +kernel
theorem fl0_95 : plk 0 95 flt = some (true, 1, 3, 247) := by decide +kernel
theorem mm0_98 : plk 0 98 mlt = some (1, 17, 1049, 572, 30) := by decide +kernel
theorem mm0_102 : plk 0 102 mlt = some (0, 7, 1050, 1052, 83) := by decide +kernel
theorem fl0_106 : plk 0 106 flt = some (true, 6, 3, 698) := by decide +kernel
theorem mm0_109 : plk 0 109 mlt = some (1, 41, 1055, 544, 23) := by decide +kernel
theorem fl0_113 : plk 0 113 flt = some (true, 6, 4, 703) := by decide +kernel
theorem mm0_114 : plk 0 114 mlt = some (1, 61, 1056, 783, 52) := by decide +kernel
theorem mm0_118 : plk 0 118 mlt = some (1, 46, 1061, 564, 28) := by decide +kernel
theorem mm0_122 : plk 0 122 mlt = some (1, 45, 1062, 568, 29) := by decide +kernel
theorem mm0_126 : plk 0 126 mlt = some (0, 9, 1063, 1065, 84) := by decide +kernel
theorem mm0_129 : plk 0 129 mlt = some (0, 11, 1067, 1069, 85) := by decide +kernel
theorem mm0_133 : plk 0 133 mlt = some (0, 12, 1071, 1073, 86) := by decide +kernel
theorem mm0_136 : plk 0 136 mlt = some (0, 13, 1078, 1080, 87) := by decide +kernel
theorem fl1_9 : plk 1 9 flt = some (false, 1, 2, 241) := by decide +kernel
theorem fl1_15 : plk 1 15 flt = some (false, 1, 3, 242) := by decide +kernel
theorem fl1_18 : plk 1 18 flt = some (false, 1, 4, 250) := by decide +kernel
theorem fl1_22 : plk 1 22 flt = some (false, 1, 5, 254) := by decide +kernel
theorem fl1_25 : plk 1 25 flt = some (false, 1, 6, 260) := by decide +kernel
theorem fl1_28 : plk 1 28 flt = some (false, 1, 0, 238) := by decide +kernel
theorem mm1_32 : plk 1 32 mlt = some (0, 15, 230, 232, 1) := by decide +kernel
theorem fl1_35 : plk 1 35 flt = some (false, 1, 1, 239) := by decide +kernel
theorem mm1_39 : plk 1 39 mlt = some (1, 40, 234, 236, 2) := by decide +kernel
theorem mm1_45 : plk 1 45 mlt = some (1, 41, 542, 544, 23) := by decide +kernel
theorem mm1_49 : plk 1 49 mlt = some (1, 43, 546, 548, 24) := by decide +kernel
theorem mm1_53 : plk 1 53 mlt = some (0, 19, 550, 552, 25) := by decide +kernel
theorem mm1_56 : plk 1 56 mlt = some (1, 42, 554, 556, 26) := by decide +kernel
theorem mm1_60 : plk 1 60 mlt = some (0, 20, 558, 560, 27) := by decide +kernel
theorem mm1_64 : plk 1 64 mlt = some (0, 17, 570, 572, 30) := by decide +kernel
theorem mm1_68 : plk 1 68 mlt = some (1, 46, 562, 564, 28) := by decide +kernel
theorem mm1_72 : plk 1 72 mlt = some (1, 45, 566, 568, 29) := by decide +kernel
theorem fl2_9 : plk 2 9 flt = some (false, 2, 3, 724) := by decide +kernel
theorem fl2_15 : plk 2 15 flt = some (false, 2, 4, 725) := by decide +kernel
theorem fl2_18 : plk 2 18 flt = some (false, 2, 5, 726) := by decide +kernel
theorem fl2_22 : plk 2 22 flt = some (false, 2, 8, 729) := by decide +kernel
theorem fl2_26 : plk 2 26 flt = some (false, 2, 0, 721) := by decide +kernel
theorem fl2_30 : plk 2 30 flt = some (false, 2, 1, 722) := by decide +kernel
theorem mm2_36 : plk 2 36 mlt = some (5, 59, 686, 687, 0) := by decide +kernel
theorem fl2_39 : plk 2 39 flt = some (false, 2, 2, 723) := by decide +kernel
theorem mm2_43 : plk 2 43 mlt = some (0, 27, 846, 848, 63) := by decide +kernel
theorem fl2_47 : plk 2 47 flt = some (false, 2, 6, 727) := by decide +kernel
theorem mm2_50 : plk 2 50 mlt = some (0, 26, 866, 868, 66) := by decide +kernel
theorem fl2_54 : plk 2 54 flt = some (false, 2, 7, 728) := by decide +kernel
theorem mm2_57 : plk 2 57 mlt = some (1, 60, 753, 755, 46) := by decide +kernel
theorem mm2_60 : plk 2 60 mlt = some (1, 40, 850, 236, 2) := by decide +kernel
theorem mm2_66 : plk 2 66 mlt = some (1, 64, 851, 778, 51) := by decide +kernel
theorem fl2_70 : plk 2 70 flt = some (true, 6, 2, 695) := by decide +kernel
theorem fl2_73 : plk 2 73 flt = some (true, 6, 4, 702) := by decide +kernel
theorem mm2_76 : plk 2 76 mlt = some (0, 28, 852, 854, 64) := by decide +kernel
theorem fl2_79 : plk 2 79 flt = some (true, 3, 0, 173) := by decide +kernel
theorem mm2_80 : plk 2 80 mlt = some (1, 61, 781, 783, 52) := by decide +kernel
theorem fl2_84 : plk 2 84 flt = some (true, 6, 3, 699) := by decide +kernel
theorem mm2_87 : plk 2 87 mlt = some (1, 42, 757, 556, 26) := by decide +kernel
theorem mm2_91 : plk 2 91 mlt = some (1, 41, 789, 544, 23) := by decide +kernel
theorem mm2_95 : plk 2 95 mlt = some (1, 46, 856, 564, 28) := by decide +kernel
theorem mm2_99 : plk 2 99 mlt = some (1, 45, 857, 568, 29) := by decide +kernel
theorem fl2_103 : plk 2 103 flt = some (true, 1, 5, 258) := by decide +kernel
theorem fl2_108 : plk 2 108 flt = some (true, 1, 3, 248) := by decide +kernel
theorem mm2_109 : plk 2 109 mlt = some (1, 62, 758, 760, 47) := by decide +kernel
theorem mm2_113 : plk 2 113 mlt = some (0, 30, 785, 787, 53) := by decide +kernel
theorem fl3_9 : plk 3 9 flt = some (false, 3, 1, 175) := by decide +kernel
theorem fl3_15 : plk 3 15 flt = some (false, 3, 2, 177) := by decide +kernel
theorem fl3_18 : plk 3 18 flt = some (false, 3, 0, 169) := by decide +kernel
theorem mm3_22 : plk 3 22 mlt = some (2, 32, 159, 160, 0) := by decide +kernel
theorem mm3_26 : plk 3 26 mlt = some (0, 34, 162, 164, 0) := by decide +kernel
theorem mm3_30 : plk 3 30 mlt = some (2, 35, 166, 167, 0) := by decide +kernel
theorem fl4_9 : plk 4 9 flt = some (false, 4, 2, 329) := by decide +kernel
theorem fl4_15 : plk 4 15 flt = some (false, 4, 3, 330) := by decide +kernel
theorem fl4_19 : plk 4 19 flt = some (false, 4, 0, 327) := by decide +kernel
theorem fl4_23 : plk 4 23 flt = some (false, 4, 1, 328) := by decide +kernel
theorem fl4_27 : plk 4 27 flt = some (true, 1, 3, 244) := by decide +kernel
theorem fl4_32 : plk 4 32 flt = some (true, 1, 5, 256) := by decide +kernel
theorem mm4_35 : plk 4 35 mlt = some (1, 42, 981, 556, 26) := by decide +kernel
theorem mm4_41 : plk 4 41 mlt = some (2, 49, 982, 983, 0) := by decide +kernel
theorem mm4_45 : plk 4 45 mlt = some (2, 50, 987, 988, 0) := by decide +kernel
theorem mm4_49 : plk 4 49 mlt = some (1, 17, 985, 572, 30) := by decide +kernel
theorem mm4_52 : plk 4 52 mlt = some (1, 41, 986, 544, 23) := by decide +kernel
theorem fl5_9 : plk 5 9 flt = some (false, 5, 2, 310) := by decide +kernel
theorem fl5_15 : plk 5 15 flt = some (false, 5, 3, 311) := by decide +kernel
theorem fl5_18 : plk 5 18 flt = some (false, 5, 0, 308) := by decide +kernel
theorem fl5_22 : plk 5 22 flt = some (false, 5, 1, 309) := by decide +kernel
theorem fl5_26 : plk 5 26 flt = some (true, 1, 3, 243) := by decide +kernel
theorem mm5_32 : plk 5 32 mlt = some (1, 17, 613, 572, 30) := by decide +kernel
theorem mm5_36 : plk 5 36 mlt = some (1, 39, 614, 616, 36) := by decide +kernel
theorem mm5_42 : plk 5 42 mlt = some (1, 38, 605, 607, 34) := by decide +kernel
theorem mm5_45 : plk 5 45 mlt = some (0, 52, 609, 611, 35) := by decide +kernel
theorem fl5_49 : plk 5 49 flt = some (true, 3, 0, 172) := by decide +kernel
theorem mm5_53 : plk 5 53 mlt = some (0, 57, 882, 884, 69) := by decide +kernel
theorem mm5_57 : plk 5 57 mlt = some (0, 58, 887, 889, 70) := by decide +kernel
theorem mm5_60 : plk 5 60 mlt = some (1, 43, 886, 548, 24) := by decide +kernel
theorem cL5_64 : plk 5 64 llt = some ((1000000000000 : Int64), 891) := by decide +kernel
theorem cL5_66 : plk 5 66 llt = some ((-1000000000000 : Int64), 892) := by decide +kernel
theorem fl6_9 : plk 6 9 flt = some (false, 6, 2, 692) := by decide +kernel
theorem fl6_15 : plk 6 15 flt = some (false, 6, 0, 690) := by decide +kernel
theorem fl6_19 : plk 6 19 flt = some (false, 6, 1, 691) := by decide +kernel
theorem fl6_22 : plk 6 22 flt = some (false, 6, 3, 696) := by decide +kernel
theorem fl6_26 : plk 6 26 flt = some (false, 6, 4, 700) := by decide +kernel
theorem fl6_30 : plk 6 30 flt = some (false, 6, 5, 704) := by decide +kernel
theorem fl6_33 : plk 6 33 flt = some (false, 6, 6, 705) := by decide +kernel
theorem mm6_36 : plk 6 36 mlt = some (0, 66, 762, 764, 48) := by decide +kernel
theorem mm6_40 : plk 6 40 mlt = some (0, 65, 771, 773, 50) := by decide +kernel
theorem mm6_44 : plk 6 44 mlt = some (0, 64, 776, 778, 51) := by decide +kernel
theorem mm6_48 : plk 6 48 mlt = some (1, 42, 780, 556, 26) := by decide +kernel
theorem mm6_54 : plk 6 54 mlt = some (0, 67, 766, 768, 49) := by decide +kernel
theorem mm6_57 : plk 6 57 mlt = some (1, 43, 775, 548, 24) := by decide +kernel
theorem fl6_61 : plk 6 61 flt = some (true, 3, 0, 174) := by decide +kernel
theorem cL6_62 : plk 6 62 llt = some ((-7046029254386353131 : Int64), 770) := by decide +kernel
theorem fl7_11 : plk 7 11 flt = some (false, 7, 3, 907) := by decide +kernel
theorem fl7_15 : plk 7 15 flt = some (false, 7, 4, 908) := by decide +kernel
theorem fl7_18 : plk 7 18 flt = some (false, 7, 5, 909) := by decide +kernel
theorem fl7_22 : plk 7 22 flt = some (false, 7, 0, 904) := by decide +kernel
theorem fl7_26 : plk 7 26 flt = some (false, 7, 1, 905) := by decide +kernel
theorem mm7_32 : plk 7 32 mlt = some (5, 59, 903, 687, 0) := by decide +kernel
theorem fl7_35 : plk 7 35 flt = some (false, 7, 2, 906) := by decide +kernel
theorem mm7_39 : plk 7 39 mlt = some (0, 72, 939, 941, 72) := by decide +kernel
theorem fl7_43 : plk 7 43 flt = some (false, 7, 6, 910) := by decide +kernel
theorem mm7_47 : plk 7 47 mlt = some (0, 71, 966, 968, 77) := by decide +kernel
theorem fl7_50 : plk 7 50 flt = some (false, 7, 7, 911) := by decide +kernel
theorem fl7_53 : plk 7 53 flt = some (false, 7, 8, 912) := by decide +kernel
theorem fl7_56 : plk 7 56 flt = some (false, 7, 9, 913) := by decide +kernel
theorem fl7_59 : plk 7 59 flt = some (true, 6, 2, 693) := by decide +kernel
theorem fl7_62 : plk 7 62 flt = some (true, 6, 4, 701) := by decide +kernel
theorem mm7_72 : plk 7 72 mlt = some (1, 60, 943, 755, 46) := by decide +kernel
theorem fl7_75 : plk 7 75 flt = some (true, 1, 4, 251) := by decide +kernel
theorem mm7_80 : plk 7 80 mlt = some (1, 42, 944, 556, 26) := by decide +kernel
theorem fl7_86 : plk 7 86 flt = some (true, 1, 3, 246) := by decide +kernel
theorem mm7_87 : plk 7 87 mlt = some (1, 62, 945, 760, 47) := by decide +kernel
theorem fl7_91 : plk 7 91 flt = some (true, 3, 0, 171) := by decide +kernel
theorem mm7_92 : plk 7 92 mlt = some (1, 38, 946, 607, 34) := by decide +kernel
theorem mm7_96 : plk 7 96 mlt = some (1, 17, 947, 572, 30) := by decide +kernel
theorem mm7_99 : plk 7 99 mlt = some (1, 39, 948, 616, 36) := by decide +kernel
theorem mm7_102 : plk 7 102 mlt = some (0, 73, 949, 951, 73) := by decide +kernel
theorem mm7_106 : plk 7 106 mlt = some (0, 74, 953, 955, 74) := by decide +kernel
theorem mm7_109 : plk 7 109 mlt = some (1, 41, 957, 544, 23) := by decide +kernel
theorem mm7_112 : plk 7 112 mlt = some (0, 75, 958, 960, 75) := by decide +kernel
theorem mm7_116 : plk 7 116 mlt = some (1, 63, 962, 964, 76) := by decide +kernel
theorem fl7_120 : plk 7 120 flt = some (true, 3, 2, 179) := by decide +kernel
theorem fl7_123 : plk 7 123 flt = some (true, 6, 3, 697) := by decide +kernel
theorem fl8_9 : plk 8 9 flt = some (false, 8, 0, 194) := by decide +kernel
theorem fl8_15 : plk 8 15 flt = some (false, 8, 1, 195) := by decide +kernel
theorem fl8_19 : plk 8 19 flt = some (false, 8, 4, 199) := by decide +kernel
theorem fl8_22 : plk 8 22 flt = some (false, 8, 6, 203) := by decide +kernel
theorem fl8_25 : plk 8 25 flt = some (false, 8, 7, 205) := by decide +kernel
theorem cL8_29 : plk 8 29 llt = some ((255 : Int64), 382) := by decide +kernel
theorem mm8_31 : plk 8 31 mlt = some (0, 79, 391, 393, 5) := by decide +kernel
theorem fl8_34 : plk 8 34 flt = some (false, 8, 3, 198) := by decide +kernel
theorem mm8_37 : plk 8 37 mlt = some (0, 87, 395, 397, 6) := by decide +kernel
theorem fl8_41 : plk 8 41 flt = some (false, 8, 2, 197) := by decide +kernel
theorem mm8_44 : plk 8 44 mlt = some (0, 88, 399, 401, 7) := by decide +kernel
theorem mm8_48 : plk 8 48 mlt = some (0, 80, 403, 405, 8) := by decide +kernel
theorem mm8_52 : plk 8 52 mlt = some (0, 81, 472, 474, 13) := by decide +kernel
theorem fl8_55 : plk 8 55 flt = some (false, 8, 5, 202) := by decide +kernel
theorem mm8_60 : plk 8 60 mlt = some (0, 86, 408, 410, 9) := by decide +kernel
theorem mm8_64 : plk 8 64 mlt = some (0, 89, 460, 462, 10) := by decide +kernel
theorem mm8_68 : plk 8 68 mlt = some (0, 84, 464, 466, 11) := by decide +kernel
theorem mm8_72 : plk 8 72 mlt = some (0, 85, 468, 470, 12) := by decide +kernel
theorem mm8_75 : plk 8 75 mlt = some (0, 83, 476, 478, 14) := by decide +kernel
theorem mm8_78 : plk 8 78 mlt = some (0, 82, 481, 483, 15) := by decide +kernel
theorem fl9_9 : plk 9 9 flt = some (false, 9, 2, 285) := by decide +kernel
theorem fl9_15 : plk 9 15 flt = some (false, 9, 3, 286) := by decide +kernel
theorem fl9_18 : plk 9 18 flt = some (false, 9, 4, 287) := by decide +kernel
theorem fl9_22 : plk 9 22 flt = some (false, 9, 5, 288) := by decide +kernel
theorem fl9_25 : plk 9 25 flt = some (false, 9, 0, 283) := by decide +kernel
theorem fl9_29 : plk 9 29 flt = some (false, 9, 1, 284) := by decide +kernel
theorem fl9_33 : plk 9 33 flt = some (true, 1, 5, 255) := by decide +kernel
theorem mm9_38 : plk 9 38 mlt = some (1, 42, 626, 556, 26) := by decide +kernel
theorem fl9_44 : plk 9 44 flt = some (true, 1, 3, 245) := by decide +kernel
theorem mm9_47 : plk 9 47 mlt = some (1, 17, 627, 572, 30) := by decide +kernel
theorem mm9_51 : plk 9 51 mlt = some (1, 41, 628, 544, 23) := by decide +kernel
theorem mm9_55 : plk 9 55 mlt = some (0, 101, 629, 631, 38) := by decide +kernel
theorem mm9_59 : plk 9 59 mlt = some (0, 102, 634, 636, 39) := by decide +kernel
theorem mm9_63 : plk 9 63 mlt = some (0, 99, 818, 820, 58) := by decide +kernel
theorem mm9_66 : plk 9 66 mlt = some (0, 100, 834, 836, 61) := by decide +kernel
theorem fl9_69 : plk 9 69 flt = some (true, 1, 4, 252) := by decide +kernel
theorem mm9_72 : plk 9 72 mlt = some (1, 46, 655, 564, 28) := by decide +kernel
theorem mm9_75 : plk 9 75 mlt = some (1, 45, 656, 568, 29) := by decide +kernel
theorem mm9_79 : plk 9 79 mlt = some (1, 40, 665, 236, 2) := by decide +kernel
theorem mm9_83 : plk 9 83 mlt = some (0, 98, 666, 668, 43) := by decide +kernel
theorem mm9_87 : plk 9 87 mlt = some (1, 20, 633, 560, 27) := by decide +kernel
theorem mm9_91 : plk 9 91 mlt = some (1, 18, 638, 540, 22) := by decide +kernel
theorem mm10_11 : plk 10 11 mlt = some (5, 31, 155, 156, 0) := by decide +kernel
theorem fl10_12 : plk 10 12 flt = some (false, 10, 0, 340) := by decide +kernel
theorem mm10_18 : plk 10 18 mlt = some (5, 76, 190, 191, 0) := by decide +kernel
theorem fl10_19 : plk 10 19 flt = some (false, 10, 1, 341) := by decide +kernel
theorem mm10_25 : plk 10 25 mlt = some (5, 14, 226, 227, 0) := by decide +kernel
theorem fl10_28 : plk 10 28 flt = some (false, 10, 2, 342) := by decide +kernel
theorem mm10_34 : plk 10 34 mlt = some (5, 90, 279, 280, 0) := by decide +kernel
theorem fl10_37 : plk 10 37 flt = some (false, 10, 3, 343) := by decide +kernel
theorem mm10_43 : plk 10 43 mlt = some (5, 51, 304, 305, 0) := by decide +kernel
theorem fl10_44 : plk 10 44 flt = some (false, 10, 4, 344) := by decide +kernel
theorem mm10_50 : plk 10 50 mlt = some (5, 47, 323, 324, 0) := by decide +kernel
theorem fl10_51 : plk 10 51 flt = some (false, 10, 5, 345) := by decide +kernel
theorem fl10_55 : plk 10 55 flt = some (false, 10, 6, 346) := by decide +kernel
theorem fl10_59 : plk 10 59 flt = some (false, 10, 7, 347) := by decide +kernel
theorem fl10_63 : plk 10 63 flt = some (false, 10, 8, 348) := by decide +kernel
theorem fl10_67 : plk 10 67 flt = some (false, 10, 9, 349) := by decide +kernel
theorem fl10_71 : plk 10 71 flt = some (false, 10, 10, 350) := by decide +kernel
theorem mm10_75 : plk 10 75 mlt = some (1, 77, 378, 380, 3) := by decide +kernel
theorem mm10_79 : plk 10 79 mlt = some (1, 78, 387, 389, 4) := by decide +kernel
theorem fl10_83 : plk 10 83 flt = some (true, 8, 5, 201) := by decide +kernel
theorem fl10_86 : plk 10 86 flt = some (true, 8, 6, 204) := by decide +kernel
theorem mm10_89 : plk 10 89 mlt = some (1, 33, 485, 487, 16) := by decide +kernel
theorem mm10_93 : plk 10 93 mlt = some (1, 15, 489, 232, 1) := by decide +kernel
theorem mm10_96 : plk 10 96 mlt = some (0, 106, 490, 492, 17) := by decide +kernel
theorem fl10_99 : plk 10 99 flt = some (true, 3, 0, 170) := by decide +kernel
theorem mm10_100 : plk 10 100 mlt = some (1, 22, 494, 496, 18) := by decide +kernel
theorem mm10_105 : plk 10 105 mlt = some (1, 69, 499, 501, 19) := by decide +kernel
theorem mm10_108 : plk 10 108 mlt = some (1, 1, 504, 506, 20) := by decide +kernel
theorem fl10_111 : plk 10 111 flt = some (true, 8, 4, 200) := by decide +kernel
theorem mm10_114 : plk 10 114 mlt = some (1, 36, 518, 520, 21) := by decide +kernel
theorem fl10_118 : plk 10 118 flt = some (true, 3, 1, 176) := by decide +kernel
theorem fl10_119 : plk 10 119 flt = some (true, 3, 2, 178) := by decide +kernel
theorem fl10_122 : plk 10 122 flt = some (true, 1, 1, 240) := by decide +kernel
theorem fl10_123 : plk 10 123 flt = some (true, 8, 1, 196) := by decide +kernel
theorem mm10_126 : plk 10 126 mlt = some (1, 18, 538, 540, 22) := by decide +kernel
theorem mm10_130 : plk 10 130 mlt = some (1, 16, 578, 580, 31) := by decide +kernel
theorem fl10_131 : plk 10 131 flt = some (true, 1, 3, 249) := by decide +kernel
theorem mm10_134 : plk 10 134 mlt = some (1, 17, 586, 572, 30) := by decide +kernel
theorem fl10_138 : plk 10 138 flt = some (true, 1, 4, 253) := by decide +kernel
theorem fl10_142 : plk 10 142 flt = some (true, 1, 5, 259) := by decide +kernel
theorem mm10_145 : plk 10 145 mlt = some (1, 44, 591, 593, 32) := by decide +kernel
theorem cL10_149 : plk 10 149 llt = some ((-1001 : Int64), 599) := by decide +kernel
theorem cL10_151 : plk 10 151 llt = some ((-1002 : Int64), 600) := by decide +kernel
theorem mm10_153 : plk 10 153 mlt = some (1, 53, 601, 603, 33) := by decide +kernel
theorem mm10_157 : plk 10 157 mlt = some (1, 91, 622, 624, 37) := by decide +kernel
theorem mm10_160 : plk 10 160 mlt = some (1, 92, 643, 645, 40) := by decide +kernel
theorem mm10_164 : plk 10 164 mlt = some (1, 96, 651, 653, 41) := by decide +kernel
theorem mm10_168 : plk 10 168 mlt = some (1, 97, 661, 663, 42) := by decide +kernel
theorem cL10_171 : plk 10 171 llt = some ((-1005 : Int64), 674) := by decide +kernel
theorem mm10_173 : plk 10 173 mlt = some (0, 128, 675, 677, 44) := by decide +kernel
theorem mm10_177 : plk 10 177 mlt = some (1, 29, 749, 751, 45) := by decide +kernel
theorem mm10_181 : plk 10 181 mlt = some (1, 55, 794, 796, 54) := by decide +kernel
theorem mm10_184 : plk 10 184 mlt = some (1, 54, 802, 804, 55) := by decide +kernel
theorem mm10_187 : plk 10 187 mlt = some (1, 37, 810, 812, 56) := by decide +kernel
theorem mm10_190 : plk 10 190 mlt = some (1, 93, 814, 816, 57) := by decide +kernel
theorem mm10_193 : plk 10 193 mlt = some (1, 94, 822, 824, 59) := by decide +kernel
theorem mm10_196 : plk 10 196 mlt = some (1, 95, 830, 832, 60) := by decide +kernel
theorem mm10_200 : plk 10 200 mlt = some (1, 23, 842, 844, 62) := by decide +kernel
theorem mm10_203 : plk 10 203 mlt = some (1, 24, 862, 864, 65) := by decide +kernel
theorem mm10_206 : plk 10 206 mlt = some (1, 25, 870, 872, 67) := by decide +kernel
theorem mm10_209 : plk 10 209 mlt = some (5, 21, 680, 681, 0) := by decide +kernel
theorem mm10_210 : plk 10 210 mlt = some (1, 56, 878, 880, 68) := by decide +kernel
theorem mm10_213 : plk 10 213 mlt = some (5, 68, 898, 899, 0) := by decide +kernel
theorem mm10_214 : plk 10 214 mlt = some (1, 70, 935, 937, 71) := by decide +kernel
theorem mm10_217 : plk 10 217 mlt = some (1, 48, 977, 979, 78) := by decide +kernel
theorem mm10_220 : plk 10 220 mlt = some (0, 135, 994, 996, 79) := by decide +kernel
theorem mm10_224 : plk 10 224 mlt = some (1, 5, 1034, 1036, 80) := by decide +kernel
theorem mm10_228 : plk 10 228 mlt = some (1, 2, 1082, 1084, 88) := by decide +kernel
theorem mm10_230 : plk 10 230 mlt = some (1, 3, 1094, 1096, 89) := by decide +kernel
theorem mm10_233 : plk 10 233 mlt = some (5, 0, 999, 1000, 0) := by decide +kernel
theorem fl11_7 : plk 11 7 flt = some (false, 11, 0, 1109) := by decide +kernel
theorem fl11_13 : plk 11 13 flt = some (false, 11, 1, 1110) := by decide +kernel
theorem fl11_17 : plk 11 17 flt = some (false, 11, 2, 1111) := by decide +kernel
theorem fl11_20 : plk 11 20 flt = some (false, 11, 3, 1112) := by decide +kernel
theorem fl11_23 : plk 11 23 flt = some (false, 11, 4, 1113) := by decide +kernel
theorem fl11_26 : plk 11 26 flt = some (false, 11, 6, 1115) := by decide +kernel
theorem fl11_29 : plk 11 29 flt = some (false, 11, 11, 1120) := by decide +kernel
theorem fl11_33 : plk 11 33 flt = some (false, 11, 13, 1122) := by decide +kernel
theorem fl11_37 : plk 11 37 flt = some (false, 11, 14, 1123) := by decide +kernel
theorem fl11_40 : plk 11 40 flt = some (false, 11, 17, 1126) := by decide +kernel
theorem fl11_43 : plk 11 43 flt = some (false, 11, 18, 1127) := by decide +kernel
theorem fl11_46 : plk 11 46 flt = some (false, 11, 20, 1129) := by decide +kernel
theorem ci11_49 : plk 11 49 ilt = some ((50000 : Int32), 1104) := by decide +kernel
theorem fl11_50 : plk 11 50 flt = some (false, 11, 21, 1130) := by decide +kernel
theorem fl11_53 : plk 11 53 flt = some (false, 11, 22, 1131) := by decide +kernel
theorem fl11_56 : plk 11 56 flt = some (false, 11, 23, 1132) := by decide +kernel
theorem fl11_59 : plk 11 59 flt = some (false, 11, 24, 1133) := by decide +kernel
theorem fl11_62 : plk 11 62 flt = some (false, 11, 25, 1134) := by decide +kernel
theorem fl11_65 : plk 11 65 flt = some (false, 11, 26, 1135) := by decide +kernel
theorem fl11_68 : plk 11 68 flt = some (false, 11, 28, 1137) := by decide +kernel
theorem fl11_71 : plk 11 71 flt = some (false, 11, 29, 1138) := by decide +kernel
theorem fl11_74 : plk 11 74 flt = some (false, 11, 30, 1139) := by decide +kernel
theorem fl11_77 : plk 11 77 flt = some (false, 11, 32, 1141) := by decide +kernel
theorem fl11_80 : plk 11 80 flt = some (false, 11, 33, 1142) := by decide +kernel
theorem fl11_83 : plk 11 83 flt = some (false, 11, 34, 1143) := by decide +kernel
theorem fl11_86 : plk 11 86 flt = some (false, 11, 35, 1144) := by decide +kernel
theorem fl11_89 : plk 11 89 flt = some (false, 11, 36, 1145) := by decide +kernel
theorem fl11_92 : plk 11 92 flt = some (false, 11, 37, 1146) := by decide +kernel
theorem fl11_95 : plk 11 95 flt = some (false, 11, 38, 1147) := by decide +kernel
theorem fl11_98 : plk 11 98 flt = some (false, 11, 39, 1148) := by decide +kernel
theorem fl11_101 : plk 11 101 flt = some (false, 11, 40, 1149) := by decide +kernel
theorem mm11_104 : plk 11 104 mlt = some (0, 138, 1105, 1107, 90) := by decide +kernel
theorem fl11_108 : plk 11 108 flt = some (false, 11, 16, 1125) := by decide +kernel
theorem fl11_111 : plk 11 111 flt = some (false, 11, 19, 1128) := by decide +kernel
theorem cL11_114 : plk 11 114 llt = some ((8 : Int64), 1237) := by decide +kernel
theorem mm11_116 : plk 11 116 mlt = some (2, 137, 1238, 1239, 0) := by decide +kernel
theorem fl11_120 : plk 11 120 flt = some (false, 11, 5, 1114) := by decide +kernel
theorem cL11_123 : plk 11 123 llt = some ((255 : Int64), 1241) := by decide +kernel
theorem fl11_125 : plk 11 125 flt = some (false, 11, 7, 1116) := by decide +kernel
theorem mm11_128 : plk 11 128 mlt = some (0, 140, 1246, 1248, 91) := by decide +kernel
theorem fl11_132 : plk 11 132 flt = some (false, 11, 8, 1117) := by decide +kernel
theorem fl11_136 : plk 11 136 flt = some (false, 11, 9, 1118) := by decide +kernel
theorem cL11_139 : plk 11 139 llt = some ((97 : Int64), 1254) := by decide +kernel
theorem cL11_141 : plk 11 141 llt = some ((122 : Int64), 1255) := by decide +kernel
theorem cL11_143 : plk 11 143 llt = some ((20000000000 : Int64), 1260) := by decide +kernel
theorem cL11_145 : plk 11 145 llt = some ((40000000000 : Int64), 1261) := by decide +kernel
theorem cL11_147 : plk 11 147 llt = some ((27 : Int64), 1262) := by decide +kernel
theorem cL11_149 : plk 11 149 llt = some ((96 : Int64), 1263) := by decide +kernel
theorem cL11_151 : plk 11 151 llt = some ((48 : Int64), 1275) := by decide +kernel
theorem cL11_153 : plk 11 153 llt = some ((57 : Int64), 1276) := by decide +kernel
theorem mm11_155 : plk 11 155 mlt = some (0, 141, 1267, 1269, 94) := by decide +kernel
theorem fl11_159 : plk 11 159 flt = some (false, 11, 10, 1119) := by decide +kernel
theorem mm11_162 : plk 11 162 mlt = some (0, 142, 1256, 1258, 93) := by decide +kernel
theorem mm11_165 : plk 11 165 mlt = some (2, 143, 1264, 1265, 0) := by decide +kernel
theorem mm11_169 : plk 11 169 mlt = some (0, 144, 1271, 1273, 95) := by decide +kernel
theorem mm11_172 : plk 11 172 mlt = some (0, 145, 1281, 1283, 97) := by decide +kernel
theorem fl11_176 : plk 11 176 flt = some (false, 11, 12, 1121) := by decide +kernel
theorem mm11_179 : plk 11 179 mlt = some (0, 146, 1277, 1279, 96) := by decide +kernel
theorem mm11_182 : plk 11 182 mlt = some (0, 147, 1250, 1252, 92) := by decide +kernel
theorem mm11_186 : plk 11 186 mlt = some (0, 150, 1293, 1295, 98) := by decide +kernel
theorem mm11_190 : plk 11 190 mlt = some (2, 155, 1333, 1334, 0) := by decide +kernel
theorem mm11_194 : plk 11 194 mlt = some (2, 157, 1340, 1341, 0) := by decide +kernel
theorem mm11_198 : plk 11 198 mlt = some (0, 154, 1325, 1327, 102) := by decide +kernel
theorem fl11_201 : plk 11 201 flt = some (false, 11, 15, 1124) := by decide +kernel
theorem mm11_204 : plk 11 204 mlt = some (0, 156, 1329, 1331, 103) := by decide +kernel
theorem mm11_207 : plk 11 207 mlt = some (0, 158, 1336, 1338, 104) := by decide +kernel
theorem mm11_210 : plk 11 210 mlt = some (0, 159, 1321, 1323, 101) := by decide +kernel
theorem mm11_213 : plk 11 213 mlt = some (0, 162, 1343, 1345, 105) := by decide +kernel
theorem mm11_216 : plk 11 216 mlt = some (0, 164, 1313, 1315, 99) := by decide +kernel
theorem mm11_219 : plk 11 219 mlt = some (0, 163, 1317, 1319, 100) := by decide +kernel
theorem mm11_222 : plk 11 222 mlt = some (0, 160, 1351, 1353, 106) := by decide +kernel
theorem mm11_225 : plk 11 225 mlt = some (0, 169, 1363, 1365, 107) := by decide +kernel
theorem cL11_229 : plk 11 229 llt = some ((-1001 : Int64), 1371) := by decide +kernel
theorem cL11_231 : plk 11 231 llt = some ((-1002 : Int64), 1372) := by decide +kernel
theorem mm11_233 : plk 11 233 mlt = some (0, 165, 1377, 1379, 108) := by decide +kernel
theorem mm11_236 : plk 11 236 mlt = some (0, 174, 1389, 1391, 109) := by decide +kernel
theorem mm11_240 : plk 11 240 mlt = some (2, 176, 1401, 1402, 0) := by decide +kernel
theorem mm11_244 : plk 11 244 mlt = some (2, 177, 1404, 1405, 0) := by decide +kernel
theorem mm11_248 : plk 11 248 mlt = some (0, 178, 1397, 1399, 110) := by decide +kernel
theorem cL11_252 : plk 11 252 llt = some ((-1005 : Int64), 1411) := by decide +kernel
theorem mm11_254 : plk 11 254 mlt = some (0, 182, 1420, 1422, 111) := by decide +kernel
theorem mm11_257 : plk 11 257 mlt = some (0, 184, 1428, 1430, 112) := by decide +kernel
theorem mm11_260 : plk 11 260 mlt = some (0, 185, 1432, 1434, 113) := by decide +kernel
theorem mm11_263 : plk 11 263 mlt = some (0, 187, 1440, 1442, 114) := by decide +kernel
theorem mm11_266 : plk 11 266 mlt = some (0, 188, 1444, 1446, 115) := by decide +kernel
theorem fl11_269 : plk 11 269 flt = some (false, 11, 27, 1136) := by decide +kernel
theorem cL11_272 : plk 11 272 llt = some ((20 : Int64), 1452) := by decide +kernel
theorem mm11_274 : plk 11 274 mlt = some (0, 191, 1453, 1455, 116) := by decide +kernel
theorem mm11_277 : plk 11 277 mlt = some (0, 190, 1457, 1459, 117) := by decide +kernel
theorem cL11_280 : plk 11 280 llt = some ((1000000000000 : Int64), 1469) := by decide +kernel
theorem cL11_282 : plk 11 282 llt = some ((-1000000000000 : Int64), 1470) := by decide +kernel
theorem cL11_284 : plk 11 284 llt = some ((2 : Int64), 1475) := by decide +kernel
theorem mm11_286 : plk 11 286 mlt = some (0, 196, 1476, 1478, 118) := by decide +kernel
theorem mm11_289 : plk 11 289 mlt = some (0, 195, 1480, 1482, 119) := by decide +kernel
theorem fl11_292 : plk 11 292 flt = some (false, 11, 31, 1140) := by decide +kernel
theorem mm11_295 : plk 11 295 mlt = some (0, 199, 1492, 1494, 121) := by decide +kernel
theorem mm11_298 : plk 11 298 mlt = some (0, 200, 1504, 1506, 124) := by decide +kernel
theorem mm11_301 : plk 11 301 mlt = some (0, 198, 1488, 1490, 120) := by decide +kernel
theorem mm11_304 : plk 11 304 mlt = some (0, 201, 1500, 1502, 123) := by decide +kernel
theorem mm11_307 : plk 11 307 mlt = some (0, 202, 1516, 1518, 126) := by decide +kernel
theorem mm11_311 : plk 11 311 mlt = some (0, 204, 1496, 1498, 122) := by decide +kernel
theorem mm11_314 : plk 11 314 mlt = some (0, 203, 1512, 1514, 125) := by decide +kernel
theorem ft0_0 : mfty 0 0 = some (.object "MirrorRoots$Mirrors") := by decide +kernel
theorem ft0_1 : mfty 0 1 = some (.object "MirrorRoots$Kept") := by decide +kernel
theorem ft0_2 : mfty 0 2 = some (.object "MirrorRoots$Shelf") := by decide +kernel
theorem ft0_3 : mfty 0 3 = some (.array .long) := by decide +kernel
theorem ft0_4 : mfty 0 4 = some (.array .int) := by decide +kernel
theorem ft0_5 : mfty 0 5 = some (.array .long) := by decide +kernel
theorem ft0_6 : mfty 0 6 = some (.array .boolean) := by decide +kernel
theorem ft0_7 : mfty 0 7 = some (.int) := by decide +kernel
theorem ff0_7 : mfin 0 7 = false := by decide +kernel
theorem ft0_8 : mfty 0 8 = some (.int) := by decide +kernel
theorem ff0_8 : mfin 0 8 = false := by decide +kernel
theorem ft1_0 : mfty 1 0 = some (.object "MirrorRoots$Mirrors") := by decide +kernel
theorem ft1_1 : mfty 1 1 = some (.int) := by decide +kernel
theorem ff1_1 : mfin 1 1 = false := by decide +kernel
theorem ft1_2 : mfty 1 2 = some (.array .int) := by decide +kernel
theorem ft1_3 : mfty 1 3 = some (.array .int) := by decide +kernel
theorem ft1_4 : mfty 1 4 = some (.array .long) := by decide +kernel
theorem ft1_5 : mfty 1 5 = some (.array .long) := by decide +kernel
theorem ft1_6 : mfty 1 6 = some (.array .long) := by decide +kernel
theorem ft2_0 : mfty 2 0 = some (.object "MirrorRoots$Mirrors") := by decide +kernel
theorem ft2_1 : mfty 2 1 = some (.object "MirrorRoots$Kept") := by decide +kernel
theorem ft2_2 : mfty 2 2 = some (.object "MirrorRoots$Shelf") := by decide +kernel
theorem ft2_3 : mfty 2 3 = some (.array .long) := by decide +kernel
theorem ft2_4 : mfty 2 4 = some (.array .long) := by decide +kernel
theorem ft2_5 : mfty 2 5 = some (.array .int) := by decide +kernel
theorem ft2_6 : mfty 2 6 = some (.int) := by decide +kernel
theorem ff2_6 : mfin 2 6 = false := by decide +kernel
theorem ft2_7 : mfty 2 7 = some (.int) := by decide +kernel
theorem ff2_7 : mfin 2 7 = false := by decide +kernel
theorem ft2_8 : mfty 2 8 = some (.int) := by decide +kernel
theorem ff2_8 : mfin 2 8 = false := by decide +kernel
theorem ft3_0 : mfty 3 0 = some (.int) := by decide +kernel
theorem ff3_0 : mfin 3 0 = false := by decide +kernel
theorem ft3_1 : mfty 3 1 = some (.array .int) := by decide +kernel
theorem ft3_2 : mfty 3 2 = some (.array .int) := by decide +kernel
theorem ft4_0 : mfty 4 0 = some (.object "MirrorRoots$Mirrors") := by decide +kernel
theorem ft4_1 : mfty 4 1 = some (.object "MirrorRoots$Kept") := by decide +kernel
theorem ft4_2 : mfty 4 2 = some (.array .long) := by decide +kernel
theorem ft4_3 : mfty 4 3 = some (.array .int) := by decide +kernel
theorem ft5_0 : mfty 5 0 = some (.object "MirrorRoots$Mirrors") := by decide +kernel
theorem ft5_1 : mfty 5 1 = some (.object "MirrorRoots$Kept") := by decide +kernel
theorem ft5_2 : mfty 5 2 = some (.array .long) := by decide +kernel
theorem ft5_3 : mfty 5 3 = some (.array .long) := by decide +kernel
theorem ft6_0 : mfty 6 0 = some (.object "MirrorRoots$Mirrors") := by decide +kernel
theorem ft6_1 : mfty 6 1 = some (.int) := by decide +kernel
theorem ft6_2 : mfty 6 2 = some (.int) := by decide +kernel
theorem ff6_2 : mfin 6 2 = false := by decide +kernel
theorem ft6_3 : mfty 6 3 = some (.array .long) := by decide +kernel
theorem ft6_4 : mfty 6 4 = some (.array .int) := by decide +kernel
theorem ft6_5 : mfty 6 5 = some (.array .int) := by decide +kernel
theorem ft6_6 : mfty 6 6 = some (.array .int) := by decide +kernel
theorem ft7_0 : mfty 7 0 = some (.object "MirrorRoots$Mirrors") := by decide +kernel
theorem ft7_1 : mfty 7 1 = some (.object "MirrorRoots$Kept") := by decide +kernel
theorem ft7_2 : mfty 7 2 = some (.object "MirrorRoots$Shelf") := by decide +kernel
theorem ft7_3 : mfty 7 3 = some (.array .long) := by decide +kernel
theorem ft7_4 : mfty 7 4 = some (.array .long) := by decide +kernel
theorem ft7_5 : mfty 7 5 = some (.int) := by decide +kernel
theorem ff7_5 : mfin 7 5 = false := by decide +kernel
theorem ft7_6 : mfty 7 6 = some (.boolean) := by decide +kernel
theorem ff7_6 : mfin 7 6 = false := by decide +kernel
theorem ft7_7 : mfty 7 7 = some (.int) := by decide +kernel
theorem ff7_7 : mfin 7 7 = false := by decide +kernel
theorem ft7_8 : mfty 7 8 = some (.int) := by decide +kernel
theorem ff7_8 : mfin 7 8 = false := by decide +kernel
theorem ft7_9 : mfty 7 9 = some (.int) := by decide +kernel
theorem ff7_9 : mfin 7 9 = false := by decide +kernel
theorem ft8_0 : mfty 8 0 = some (.array .int) := by decide +kernel
theorem ft8_1 : mfty 8 1 = some (.int) := by decide +kernel
theorem ff8_1 : mfin 8 1 = false := by decide +kernel
theorem ft8_2 : mfty 8 2 = some (.int) := by decide +kernel
theorem ff8_2 : mfin 8 2 = false := by decide +kernel
theorem ft8_3 : mfty 8 3 = some (.int) := by decide +kernel
theorem ff8_3 : mfin 8 3 = false := by decide +kernel
theorem ft8_4 : mfty 8 4 = some (.int) := by decide +kernel
theorem ff8_4 : mfin 8 4 = false := by decide +kernel
theorem ft8_5 : mfty 8 5 = some (.int) := by decide +kernel
theorem ff8_5 : mfin 8 5 = false := by decide +kernel
theorem ft8_6 : mfty 8 6 = some (.array .int) := by decide +kernel
theorem ft8_7 : mfty 8 7 = some (.array .boolean) := by decide +kernel
theorem ft9_0 : mfty 9 0 = some (.object "MirrorRoots$Mirrors") := by decide +kernel
theorem ft9_1 : mfty 9 1 = some (.object "MirrorRoots$Kept") := by decide +kernel
theorem ft9_2 : mfty 9 2 = some (.array .long) := by decide +kernel
theorem ft9_3 : mfty 9 3 = some (.array .long) := by decide +kernel
theorem ft9_4 : mfty 9 4 = some (.array .int) := by decide +kernel
theorem ft9_5 : mfty 9 5 = some (.array .int) := by decide +kernel
theorem ft10_0 : mfty 10 0 = some (.object "MirrorRoots$Mirrors") := by decide +kernel
theorem ft10_1 : mfty 10 1 = some (.object "MirrorRoots$Telling") := by decide +kernel
theorem ft10_2 : mfty 10 2 = some (.object "MirrorRoots$Kept") := by decide +kernel
theorem ft10_3 : mfty 10 3 = some (.object "MirrorRoots$Words") := by decide +kernel
theorem ft10_4 : mfty 10 4 = some (.object "MirrorRoots$Roots") := by decide +kernel
theorem ft10_5 : mfty 10 5 = some (.object "MirrorRoots$Paths") := by decide +kernel
theorem ft10_6 : mfty 10 6 = some (.array .int) := by decide +kernel
theorem ft10_7 : mfty 10 7 = some (.int) := by decide +kernel
theorem ff10_7 : mfin 10 7 = false := by decide +kernel
theorem ft10_8 : mfty 10 8 = some (.object "MirrorRoots$Layers") := by decide +kernel
theorem ff10_8 : mfin 10 8 = false := by decide +kernel
theorem ft10_9 : mfty 10 9 = some (.object "MirrorRoots$Shifts") := by decide +kernel
theorem ff10_9 : mfin 10 9 = false := by decide +kernel
theorem ft10_10 : mfty 10 10 = some (.object "MirrorRoots$Ideal") := by decide +kernel
theorem ff10_10 : mfin 10 10 = false := by decide +kernel
theorem ft11_0 : mfty 11 0 = some (.int) := by decide +kernel
theorem ff11_0 : mfin 11 0 = false := by decide +kernel
theorem ft11_1 : mfty 11 1 = some (.array .int) := by decide +kernel
theorem ft11_2 : mfty 11 2 = some (.array .int) := by decide +kernel
theorem ft11_3 : mfty 11 3 = some (.array .int) := by decide +kernel
theorem ft11_4 : mfty 11 4 = some (.array .int) := by decide +kernel
theorem ft11_5 : mfty 11 5 = some (.int) := by decide +kernel
theorem ff11_5 : mfin 11 5 = false := by decide +kernel
theorem ft11_6 : mfty 11 6 = some (.int) := by decide +kernel
theorem ff11_6 : mfin 11 6 = false := by decide +kernel
theorem ft11_7 : mfty 11 7 = some (.int) := by decide +kernel
theorem ff11_7 : mfin 11 7 = false := by decide +kernel
theorem ft11_8 : mfty 11 8 = some (.long) := by decide +kernel
theorem ff11_8 : mfin 11 8 = false := by decide +kernel
theorem ft11_9 : mfty 11 9 = some (.int) := by decide +kernel
theorem ff11_9 : mfin 11 9 = false := by decide +kernel
theorem ft11_10 : mfty 11 10 = some (.int) := by decide +kernel
theorem ff11_10 : mfin 11 10 = false := by decide +kernel
theorem ft11_11 : mfty 11 11 = some (.array .boolean) := by decide +kernel
theorem ft11_12 : mfty 11 12 = some (.int) := by decide +kernel
theorem ff11_12 : mfin 11 12 = false := by decide +kernel
theorem ft11_13 : mfty 11 13 = some (.array .long) := by decide +kernel
theorem ft11_14 : mfty 11 14 = some (.array .int) := by decide +kernel
theorem ft11_15 : mfty 11 15 = some (.int) := by decide +kernel
theorem ff11_15 : mfin 11 15 = false := by decide +kernel
theorem ft11_16 : mfty 11 16 = some (.int) := by decide +kernel
theorem ff11_16 : mfin 11 16 = false := by decide +kernel
theorem ft11_17 : mfty 11 17 = some (.array .int) := by decide +kernel
theorem ft11_18 : mfty 11 18 = some (.array .int) := by decide +kernel
theorem ft11_19 : mfty 11 19 = some (.int) := by decide +kernel
theorem ff11_19 : mfin 11 19 = false := by decide +kernel
theorem ft11_20 : mfty 11 20 = some (.array .int) := by decide +kernel
theorem ft11_21 : mfty 11 21 = some (.array .long) := by decide +kernel
theorem ft11_22 : mfty 11 22 = some (.array .long) := by decide +kernel
theorem ft11_23 : mfty 11 23 = some (.array .long) := by decide +kernel
theorem ft11_24 : mfty 11 24 = some (.array .long) := by decide +kernel
theorem ft11_25 : mfty 11 25 = some (.array .long) := by decide +kernel
theorem ft11_26 : mfty 11 26 = some (.array .int) := by decide +kernel
theorem ft11_27 : mfty 11 27 = some (.int) := by decide +kernel
theorem ff11_27 : mfin 11 27 = false := by decide +kernel
theorem ft11_28 : mfty 11 28 = some (.array .int) := by decide +kernel
theorem ft11_29 : mfty 11 29 = some (.array .int) := by decide +kernel
theorem ft11_30 : mfty 11 30 = some (.int) := by decide +kernel
theorem ff11_30 : mfin 11 30 = false := by decide +kernel
theorem ft11_31 : mfty 11 31 = some (.int) := by decide +kernel
theorem ff11_31 : mfin 11 31 = false := by decide +kernel
theorem ft11_32 : mfty 11 32 = some (.array .long) := by decide +kernel
theorem ft11_33 : mfty 11 33 = some (.array .int) := by decide +kernel
theorem ft11_34 : mfty 11 34 = some (.array .int) := by decide +kernel
theorem ft11_35 : mfty 11 35 = some (.array .boolean) := by decide +kernel
theorem ft11_36 : mfty 11 36 = some (.array .int) := by decide +kernel
theorem ft11_37 : mfty 11 37 = some (.array .int) := by decide +kernel
theorem ft11_38 : mfty 11 38 = some (.array .int) := by decide +kernel
theorem ft11_39 : mfty 11 39 = some (.array .int) := by decide +kernel
theorem ft11_40 : mfty 11 40 = some (.array .int) := by decide +kernel
