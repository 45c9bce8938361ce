theorem mi0 : mini 0 = true := by decide +kernel
theorem mm0_5 : plk 0 5 mlt = some (6, 0, 1002, 0, 0) := by decide +kernel
theorem nl0_39 : plk 0 39 nlt = some (6, 1004, 685, 141) := by decide +kernel
theorem mi14 : mini 14 = true := by decide +kernel
theorem mm1_3 : plk 1 3 mlt = some (6, 0, 229, 0, 0) := by decide +kernel
theorem mi21 : mini 21 = true := by decide +kernel
theorem mm2_3 : plk 2 3 mlt = some (6, 0, 683, 0, 0) := by decide +kernel
theorem nl2_34 : plk 2 34 nlt = some (6, 684, 685, 141) := by decide +kernel
theorem mi31 : mini 31 = true := by decide +kernel
theorem mm3_3 : plk 3 3 mlt = some (6, 0, 158, 0, 0) := by decide +kernel
theorem mi47 : mini 47 = true := by decide +kernel
theorem mm4_3 : plk 4 3 mlt = some (6, 0, 326, 0, 0) := by decide +kernel
theorem mi51 : mini 51 = true := by decide +kernel
theorem mm5_3 : plk 5 3 mlt = some (6, 0, 307, 0, 0) := by decide +kernel
theorem mi59 : mini 59 = true := by decide +kernel
theorem mm6_3 : plk 6 3 mlt = some (6, 0, 689, 0, 0) := by decide +kernel
theorem mi68 : mini 68 = true := by decide +kernel
theorem mm7_3 : plk 7 3 mlt = some (6, 0, 901, 0, 0) := by decide +kernel
theorem nl7_30 : plk 7 30 nlt = some (6, 902, 685, 141) := by decide +kernel
theorem mi76 : mini 76 = true := by decide +kernel
theorem mm8_3 : plk 8 3 mlt = some (6, 0, 193, 0, 0) := by decide +kernel
theorem mi90 : mini 90 = true := by decide +kernel
theorem mm9_3 : plk 9 3 mlt = some (6, 0, 282, 0, 0) := by decide +kernel
theorem mi103 : mini 103 = true := by decide +kernel
theorem mm10_3 : plk 10 3 mlt = some (6, 0, 150, 0, 0) := by decide +kernel
theorem nl10_9 : plk 10 9 nlt = some (3, 153, 154, 129) := by decide +kernel
theorem nl10_16 : plk 10 16 nlt = some (8, 188, 189, 130) := by decide +kernel
theorem nl10_23 : plk 10 23 nlt = some (1, 224, 225, 131) := by decide +kernel
theorem nl10_32 : plk 10 32 nlt = some (9, 277, 278, 132) := by decide +kernel
theorem nl10_41 : plk 10 41 nlt = some (5, 302, 303, 133) := by decide +kernel
theorem nl10_48 : plk 10 48 nlt = some (4, 321, 322, 134) := by decide +kernel
theorem nl10_101 : plk 10 101 nlt = some (2, 679, 497, 140) := by decide +kernel
theorem nl10_106 : plk 10 106 nlt = some (7, 897, 502, 142) := by decide +kernel
theorem nl10_109 : plk 10 109 nlt = some (0, 998, 507, 144) := by decide +kernel
theorem mi136 : mini 136 = true := by decide +kernel
theorem mm11_1 : plk 11 1 mlt = some (6, 0, 1103, 0, 0) := by decide +kernel
