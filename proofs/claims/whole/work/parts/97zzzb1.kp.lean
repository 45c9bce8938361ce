/-! The search, piece by piece, in the kernel. -/
theorem kx_1 : kgo 1 0 [] = true := by decide +kernel
theorem kx_2 : kgo 2 0 [] = true := by decide +kernel
theorem kx_3 : kgo 3 0 [] = true := by decide +kernel
theorem kx_4 : kgo 4 0 [] = true := by decide +kernel
theorem kx_5 : kgo 5 0 [] = true := by decide +kernel
theorem kx_6 : kgo 6 0 [] = true := by decide +kernel
theorem kx_7 : kgo 5 1 [0, 0] = true := by decide +kernel
theorem kx_8 : kgo 4 2 [0, 1, 0] = true := by decide +kernel
theorem kx_9 : kgo 4 2 [1, 1, 0] = true := by decide +kernel
theorem kx_10 : kgo 3 3 [0, 2, 1, 0] = true := by decide +kernel
theorem kx_11 : kgo 3 3 [1, 2, 1, 0] = true := by decide +kernel
theorem kx_12 : kgo 3 3 [2, 2, 1, 0] = true := by decide +kernel
theorem kx_13 : kgo 3 4 [3, 2, 1, 0] = true := by decide +kernel
theorem kx_14 : kgo 6 1 [0, 0] = true := by decide +kernel
theorem kx_15 : kgo 4 2 [0, 0, 1, 0] = true := by decide +kernel
theorem kx_16 : kgo 4 2 [1, 0, 1, 0] = true := by decide +kernel
theorem kx_17 : kgo 3 3 [0, 2, 0, 1, 0] = true := by decide +kernel
theorem kx_18 : kgo 3 3 [1, 2, 0, 1, 0] = true := by decide +kernel
theorem kx_19 : kgo 3 3 [2, 2, 0, 1, 0] = true := by decide +kernel
theorem kx_20 : kgo 2 4 [0, 3, 2, 0, 1, 0] = true := by decide +kernel
theorem kx_21 : kgo 2 4 [1, 3, 2, 0, 1, 0] = true := by decide +kernel
theorem kx_22 : kgo 2 4 [2, 3, 2, 0, 1, 0] = true := by decide +kernel
theorem kx_23 : kgo 2 4 [3, 3, 2, 0, 1, 0] = true := by decide +kernel
theorem kx_24 : kgo 1 5 [0, 4, 3, 2, 0, 1, 0] = true := by decide +kernel
theorem kx_25 : kgo 1 5 [1, 4, 3, 2, 0, 1, 0] = true := by decide +kernel
theorem kx_26 : kgo 1 5 [2, 4, 3, 2, 0, 1, 0] = true := by decide +kernel
theorem kx_27 : kgo 1 5 [3, 4, 3, 2, 0, 1, 0] = true := by decide +kernel
theorem kx_28 : kgo 1 5 [4, 4, 3, 2, 0, 1, 0] = true := by decide +kernel
theorem kx_29 : kgo 5 2 [1, 1, 0] = true := by decide +kernel
theorem kx_30 : kgo 3 3 [0, 0, 2, 1, 0] = true := by decide +kernel
