/-! The search, piece by piece, in the kernel. -/
theorem kx_31 : kgo 3 3 [1, 0, 2, 1, 0] = true := by decide +kernel
theorem kx_32 : kgo 3 3 [2, 0, 2, 1, 0] = true := by decide +kernel
theorem kx_33 : kgo 2 4 [0, 3, 0, 2, 1, 0] = true := by decide +kernel
theorem kx_34 : kgo 1 4 [0, 1, 3, 0, 2, 1, 0] = true := by decide +kernel
theorem kx_35 : kgo 1 4 [1, 1, 3, 0, 2, 1, 0] = true := by decide +kernel
theorem kx_36 : kgo 1 4 [2, 1, 3, 0, 2, 1, 0] = true := by decide +kernel
theorem kx_37 : kgo 1 4 [3, 1, 3, 0, 2, 1, 0] = true := by decide +kernel
theorem kx_38 : kgo 1 5 [4, 1, 3, 0, 2, 1, 0] = true := by decide +kernel
theorem kx_39 : kgo 2 4 [2, 3, 0, 2, 1, 0] = true := by decide +kernel
theorem kx_40 : kgo 2 4 [3, 3, 0, 2, 1, 0] = true := by decide +kernel
theorem kx_41 : kgo 1 5 [0, 4, 3, 0, 2, 1, 0] = true := by decide +kernel
theorem kx_42 : kgo 0 5 [0, 1, 4, 3, 0, 2, 1, 0] = true := by decide +kernel
theorem kx_43 : kgo 0 5 [1, 1, 4, 3, 0, 2, 1, 0] = true := by decide +kernel
theorem kx_44 : kgo 0 5 [2, 1, 4, 3, 0, 2, 1, 0] = true := by decide +kernel
theorem kx_45 : kgo 0 5 [3, 1, 4, 3, 0, 2, 1, 0] = true := by decide +kernel
theorem kx_46 : kgo 0 5 [4, 1, 4, 3, 0, 2, 1, 0] = true := by decide +kernel
theorem kx_47 : kgo 1 5 [2, 4, 3, 0, 2, 1, 0] = true := by decide +kernel
theorem kx_48 : kgo 1 5 [3, 4, 3, 0, 2, 1, 0] = true := by decide +kernel
theorem kx_49 : kgo 1 5 [4, 4, 3, 0, 2, 1, 0] = true := by decide +kernel
