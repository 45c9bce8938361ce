/-! The search, piece by piece, in the kernel. -/
theorem kx_138 : krn [1, 0, 2, 4, 3, 2, 1, 0] 342145 5 11 [(3, 3), (2, 1), (1, 3)] = true := by decide +kernel
theorem kx_139 : krn [1, 0, 2, 4, 3, 2, 1, 0] 342145 5 11 [(2, 2), (1, 3)] = true := by decide +kernel
theorem kx_140 : krn [1, 0, 2, 4, 3, 2, 1, 0] 342145 5 11 [(3, 1), (2, 3), (1, 3)] = true := by decide +kernel
theorem kx_141 : krn [1, 0, 2, 4, 3, 2, 1, 0] 342145 5 11 [(3, 2), (2, 3), (1, 3)] = true := by decide +kernel
theorem kx_142 : krn [1, 0, 2, 4, 3, 2, 1, 0] 342145 5 11 [(3, 3), (2, 3), (1, 3)] = true := by decide +kernel
theorem kx_143 : krn [1, 0, 2, 4, 3, 2, 1, 0] 342145 5 11 [(1, 4)] = true := by decide +kernel
theorem kx_144 : kgo 0 5 [2, 0, 2, 4, 3, 2, 1, 0] = true := by decide +kernel
theorem kx_145 : kgo 0 5 [3, 0, 2, 4, 3, 2, 1, 0] = true := by decide +kernel
theorem kx_146 : kgo 0 5 [4, 0, 2, 4, 3, 2, 1, 0] = true := by decide +kernel
theorem kx_147 : kgo 1 5 [1, 2, 4, 3, 2, 1, 0] = true := by decide +kernel
theorem kx_148 : kgo 1 5 [2, 2, 4, 3, 2, 1, 0] = true := by decide +kernel
theorem kx_149 : kgo 1 5 [3, 2, 4, 3, 2, 1, 0] = true := by decide +kernel
theorem kx_150 : kgo 1 5 [4, 2, 4, 3, 2, 1, 0] = true := by decide +kernel
theorem kx_151 : kgo 2 5 [3, 4, 3, 2, 1, 0] = true := by decide +kernel
theorem kx_152 : kgo 2 5 [4, 4, 3, 2, 1, 0] = true := by decide +kernel
