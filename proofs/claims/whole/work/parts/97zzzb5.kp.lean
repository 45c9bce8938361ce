/-! The search, piece by piece, in the kernel. -/
theorem kx_116 : krn [2, 1, 0, 4, 3, 2, 1, 0] 342026 5 11 [(10, 2), (2, 3), (1, 3)] = true := by decide +kernel
theorem kx_117 : krn [2, 1, 0, 4, 3, 2, 1, 0] 342026 5 11 [(10, 3), (2, 3), (1, 3)] = true := by decide +kernel
theorem kx_118 : krn [2, 1, 0, 4, 3, 2, 1, 0] 342026 5 11 [(10, 4), (2, 3), (1, 3)] = true := by decide +kernel
theorem kx_119 : krn [2, 1, 0, 4, 3, 2, 1, 0] 342026 5 11 [(2, 4), (1, 3)] = true := by decide +kernel
theorem kx_120 : krn [2, 1, 0, 4, 3, 2, 1, 0] 342026 5 11 [(1, 4)] = true := by decide +kernel
theorem kx_121 : kgo 0 5 [3, 1, 0, 4, 3, 2, 1, 0] = true := by decide +kernel
theorem kx_122 : kgo 0 5 [4, 1, 0, 4, 3, 2, 1, 0] = true := by decide +kernel
theorem kx_123 : kgo 1 5 [2, 0, 4, 3, 2, 1, 0] = true := by decide +kernel
theorem kx_124 : kgo 1 5 [3, 0, 4, 3, 2, 1, 0] = true := by decide +kernel
theorem kx_125 : kgo 1 5 [4, 0, 4, 3, 2, 1, 0] = true := by decide +kernel
theorem kx_126 : kgo 2 5 [1, 4, 3, 2, 1, 0] = true := by decide +kernel
theorem kx_127 : kgo 0 5 [0, 0, 2, 4, 3, 2, 1, 0] = true := by decide +kernel
theorem kx_128 : krn [1, 0, 2, 4, 3, 2, 1, 0] 342145 5 11 [(1, 1)] = true := by decide +kernel
theorem kx_129 : krn [1, 0, 2, 4, 3, 2, 1, 0] 342145 5 11 [(3, 1), (2, 1), (1, 2)] = true := by decide +kernel
theorem kx_130 : krn [1, 0, 2, 4, 3, 2, 1, 0] 342145 5 11 [(3, 2), (2, 1), (1, 2)] = true := by decide +kernel
theorem kx_131 : krn [1, 0, 2, 4, 3, 2, 1, 0] 342145 5 11 [(3, 3), (2, 1), (1, 2)] = true := by decide +kernel
theorem kx_132 : krn [1, 0, 2, 4, 3, 2, 1, 0] 342145 5 11 [(2, 2), (1, 2)] = true := by decide +kernel
theorem kx_133 : krn [1, 0, 2, 4, 3, 2, 1, 0] 342145 5 11 [(3, 1), (2, 3), (1, 2)] = true := by decide +kernel
theorem kx_134 : krn [1, 0, 2, 4, 3, 2, 1, 0] 342145 5 11 [(3, 2), (2, 3), (1, 2)] = true := by decide +kernel
theorem kx_135 : krn [1, 0, 2, 4, 3, 2, 1, 0] 342145 5 11 [(3, 3), (2, 3), (1, 2)] = true := by decide +kernel
theorem kx_136 : krn [1, 0, 2, 4, 3, 2, 1, 0] 342145 5 11 [(3, 1), (2, 1), (1, 3)] = true := by decide +kernel
theorem kx_137 : krn [1, 0, 2, 4, 3, 2, 1, 0] 342145 5 11 [(3, 2), (2, 1), (1, 3)] = true := by decide +kernel
