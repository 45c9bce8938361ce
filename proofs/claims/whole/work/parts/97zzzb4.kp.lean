/-! The search, piece by piece, in the kernel. -/
theorem kx_89 : kgo 2 4 [3, 2, 3, 2, 1, 0] = true := by decide +kernel
theorem kx_90 : kgo 0 5 [0, 0, 4, 2, 3, 2, 1, 0] = true := by decide +kernel
theorem kx_91 : krn [1, 0, 4, 2, 3, 2, 1, 0] 341249 5 11 [(1, 1)] = true := by decide +kernel
theorem kx_92 : krn [1, 0, 4, 2, 3, 2, 1, 0] 341249 5 11 [(1, 2)] = true := by decide +kernel
theorem kx_93 : krn [1, 0, 4, 2, 3, 2, 1, 0] 341249 5 11 [(2, 1), (1, 3)] = true := by decide +kernel
theorem kx_94 : krn [1, 0, 4, 2, 3, 2, 1, 0] 341249 5 11 [(2, 2), (1, 3)] = true := by decide +kernel
theorem kx_95 : krn [1, 0, 4, 2, 3, 2, 1, 0] 341249 5 11 [(2, 3), (1, 3)] = true := by decide +kernel
theorem kx_96 : krn [1, 0, 4, 2, 3, 2, 1, 0] 341249 5 11 [(1, 4)] = true := by decide +kernel
theorem kx_97 : kgo 0 5 [2, 0, 4, 2, 3, 2, 1, 0] = true := by decide +kernel
theorem kx_98 : kgo 0 5 [3, 0, 4, 2, 3, 2, 1, 0] = true := by decide +kernel
theorem kx_99 : kgo 0 5 [4, 0, 4, 2, 3, 2, 1, 0] = true := by decide +kernel
theorem kx_100 : kgo 1 5 [1, 4, 2, 3, 2, 1, 0] = true := by decide +kernel
theorem kx_101 : kgo 1 5 [2, 4, 2, 3, 2, 1, 0] = true := by decide +kernel
theorem kx_102 : kgo 1 5 [3, 4, 2, 3, 2, 1, 0] = true := by decide +kernel
theorem kx_103 : kgo 1 5 [4, 4, 2, 3, 2, 1, 0] = true := by decide +kernel
theorem kx_104 : kgo 3 4 [3, 3, 2, 1, 0] = true := by decide +kernel
theorem kx_105 : kgo 1 5 [0, 0, 4, 3, 2, 1, 0] = true := by decide +kernel
theorem kx_106 : kgo 0 5 [0, 1, 0, 4, 3, 2, 1, 0] = true := by decide +kernel
theorem kx_107 : kgo 0 5 [1, 1, 0, 4, 3, 2, 1, 0] = true := by decide +kernel
theorem kx_108 : krn [2, 1, 0, 4, 3, 2, 1, 0] 342026 5 11 [(1, 1)] = true := by decide +kernel
theorem kx_109 : krn [2, 1, 0, 4, 3, 2, 1, 0] 342026 5 11 [(2, 1), (1, 2)] = true := by decide +kernel
theorem kx_110 : krn [2, 1, 0, 4, 3, 2, 1, 0] 342026 5 11 [(2, 2), (1, 2)] = true := by decide +kernel
theorem kx_111 : krn [2, 1, 0, 4, 3, 2, 1, 0] 342026 5 11 [(2, 3), (1, 2)] = true := by decide +kernel
theorem kx_112 : krn [2, 1, 0, 4, 3, 2, 1, 0] 342026 5 11 [(2, 4), (1, 2)] = true := by decide +kernel
theorem kx_113 : krn [2, 1, 0, 4, 3, 2, 1, 0] 342026 5 11 [(2, 1), (1, 3)] = true := by decide +kernel
theorem kx_114 : krn [2, 1, 0, 4, 3, 2, 1, 0] 342026 5 11 [(2, 2), (1, 3)] = true := by decide +kernel
theorem kx_115 : krn [2, 1, 0, 4, 3, 2, 1, 0] 342026 5 11 [(10, 1), (2, 3), (1, 3)] = true := by decide +kernel
