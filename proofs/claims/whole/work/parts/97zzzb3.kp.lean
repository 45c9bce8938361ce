/-! The search, piece by piece, in the kernel. -/
theorem kx_50 : kgo 4 3 [1, 2, 1, 0] = true := by decide +kernel
theorem kx_51 : kgo 4 3 [2, 2, 1, 0] = true := by decide +kernel
theorem kx_52 : kgo 2 4 [0, 0, 3, 2, 1, 0] = true := by decide +kernel
theorem kx_53 : kgo 1 4 [0, 1, 0, 3, 2, 1, 0] = true := by decide +kernel
theorem kx_54 : kgo 1 4 [1, 1, 0, 3, 2, 1, 0] = true := by decide +kernel
theorem kx_55 : kgo 0 4 [0, 2, 1, 0, 3, 2, 1, 0] = true := by decide +kernel
theorem kx_56 : kgo 0 4 [1, 2, 1, 0, 3, 2, 1, 0] = true := by decide +kernel
theorem kx_57 : kgo 0 4 [2, 2, 1, 0, 3, 2, 1, 0] = true := by decide +kernel
theorem kx_58 : krn [3, 2, 1, 0, 3, 2, 1, 0] 340051 4 11 [(1, 1)] = true := by decide +kernel
theorem kx_59 : krn [3, 2, 1, 0, 3, 2, 1, 0] 340051 4 11 [(1, 2)] = true := by decide +kernel
theorem kx_60 : krn [3, 2, 1, 0, 3, 2, 1, 0] 340051 4 11 [(1, 3)] = true := by decide +kernel
theorem kx_61 : krn [3, 2, 1, 0, 3, 2, 1, 0] 340051 4 11 [(1, 4)] = true := by decide +kernel
theorem kx_62 : kgo 0 5 [4, 2, 1, 0, 3, 2, 1, 0] = true := by decide +kernel
theorem kx_63 : kgo 1 4 [3, 1, 0, 3, 2, 1, 0] = true := by decide +kernel
theorem kx_64 : kgo 1 5 [4, 1, 0, 3, 2, 1, 0] = true := by decide +kernel
theorem kx_65 : kgo 2 4 [2, 0, 3, 2, 1, 0] = true := by decide +kernel
theorem kx_66 : kgo 2 4 [3, 0, 3, 2, 1, 0] = true := by decide +kernel
theorem kx_67 : kgo 1 5 [0, 4, 0, 3, 2, 1, 0] = true := by decide +kernel
theorem kx_68 : kgo 0 5 [0, 1, 4, 0, 3, 2, 1, 0] = true := by decide +kernel
theorem kx_69 : kgo 0 5 [1, 1, 4, 0, 3, 2, 1, 0] = true := by decide +kernel
theorem kx_70 : krn [2, 1, 4, 0, 3, 2, 1, 0] 340234 5 11 [(1, 1)] = true := by decide +kernel
theorem kx_71 : krn [2, 1, 4, 0, 3, 2, 1, 0] 340234 5 11 [(2, 1), (1, 2)] = true := by decide +kernel
theorem kx_72 : krn [2, 1, 4, 0, 3, 2, 1, 0] 340234 5 11 [(2, 2), (1, 2)] = true := by decide +kernel
theorem kx_73 : krn [2, 1, 4, 0, 3, 2, 1, 0] 340234 5 11 [(2, 3), (1, 2)] = true := by decide +kernel
theorem kx_74 : krn [2, 1, 4, 0, 3, 2, 1, 0] 340234 5 11 [(2, 4), (1, 2)] = true := by decide +kernel
theorem kx_75 : krn [2, 1, 4, 0, 3, 2, 1, 0] 340234 5 11 [(2, 1), (1, 3)] = true := by decide +kernel
theorem kx_76 : krn [2, 1, 4, 0, 3, 2, 1, 0] 340234 5 11 [(2, 2), (1, 3)] = true := by decide +kernel
theorem kx_77 : krn [2, 1, 4, 0, 3, 2, 1, 0] 340234 5 11 [(2, 3), (1, 3)] = true := by decide +kernel
theorem kx_78 : krn [2, 1, 4, 0, 3, 2, 1, 0] 340234 5 11 [(2, 4), (1, 3)] = true := by decide +kernel
theorem kx_79 : krn [2, 1, 4, 0, 3, 2, 1, 0] 340234 5 11 [(1, 4)] = true := by decide +kernel
theorem kx_80 : kgo 0 5 [3, 1, 4, 0, 3, 2, 1, 0] = true := by decide +kernel
theorem kx_81 : kgo 0 5 [4, 1, 4, 0, 3, 2, 1, 0] = true := by decide +kernel
theorem kx_82 : kgo 1 5 [2, 4, 0, 3, 2, 1, 0] = true := by decide +kernel
theorem kx_83 : kgo 1 5 [3, 4, 0, 3, 2, 1, 0] = true := by decide +kernel
theorem kx_84 : kgo 1 5 [4, 4, 0, 3, 2, 1, 0] = true := by decide +kernel
theorem kx_85 : kgo 3 4 [1, 3, 2, 1, 0] = true := by decide +kernel
theorem kx_86 : kgo 2 4 [0, 2, 3, 2, 1, 0] = true := by decide +kernel
theorem kx_87 : kgo 2 4 [1, 2, 3, 2, 1, 0] = true := by decide +kernel
theorem kx_88 : kgo 2 4 [2, 2, 3, 2, 1, 0] = true := by decide +kernel
