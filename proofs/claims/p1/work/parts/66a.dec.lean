theorem d_L_law_0 : decode k_L_law 0 = .ok (.new 7, 3) := by decide +kernel
theorem d_L_law_3 : decode k_L_law 3 = .ok (.dup, 1) := by decide +kernel
theorem d_L_law_4 : decode k_L_law 4 = .ok (.invokespecial 9, 3) := by decide +kernel
theorem d_L_law_7 : decode k_L_law 7 = .ok (.astore_n 1, 1) := by decide +kernel
theorem d_L_law_8 : decode k_L_law 8 = .ok (.new 10, 3) := by decide +kernel
theorem d_L_law_11 : decode k_L_law 11 = .ok (.dup, 1) := by decide +kernel
theorem d_L_law_12 : decode k_L_law 12 = .ok (.invokespecial 12, 3) := by decide +kernel
theorem d_L_law_15 : decode k_L_law 15 = .ok (.astore_n 2, 1) := by decide +kernel
theorem d_L_law_16 : decode k_L_law 16 = .ok (.iconst 0, 1) := by decide +kernel
theorem d_L_law_17 : decode k_L_law 17 = .ok (.istore_n 3, 1) := by decide +kernel
theorem d_L_law_18 : decode k_L_law 18 = .ok (.iload_n 3, 1) := by decide +kernel
theorem d_L_law_19 : decode k_L_law 19 = .ok (.aload_n 0, 1) := by decide +kernel
theorem d_L_law_20 : decode k_L_law 20 = .ok (.arraylength, 1) := by decide +kernel
theorem d_L_law_21 : decode k_L_law 21 = .ok (.iconst 4, 1) := by decide +kernel
theorem d_L_law_22 : decode k_L_law 22 = .ok (.isub, 1) := by decide +kernel
theorem d_L_law_23 : decode k_L_law 23 = .ok (.if_icmp .gt 414, 3) := by decide +kernel
theorem d_L_law_26 : decode k_L_law 26 = .ok (.aload_n 0, 1) := by decide +kernel
theorem d_L_law_27 : decode k_L_law 27 = .ok (.iload_n 3, 1) := by decide +kernel
theorem d_L_law_28 : decode k_L_law 28 = .ok (.iaload, 1) := by decide +kernel
theorem d_L_law_29 : decode k_L_law 29 = .ok (.bipush 15, 2) := by decide +kernel
theorem d_L_law_31 : decode k_L_law 31 = .ok (.iand, 1) := by decide +kernel
theorem d_L_law_32 : decode k_L_law 32 = .ok (.tableswitch 399 0 15 #[80, 103, 146, 159, 192, 205, 218, 241, 254, 277, 290, 303, 317, 340, 363, 386], 80) := by decide +kernel
theorem d_L_law_112 : decode k_L_law 112 = .ok (.aload_n 1, 1) := by decide +kernel
theorem d_L_law_113 : decode k_L_law 113 = .ok (.aload_n 0, 1) := by decide +kernel
theorem d_L_law_114 : decode k_L_law 114 = .ok (.iload_n 3, 1) := by decide +kernel
theorem d_L_law_115 : decode k_L_law 115 = .ok (.iconst 1, 1) := by decide +kernel
theorem d_L_law_116 : decode k_L_law 116 = .ok (.iadd, 1) := by decide +kernel
theorem d_L_law_117 : decode k_L_law 117 = .ok (.iaload, 1) := by decide +kernel
theorem d_L_law_118 : decode k_L_law 118 = .ok (.invokevirtual 13, 3) := by decide +kernel
theorem d_L_law_121 : decode k_L_law 121 = .ok (.aload_n 2, 1) := by decide +kernel
theorem d_L_law_122 : decode k_L_law 122 = .ok (.aload_n 0, 1) := by decide +kernel
theorem d_L_law_123 : decode k_L_law 123 = .ok (.iload_n 3, 1) := by decide +kernel
theorem d_L_law_124 : decode k_L_law 124 = .ok (.iconst 1, 1) := by decide +kernel
theorem d_L_law_125 : decode k_L_law 125 = .ok (.iadd, 1) := by decide +kernel
theorem d_L_law_126 : decode k_L_law 126 = .ok (.iaload, 1) := by decide +kernel
theorem d_L_law_127 : decode k_L_law 127 = .ok (.invokevirtual 17, 3) := by decide +kernel
theorem d_L_law_130 : decode k_L_law 130 = .ok (.if_icmp .eq 301, 3) := by decide +kernel
theorem d_L_law_133 : decode k_L_law 133 = .ok (.iconst 0, 1) := by decide +kernel
theorem d_L_law_134 : decode k_L_law 134 = .ok (.ireturn, 1) := by decide +kernel
theorem d_L_law_135 : decode k_L_law 135 = .ok (.aload_n 1, 1) := by decide +kernel
theorem d_L_law_136 : decode k_L_law 136 = .ok (.aload_n 0, 1) := by decide +kernel
theorem d_L_law_137 : decode k_L_law 137 = .ok (.iload_n 3, 1) := by decide +kernel
theorem d_L_law_138 : decode k_L_law 138 = .ok (.iconst 1, 1) := by decide +kernel
theorem d_L_law_139 : decode k_L_law 139 = .ok (.iadd, 1) := by decide +kernel
theorem d_L_law_140 : decode k_L_law 140 = .ok (.iaload, 1) := by decide +kernel
theorem d_L_law_141 : decode k_L_law 141 = .ok (.aload_n 0, 1) := by decide +kernel
theorem d_L_law_142 : decode k_L_law 142 = .ok (.iload_n 3, 1) := by decide +kernel
theorem d_L_law_143 : decode k_L_law 143 = .ok (.iconst 2, 1) := by decide +kernel
theorem d_L_law_144 : decode k_L_law 144 = .ok (.iadd, 1) := by decide +kernel
theorem d_L_law_145 : decode k_L_law 145 = .ok (.iaload, 1) := by decide +kernel
