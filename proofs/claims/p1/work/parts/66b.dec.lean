theorem d_L_law_146 : decode k_L_law 146 = .ok (.aload_n 0, 1) := by decide +kernel
theorem d_L_law_147 : decode k_L_law 147 = .ok (.iload_n 3, 1) := by decide +kernel
theorem d_L_law_148 : decode k_L_law 148 = .ok (.iconst 3, 1) := by decide +kernel
theorem d_L_law_149 : decode k_L_law 149 = .ok (.iadd, 1) := by decide +kernel
theorem d_L_law_150 : decode k_L_law 150 = .ok (.iaload, 1) := by decide +kernel
theorem d_L_law_151 : decode k_L_law 151 = .ok (.invokevirtual 18, 3) := by decide +kernel
theorem d_L_law_154 : decode k_L_law 154 = .ok (.aload_n 2, 1) := by decide +kernel
theorem d_L_law_155 : decode k_L_law 155 = .ok (.aload_n 0, 1) := by decide +kernel
theorem d_L_law_156 : decode k_L_law 156 = .ok (.iload_n 3, 1) := by decide +kernel
theorem d_L_law_157 : decode k_L_law 157 = .ok (.iconst 1, 1) := by decide +kernel
theorem d_L_law_158 : decode k_L_law 158 = .ok (.iadd, 1) := by decide +kernel
theorem d_L_law_159 : decode k_L_law 159 = .ok (.iaload, 1) := by decide +kernel
theorem d_L_law_160 : decode k_L_law 160 = .ok (.aload_n 0, 1) := by decide +kernel
theorem d_L_law_161 : decode k_L_law 161 = .ok (.iload_n 3, 1) := by decide +kernel
theorem d_L_law_162 : decode k_L_law 162 = .ok (.iconst 2, 1) := by decide +kernel
theorem d_L_law_163 : decode k_L_law 163 = .ok (.iadd, 1) := by decide +kernel
theorem d_L_law_164 : decode k_L_law 164 = .ok (.iaload, 1) := by decide +kernel
theorem d_L_law_165 : decode k_L_law 165 = .ok (.aload_n 0, 1) := by decide +kernel
theorem d_L_law_166 : decode k_L_law 166 = .ok (.iload_n 3, 1) := by decide +kernel
theorem d_L_law_167 : decode k_L_law 167 = .ok (.iconst 3, 1) := by decide +kernel
theorem d_L_law_168 : decode k_L_law 168 = .ok (.iadd, 1) := by decide +kernel
theorem d_L_law_169 : decode k_L_law 169 = .ok (.iaload, 1) := by decide +kernel
theorem d_L_law_170 : decode k_L_law 170 = .ok (.invokevirtual 22, 3) := by decide +kernel
theorem d_L_law_173 : decode k_L_law 173 = .ok (.if_icmp .eq 258, 3) := by decide +kernel
theorem d_L_law_176 : decode k_L_law 176 = .ok (.iconst 0, 1) := by decide +kernel
theorem d_L_law_177 : decode k_L_law 177 = .ok (.ireturn, 1) := by decide +kernel
theorem d_L_law_178 : decode k_L_law 178 = .ok (.aload_n 1, 1) := by decide +kernel
theorem d_L_law_179 : decode k_L_law 179 = .ok (.invokevirtual 23, 3) := by decide +kernel
theorem d_L_law_182 : decode k_L_law 182 = .ok (.aload_n 2, 1) := by decide +kernel
theorem d_L_law_183 : decode k_L_law 183 = .ok (.invokevirtual 27, 3) := by decide +kernel
theorem d_L_law_186 : decode k_L_law 186 = .ok (.if_icmp .eq 245, 3) := by decide +kernel
theorem d_L_law_189 : decode k_L_law 189 = .ok (.iconst 0, 1) := by decide +kernel
theorem d_L_law_190 : decode k_L_law 190 = .ok (.ireturn, 1) := by decide +kernel
theorem d_L_law_191 : decode k_L_law 191 = .ok (.aload_n 1, 1) := by decide +kernel
theorem d_L_law_192 : decode k_L_law 192 = .ok (.aload_n 0, 1) := by decide +kernel
theorem d_L_law_193 : decode k_L_law 193 = .ok (.iload_n 3, 1) := by decide +kernel
theorem d_L_law_194 : decode k_L_law 194 = .ok (.iconst 1, 1) := by decide +kernel
theorem d_L_law_195 : decode k_L_law 195 = .ok (.iadd, 1) := by decide +kernel
theorem d_L_law_196 : decode k_L_law 196 = .ok (.iaload, 1) := by decide +kernel
theorem d_L_law_197 : decode k_L_law 197 = .ok (.aload_n 0, 1) := by decide +kernel
theorem d_L_law_198 : decode k_L_law 198 = .ok (.iload_n 3, 1) := by decide +kernel
theorem d_L_law_199 : decode k_L_law 199 = .ok (.iconst 2, 1) := by decide +kernel
theorem d_L_law_200 : decode k_L_law 200 = .ok (.iadd, 1) := by decide +kernel
theorem d_L_law_201 : decode k_L_law 201 = .ok (.iaload, 1) := by decide +kernel
theorem d_L_law_202 : decode k_L_law 202 = .ok (.invokevirtual 28, 3) := by decide +kernel
theorem d_L_law_205 : decode k_L_law 205 = .ok (.aload_n 2, 1) := by decide +kernel
theorem d_L_law_206 : decode k_L_law 206 = .ok (.aload_n 0, 1) := by decide +kernel
theorem d_L_law_207 : decode k_L_law 207 = .ok (.iload_n 3, 1) := by decide +kernel
theorem d_L_law_208 : decode k_L_law 208 = .ok (.iconst 1, 1) := by decide +kernel
theorem d_L_law_209 : decode k_L_law 209 = .ok (.iadd, 1) := by decide +kernel
