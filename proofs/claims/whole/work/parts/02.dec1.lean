theorem dX0_init_0 : decode cX0_init 0 = .ok (.aload_n 0, 1) := by decide +kernel
theorem dX0_init_1 : decode cX0_init 1 = .ok (.invokespecial 3, 3) := by decide +kernel
theorem dX0_init_4 : decode cX0_init 4 = .ok (.aload_n 0, 1) := by decide +kernel
theorem dX0_init_5 : decode cX0_init 5 = .ok (.bipush 20, 2) := by decide +kernel
theorem dX0_init_7 : decode cX0_init 7 = .ok (.newarray .int, 2) := by decide +kernel
theorem dX0_init_9 : decode cX0_init 9 = .ok (.putfield 11, 3) := by decide +kernel
theorem dX0_init_12 : decode cX0_init 12 = .ok (.return_, 1) := by decide +kernel
theorem dX0_begin_0 : decode cX0_begin 0 = .ok (.aload_n 0, 1) := by decide +kernel
theorem dX0_begin_1 : decode cX0_begin 1 = .ok (.iconst 0, 1) := by decide +kernel
theorem dX0_begin_2 : decode cX0_begin 2 = .ok (.putfield 15, 3) := by decide +kernel
theorem dX0_begin_5 : decode cX0_begin 5 = .ok (.iload_n 1, 1) := by decide +kernel
theorem dX0_begin_6 : decode cX0_begin 6 = .ok (.invokestatic 19, 3) := by decide +kernel
theorem dX0_begin_9 : decode cX0_begin 9 = .ok (.ifCond .eq 12, 3) := by decide +kernel
theorem dX0_begin_12 : decode cX0_begin 12 = .ok (.iload_n 2, 1) := by decide +kernel
theorem dX0_begin_13 : decode cX0_begin 13 = .ok (.ifCond .lt 8, 3) := by decide +kernel
theorem dX0_begin_16 : decode cX0_begin 16 = .ok (.iload_n 2, 1) := by decide +kernel
theorem dX0_begin_17 : decode cX0_begin 17 = .ok (.iconst 3, 1) := by decide +kernel
theorem dX0_begin_18 : decode cX0_begin 18 = .ok (.if_icmp .lt 5, 3) := by decide +kernel
theorem dX0_begin_21 : decode cX0_begin 21 = .ok (.iconst 0, 1) := by decide +kernel
theorem dX0_begin_22 : decode cX0_begin 22 = .ok (.ireturn, 1) := by decide +kernel
theorem dX0_begin_23 : decode cX0_begin 23 = .ok (.aload_n 0, 1) := by decide +kernel
theorem dX0_begin_24 : decode cX0_begin 24 = .ok (.iload_n 1, 1) := by decide +kernel
theorem dX0_begin_25 : decode cX0_begin 25 = .ok (.putfield 23, 3) := by decide +kernel
theorem dX0_begin_28 : decode cX0_begin 28 = .ok (.aload_n 0, 1) := by decide +kernel
theorem dX0_begin_29 : decode cX0_begin 29 = .ok (.iload 4, 2) := by decide +kernel
theorem dX0_begin_31 : decode cX0_begin 31 = .ok (.putfield 26, 3) := by decide +kernel
theorem dX0_begin_34 : decode cX0_begin 34 = .ok (.aload_n 0, 1) := by decide +kernel
theorem dX0_begin_35 : decode cX0_begin 35 = .ok (.iload 5, 2) := by decide +kernel
theorem dX0_begin_37 : decode cX0_begin 37 = .ok (.putfield 29, 3) := by decide +kernel
theorem dX0_begin_40 : decode cX0_begin 40 = .ok (.aload_n 0, 1) := by decide +kernel
theorem dX0_begin_41 : decode cX0_begin 41 = .ok (.iload_n 2, 1) := by decide +kernel
theorem dX0_begin_42 : decode cX0_begin 42 = .ok (.iload_n 1, 1) := by decide +kernel
theorem dX0_begin_43 : decode cX0_begin 43 = .ok (.iload_n 3, 1) := by decide +kernel
theorem dX0_begin_44 : decode cX0_begin 44 = .ok (.iconst 0, 1) := by decide +kernel
theorem dX0_begin_45 : decode cX0_begin 45 = .ok (.invokevirtual 32, 3) := by decide +kernel
theorem dX0_begin_48 : decode cX0_begin 48 = .ok (.ireturn, 1) := by decide +kernel
theorem dX0_ran_0 : decode cX0_ran 0 = .ok (.aload_n 0, 1) := by decide +kernel
theorem dX0_ran_1 : decode cX0_ran 1 = .ok (.getfield 15, 3) := by decide +kernel
theorem dX0_ran_4 : decode cX0_ran 4 = .ok (.ireturn, 1) := by decide +kernel
theorem dX0_keptBody_0 : decode cX0_keptBody 0 = .ok (.iload_n 1, 1) := by decide +kernel
theorem dX0_keptBody_1 : decode cX0_keptBody 1 = .ok (.ifCond .lt 29, 3) := by decide +kernel
theorem dX0_keptBody_4 : decode cX0_keptBody 4 = .ok (.iload_n 1, 1) := by decide +kernel
theorem dX0_keptBody_5 : decode cX0_keptBody 5 = .ok (.aload_n 0, 1) := by decide +kernel
theorem dX0_keptBody_6 : decode cX0_keptBody 6 = .ok (.getfield 15, 3) := by decide +kernel
theorem dX0_keptBody_9 : decode cX0_keptBody 9 = .ok (.if_icmp .ge 21, 3) := by decide +kernel
theorem dX0_keptBody_12 : decode cX0_keptBody 12 = .ok (.iload_n 1, 1) := by decide +kernel
theorem dX0_keptBody_13 : decode cX0_keptBody 13 = .ok (.aload_n 0, 1) := by decide +kernel
theorem dX0_keptBody_14 : decode cX0_keptBody 14 = .ok (.getfield 11, 3) := by decide +kernel
theorem dX0_keptBody_17 : decode cX0_keptBody 17 = .ok (.arraylength, 1) := by decide +kernel
theorem dX0_keptBody_18 : decode cX0_keptBody 18 = .ok (.if_icmp .ge 12, 3) := by decide +kernel
theorem dX0_keptBody_21 : decode cX0_keptBody 21 = .ok (.aload_n 0, 1) := by decide +kernel
theorem dX0_keptBody_22 : decode cX0_keptBody 22 = .ok (.getfield 11, 3) := by decide +kernel
theorem dX0_keptBody_25 : decode cX0_keptBody 25 = .ok (.iload_n 1, 1) := by decide +kernel
theorem dX0_keptBody_26 : decode cX0_keptBody 26 = .ok (.iaload, 1) := by decide +kernel
theorem dX0_keptBody_27 : decode cX0_keptBody 27 = .ok (.goto 4, 3) := by decide +kernel
theorem dX0_keptBody_30 : decode cX0_keptBody 30 = .ok (.iconst (-1), 1) := by decide +kernel
theorem dX0_keptBody_31 : decode cX0_keptBody 31 = .ok (.ireturn, 1) := by decide +kernel
theorem dX0_keep_0 : decode cX0_keep 0 = .ok (.aload_n 0, 1) := by decide +kernel
theorem dX0_keep_1 : decode cX0_keep 1 = .ok (.getfield 15, 3) := by decide +kernel
theorem dX0_keep_4 : decode cX0_keep 4 = .ok (.ifCond .lt 25, 3) := by decide +kernel
theorem dX0_keep_7 : decode cX0_keep 7 = .ok (.aload_n 0, 1) := by decide +kernel
theorem dX0_keep_8 : decode cX0_keep 8 = .ok (.getfield 15, 3) := by decide +kernel
theorem dX0_keep_11 : decode cX0_keep 11 = .ok (.aload_n 0, 1) := by decide +kernel
theorem dX0_keep_12 : decode cX0_keep 12 = .ok (.getfield 11, 3) := by decide +kernel
theorem dX0_keep_15 : decode cX0_keep 15 = .ok (.arraylength, 1) := by decide +kernel
theorem dX0_keep_16 : decode cX0_keep 16 = .ok (.if_icmp .ge 13, 3) := by decide +kernel
theorem dX0_keep_19 : decode cX0_keep 19 = .ok (.aload_n 0, 1) := by decide +kernel
theorem dX0_keep_20 : decode cX0_keep 20 = .ok (.getfield 11, 3) := by decide +kernel
theorem dX0_keep_23 : decode cX0_keep 23 = .ok (.aload_n 0, 1) := by decide +kernel
theorem dX0_keep_24 : decode cX0_keep 24 = .ok (.getfield 15, 3) := by decide +kernel
theorem dX0_keep_27 : decode cX0_keep 27 = .ok (.iload_n 1, 1) := by decide +kernel
theorem dX0_keep_28 : decode cX0_keep 28 = .ok (.iastore, 1) := by decide +kernel
theorem dX0_keep_29 : decode cX0_keep 29 = .ok (.aload_n 0, 1) := by decide +kernel
theorem dX0_keep_30 : decode cX0_keep 30 = .ok (.dup, 1) := by decide +kernel
theorem dX0_keep_31 : decode cX0_keep 31 = .ok (.getfield 15, 3) := by decide +kernel
theorem dX0_keep_34 : decode cX0_keep 34 = .ok (.iconst 1, 1) := by decide +kernel
theorem dX0_keep_35 : decode cX0_keep 35 = .ok (.iadd, 1) := by decide +kernel
theorem dX0_keep_36 : decode cX0_keep 36 = .ok (.putfield 15, 3) := by decide +kernel
theorem dX0_keep_39 : decode cX0_keep 39 = .ok (.return_, 1) := by decide +kernel
theorem dX0_bodyFrom_0 : decode cX0_bodyFrom 0 = .ok (.iload_n 0, 1) := by decide +kernel
theorem dX0_bodyFrom_1 : decode cX0_bodyFrom 1 = .ok (.istore_n 2, 1) := by decide +kernel
theorem dX0_bodyFrom_2 : decode cX0_bodyFrom 2 = .ok (.iconst 0, 1) := by decide +kernel
theorem dX0_bodyFrom_3 : decode cX0_bodyFrom 3 = .ok (.istore_n 3, 1) := by decide +kernel
theorem dX0_bodyFrom_4 : decode cX0_bodyFrom 4 = .ok (.iload_n 3, 1) := by decide +kernel
theorem dX0_bodyFrom_5 : decode cX0_bodyFrom 5 = .ok (.bipush 7, 2) := by decide +kernel
theorem dX0_bodyFrom_7 : decode cX0_bodyFrom 7 = .ok (.if_icmp .ge 57, 3) := by decide +kernel
theorem dX0_bodyFrom_10 : decode cX0_bodyFrom 10 = .ok (.iconst 3, 1) := by decide +kernel
theorem dX0_bodyFrom_11 : decode cX0_bodyFrom 11 = .ok (.iload_n 2, 1) := by decide +kernel
theorem dX0_bodyFrom_12 : decode cX0_bodyFrom 12 = .ok (.imul, 1) := by decide +kernel
theorem dX0_bodyFrom_13 : decode cX0_bodyFrom 13 = .ok (.iload_n 1, 1) := by decide +kernel
theorem dX0_bodyFrom_14 : decode cX0_bodyFrom 14 = .ok (.iadd, 1) := by decide +kernel
theorem dX0_bodyFrom_15 : decode cX0_bodyFrom 15 = .ok (.istore 4, 2) := by decide +kernel
theorem dX0_bodyFrom_17 : decode cX0_bodyFrom 17 = .ok (.iload_n 2, 1) := by decide +kernel
theorem dX0_bodyFrom_18 : decode cX0_bodyFrom 18 = .ok (.ifCond .lt 17, 3) := by decide +kernel
theorem dX0_bodyFrom_21 : decode cX0_bodyFrom 21 = .ok (.iload 4, 2) := by decide +kernel
theorem dX0_bodyFrom_23 : decode cX0_bodyFrom 23 = .ok (.ifCond .lt 12, 3) := by decide +kernel
theorem dX0_bodyFrom_26 : decode cX0_bodyFrom 26 = .ok (.iload 4, 2) := by decide +kernel
theorem dX0_bodyFrom_28 : decode cX0_bodyFrom 28 = .ok (.getstatic 36, 3) := by decide +kernel
theorem dX0_bodyFrom_31 : decode cX0_bodyFrom 31 = .ok (.arraylength, 1) := by decide +kernel
theorem dX0_bodyFrom_32 : decode cX0_bodyFrom 32 = .ok (.if_icmp .lt 5, 3) := by decide +kernel
theorem dX0_bodyFrom_35 : decode cX0_bodyFrom 35 = .ok (.iconst 0, 1) := by decide +kernel
theorem dX0_bodyFrom_36 : decode cX0_bodyFrom 36 = .ok (.ireturn, 1) := by decide +kernel
theorem dX0_bodyFrom_37 : decode cX0_bodyFrom 37 = .ok (.getstatic 36, 3) := by decide +kernel
theorem dX0_bodyFrom_40 : decode cX0_bodyFrom 40 = .ok (.iload 4, 2) := by decide +kernel
theorem dX0_bodyFrom_42 : decode cX0_bodyFrom 42 = .ok (.iaload, 1) := by decide +kernel
theorem dX0_bodyFrom_43 : decode cX0_bodyFrom 43 = .ok (.ifCond .eq 10, 3) := by decide +kernel
theorem dX0_bodyFrom_46 : decode cX0_bodyFrom 46 = .ok (.getstatic 36, 3) := by decide +kernel
theorem dX0_bodyFrom_49 : decode cX0_bodyFrom 49 = .ok (.iload 4, 2) := by decide +kernel
theorem dX0_bodyFrom_51 : decode cX0_bodyFrom 51 = .ok (.iaload, 1) := by decide +kernel
theorem dX0_bodyFrom_52 : decode cX0_bodyFrom 52 = .ok (.ireturn, 1) := by decide +kernel
theorem dX0_bodyFrom_53 : decode cX0_bodyFrom 53 = .ok (.iload_n 2, 1) := by decide +kernel
theorem dX0_bodyFrom_54 : decode cX0_bodyFrom 54 = .ok (.invokestatic 39, 3) := by decide +kernel
theorem dX0_bodyFrom_57 : decode cX0_bodyFrom 57 = .ok (.istore_n 2, 1) := by decide +kernel
theorem dX0_bodyFrom_58 : decode cX0_bodyFrom 58 = .ok (.iinc 3 1, 3) := by decide +kernel
theorem dX0_bodyFrom_61 : decode cX0_bodyFrom 61 = .ok (.goto (-57), 3) := by decide +kernel
theorem dX0_bodyFrom_64 : decode cX0_bodyFrom 64 = .ok (.iconst 0, 1) := by decide +kernel
theorem dX0_bodyFrom_65 : decode cX0_bodyFrom 65 = .ok (.ireturn, 1) := by decide +kernel
theorem dX0_run_0 : decode cX0_run 0 = .ok (.iload 4, 2) := by decide +kernel
theorem dX0_run_2 : decode cX0_run 2 = .ok (.bipush 30, 2) := by decide +kernel
theorem dX0_run_4 : decode cX0_run 4 = .ok (.if_icmp .le 5, 3) := by decide +kernel
theorem dX0_run_7 : decode cX0_run 7 = .ok (.iconst 0, 1) := by decide +kernel
theorem dX0_run_8 : decode cX0_run 8 = .ok (.ireturn, 1) := by decide +kernel
theorem dX0_run_9 : decode cX0_run 9 = .ok (.iload_n 2, 1) := by decide +kernel
theorem dX0_run_10 : decode cX0_run 10 = .ok (.iload_n 1, 1) := by decide +kernel
theorem dX0_run_11 : decode cX0_run 11 = .ok (.invokestatic 43, 3) := by decide +kernel
theorem dX0_run_14 : decode cX0_run 14 = .ok (.istore 5, 2) := by decide +kernel
theorem dX0_run_16 : decode cX0_run 16 = .ok (.aload_n 0, 1) := by decide +kernel
theorem dX0_run_17 : decode cX0_run 17 = .ok (.iload 5, 2) := by decide +kernel
theorem dX0_run_19 : decode cX0_run 19 = .ok (.invokevirtual 47, 3) := by decide +kernel
theorem dX0_run_22 : decode cX0_run 22 = .ok (.iload 4, 2) := by decide +kernel
theorem dX0_run_24 : decode cX0_run 24 = .ok (.iconst 1, 1) := by decide +kernel
theorem dX0_run_25 : decode cX0_run 25 = .ok (.iadd, 1) := by decide +kernel
theorem dX0_run_26 : decode cX0_run 26 = .ok (.istore 6, 2) := by decide +kernel
theorem dX0_run_28 : decode cX0_run 28 = .ok (.iload 5, 2) := by decide +kernel
theorem dX0_run_30 : decode cX0_run 30 = .ok (.lookupswitch 269 #[(10, 98), (11, 105), (12, 123), (20, 138), (30, 150), (40, 162), (41, 185), (50, 196), (60, 216), (61, 239), (70, 254)], 98) := by decide +kernel
theorem dX0_run_128 : decode cX0_run 128 = .ok (.iload_n 3, 1) := by decide +kernel
theorem dX0_run_129 : decode cX0_run 129 = .ok (.aload_n 0, 1) := by decide +kernel
theorem dX0_run_130 : decode cX0_run 130 = .ok (.getfield 26, 3) := by decide +kernel
theorem dX0_run_133 : decode cX0_run 133 = .ok (.iadd, 1) := by decide +kernel
theorem dX0_run_134 : decode cX0_run 134 = .ok (.ireturn, 1) := by decide +kernel
theorem dX0_run_135 : decode cX0_run 135 = .ok (.aload_n 0, 1) := by decide +kernel
theorem dX0_run_136 : decode cX0_run 136 = .ok (.iconst 0, 1) := by decide +kernel
theorem dX0_run_137 : decode cX0_run 137 = .ok (.aload_n 0, 1) := by decide +kernel
theorem dX0_run_138 : decode cX0_run 138 = .ok (.getfield 23, 3) := by decide +kernel
theorem dX0_run_141 : decode cX0_run 141 = .ok (.iload_n 3, 1) := by decide +kernel
theorem dX0_run_142 : decode cX0_run 142 = .ok (.iload 6, 2) := by decide +kernel
theorem dX0_run_144 : decode cX0_run 144 = .ok (.invokevirtual 32, 3) := by decide +kernel
theorem dX0_run_147 : decode cX0_run 147 = .ok (.aload_n 0, 1) := by decide +kernel
theorem dX0_run_148 : decode cX0_run 148 = .ok (.getfield 29, 3) := by decide +kernel
theorem dX0_run_151 : decode cX0_run 151 = .ok (.isub, 1) := by decide +kernel
theorem dX0_run_152 : decode cX0_run 152 = .ok (.ireturn, 1) := by decide +kernel
theorem dX0_run_153 : decode cX0_run 153 = .ok (.aload_n 0, 1) := by decide +kernel
theorem dX0_run_154 : decode cX0_run 154 = .ok (.iconst 1, 1) := by decide +kernel
theorem dX0_run_155 : decode cX0_run 155 = .ok (.aload_n 0, 1) := by decide +kernel
theorem dX0_run_156 : decode cX0_run 156 = .ok (.getfield 23, 3) := by decide +kernel
theorem dX0_run_159 : decode cX0_run 159 = .ok (.iload_n 3, 1) := by decide +kernel
theorem dX0_run_160 : decode cX0_run 160 = .ok (.iload 6, 2) := by decide +kernel
theorem dX0_run_162 : decode cX0_run 162 = .ok (.invokevirtual 32, 3) := by decide +kernel
theorem dX0_run_165 : decode cX0_run 165 = .ok (.iconst 2, 1) := by decide +kernel
theorem dX0_run_166 : decode cX0_run 166 = .ok (.imul, 1) := by decide +kernel
theorem dX0_run_167 : decode cX0_run 167 = .ok (.ireturn, 1) := by decide +kernel
theorem dX0_run_168 : decode cX0_run 168 = .ok (.aload_n 0, 1) := by decide +kernel
theorem dX0_run_169 : decode cX0_run 169 = .ok (.iconst 0, 1) := by decide +kernel
theorem dX0_run_170 : decode cX0_run 170 = .ok (.iconst 0, 1) := by decide +kernel
theorem dX0_run_171 : decode cX0_run 171 = .ok (.iload_n 3, 1) := by decide +kernel
theorem dX0_run_172 : decode cX0_run 172 = .ok (.iconst 3, 1) := by decide +kernel
theorem dX0_run_173 : decode cX0_run 173 = .ok (.imul, 1) := by decide +kernel
theorem dX0_run_174 : decode cX0_run 174 = .ok (.iload 6, 2) := by decide +kernel
theorem dX0_run_176 : decode cX0_run 176 = .ok (.invokevirtual 32, 3) := by decide +kernel
theorem dX0_run_179 : decode cX0_run 179 = .ok (.ireturn, 1) := by decide +kernel
theorem dX0_run_180 : decode cX0_run 180 = .ok (.aload_n 0, 1) := by decide +kernel
theorem dX0_run_181 : decode cX0_run 181 = .ok (.iconst 1, 1) := by decide +kernel
theorem dX0_run_182 : decode cX0_run 182 = .ok (.iconst 0, 1) := by decide +kernel
theorem dX0_run_183 : decode cX0_run 183 = .ok (.iload_n 3, 1) := by decide +kernel
theorem dX0_run_184 : decode cX0_run 184 = .ok (.iload 6, 2) := by decide +kernel
theorem dX0_run_186 : decode cX0_run 186 = .ok (.invokevirtual 32, 3) := by decide +kernel
theorem dX0_run_189 : decode cX0_run 189 = .ok (.iconst 5, 1) := by decide +kernel
theorem dX0_run_190 : decode cX0_run 190 = .ok (.ixor, 1) := by decide +kernel
theorem dX0_run_191 : decode cX0_run 191 = .ok (.ireturn, 1) := by decide +kernel
theorem dX0_run_192 : decode cX0_run 192 = .ok (.aload_n 0, 1) := by decide +kernel
theorem dX0_run_193 : decode cX0_run 193 = .ok (.iconst 2, 1) := by decide +kernel
theorem dX0_run_194 : decode cX0_run 194 = .ok (.iconst 0, 1) := by decide +kernel
theorem dX0_run_195 : decode cX0_run 195 = .ok (.iload_n 3, 1) := by decide +kernel
theorem dX0_run_196 : decode cX0_run 196 = .ok (.iload 6, 2) := by decide +kernel
theorem dX0_run_198 : decode cX0_run 198 = .ok (.invokevirtual 32, 3) := by decide +kernel
theorem dX0_run_201 : decode cX0_run 201 = .ok (.aload_n 0, 1) := by decide +kernel
theorem dX0_run_202 : decode cX0_run 202 = .ok (.iconst 0, 1) := by decide +kernel
theorem dX0_run_203 : decode cX0_run 203 = .ok (.aload_n 0, 1) := by decide +kernel
theorem dX0_run_204 : decode cX0_run 204 = .ok (.getfield 23, 3) := by decide +kernel
theorem dX0_run_207 : decode cX0_run 207 = .ok (.iconst 1, 1) := by decide +kernel
theorem dX0_run_208 : decode cX0_run 208 = .ok (.iload 6, 2) := by decide +kernel
theorem dX0_run_210 : decode cX0_run 210 = .ok (.invokevirtual 32, 3) := by decide +kernel
theorem dX0_run_213 : decode cX0_run 213 = .ok (.iadd, 1) := by decide +kernel
theorem dX0_run_214 : decode cX0_run 214 = .ok (.ireturn, 1) := by decide +kernel
theorem dX0_run_215 : decode cX0_run 215 = .ok (.aload_n 0, 1) := by decide +kernel
theorem dX0_run_216 : decode cX0_run 216 = .ok (.iconst 1, 1) := by decide +kernel
theorem dX0_run_217 : decode cX0_run 217 = .ok (.iconst 0, 1) := by decide +kernel
theorem dX0_run_218 : decode cX0_run 218 = .ok (.iload_n 3, 1) := by decide +kernel
theorem dX0_run_219 : decode cX0_run 219 = .ok (.iload 6, 2) := by decide +kernel
theorem dX0_run_221 : decode cX0_run 221 = .ok (.invokevirtual 32, 3) := by decide +kernel
theorem dX0_run_224 : decode cX0_run 224 = .ok (.ineg, 1) := by decide +kernel
theorem dX0_run_225 : decode cX0_run 225 = .ok (.ireturn, 1) := by decide +kernel
theorem dX0_run_226 : decode cX0_run 226 = .ok (.aload_n 0, 1) := by decide +kernel
theorem dX0_run_227 : decode cX0_run 227 = .ok (.iconst 1, 1) := by decide +kernel
theorem dX0_run_228 : decode cX0_run 228 = .ok (.iconst 1, 1) := by decide +kernel
theorem dX0_run_229 : decode cX0_run 229 = .ok (.iload_n 3, 1) := by decide +kernel
theorem dX0_run_230 : decode cX0_run 230 = .ok (.iload 6, 2) := by decide +kernel
theorem dX0_run_232 : decode cX0_run 232 = .ok (.invokevirtual 32, 3) := by decide +kernel
theorem dX0_run_235 : decode cX0_run 235 = .ok (.aload_n 0, 1) := by decide +kernel
theorem dX0_run_236 : decode cX0_run 236 = .ok (.iconst 0, 1) := by decide +kernel
theorem dX0_run_237 : decode cX0_run 237 = .ok (.iconst 1, 1) := by decide +kernel
theorem dX0_run_238 : decode cX0_run 238 = .ok (.iconst 2, 1) := by decide +kernel
theorem dX0_run_239 : decode cX0_run 239 = .ok (.iload 6, 2) := by decide +kernel
theorem dX0_run_241 : decode cX0_run 241 = .ok (.invokevirtual 32, 3) := by decide +kernel
theorem dX0_run_244 : decode cX0_run 244 = .ok (.iadd, 1) := by decide +kernel
theorem dX0_run_245 : decode cX0_run 245 = .ok (.ireturn, 1) := by decide +kernel
theorem dX0_run_246 : decode cX0_run 246 = .ok (.aload_n 0, 1) := by decide +kernel
theorem dX0_run_247 : decode cX0_run 247 = .ok (.iconst 1, 1) := by decide +kernel
theorem dX0_run_248 : decode cX0_run 248 = .ok (.aload_n 0, 1) := by decide +kernel
theorem dX0_run_249 : decode cX0_run 249 = .ok (.getfield 23, 3) := by decide +kernel
theorem dX0_run_252 : decode cX0_run 252 = .ok (.iload_n 3, 1) := by decide +kernel
theorem dX0_run_253 : decode cX0_run 253 = .ok (.iload 6, 2) := by decide +kernel
theorem dX0_run_255 : decode cX0_run 255 = .ok (.invokevirtual 32, 3) := by decide +kernel
theorem dX0_run_258 : decode cX0_run 258 = .ok (.aload_n 0, 1) := by decide +kernel
theorem dX0_run_259 : decode cX0_run 259 = .ok (.iconst 2, 1) := by decide +kernel
theorem dX0_run_260 : decode cX0_run 260 = .ok (.iconst 3, 1) := by decide +kernel
theorem dX0_run_261 : decode cX0_run 261 = .ok (.iload_n 3, 1) := by decide +kernel
theorem dX0_run_262 : decode cX0_run 262 = .ok (.iload 6, 2) := by decide +kernel
theorem dX0_run_264 : decode cX0_run 264 = .ok (.invokevirtual 32, 3) := by decide +kernel
theorem dX0_run_267 : decode cX0_run 267 = .ok (.isub, 1) := by decide +kernel
theorem dX0_run_268 : decode cX0_run 268 = .ok (.ireturn, 1) := by decide +kernel
theorem dX0_run_269 : decode cX0_run 269 = .ok (.aload_n 0, 1) := by decide +kernel
theorem dX0_run_270 : decode cX0_run 270 = .ok (.iconst 0, 1) := by decide +kernel
theorem dX0_run_271 : decode cX0_run 271 = .ok (.iconst 3, 1) := by decide +kernel
theorem dX0_run_272 : decode cX0_run 272 = .ok (.iload_n 3, 1) := by decide +kernel
theorem dX0_run_273 : decode cX0_run 273 = .ok (.iload 6, 2) := by decide +kernel
theorem dX0_run_275 : decode cX0_run 275 = .ok (.invokevirtual 32, 3) := by decide +kernel
theorem dX0_run_278 : decode cX0_run 278 = .ok (.aload_n 0, 1) := by decide +kernel
theorem dX0_run_279 : decode cX0_run 279 = .ok (.getfield 29, 3) := by decide +kernel
theorem dX0_run_282 : decode cX0_run 282 = .ok (.ixor, 1) := by decide +kernel
theorem dX0_run_283 : decode cX0_run 283 = .ok (.ireturn, 1) := by decide +kernel
theorem dX0_run_284 : decode cX0_run 284 = .ok (.aload_n 0, 1) := by decide +kernel
theorem dX0_run_285 : decode cX0_run 285 = .ok (.iconst 2, 1) := by decide +kernel
theorem dX0_run_286 : decode cX0_run 286 = .ok (.iconst 1, 1) := by decide +kernel
theorem dX0_run_287 : decode cX0_run 287 = .ok (.iload_n 3, 1) := by decide +kernel
theorem dX0_run_288 : decode cX0_run 288 = .ok (.aload_n 0, 1) := by decide +kernel
theorem dX0_run_289 : decode cX0_run 289 = .ok (.getfield 26, 3) := by decide +kernel
theorem dX0_run_292 : decode cX0_run 292 = .ok (.isub, 1) := by decide +kernel
theorem dX0_run_293 : decode cX0_run 293 = .ok (.iload 6, 2) := by decide +kernel
theorem dX0_run_295 : decode cX0_run 295 = .ok (.invokevirtual 32, 3) := by decide +kernel
theorem dX0_run_298 : decode cX0_run 298 = .ok (.ireturn, 1) := by decide +kernel
theorem dX0_run_299 : decode cX0_run 299 = .ok (.iconst 0, 1) := by decide +kernel
theorem dX0_run_300 : decode cX0_run 300 = .ok (.ireturn, 1) := by decide +kernel
theorem dX1_init_0 : decode cX1_init 0 = .ok (.aload_n 0, 1) := by decide +kernel
theorem dX1_init_1 : decode cX1_init 1 = .ok (.invokespecial 3, 3) := by decide +kernel
theorem dX1_init_4 : decode cX1_init 4 = .ok (.aload_n 0, 1) := by decide +kernel
theorem dX1_init_5 : decode cX1_init 5 = .ok (.new 9, 3) := by decide +kernel
theorem dX1_init_8 : decode cX1_init 8 = .ok (.dup, 1) := by decide +kernel
theorem dX1_init_9 : decode cX1_init 9 = .ok (.invokespecial 11, 3) := by decide +kernel
theorem dX1_init_12 : decode cX1_init 12 = .ok (.putfield 12, 3) := by decide +kernel
theorem dX1_init_15 : decode cX1_init 15 = .ok (.aload_n 0, 1) := by decide +kernel
theorem dX1_init_16 : decode cX1_init 16 = .ok (.aload_n 1, 1) := by decide +kernel
theorem dX1_init_17 : decode cX1_init 17 = .ok (.invokestatic 18, 3) := by decide +kernel
theorem dX1_init_20 : decode cX1_init 20 = .ok (.putfield 22, 3) := by decide +kernel
theorem dX1_init_23 : decode cX1_init 23 = .ok (.aload_n 0, 1) := by decide +kernel
theorem dX1_init_24 : decode cX1_init 24 = .ok (.aload_n 0, 1) := by decide +kernel
theorem dX1_init_25 : decode cX1_init 25 = .ok (.getfield 22, 3) := by decide +kernel
theorem dX1_init_28 : decode cX1_init 28 = .ok (.invokestatic 26, 3) := by decide +kernel
theorem dX1_init_31 : decode cX1_init 31 = .ok (.putfield 30, 3) := by decide +kernel
theorem dX1_init_34 : decode cX1_init 34 = .ok (.aload_n 0, 1) := by decide +kernel
theorem dX1_init_35 : decode cX1_init 35 = .ok (.aload_n 0, 1) := by decide +kernel
theorem dX1_init_36 : decode cX1_init 36 = .ok (.getfield 30, 3) := by decide +kernel
theorem dX1_init_39 : decode cX1_init 39 = .ok (.invokestatic 34, 3) := by decide +kernel
theorem dX1_init_42 : decode cX1_init 42 = .ok (.putfield 38, 3) := by decide +kernel
theorem dX1_init_45 : decode cX1_init 45 = .ok (.aload_n 0, 1) := by decide +kernel
theorem dX1_init_46 : decode cX1_init 46 = .ok (.iconst 0, 1) := by decide +kernel
theorem dX1_init_47 : decode cX1_init 47 = .ok (.invokevirtual 41, 3) := by decide +kernel
theorem dX1_init_50 : decode cX1_init 50 = .ok (.ifCond .eq 12, 3) := by decide +kernel
theorem dX1_init_53 : decode cX1_init 53 = .ok (.aload_n 0, 1) := by decide +kernel
theorem dX1_init_54 : decode cX1_init 54 = .ok (.iconst 0, 1) := by decide +kernel
theorem dX1_init_55 : decode cX1_init 55 = .ok (.aload_n 0, 1) := by decide +kernel
theorem dX1_init_56 : decode cX1_init 56 = .ok (.getfield 12, 3) := by decide +kernel
theorem dX1_init_59 : decode cX1_init 59 = .ok (.invokevirtual 45, 3) := by decide +kernel
theorem dX1_init_62 : decode cX1_init 62 = .ok (.return_, 1) := by decide +kernel
theorem dX1_faultOf_0 : decode cX1_faultOf 0 = .ok (.iconst 0, 1) := by decide +kernel
theorem dX1_faultOf_1 : decode cX1_faultOf 1 = .ok (.istore_n 1, 1) := by decide +kernel
theorem dX1_faultOf_2 : decode cX1_faultOf 2 = .ok (.iconst 0, 1) := by decide +kernel
theorem dX1_faultOf_3 : decode cX1_faultOf 3 = .ok (.istore_n 2, 1) := by decide +kernel
theorem dX1_faultOf_4 : decode cX1_faultOf 4 = .ok (.iload_n 2, 1) := by decide +kernel
theorem dX1_faultOf_5 : decode cX1_faultOf 5 = .ok (.bipush 12, 2) := by decide +kernel
theorem dX1_faultOf_7 : decode cX1_faultOf 7 = .ok (.if_icmp .ge 60, 3) := by decide +kernel
theorem dX1_faultOf_10 : decode cX1_faultOf 10 = .ok (.aload_n 0, 1) := by decide +kernel
theorem dX1_faultOf_11 : decode cX1_faultOf 11 = .ok (.iload_n 1, 1) := by decide +kernel
theorem dX1_faultOf_12 : decode cX1_faultOf 12 = .ok (.invokevirtual 49, 3) := by decide +kernel
theorem dX1_faultOf_15 : decode cX1_faultOf 15 = .ok (.istore_n 3, 1) := by decide +kernel
theorem dX1_faultOf_16 : decode cX1_faultOf 16 = .ok (.iload_n 3, 1) := by decide +kernel
theorem dX1_faultOf_17 : decode cX1_faultOf 17 = .ok (.invokestatic 55, 3) := by decide +kernel
theorem dX1_faultOf_20 : decode cX1_faultOf 20 = .ok (.ifCond .ne 5, 3) := by decide +kernel
theorem dX1_faultOf_23 : decode cX1_faultOf 23 = .ok (.iload_n 1, 1) := by decide +kernel
theorem dX1_faultOf_24 : decode cX1_faultOf 24 = .ok (.ireturn, 1) := by decide +kernel
theorem dX1_faultOf_25 : decode cX1_faultOf 25 = .ok (.iinc 1 1, 3) := by decide +kernel
theorem dX1_faultOf_28 : decode cX1_faultOf 28 = .ok (.iload_n 3, 1) := by decide +kernel
theorem dX1_faultOf_29 : decode cX1_faultOf 29 = .ok (.invokestatic 58, 3) := by decide +kernel
theorem dX1_faultOf_32 : decode cX1_faultOf 32 = .ok (.ifCond .eq 19, 3) := by decide +kernel
theorem dX1_faultOf_35 : decode cX1_faultOf 35 = .ok (.aload_n 0, 1) := by decide +kernel
theorem dX1_faultOf_36 : decode cX1_faultOf 36 = .ok (.iload_n 1, 1) := by decide +kernel
theorem dX1_faultOf_37 : decode cX1_faultOf 37 = .ok (.invokevirtual 49, 3) := by decide +kernel
theorem dX1_faultOf_40 : decode cX1_faultOf 40 = .ok (.invokestatic 61, 3) := by decide +kernel
theorem dX1_faultOf_43 : decode cX1_faultOf 43 = .ok (.ifCond .ne 5, 3) := by decide +kernel
theorem dX1_faultOf_46 : decode cX1_faultOf 46 = .ok (.iload_n 1, 1) := by decide +kernel
theorem dX1_faultOf_47 : decode cX1_faultOf 47 = .ok (.ireturn, 1) := by decide +kernel
theorem dX1_faultOf_48 : decode cX1_faultOf 48 = .ok (.iinc 1 1, 3) := by decide +kernel
theorem dX1_faultOf_51 : decode cX1_faultOf 51 = .ok (.iload_n 1, 1) := by decide +kernel
theorem dX1_faultOf_52 : decode cX1_faultOf 52 = .ok (.aload_n 0, 1) := by decide +kernel
theorem dX1_faultOf_53 : decode cX1_faultOf 53 = .ok (.invokevirtual 64, 3) := by decide +kernel
theorem dX1_faultOf_56 : decode cX1_faultOf 56 = .ok (.if_icmp .lt 5, 3) := by decide +kernel
theorem dX1_faultOf_59 : decode cX1_faultOf 59 = .ok (.iconst (-1), 1) := by decide +kernel
theorem dX1_faultOf_60 : decode cX1_faultOf 60 = .ok (.ireturn, 1) := by decide +kernel
theorem dX1_faultOf_61 : decode cX1_faultOf 61 = .ok (.iinc 2 1, 3) := by decide +kernel
theorem dX1_faultOf_64 : decode cX1_faultOf 64 = .ok (.goto (-60), 3) := by decide +kernel
theorem dX1_faultOf_67 : decode cX1_faultOf 67 = .ok (.iload_n 1, 1) := by decide +kernel
theorem dX1_faultOf_68 : decode cX1_faultOf 68 = .ok (.ireturn, 1) := by decide +kernel
theorem dX1_isLetter_0 : decode cX1_isLetter 0 = .ok (.iload_n 0, 1) := by decide +kernel
theorem dX1_isLetter_1 : decode cX1_isLetter 1 = .ok (.lookupswitch 77 #[(38, 75), (44, 75), (59, 75), (97, 75), (98, 75), (109, 75), (110, 75), (121, 75)], 75) := by decide +kernel
theorem dX1_isLetter_76 : decode cX1_isLetter 76 = .ok (.iconst 1, 1) := by decide +kernel
theorem dX1_isLetter_77 : decode cX1_isLetter 77 = .ok (.ireturn, 1) := by decide +kernel
theorem dX1_isLetter_78 : decode cX1_isLetter 78 = .ok (.iload_n 0, 1) := by decide +kernel
theorem dX1_isLetter_79 : decode cX1_isLetter 79 = .ok (.invokestatic 58, 3) := by decide +kernel
theorem dX1_isLetter_82 : decode cX1_isLetter 82 = .ok (.ireturn, 1) := by decide +kernel
theorem dX1_takesFigure_0 : decode cX1_takesFigure 0 = .ok (.iload_n 0, 1) := by decide +kernel
theorem dX1_takesFigure_1 : decode cX1_takesFigure 1 = .ok (.bipush 119, 2) := by decide +kernel
theorem dX1_takesFigure_3 : decode cX1_takesFigure 3 = .ok (.if_icmp .eq 21, 3) := by decide +kernel
theorem dX1_takesFigure_6 : decode cX1_takesFigure 6 = .ok (.iload_n 0, 1) := by decide +kernel
theorem dX1_takesFigure_7 : decode cX1_takesFigure 7 = .ok (.bipush 105, 2) := by decide +kernel
theorem dX1_takesFigure_9 : decode cX1_takesFigure 9 = .ok (.if_icmp .eq 15, 3) := by decide +kernel
theorem dX1_takesFigure_12 : decode cX1_takesFigure 12 = .ok (.iload_n 0, 1) := by decide +kernel
theorem dX1_takesFigure_13 : decode cX1_takesFigure 13 = .ok (.bipush 102, 2) := by decide +kernel
theorem dX1_takesFigure_15 : decode cX1_takesFigure 15 = .ok (.if_icmp .eq 9, 3) := by decide +kernel
theorem dX1_takesFigure_18 : decode cX1_takesFigure 18 = .ok (.iload_n 0, 1) := by decide +kernel
theorem dX1_takesFigure_19 : decode cX1_takesFigure 19 = .ok (.bipush 112, 2) := by decide +kernel
theorem dX1_takesFigure_21 : decode cX1_takesFigure 21 = .ok (.if_icmp .ne 7, 3) := by decide +kernel
theorem dX1_takesFigure_24 : decode cX1_takesFigure 24 = .ok (.iconst 1, 1) := by decide +kernel
theorem dX1_takesFigure_25 : decode cX1_takesFigure 25 = .ok (.goto 4, 3) := by decide +kernel
theorem dX1_takesFigure_28 : decode cX1_takesFigure 28 = .ok (.iconst 0, 1) := by decide +kernel
theorem dX1_takesFigure_29 : decode cX1_takesFigure 29 = .ok (.ireturn, 1) := by decide +kernel
theorem dX1_wordsOf_0 : decode cX1_wordsOf 0 = .ok (.iconst 0, 1) := by decide +kernel
theorem dX1_wordsOf_1 : decode cX1_wordsOf 1 = .ok (.istore_n 1, 1) := by decide +kernel
theorem dX1_wordsOf_2 : decode cX1_wordsOf 2 = .ok (.iconst 0, 1) := by decide +kernel
theorem dX1_wordsOf_3 : decode cX1_wordsOf 3 = .ok (.istore_n 2, 1) := by decide +kernel
theorem dX1_wordsOf_4 : decode cX1_wordsOf 4 = .ok (.iload_n 2, 1) := by decide +kernel
theorem dX1_wordsOf_5 : decode cX1_wordsOf 5 = .ok (.aload_n 0, 1) := by decide +kernel
theorem dX1_wordsOf_6 : decode cX1_wordsOf 6 = .ok (.invokevirtual 64, 3) := by decide +kernel
theorem dX1_wordsOf_9 : decode cX1_wordsOf 9 = .ok (.if_icmp .ge 34, 3) := by decide +kernel
theorem dX1_wordsOf_12 : decode cX1_wordsOf 12 = .ok (.iload_n 1, 1) := by decide +kernel
theorem dX1_wordsOf_13 : decode cX1_wordsOf 13 = .ok (.bipush 12, 2) := by decide +kernel
theorem dX1_wordsOf_15 : decode cX1_wordsOf 15 = .ok (.if_icmp .ge 28, 3) := by decide +kernel
theorem dX1_wordsOf_18 : decode cX1_wordsOf 18 = .ok (.iload_n 1, 1) := by decide +kernel
theorem dX1_wordsOf_19 : decode cX1_wordsOf 19 = .ok (.aload_n 0, 1) := by decide +kernel
theorem dX1_wordsOf_20 : decode cX1_wordsOf 20 = .ok (.iload_n 2, 1) := by decide +kernel
theorem dX1_wordsOf_21 : decode cX1_wordsOf 21 = .ok (.invokevirtual 49, 3) := by decide +kernel
theorem dX1_wordsOf_24 : decode cX1_wordsOf 24 = .ok (.invokestatic 61, 3) := by decide +kernel
theorem dX1_wordsOf_27 : decode cX1_wordsOf 27 = .ok (.ifCond .eq 7, 3) := by decide +kernel
theorem dX1_wordsOf_30 : decode cX1_wordsOf 30 = .ok (.iconst 0, 1) := by decide +kernel
theorem dX1_wordsOf_31 : decode cX1_wordsOf 31 = .ok (.goto 4, 3) := by decide +kernel
theorem dX1_wordsOf_34 : decode cX1_wordsOf 34 = .ok (.iconst 1, 1) := by decide +kernel
theorem dX1_wordsOf_35 : decode cX1_wordsOf 35 = .ok (.iadd, 1) := by decide +kernel
theorem dX1_wordsOf_36 : decode cX1_wordsOf 36 = .ok (.istore_n 1, 1) := by decide +kernel
theorem dX1_wordsOf_37 : decode cX1_wordsOf 37 = .ok (.iinc 2 1, 3) := by decide +kernel
theorem dX1_wordsOf_40 : decode cX1_wordsOf 40 = .ok (.goto (-36), 3) := by decide +kernel
theorem dX1_wordsOf_43 : decode cX1_wordsOf 43 = .ok (.iload_n 1, 1) := by decide +kernel
theorem dX1_wordsOf_44 : decode cX1_wordsOf 44 = .ok (.newarray .int, 2) := by decide +kernel
theorem dX1_wordsOf_46 : decode cX1_wordsOf 46 = .ok (.astore_n 2, 1) := by decide +kernel
theorem dX1_wordsOf_47 : decode cX1_wordsOf 47 = .ok (.iconst (-1), 1) := by decide +kernel
theorem dX1_wordsOf_48 : decode cX1_wordsOf 48 = .ok (.istore_n 3, 1) := by decide +kernel
theorem dX1_wordsOf_49 : decode cX1_wordsOf 49 = .ok (.iconst 0, 1) := by decide +kernel
theorem dX1_wordsOf_50 : decode cX1_wordsOf 50 = .ok (.istore 4, 2) := by decide +kernel
theorem dX1_wordsOf_52 : decode cX1_wordsOf 52 = .ok (.iload 4, 2) := by decide +kernel
theorem dX1_wordsOf_54 : decode cX1_wordsOf 54 = .ok (.aload_n 0, 1) := by decide +kernel
theorem dX1_wordsOf_55 : decode cX1_wordsOf 55 = .ok (.invokevirtual 64, 3) := by decide +kernel
theorem dX1_wordsOf_58 : decode cX1_wordsOf 58 = .ok (.if_icmp .ge 65, 3) := by decide +kernel
theorem dX1_wordsOf_61 : decode cX1_wordsOf 61 = .ok (.aload_n 0, 1) := by decide +kernel
theorem dX1_wordsOf_62 : decode cX1_wordsOf 62 = .ok (.iload 4, 2) := by decide +kernel
theorem dX1_wordsOf_64 : decode cX1_wordsOf 64 = .ok (.invokevirtual 49, 3) := by decide +kernel
theorem dX1_wordsOf_67 : decode cX1_wordsOf 67 = .ok (.istore 5, 2) := by decide +kernel
theorem dX1_wordsOf_69 : decode cX1_wordsOf 69 = .ok (.iload 5, 2) := by decide +kernel
theorem dX1_wordsOf_71 : decode cX1_wordsOf 71 = .ok (.invokestatic 61, 3) := by decide +kernel
theorem dX1_wordsOf_74 : decode cX1_wordsOf 74 = .ok (.ifCond .ne 6, 3) := by decide +kernel
theorem dX1_wordsOf_77 : decode cX1_wordsOf 77 = .ok (.iinc 3 1, 3) := by decide +kernel
theorem dX1_wordsOf_80 : decode cX1_wordsOf 80 = .ok (.iload_n 3, 1) := by decide +kernel
theorem dX1_wordsOf_81 : decode cX1_wordsOf 81 = .ok (.ifCond .lt 36, 3) := by decide +kernel
theorem dX1_wordsOf_84 : decode cX1_wordsOf 84 = .ok (.iload_n 3, 1) := by decide +kernel
theorem dX1_wordsOf_85 : decode cX1_wordsOf 85 = .ok (.aload_n 2, 1) := by decide +kernel
theorem dX1_wordsOf_86 : decode cX1_wordsOf 86 = .ok (.arraylength, 1) := by decide +kernel
theorem dX1_wordsOf_87 : decode cX1_wordsOf 87 = .ok (.if_icmp .ge 30, 3) := by decide +kernel
theorem dX1_wordsOf_90 : decode cX1_wordsOf 90 = .ok (.aload_n 2, 1) := by decide +kernel
theorem dX1_wordsOf_91 : decode cX1_wordsOf 91 = .ok (.iload_n 3, 1) := by decide +kernel
theorem dX1_wordsOf_92 : decode cX1_wordsOf 92 = .ok (.dup2, 1) := by decide +kernel
theorem dX1_wordsOf_93 : decode cX1_wordsOf 93 = .ok (.iaload, 1) := by decide +kernel
theorem dX1_wordsOf_94 : decode cX1_wordsOf 94 = .ok (.iload 5, 2) := by decide +kernel
theorem dX1_wordsOf_96 : decode cX1_wordsOf 96 = .ok (.invokestatic 61, 3) := by decide +kernel
theorem dX1_wordsOf_99 : decode cX1_wordsOf 99 = .ok (.ifCond .eq 11, 3) := by decide +kernel
theorem dX1_wordsOf_102 : decode cX1_wordsOf 102 = .ok (.iload 5, 2) := by decide +kernel
theorem dX1_wordsOf_104 : decode cX1_wordsOf 104 = .ok (.bipush 48, 2) := by decide +kernel
theorem dX1_wordsOf_106 : decode cX1_wordsOf 106 = .ok (.isub, 1) := by decide +kernel
theorem dX1_wordsOf_107 : decode cX1_wordsOf 107 = .ok (.goto 8, 3) := by decide +kernel
theorem dX1_wordsOf_110 : decode cX1_wordsOf 110 = .ok (.bipush 100, 2) := by decide +kernel
theorem dX1_wordsOf_112 : decode cX1_wordsOf 112 = .ok (.iload 5, 2) := by decide +kernel
theorem dX1_wordsOf_114 : decode cX1_wordsOf 114 = .ok (.imul, 1) := by decide +kernel
theorem dX1_wordsOf_115 : decode cX1_wordsOf 115 = .ok (.iadd, 1) := by decide +kernel
theorem dX1_wordsOf_116 : decode cX1_wordsOf 116 = .ok (.iastore, 1) := by decide +kernel
theorem dX1_wordsOf_117 : decode cX1_wordsOf 117 = .ok (.iinc 4 1, 3) := by decide +kernel
theorem dX1_wordsOf_120 : decode cX1_wordsOf 120 = .ok (.goto (-68), 3) := by decide +kernel
theorem dX1_wordsOf_123 : decode cX1_wordsOf 123 = .ok (.aload_n 2, 1) := by decide +kernel
theorem dX1_wordsOf_124 : decode cX1_wordsOf 124 = .ok (.areturn, 1) := by decide +kernel
theorem dX1_statesOf_0 : decode cX1_statesOf 0 = .ok (.iconst 1, 1) := by decide +kernel
theorem dX1_statesOf_1 : decode cX1_statesOf 1 = .ok (.aload_n 0, 1) := by decide +kernel
theorem dX1_statesOf_2 : decode cX1_statesOf 2 = .ok (.arraylength, 1) := by decide +kernel
theorem dX1_statesOf_3 : decode cX1_statesOf 3 = .ok (.bipush 12, 2) := by decide +kernel
theorem dX1_statesOf_5 : decode cX1_statesOf 5 = .ok (.invokestatic 68, 3) := by decide +kernel
theorem dX1_statesOf_8 : decode cX1_statesOf 8 = .ok (.ishl, 1) := by decide +kernel
theorem dX1_statesOf_9 : decode cX1_statesOf 9 = .ok (.newarray .byte, 2) := by decide +kernel
theorem dX1_statesOf_11 : decode cX1_statesOf 11 = .ok (.astore_n 1, 1) := by decide +kernel
theorem dX1_statesOf_12 : decode cX1_statesOf 12 = .ok (.iconst 0, 1) := by decide +kernel
theorem dX1_statesOf_13 : decode cX1_statesOf 13 = .ok (.istore_n 2, 1) := by decide +kernel
theorem dX1_statesOf_14 : decode cX1_statesOf 14 = .ok (.iload_n 2, 1) := by decide +kernel
theorem dX1_statesOf_15 : decode cX1_statesOf 15 = .ok (.aload_n 0, 1) := by decide +kernel
theorem dX1_statesOf_16 : decode cX1_statesOf 16 = .ok (.arraylength, 1) := by decide +kernel
theorem dX1_statesOf_17 : decode cX1_statesOf 17 = .ok (.if_icmp .ge 71, 3) := by decide +kernel
theorem dX1_statesOf_20 : decode cX1_statesOf 20 = .ok (.iload_n 2, 1) := by decide +kernel
theorem dX1_statesOf_21 : decode cX1_statesOf 21 = .ok (.bipush 12, 2) := by decide +kernel
theorem dX1_statesOf_23 : decode cX1_statesOf 23 = .ok (.if_icmp .ge 65, 3) := by decide +kernel
theorem dX1_statesOf_26 : decode cX1_statesOf 26 = .ok (.iconst 1, 1) := by decide +kernel
theorem dX1_statesOf_27 : decode cX1_statesOf 27 = .ok (.iload_n 2, 1) := by decide +kernel
theorem dX1_statesOf_28 : decode cX1_statesOf 28 = .ok (.ishl, 1) := by decide +kernel
theorem dX1_statesOf_29 : decode cX1_statesOf 29 = .ok (.istore_n 3, 1) := by decide +kernel
theorem dX1_statesOf_30 : decode cX1_statesOf 30 = .ok (.iconst 0, 1) := by decide +kernel
theorem dX1_statesOf_31 : decode cX1_statesOf 31 = .ok (.istore 4, 2) := by decide +kernel
theorem dX1_statesOf_33 : decode cX1_statesOf 33 = .ok (.iload 4, 2) := by decide +kernel
theorem dX1_statesOf_35 : decode cX1_statesOf 35 = .ok (.iload_n 3, 1) := by decide +kernel
theorem dX1_statesOf_36 : decode cX1_statesOf 36 = .ok (.if_icmp .ge 46, 3) := by decide +kernel
theorem dX1_statesOf_39 : decode cX1_statesOf 39 = .ok (.iload_n 3, 1) := by decide +kernel
theorem dX1_statesOf_40 : decode cX1_statesOf 40 = .ok (.iload 4, 2) := by decide +kernel
theorem dX1_statesOf_42 : decode cX1_statesOf 42 = .ok (.iadd, 1) := by decide +kernel
theorem dX1_statesOf_43 : decode cX1_statesOf 43 = .ok (.aload_n 1, 1) := by decide +kernel
theorem dX1_statesOf_44 : decode cX1_statesOf 44 = .ok (.arraylength, 1) := by decide +kernel
theorem dX1_statesOf_45 : decode cX1_statesOf 45 = .ok (.if_icmp .ge 37, 3) := by decide +kernel
theorem dX1_statesOf_48 : decode cX1_statesOf 48 = .ok (.aload_n 1, 1) := by decide +kernel
theorem dX1_statesOf_49 : decode cX1_statesOf 49 = .ok (.iload_n 3, 1) := by decide +kernel
theorem dX1_statesOf_50 : decode cX1_statesOf 50 = .ok (.iload 4, 2) := by decide +kernel
theorem dX1_statesOf_52 : decode cX1_statesOf 52 = .ok (.iadd, 1) := by decide +kernel
theorem dX1_statesOf_53 : decode cX1_statesOf 53 = .ok (.aload_n 1, 1) := by decide +kernel
theorem dX1_statesOf_54 : decode cX1_statesOf 54 = .ok (.iload 4, 2) := by decide +kernel
theorem dX1_statesOf_56 : decode cX1_statesOf 56 = .ok (.baload, 1) := by decide +kernel
theorem dX1_statesOf_57 : decode cX1_statesOf 57 = .ok (.bastore, 1) := by decide +kernel
theorem dX1_statesOf_58 : decode cX1_statesOf 58 = .ok (.aload_n 1, 1) := by decide +kernel
theorem dX1_statesOf_59 : decode cX1_statesOf 59 = .ok (.iload 4, 2) := by decide +kernel
theorem dX1_statesOf_61 : decode cX1_statesOf 61 = .ok (.aload_n 1, 1) := by decide +kernel
theorem dX1_statesOf_62 : decode cX1_statesOf 62 = .ok (.iload 4, 2) := by decide +kernel
theorem dX1_statesOf_64 : decode cX1_statesOf 64 = .ok (.baload, 1) := by decide +kernel
theorem dX1_statesOf_65 : decode cX1_statesOf 65 = .ok (.aload_n 0, 1) := by decide +kernel
theorem dX1_statesOf_66 : decode cX1_statesOf 66 = .ok (.iload_n 2, 1) := by decide +kernel
theorem dX1_statesOf_67 : decode cX1_statesOf 67 = .ok (.iaload, 1) := by decide +kernel
theorem dX1_statesOf_68 : decode cX1_statesOf 68 = .ok (.bipush 100, 2) := by decide +kernel
theorem dX1_statesOf_70 : decode cX1_statesOf 70 = .ok (.idiv, 1) := by decide +kernel
theorem dX1_statesOf_71 : decode cX1_statesOf 71 = .ok (.invokestatic 74, 3) := by decide +kernel
theorem dX1_statesOf_74 : decode cX1_statesOf 74 = .ok (.i2b, 1) := by decide +kernel
theorem dX1_statesOf_75 : decode cX1_statesOf 75 = .ok (.bastore, 1) := by decide +kernel
theorem dX1_statesOf_76 : decode cX1_statesOf 76 = .ok (.iinc 4 1, 3) := by decide +kernel
theorem dX1_statesOf_79 : decode cX1_statesOf 79 = .ok (.goto (-46), 3) := by decide +kernel
theorem dX1_statesOf_82 : decode cX1_statesOf 82 = .ok (.iinc 2 1, 3) := by decide +kernel
theorem dX1_statesOf_85 : decode cX1_statesOf 85 = .ok (.goto (-71), 3) := by decide +kernel
theorem dX1_statesOf_88 : decode cX1_statesOf 88 = .ok (.aload_n 1, 1) := by decide +kernel
theorem dX1_statesOf_89 : decode cX1_statesOf 89 = .ok (.areturn, 1) := by decide +kernel
theorem dX1_readingsOf_0 : decode cX1_readingsOf 0 = .ok (.iconst 0, 1) := by decide +kernel
theorem dX1_readingsOf_1 : decode cX1_readingsOf 1 = .ok (.istore_n 1, 1) := by decide +kernel
theorem dX1_readingsOf_2 : decode cX1_readingsOf 2 = .ok (.iconst 0, 1) := by decide +kernel
theorem dX1_readingsOf_3 : decode cX1_readingsOf 3 = .ok (.istore_n 2, 1) := by decide +kernel
theorem dX1_readingsOf_4 : decode cX1_readingsOf 4 = .ok (.iload_n 2, 1) := by decide +kernel
theorem dX1_readingsOf_5 : decode cX1_readingsOf 5 = .ok (.aload_n 0, 1) := by decide +kernel
theorem dX1_readingsOf_6 : decode cX1_readingsOf 6 = .ok (.arraylength, 1) := by decide +kernel
theorem dX1_readingsOf_7 : decode cX1_readingsOf 7 = .ok (.if_icmp .ge 25, 3) := by decide +kernel
theorem dX1_readingsOf_10 : decode cX1_readingsOf 10 = .ok (.iload_n 1, 1) := by decide +kernel
theorem dX1_readingsOf_11 : decode cX1_readingsOf 11 = .ok (.aload_n 0, 1) := by decide +kernel
theorem dX1_readingsOf_12 : decode cX1_readingsOf 12 = .ok (.iload_n 2, 1) := by decide +kernel
theorem dX1_readingsOf_13 : decode cX1_readingsOf 13 = .ok (.baload, 1) := by decide +kernel
theorem dX1_readingsOf_14 : decode cX1_readingsOf 14 = .ok (.bipush 6, 2) := by decide +kernel
theorem dX1_readingsOf_16 : decode cX1_readingsOf 16 = .ok (.if_icmp .lt 7, 3) := by decide +kernel
theorem dX1_readingsOf_19 : decode cX1_readingsOf 19 = .ok (.iconst 1, 1) := by decide +kernel
theorem dX1_readingsOf_20 : decode cX1_readingsOf 20 = .ok (.goto 4, 3) := by decide +kernel
theorem dX1_readingsOf_23 : decode cX1_readingsOf 23 = .ok (.iconst 0, 1) := by decide +kernel
theorem dX1_readingsOf_24 : decode cX1_readingsOf 24 = .ok (.iadd, 1) := by decide +kernel
theorem dX1_readingsOf_25 : decode cX1_readingsOf 25 = .ok (.istore_n 1, 1) := by decide +kernel
theorem dX1_readingsOf_26 : decode cX1_readingsOf 26 = .ok (.iinc 2 1, 3) := by decide +kernel
theorem dX1_readingsOf_29 : decode cX1_readingsOf 29 = .ok (.goto (-25), 3) := by decide +kernel
theorem dX1_readingsOf_32 : decode cX1_readingsOf 32 = .ok (.iload_n 1, 1) := by decide +kernel
theorem dX1_readingsOf_33 : decode cX1_readingsOf 33 = .ok (.newarray .int, 2) := by decide +kernel
theorem dX1_readingsOf_35 : decode cX1_readingsOf 35 = .ok (.astore_n 2, 1) := by decide +kernel
theorem dX1_readingsOf_36 : decode cX1_readingsOf 36 = .ok (.iconst 0, 1) := by decide +kernel
theorem dX1_readingsOf_37 : decode cX1_readingsOf 37 = .ok (.istore_n 3, 1) := by decide +kernel
theorem dX1_readingsOf_38 : decode cX1_readingsOf 38 = .ok (.iconst 0, 1) := by decide +kernel
theorem dX1_readingsOf_39 : decode cX1_readingsOf 39 = .ok (.istore 4, 2) := by decide +kernel
theorem dX1_readingsOf_41 : decode cX1_readingsOf 41 = .ok (.iload 4, 2) := by decide +kernel
theorem dX1_readingsOf_43 : decode cX1_readingsOf 43 = .ok (.aload_n 0, 1) := by decide +kernel
theorem dX1_readingsOf_44 : decode cX1_readingsOf 44 = .ok (.arraylength, 1) := by decide +kernel
theorem dX1_readingsOf_45 : decode cX1_readingsOf 45 = .ok (.if_icmp .ge 32, 3) := by decide +kernel
theorem dX1_readingsOf_48 : decode cX1_readingsOf 48 = .ok (.aload_n 0, 1) := by decide +kernel
theorem dX1_readingsOf_49 : decode cX1_readingsOf 49 = .ok (.iload 4, 2) := by decide +kernel
theorem dX1_readingsOf_51 : decode cX1_readingsOf 51 = .ok (.baload, 1) := by decide +kernel
theorem dX1_readingsOf_52 : decode cX1_readingsOf 52 = .ok (.bipush 6, 2) := by decide +kernel
theorem dX1_readingsOf_54 : decode cX1_readingsOf 54 = .ok (.if_icmp .lt 17, 3) := by decide +kernel
theorem dX1_readingsOf_57 : decode cX1_readingsOf 57 = .ok (.iload_n 3, 1) := by decide +kernel
theorem dX1_readingsOf_58 : decode cX1_readingsOf 58 = .ok (.aload_n 2, 1) := by decide +kernel
theorem dX1_readingsOf_59 : decode cX1_readingsOf 59 = .ok (.arraylength, 1) := by decide +kernel
theorem dX1_readingsOf_60 : decode cX1_readingsOf 60 = .ok (.if_icmp .ge 11, 3) := by decide +kernel
theorem dX1_readingsOf_63 : decode cX1_readingsOf 63 = .ok (.aload_n 2, 1) := by decide +kernel
theorem dX1_readingsOf_64 : decode cX1_readingsOf 64 = .ok (.iload_n 3, 1) := by decide +kernel
theorem dX1_readingsOf_65 : decode cX1_readingsOf 65 = .ok (.iload 4, 2) := by decide +kernel
theorem dX1_readingsOf_67 : decode cX1_readingsOf 67 = .ok (.iastore, 1) := by decide +kernel
theorem dX1_readingsOf_68 : decode cX1_readingsOf 68 = .ok (.iinc 3 1, 3) := by decide +kernel
theorem dX1_readingsOf_71 : decode cX1_readingsOf 71 = .ok (.iinc 4 1, 3) := by decide +kernel
theorem dX1_readingsOf_74 : decode cX1_readingsOf 74 = .ok (.goto (-33), 3) := by decide +kernel
theorem dX1_readingsOf_77 : decode cX1_readingsOf 77 = .ok (.aload_n 2, 1) := by decide +kernel
theorem dX1_readingsOf_78 : decode cX1_readingsOf 78 = .ok (.areturn, 1) := by decide +kernel
theorem dX1_stateAfter_0 : decode cX1_stateAfter 0 = .ok (.iload_n 1, 1) := by decide +kernel
theorem dX1_stateAfter_1 : decode cX1_stateAfter 1 = .ok (.lookupswitch 230 #[(38, 156), (44, 168), (59, 218), (97, 107), (98, 107), (102, 199), (105, 180), (109, 117), (110, 128), (112, 139), (119, 151), (121, 117)], 107) := by decide +kernel
theorem dX1_stateAfter_108 : decode cX1_stateAfter 108 = .ok (.iload_n 0, 1) := by decide +kernel
theorem dX1_stateAfter_109 : decode cX1_stateAfter 109 = .ok (.ifCond .ne 7, 3) := by decide +kernel
theorem dX1_stateAfter_112 : decode cX1_stateAfter 112 = .ok (.iconst 1, 1) := by decide +kernel
theorem dX1_stateAfter_113 : decode cX1_stateAfter 113 = .ok (.goto 4, 3) := by decide +kernel
theorem dX1_stateAfter_116 : decode cX1_stateAfter 116 = .ok (.iconst (-1), 1) := by decide +kernel
theorem dX1_stateAfter_117 : decode cX1_stateAfter 117 = .ok (.ireturn, 1) := by decide +kernel
theorem dX1_stateAfter_118 : decode cX1_stateAfter 118 = .ok (.iload_n 0, 1) := by decide +kernel
theorem dX1_stateAfter_119 : decode cX1_stateAfter 119 = .ok (.iconst 1, 1) := by decide +kernel
theorem dX1_stateAfter_120 : decode cX1_stateAfter 120 = .ok (.if_icmp .ne 7, 3) := by decide +kernel
theorem dX1_stateAfter_123 : decode cX1_stateAfter 123 = .ok (.iconst 2, 1) := by decide +kernel
theorem dX1_stateAfter_124 : decode cX1_stateAfter 124 = .ok (.goto 4, 3) := by decide +kernel
theorem dX1_stateAfter_127 : decode cX1_stateAfter 127 = .ok (.iconst (-1), 1) := by decide +kernel
theorem dX1_stateAfter_128 : decode cX1_stateAfter 128 = .ok (.ireturn, 1) := by decide +kernel
theorem dX1_stateAfter_129 : decode cX1_stateAfter 129 = .ok (.iload_n 0, 1) := by decide +kernel
theorem dX1_stateAfter_130 : decode cX1_stateAfter 130 = .ok (.iconst 2, 1) := by decide +kernel
theorem dX1_stateAfter_131 : decode cX1_stateAfter 131 = .ok (.if_icmp .ne 7, 3) := by decide +kernel
theorem dX1_stateAfter_134 : decode cX1_stateAfter 134 = .ok (.iconst 3, 1) := by decide +kernel
theorem dX1_stateAfter_135 : decode cX1_stateAfter 135 = .ok (.goto 4, 3) := by decide +kernel
theorem dX1_stateAfter_138 : decode cX1_stateAfter 138 = .ok (.iconst (-1), 1) := by decide +kernel
theorem dX1_stateAfter_139 : decode cX1_stateAfter 139 = .ok (.ireturn, 1) := by decide +kernel
theorem dX1_stateAfter_140 : decode cX1_stateAfter 140 = .ok (.iload_n 0, 1) := by decide +kernel
theorem dX1_stateAfter_141 : decode cX1_stateAfter 141 = .ok (.iconst 2, 1) := by decide +kernel
theorem dX1_stateAfter_142 : decode cX1_stateAfter 142 = .ok (.if_icmp .ne 8, 3) := by decide +kernel
theorem dX1_stateAfter_145 : decode cX1_stateAfter 145 = .ok (.bipush 9, 2) := by decide +kernel
theorem dX1_stateAfter_147 : decode cX1_stateAfter 147 = .ok (.goto 4, 3) := by decide +kernel
theorem dX1_stateAfter_150 : decode cX1_stateAfter 150 = .ok (.iconst (-1), 1) := by decide +kernel
theorem dX1_stateAfter_151 : decode cX1_stateAfter 151 = .ok (.ireturn, 1) := by decide +kernel
theorem dX1_stateAfter_152 : decode cX1_stateAfter 152 = .ok (.iload_n 0, 1) := by decide +kernel
theorem dX1_stateAfter_153 : decode cX1_stateAfter 153 = .ok (.invokestatic 77, 3) := by decide +kernel
theorem dX1_stateAfter_156 : decode cX1_stateAfter 156 = .ok (.ireturn, 1) := by decide +kernel
theorem dX1_stateAfter_157 : decode cX1_stateAfter 157 = .ok (.iload_n 0, 1) := by decide +kernel
theorem dX1_stateAfter_158 : decode cX1_stateAfter 158 = .ok (.bipush 6, 2) := by decide +kernel
theorem dX1_stateAfter_160 : decode cX1_stateAfter 160 = .ok (.if_icmp .ne 7, 3) := by decide +kernel
theorem dX1_stateAfter_163 : decode cX1_stateAfter 163 = .ok (.iconst 4, 1) := by decide +kernel
theorem dX1_stateAfter_164 : decode cX1_stateAfter 164 = .ok (.goto 4, 3) := by decide +kernel
theorem dX1_stateAfter_167 : decode cX1_stateAfter 167 = .ok (.iconst (-1), 1) := by decide +kernel
theorem dX1_stateAfter_168 : decode cX1_stateAfter 168 = .ok (.ireturn, 1) := by decide +kernel
theorem dX1_stateAfter_169 : decode cX1_stateAfter 169 = .ok (.iload_n 0, 1) := by decide +kernel
theorem dX1_stateAfter_170 : decode cX1_stateAfter 170 = .ok (.bipush 6, 2) := by decide +kernel
theorem dX1_stateAfter_172 : decode cX1_stateAfter 172 = .ok (.if_icmp .ne 7, 3) := by decide +kernel
theorem dX1_stateAfter_175 : decode cX1_stateAfter 175 = .ok (.iconst 5, 1) := by decide +kernel
theorem dX1_stateAfter_176 : decode cX1_stateAfter 176 = .ok (.goto 4, 3) := by decide +kernel
theorem dX1_stateAfter_179 : decode cX1_stateAfter 179 = .ok (.iconst (-1), 1) := by decide +kernel
theorem dX1_stateAfter_180 : decode cX1_stateAfter 180 = .ok (.ireturn, 1) := by decide +kernel
theorem dX1_stateAfter_181 : decode cX1_stateAfter 181 = .ok (.iload_n 0, 1) := by decide +kernel
theorem dX1_stateAfter_182 : decode cX1_stateAfter 182 = .ok (.bipush 6, 2) := by decide +kernel
theorem dX1_stateAfter_184 : decode cX1_stateAfter 184 = .ok (.if_icmp .eq 9, 3) := by decide +kernel
theorem dX1_stateAfter_187 : decode cX1_stateAfter 187 = .ok (.iload_n 0, 1) := by decide +kernel
theorem dX1_stateAfter_188 : decode cX1_stateAfter 188 = .ok (.bipush 7, 2) := by decide +kernel
theorem dX1_stateAfter_190 : decode cX1_stateAfter 190 = .ok (.if_icmp .ne 8, 3) := by decide +kernel
theorem dX1_stateAfter_193 : decode cX1_stateAfter 193 = .ok (.bipush 8, 2) := by decide +kernel
theorem dX1_stateAfter_195 : decode cX1_stateAfter 195 = .ok (.goto 4, 3) := by decide +kernel
theorem dX1_stateAfter_198 : decode cX1_stateAfter 198 = .ok (.iconst (-1), 1) := by decide +kernel
theorem dX1_stateAfter_199 : decode cX1_stateAfter 199 = .ok (.ireturn, 1) := by decide +kernel
theorem dX1_stateAfter_200 : decode cX1_stateAfter 200 = .ok (.iload_n 0, 1) := by decide +kernel
theorem dX1_stateAfter_201 : decode cX1_stateAfter 201 = .ok (.bipush 6, 2) := by decide +kernel
theorem dX1_stateAfter_203 : decode cX1_stateAfter 203 = .ok (.if_icmp .lt 14, 3) := by decide +kernel
theorem dX1_stateAfter_206 : decode cX1_stateAfter 206 = .ok (.iload_n 0, 1) := by decide +kernel
theorem dX1_stateAfter_207 : decode cX1_stateAfter 207 = .ok (.bipush 9, 2) := by decide +kernel
theorem dX1_stateAfter_209 : decode cX1_stateAfter 209 = .ok (.if_icmp .ge 8, 3) := by decide +kernel
theorem dX1_stateAfter_212 : decode cX1_stateAfter 212 = .ok (.bipush 9, 2) := by decide +kernel
theorem dX1_stateAfter_214 : decode cX1_stateAfter 214 = .ok (.goto 4, 3) := by decide +kernel
theorem dX1_stateAfter_217 : decode cX1_stateAfter 217 = .ok (.iconst (-1), 1) := by decide +kernel
theorem dX1_stateAfter_218 : decode cX1_stateAfter 218 = .ok (.ireturn, 1) := by decide +kernel
theorem dX1_stateAfter_219 : decode cX1_stateAfter 219 = .ok (.iload_n 0, 1) := by decide +kernel
theorem dX1_stateAfter_220 : decode cX1_stateAfter 220 = .ok (.bipush 6, 2) := by decide +kernel
theorem dX1_stateAfter_222 : decode cX1_stateAfter 222 = .ok (.if_icmp .lt 7, 3) := by decide +kernel
theorem dX1_stateAfter_225 : decode cX1_stateAfter 225 = .ok (.iconst 0, 1) := by decide +kernel
theorem dX1_stateAfter_226 : decode cX1_stateAfter 226 = .ok (.goto 4, 3) := by decide +kernel
theorem dX1_stateAfter_229 : decode cX1_stateAfter 229 = .ok (.iconst (-1), 1) := by decide +kernel
theorem dX1_stateAfter_230 : decode cX1_stateAfter 230 = .ok (.ireturn, 1) := by decide +kernel
theorem dX1_stateAfter_231 : decode cX1_stateAfter 231 = .ok (.iconst (-1), 1) := by decide +kernel
theorem dX1_stateAfter_232 : decode cX1_stateAfter 232 = .ok (.ireturn, 1) := by decide +kernel
theorem dX1_stateAfterThing_0 : decode cX1_stateAfterThing 0 = .ok (.iload_n 0, 1) := by decide +kernel
theorem dX1_stateAfterThing_1 : decode cX1_stateAfterThing 1 = .ok (.iconst 4, 1) := by decide +kernel
theorem dX1_stateAfterThing_2 : decode cX1_stateAfterThing 2 = .ok (.if_icmp .ne 6, 3) := by decide +kernel
theorem dX1_stateAfterThing_5 : decode cX1_stateAfterThing 5 = .ok (.bipush 7, 2) := by decide +kernel
theorem dX1_stateAfterThing_7 : decode cX1_stateAfterThing 7 = .ok (.ireturn, 1) := by decide +kernel
theorem dX1_stateAfterThing_8 : decode cX1_stateAfterThing 8 = .ok (.iload_n 0, 1) := by decide +kernel
theorem dX1_stateAfterThing_9 : decode cX1_stateAfterThing 9 = .ok (.iconst 2, 1) := by decide +kernel
theorem dX1_stateAfterThing_10 : decode cX1_stateAfterThing 10 = .ok (.if_icmp .eq 13, 3) := by decide +kernel
theorem dX1_stateAfterThing_13 : decode cX1_stateAfterThing 13 = .ok (.iload_n 0, 1) := by decide +kernel
theorem dX1_stateAfterThing_14 : decode cX1_stateAfterThing 14 = .ok (.iconst 3, 1) := by decide +kernel
theorem dX1_stateAfterThing_15 : decode cX1_stateAfterThing 15 = .ok (.if_icmp .eq 8, 3) := by decide +kernel
theorem dX1_stateAfterThing_18 : decode cX1_stateAfterThing 18 = .ok (.iload_n 0, 1) := by decide +kernel
theorem dX1_stateAfterThing_19 : decode cX1_stateAfterThing 19 = .ok (.iconst 5, 1) := by decide +kernel
theorem dX1_stateAfterThing_20 : decode cX1_stateAfterThing 20 = .ok (.if_icmp .ne 8, 3) := by decide +kernel
theorem dX1_stateAfterThing_23 : decode cX1_stateAfterThing 23 = .ok (.bipush 6, 2) := by decide +kernel
theorem dX1_stateAfterThing_25 : decode cX1_stateAfterThing 25 = .ok (.goto 4, 3) := by decide +kernel
theorem dX1_stateAfterThing_28 : decode cX1_stateAfterThing 28 = .ok (.iconst (-1), 1) := by decide +kernel
theorem dX1_stateAfterThing_29 : decode cX1_stateAfterThing 29 = .ok (.ireturn, 1) := by decide +kernel
theorem dX1_size_0 : decode cX1_size 0 = .ok (.aload_n 0, 1) := by decide +kernel
theorem dX1_size_1 : decode cX1_size 1 = .ok (.getfield 22, 3) := by decide +kernel
theorem dX1_size_4 : decode cX1_size 4 = .ok (.arraylength, 1) := by decide +kernel
theorem dX1_size_5 : decode cX1_size 5 = .ok (.ireturn, 1) := by decide +kernel
theorem dX1_wordAt_0 : decode cX1_wordAt 0 = .ok (.iload_n 1, 1) := by decide +kernel
theorem dX1_wordAt_1 : decode cX1_wordAt 1 = .ok (.ifCond .lt 21, 3) := by decide +kernel
theorem dX1_wordAt_4 : decode cX1_wordAt 4 = .ok (.iload_n 1, 1) := by decide +kernel
theorem dX1_wordAt_5 : decode cX1_wordAt 5 = .ok (.aload_n 0, 1) := by decide +kernel
theorem dX1_wordAt_6 : decode cX1_wordAt 6 = .ok (.getfield 22, 3) := by decide +kernel
theorem dX1_wordAt_9 : decode cX1_wordAt 9 = .ok (.arraylength, 1) := by decide +kernel
theorem dX1_wordAt_10 : decode cX1_wordAt 10 = .ok (.if_icmp .ge 12, 3) := by decide +kernel
theorem dX1_wordAt_13 : decode cX1_wordAt 13 = .ok (.aload_n 0, 1) := by decide +kernel
theorem dX1_wordAt_14 : decode cX1_wordAt 14 = .ok (.getfield 22, 3) := by decide +kernel
theorem dX1_wordAt_17 : decode cX1_wordAt 17 = .ok (.iload_n 1, 1) := by decide +kernel
theorem dX1_wordAt_18 : decode cX1_wordAt 18 = .ok (.iaload, 1) := by decide +kernel
theorem dX1_wordAt_19 : decode cX1_wordAt 19 = .ok (.goto 4, 3) := by decide +kernel
theorem dX1_wordAt_22 : decode cX1_wordAt 22 = .ok (.iconst 0, 1) := by decide +kernel
theorem dX1_wordAt_23 : decode cX1_wordAt 23 = .ok (.ireturn, 1) := by decide +kernel
theorem dX1_sets_0 : decode cX1_sets 0 = .ok (.aload_n 0, 1) := by decide +kernel
theorem dX1_sets_1 : decode cX1_sets 1 = .ok (.getfield 30, 3) := by decide +kernel
theorem dX1_sets_4 : decode cX1_sets 4 = .ok (.arraylength, 1) := by decide +kernel
theorem dX1_sets_5 : decode cX1_sets 5 = .ok (.ireturn, 1) := by decide +kernel
theorem dX1_hasSet_0 : decode cX1_hasSet 0 = .ok (.iload_n 1, 1) := by decide +kernel
theorem dX1_hasSet_1 : decode cX1_hasSet 1 = .ok (.ifCond .lt 16, 3) := by decide +kernel
theorem dX1_hasSet_4 : decode cX1_hasSet 4 = .ok (.iload_n 1, 1) := by decide +kernel
theorem dX1_hasSet_5 : decode cX1_hasSet 5 = .ok (.aload_n 0, 1) := by decide +kernel
theorem dX1_hasSet_6 : decode cX1_hasSet 6 = .ok (.getfield 30, 3) := by decide +kernel
theorem dX1_hasSet_9 : decode cX1_hasSet 9 = .ok (.arraylength, 1) := by decide +kernel
theorem dX1_hasSet_10 : decode cX1_hasSet 10 = .ok (.if_icmp .ge 7, 3) := by decide +kernel
theorem dX1_hasSet_13 : decode cX1_hasSet 13 = .ok (.iconst 1, 1) := by decide +kernel
theorem dX1_hasSet_14 : decode cX1_hasSet 14 = .ok (.goto 4, 3) := by decide +kernel
theorem dX1_hasSet_17 : decode cX1_hasSet 17 = .ok (.iconst 0, 1) := by decide +kernel
theorem dX1_hasSet_18 : decode cX1_hasSet 18 = .ok (.ireturn, 1) := by decide +kernel
theorem dX1_isReadable_0 : decode cX1_isReadable 0 = .ok (.iload_n 1, 1) := by decide +kernel
theorem dX1_isReadable_1 : decode cX1_isReadable 1 = .ok (.ifCond .lt 27, 3) := by decide +kernel
theorem dX1_isReadable_4 : decode cX1_isReadable 4 = .ok (.iload_n 1, 1) := by decide +kernel
theorem dX1_isReadable_5 : decode cX1_isReadable 5 = .ok (.aload_n 0, 1) := by decide +kernel
theorem dX1_isReadable_6 : decode cX1_isReadable 6 = .ok (.getfield 30, 3) := by decide +kernel
theorem dX1_isReadable_9 : decode cX1_isReadable 9 = .ok (.arraylength, 1) := by decide +kernel
theorem dX1_isReadable_10 : decode cX1_isReadable 10 = .ok (.if_icmp .ge 18, 3) := by decide +kernel
theorem dX1_isReadable_13 : decode cX1_isReadable 13 = .ok (.aload_n 0, 1) := by decide +kernel
theorem dX1_isReadable_14 : decode cX1_isReadable 14 = .ok (.getfield 30, 3) := by decide +kernel
theorem dX1_isReadable_17 : decode cX1_isReadable 17 = .ok (.iload_n 1, 1) := by decide +kernel
theorem dX1_isReadable_18 : decode cX1_isReadable 18 = .ok (.baload, 1) := by decide +kernel
theorem dX1_isReadable_19 : decode cX1_isReadable 19 = .ok (.bipush 6, 2) := by decide +kernel
theorem dX1_isReadable_21 : decode cX1_isReadable 21 = .ok (.if_icmp .lt 7, 3) := by decide +kernel
theorem dX1_isReadable_24 : decode cX1_isReadable 24 = .ok (.iconst 1, 1) := by decide +kernel
theorem dX1_isReadable_25 : decode cX1_isReadable 25 = .ok (.goto 4, 3) := by decide +kernel
theorem dX1_isReadable_28 : decode cX1_isReadable 28 = .ok (.iconst 0, 1) := by decide +kernel
theorem dX1_isReadable_29 : decode cX1_isReadable 29 = .ok (.ireturn, 1) := by decide +kernel
theorem dX1_readings_0 : decode cX1_readings 0 = .ok (.aload_n 0, 1) := by decide +kernel
theorem dX1_readings_1 : decode cX1_readings 1 = .ok (.getfield 38, 3) := by decide +kernel
theorem dX1_readings_4 : decode cX1_readings 4 = .ok (.arraylength, 1) := by decide +kernel
theorem dX1_readings_5 : decode cX1_readings 5 = .ok (.ireturn, 1) := by decide +kernel
theorem dX1_readingAt_0 : decode cX1_readingAt 0 = .ok (.iload_n 1, 1) := by decide +kernel
theorem dX1_readingAt_1 : decode cX1_readingAt 1 = .ok (.ifCond .lt 21, 3) := by decide +kernel
theorem dX1_readingAt_4 : decode cX1_readingAt 4 = .ok (.iload_n 1, 1) := by decide +kernel
theorem dX1_readingAt_5 : decode cX1_readingAt 5 = .ok (.aload_n 0, 1) := by decide +kernel
theorem dX1_readingAt_6 : decode cX1_readingAt 6 = .ok (.getfield 38, 3) := by decide +kernel
theorem dX1_readingAt_9 : decode cX1_readingAt 9 = .ok (.arraylength, 1) := by decide +kernel
theorem dX1_readingAt_10 : decode cX1_readingAt 10 = .ok (.if_icmp .ge 12, 3) := by decide +kernel
theorem dX1_readingAt_13 : decode cX1_readingAt 13 = .ok (.aload_n 0, 1) := by decide +kernel
theorem dX1_readingAt_14 : decode cX1_readingAt 14 = .ok (.getfield 38, 3) := by decide +kernel
theorem dX1_readingAt_17 : decode cX1_readingAt 17 = .ok (.iload_n 1, 1) := by decide +kernel
theorem dX1_readingAt_18 : decode cX1_readingAt 18 = .ok (.iaload, 1) := by decide +kernel
theorem dX1_readingAt_19 : decode cX1_readingAt 19 = .ok (.goto 4, 3) := by decide +kernel
theorem dX1_readingAt_22 : decode cX1_readingAt 22 = .ok (.iconst 0, 1) := by decide +kernel
theorem dX1_readingAt_23 : decode cX1_readingAt 23 = .ok (.ireturn, 1) := by decide +kernel
theorem dX1_whole_0 : decode cX1_whole 0 = .ok (.aload_n 0, 1) := by decide +kernel
theorem dX1_whole_1 : decode cX1_whole 1 = .ok (.getfield 12, 3) := by decide +kernel
theorem dX1_whole_4 : decode cX1_whole 4 = .ok (.areturn, 1) := by decide +kernel
theorem dX1_tellDuties_0 : decode cX1_tellDuties 0 = .ok (.aload_n 2, 1) := by decide +kernel
theorem dX1_tellDuties_1 : decode cX1_tellDuties 1 = .ok (.invokevirtual 80, 3) := by decide +kernel
theorem dX1_tellDuties_4 : decode cX1_tellDuties 4 = .ok (.iconst 0, 1) := by decide +kernel
theorem dX1_tellDuties_5 : decode cX1_tellDuties 5 = .ok (.istore_n 3, 1) := by decide +kernel
theorem dX1_tellDuties_6 : decode cX1_tellDuties 6 = .ok (.iconst 0, 1) := by decide +kernel
theorem dX1_tellDuties_7 : decode cX1_tellDuties 7 = .ok (.istore 4, 2) := by decide +kernel
theorem dX1_tellDuties_9 : decode cX1_tellDuties 9 = .ok (.iconst 0, 1) := by decide +kernel
theorem dX1_tellDuties_10 : decode cX1_tellDuties 10 = .ok (.istore 5, 2) := by decide +kernel
theorem dX1_tellDuties_12 : decode cX1_tellDuties 12 = .ok (.iconst 0, 1) := by decide +kernel
theorem dX1_tellDuties_13 : decode cX1_tellDuties 13 = .ok (.istore 6, 2) := by decide +kernel
theorem dX1_tellDuties_15 : decode cX1_tellDuties 15 = .ok (.iconst 0, 1) := by decide +kernel
theorem dX1_tellDuties_16 : decode cX1_tellDuties 16 = .ok (.istore 7, 2) := by decide +kernel
theorem dX1_tellDuties_18 : decode cX1_tellDuties 18 = .ok (.iload 7, 2) := by decide +kernel
theorem dX1_tellDuties_20 : decode cX1_tellDuties 20 = .ok (.aload_n 0, 1) := by decide +kernel
theorem dX1_tellDuties_21 : decode cX1_tellDuties 21 = .ok (.getfield 22, 3) := by decide +kernel
theorem dX1_tellDuties_24 : decode cX1_tellDuties 24 = .ok (.arraylength, 1) := by decide +kernel
theorem dX1_tellDuties_25 : decode cX1_tellDuties 25 = .ok (.if_icmp .ge 251, 3) := by decide +kernel
theorem dX1_tellDuties_28 : decode cX1_tellDuties 28 = .ok (.iload_n 1, 1) := by decide +kernel
theorem dX1_tellDuties_29 : decode cX1_tellDuties 29 = .ok (.iload 7, 2) := by decide +kernel
theorem dX1_tellDuties_31 : decode cX1_tellDuties 31 = .ok (.ishr, 1) := by decide +kernel
theorem dX1_tellDuties_32 : decode cX1_tellDuties 32 = .ok (.iconst 1, 1) := by decide +kernel
theorem dX1_tellDuties_33 : decode cX1_tellDuties 33 = .ok (.iand, 1) := by decide +kernel
theorem dX1_tellDuties_34 : decode cX1_tellDuties 34 = .ok (.ifCond .eq 6, 3) := by decide +kernel
theorem dX1_tellDuties_37 : decode cX1_tellDuties 37 = .ok (.goto 233, 3) := by decide +kernel
theorem dX1_tellDuties_40 : decode cX1_tellDuties 40 = .ok (.aload_n 0, 1) := by decide +kernel
theorem dX1_tellDuties_41 : decode cX1_tellDuties 41 = .ok (.getfield 22, 3) := by decide +kernel
theorem dX1_tellDuties_44 : decode cX1_tellDuties 44 = .ok (.iload 7, 2) := by decide +kernel
theorem dX1_tellDuties_46 : decode cX1_tellDuties 46 = .ok (.iaload, 1) := by decide +kernel
theorem dX1_tellDuties_47 : decode cX1_tellDuties 47 = .ok (.bipush 100, 2) := by decide +kernel
theorem dX1_tellDuties_49 : decode cX1_tellDuties 49 = .ok (.irem, 1) := by decide +kernel
theorem dX1_tellDuties_50 : decode cX1_tellDuties 50 = .ok (.istore 8, 2) := by decide +kernel
theorem dX1_tellDuties_52 : decode cX1_tellDuties 52 = .ok (.aload_n 0, 1) := by decide +kernel
theorem dX1_tellDuties_53 : decode cX1_tellDuties 53 = .ok (.getfield 22, 3) := by decide +kernel
theorem dX1_tellDuties_56 : decode cX1_tellDuties 56 = .ok (.iload 7, 2) := by decide +kernel
theorem dX1_tellDuties_58 : decode cX1_tellDuties 58 = .ok (.iaload, 1) := by decide +kernel
theorem dX1_tellDuties_59 : decode cX1_tellDuties 59 = .ok (.bipush 100, 2) := by decide +kernel
theorem dX1_tellDuties_61 : decode cX1_tellDuties 61 = .ok (.idiv, 1) := by decide +kernel
theorem dX1_tellDuties_62 : decode cX1_tellDuties 62 = .ok (.tableswitch 208 97 121 #[114, 128, 208, 208, 208, 197, 208, 208, 186, 208, 208, 208, 142, 154, 208, 174, 208, 208, 208, 208, 208, 208, 160, 208, 148], 114) := by decide +kernel
theorem dX1_tellDuties_176 : decode cX1_tellDuties 176 = .ok (.iconst 0, 1) := by decide +kernel
theorem dX1_tellDuties_177 : decode cX1_tellDuties 177 = .ok (.istore_n 3, 1) := by decide +kernel
theorem dX1_tellDuties_178 : decode cX1_tellDuties 178 = .ok (.iconst 0, 1) := by decide +kernel
theorem dX1_tellDuties_179 : decode cX1_tellDuties 179 = .ok (.istore 5, 2) := by decide +kernel
theorem dX1_tellDuties_181 : decode cX1_tellDuties 181 = .ok (.aload_n 2, 1) := by decide +kernel
theorem dX1_tellDuties_182 : decode cX1_tellDuties 182 = .ok (.invokevirtual 83, 3) := by decide +kernel
theorem dX1_tellDuties_185 : decode cX1_tellDuties 185 = .ok (.istore 6, 2) := by decide +kernel
theorem dX1_tellDuties_187 : decode cX1_tellDuties 187 = .ok (.goto 83, 3) := by decide +kernel
theorem dX1_tellDuties_190 : decode cX1_tellDuties 190 = .ok (.iconst 1, 1) := by decide +kernel
theorem dX1_tellDuties_191 : decode cX1_tellDuties 191 = .ok (.istore_n 3, 1) := by decide +kernel
theorem dX1_tellDuties_192 : decode cX1_tellDuties 192 = .ok (.iconst 0, 1) := by decide +kernel
theorem dX1_tellDuties_193 : decode cX1_tellDuties 193 = .ok (.istore 5, 2) := by decide +kernel
theorem dX1_tellDuties_195 : decode cX1_tellDuties 195 = .ok (.aload_n 2, 1) := by decide +kernel
theorem dX1_tellDuties_196 : decode cX1_tellDuties 196 = .ok (.invokevirtual 83, 3) := by decide +kernel
theorem dX1_tellDuties_199 : decode cX1_tellDuties 199 = .ok (.istore 6, 2) := by decide +kernel
theorem dX1_tellDuties_201 : decode cX1_tellDuties 201 = .ok (.goto 69, 3) := by decide +kernel
theorem dX1_tellDuties_204 : decode cX1_tellDuties 204 = .ok (.iconst 1, 1) := by decide +kernel
theorem dX1_tellDuties_205 : decode cX1_tellDuties 205 = .ok (.istore 4, 2) := by decide +kernel
theorem dX1_tellDuties_207 : decode cX1_tellDuties 207 = .ok (.goto 63, 3) := by decide +kernel
theorem dX1_tellDuties_210 : decode cX1_tellDuties 210 = .ok (.iconst 0, 1) := by decide +kernel
theorem dX1_tellDuties_211 : decode cX1_tellDuties 211 = .ok (.istore 4, 2) := by decide +kernel
theorem dX1_tellDuties_213 : decode cX1_tellDuties 213 = .ok (.goto 57, 3) := by decide +kernel
theorem dX1_tellDuties_216 : decode cX1_tellDuties 216 = .ok (.iconst 1, 1) := by decide +kernel
theorem dX1_tellDuties_217 : decode cX1_tellDuties 217 = .ok (.istore 5, 2) := by decide +kernel
theorem dX1_tellDuties_219 : decode cX1_tellDuties 219 = .ok (.goto 51, 3) := by decide +kernel
theorem dX1_tellDuties_222 : decode cX1_tellDuties 222 = .ok (.aload_n 2, 1) := by decide +kernel
theorem dX1_tellDuties_223 : decode cX1_tellDuties 223 = .ok (.iload_n 3, 1) := by decide +kernel
theorem dX1_tellDuties_224 : decode cX1_tellDuties 224 = .ok (.iload 4, 2) := by decide +kernel
theorem dX1_tellDuties_226 : decode cX1_tellDuties 226 = .ok (.iload 5, 2) := by decide +kernel
theorem dX1_tellDuties_228 : decode cX1_tellDuties 228 = .ok (.iload 8, 2) := by decide +kernel
theorem dX1_tellDuties_230 : decode cX1_tellDuties 230 = .ok (.invokevirtual 84, 3) := by decide +kernel
theorem dX1_tellDuties_233 : decode cX1_tellDuties 233 = .ok (.goto 37, 3) := by decide +kernel
theorem dX1_tellDuties_236 : decode cX1_tellDuties 236 = .ok (.aload_n 2, 1) := by decide +kernel
theorem dX1_tellDuties_237 : decode cX1_tellDuties 237 = .ok (.iload_n 3, 1) := by decide +kernel
theorem dX1_tellDuties_238 : decode cX1_tellDuties 238 = .ok (.iload 4, 2) := by decide +kernel
theorem dX1_tellDuties_240 : decode cX1_tellDuties 240 = .ok (.iload 8, 2) := by decide +kernel
theorem dX1_tellDuties_242 : decode cX1_tellDuties 242 = .ok (.invokevirtual 88, 3) := by decide +kernel
theorem dX1_tellDuties_245 : decode cX1_tellDuties 245 = .ok (.goto 25, 3) := by decide +kernel
theorem dX1_tellDuties_248 : decode cX1_tellDuties 248 = .ok (.aload_n 2, 1) := by decide +kernel
theorem dX1_tellDuties_249 : decode cX1_tellDuties 249 = .ok (.iload 6, 2) := by decide +kernel
theorem dX1_tellDuties_251 : decode cX1_tellDuties 251 = .ok (.iload 8, 2) := by decide +kernel
theorem dX1_tellDuties_253 : decode cX1_tellDuties 253 = .ok (.invokevirtual 92, 3) := by decide +kernel
theorem dX1_tellDuties_256 : decode cX1_tellDuties 256 = .ok (.goto 14, 3) := by decide +kernel
theorem dX1_tellDuties_259 : decode cX1_tellDuties 259 = .ok (.aload_n 2, 1) := by decide +kernel
theorem dX1_tellDuties_260 : decode cX1_tellDuties 260 = .ok (.iload 6, 2) := by decide +kernel
theorem dX1_tellDuties_262 : decode cX1_tellDuties 262 = .ok (.iload 8, 2) := by decide +kernel
theorem dX1_tellDuties_264 : decode cX1_tellDuties 264 = .ok (.invokevirtual 96, 3) := by decide +kernel
theorem dX1_tellDuties_267 : decode cX1_tellDuties 267 = .ok (.goto 3, 3) := by decide +kernel
theorem dX1_tellDuties_270 : decode cX1_tellDuties 270 = .ok (.iinc 7 1, 3) := by decide +kernel
theorem dX1_tellDuties_273 : decode cX1_tellDuties 273 = .ok (.goto (-255), 3) := by decide +kernel
theorem dX1_tellDuties_276 : decode cX1_tellDuties 276 = .ok (.return_, 1) := by decide +kernel
theorem dX1_isOfItems_0 : decode cX1_isOfItems 0 = .ok (.iconst 0, 1) := by decide +kernel
theorem dX1_isOfItems_1 : decode cX1_isOfItems 1 = .ok (.istore_n 2, 1) := by decide +kernel
theorem dX1_isOfItems_2 : decode cX1_isOfItems 2 = .ok (.iload_n 2, 1) := by decide +kernel
theorem dX1_isOfItems_3 : decode cX1_isOfItems 3 = .ok (.aload_n 0, 1) := by decide +kernel
theorem dX1_isOfItems_4 : decode cX1_isOfItems 4 = .ok (.getfield 22, 3) := by decide +kernel
theorem dX1_isOfItems_7 : decode cX1_isOfItems 7 = .ok (.arraylength, 1) := by decide +kernel
theorem dX1_isOfItems_8 : decode cX1_isOfItems 8 = .ok (.if_icmp .ge 47, 3) := by decide +kernel
theorem dX1_isOfItems_11 : decode cX1_isOfItems 11 = .ok (.aload_n 0, 1) := by decide +kernel
theorem dX1_isOfItems_12 : decode cX1_isOfItems 12 = .ok (.getfield 22, 3) := by decide +kernel
theorem dX1_isOfItems_15 : decode cX1_isOfItems 15 = .ok (.iload_n 2, 1) := by decide +kernel
theorem dX1_isOfItems_16 : decode cX1_isOfItems 16 = .ok (.iaload, 1) := by decide +kernel
theorem dX1_isOfItems_17 : decode cX1_isOfItems 17 = .ok (.bipush 100, 2) := by decide +kernel
theorem dX1_isOfItems_19 : decode cX1_isOfItems 19 = .ok (.idiv, 1) := by decide +kernel
theorem dX1_isOfItems_20 : decode cX1_isOfItems 20 = .ok (.istore_n 3, 1) := by decide +kernel
theorem dX1_isOfItems_21 : decode cX1_isOfItems 21 = .ok (.iload_n 1, 1) := by decide +kernel
theorem dX1_isOfItems_22 : decode cX1_isOfItems 22 = .ok (.iload_n 2, 1) := by decide +kernel
theorem dX1_isOfItems_23 : decode cX1_isOfItems 23 = .ok (.ishr, 1) := by decide +kernel
theorem dX1_isOfItems_24 : decode cX1_isOfItems 24 = .ok (.iconst 1, 1) := by decide +kernel
theorem dX1_isOfItems_25 : decode cX1_isOfItems 25 = .ok (.iand, 1) := by decide +kernel
theorem dX1_isOfItems_26 : decode cX1_isOfItems 26 = .ok (.ifCond .eq 23, 3) := by decide +kernel
theorem dX1_isOfItems_29 : decode cX1_isOfItems 29 = .ok (.iload_n 3, 1) := by decide +kernel
theorem dX1_isOfItems_30 : decode cX1_isOfItems 30 = .ok (.bipush 119, 2) := by decide +kernel
theorem dX1_isOfItems_32 : decode cX1_isOfItems 32 = .ok (.if_icmp .eq 17, 3) := by decide +kernel
theorem dX1_isOfItems_35 : decode cX1_isOfItems 35 = .ok (.iload_n 3, 1) := by decide +kernel
theorem dX1_isOfItems_36 : decode cX1_isOfItems 36 = .ok (.bipush 38, 2) := by decide +kernel
theorem dX1_isOfItems_38 : decode cX1_isOfItems 38 = .ok (.if_icmp .eq 11, 3) := by decide +kernel
theorem dX1_isOfItems_41 : decode cX1_isOfItems 41 = .ok (.iload_n 3, 1) := by decide +kernel
theorem dX1_isOfItems_42 : decode cX1_isOfItems 42 = .ok (.bipush 44, 2) := by decide +kernel
theorem dX1_isOfItems_44 : decode cX1_isOfItems 44 = .ok (.if_icmp .eq 5, 3) := by decide +kernel
theorem dX1_isOfItems_47 : decode cX1_isOfItems 47 = .ok (.iconst 0, 1) := by decide +kernel
theorem dX1_isOfItems_48 : decode cX1_isOfItems 48 = .ok (.ireturn, 1) := by decide +kernel
theorem dX1_isOfItems_49 : decode cX1_isOfItems 49 = .ok (.iinc 2 1, 3) := by decide +kernel
theorem dX1_isOfItems_52 : decode cX1_isOfItems 52 = .ok (.goto (-50), 3) := by decide +kernel
theorem dX1_isOfItems_55 : decode cX1_isOfItems 55 = .ok (.iconst 1, 1) := by decide +kernel
theorem dX1_isOfItems_56 : decode cX1_isOfItems 56 = .ok (.ireturn, 1) := by decide +kernel
theorem dX1_isOfNumbers_0 : decode cX1_isOfNumbers 0 = .ok (.iconst 0, 1) := by decide +kernel
theorem dX1_isOfNumbers_1 : decode cX1_isOfNumbers 1 = .ok (.istore_n 2, 1) := by decide +kernel
theorem dX1_isOfNumbers_2 : decode cX1_isOfNumbers 2 = .ok (.iload_n 2, 1) := by decide +kernel
theorem dX1_isOfNumbers_3 : decode cX1_isOfNumbers 3 = .ok (.aload_n 0, 1) := by decide +kernel
theorem dX1_isOfNumbers_4 : decode cX1_isOfNumbers 4 = .ok (.getfield 22, 3) := by decide +kernel
theorem dX1_isOfNumbers_7 : decode cX1_isOfNumbers 7 = .ok (.arraylength, 1) := by decide +kernel
theorem dX1_isOfNumbers_8 : decode cX1_isOfNumbers 8 = .ok (.if_icmp .ge 41, 3) := by decide +kernel
theorem dX1_isOfNumbers_11 : decode cX1_isOfNumbers 11 = .ok (.aload_n 0, 1) := by decide +kernel
theorem dX1_isOfNumbers_12 : decode cX1_isOfNumbers 12 = .ok (.getfield 22, 3) := by decide +kernel
theorem dX1_isOfNumbers_15 : decode cX1_isOfNumbers 15 = .ok (.iload_n 2, 1) := by decide +kernel
theorem dX1_isOfNumbers_16 : decode cX1_isOfNumbers 16 = .ok (.iaload, 1) := by decide +kernel
theorem dX1_isOfNumbers_17 : decode cX1_isOfNumbers 17 = .ok (.bipush 100, 2) := by decide +kernel
theorem dX1_isOfNumbers_19 : decode cX1_isOfNumbers 19 = .ok (.idiv, 1) := by decide +kernel
theorem dX1_isOfNumbers_20 : decode cX1_isOfNumbers 20 = .ok (.istore_n 3, 1) := by decide +kernel
theorem dX1_isOfNumbers_21 : decode cX1_isOfNumbers 21 = .ok (.iload_n 1, 1) := by decide +kernel
theorem dX1_isOfNumbers_22 : decode cX1_isOfNumbers 22 = .ok (.iload_n 2, 1) := by decide +kernel
theorem dX1_isOfNumbers_23 : decode cX1_isOfNumbers 23 = .ok (.ishr, 1) := by decide +kernel
theorem dX1_isOfNumbers_24 : decode cX1_isOfNumbers 24 = .ok (.iconst 1, 1) := by decide +kernel
theorem dX1_isOfNumbers_25 : decode cX1_isOfNumbers 25 = .ok (.iand, 1) := by decide +kernel
theorem dX1_isOfNumbers_26 : decode cX1_isOfNumbers 26 = .ok (.ifCond .eq 17, 3) := by decide +kernel
theorem dX1_isOfNumbers_29 : decode cX1_isOfNumbers 29 = .ok (.iload_n 3, 1) := by decide +kernel
theorem dX1_isOfNumbers_30 : decode cX1_isOfNumbers 30 = .ok (.bipush 105, 2) := by decide +kernel
theorem dX1_isOfNumbers_32 : decode cX1_isOfNumbers 32 = .ok (.if_icmp .eq 11, 3) := by decide +kernel
theorem dX1_isOfNumbers_35 : decode cX1_isOfNumbers 35 = .ok (.iload_n 3, 1) := by decide +kernel
theorem dX1_isOfNumbers_36 : decode cX1_isOfNumbers 36 = .ok (.bipush 102, 2) := by decide +kernel
theorem dX1_isOfNumbers_38 : decode cX1_isOfNumbers 38 = .ok (.if_icmp .eq 5, 3) := by decide +kernel
theorem dX1_isOfNumbers_41 : decode cX1_isOfNumbers 41 = .ok (.iconst 0, 1) := by decide +kernel
theorem dX1_isOfNumbers_42 : decode cX1_isOfNumbers 42 = .ok (.ireturn, 1) := by decide +kernel
theorem dX1_isOfNumbers_43 : decode cX1_isOfNumbers 43 = .ok (.iinc 2 1, 3) := by decide +kernel
theorem dX1_isOfNumbers_46 : decode cX1_isOfNumbers 46 = .ok (.goto (-44), 3) := by decide +kernel
theorem dX1_isOfNumbers_49 : decode cX1_isOfNumbers 49 = .ok (.iconst 1, 1) := by decide +kernel
theorem dX1_isOfNumbers_50 : decode cX1_isOfNumbers 50 = .ok (.ireturn, 1) := by decide +kernel
theorem dX1_isOfClauses_0 : decode cX1_isOfClauses 0 = .ok (.iconst 1, 1) := by decide +kernel
theorem dX1_isOfClauses_1 : decode cX1_isOfClauses 1 = .ok (.istore_n 2, 1) := by decide +kernel
theorem dX1_isOfClauses_2 : decode cX1_isOfClauses 2 = .ok (.iload_n 2, 1) := by decide +kernel
theorem dX1_isOfClauses_3 : decode cX1_isOfClauses 3 = .ok (.aload_n 0, 1) := by decide +kernel
theorem dX1_isOfClauses_4 : decode cX1_isOfClauses 4 = .ok (.getfield 22, 3) := by decide +kernel
theorem dX1_isOfClauses_7 : decode cX1_isOfClauses 7 = .ok (.arraylength, 1) := by decide +kernel
theorem dX1_isOfClauses_8 : decode cX1_isOfClauses 8 = .ok (.if_icmp .ge 66, 3) := by decide +kernel
theorem dX1_isOfClauses_11 : decode cX1_isOfClauses 11 = .ok (.aload_n 0, 1) := by decide +kernel
theorem dX1_isOfClauses_12 : decode cX1_isOfClauses 12 = .ok (.getfield 22, 3) := by decide +kernel
theorem dX1_isOfClauses_15 : decode cX1_isOfClauses 15 = .ok (.iload_n 2, 1) := by decide +kernel
theorem dX1_isOfClauses_16 : decode cX1_isOfClauses 16 = .ok (.iaload, 1) := by decide +kernel
theorem dX1_isOfClauses_17 : decode cX1_isOfClauses 17 = .ok (.bipush 100, 2) := by decide +kernel
theorem dX1_isOfClauses_19 : decode cX1_isOfClauses 19 = .ok (.idiv, 1) := by decide +kernel
theorem dX1_isOfClauses_20 : decode cX1_isOfClauses 20 = .ok (.bipush 59, 2) := by decide +kernel
theorem dX1_isOfClauses_22 : decode cX1_isOfClauses 22 = .ok (.if_icmp .eq 23, 3) := by decide +kernel
theorem dX1_isOfClauses_25 : decode cX1_isOfClauses 25 = .ok (.aload_n 0, 1) := by decide +kernel
theorem dX1_isOfClauses_26 : decode cX1_isOfClauses 26 = .ok (.getfield 22, 3) := by decide +kernel
theorem dX1_isOfClauses_29 : decode cX1_isOfClauses 29 = .ok (.iload_n 2, 1) := by decide +kernel
theorem dX1_isOfClauses_30 : decode cX1_isOfClauses 30 = .ok (.iconst 1, 1) := by decide +kernel
theorem dX1_isOfClauses_31 : decode cX1_isOfClauses 31 = .ok (.isub, 1) := by decide +kernel
theorem dX1_isOfClauses_32 : decode cX1_isOfClauses 32 = .ok (.iaload, 1) := by decide +kernel
theorem dX1_isOfClauses_33 : decode cX1_isOfClauses 33 = .ok (.bipush 100, 2) := by decide +kernel
theorem dX1_isOfClauses_35 : decode cX1_isOfClauses 35 = .ok (.idiv, 1) := by decide +kernel
theorem dX1_isOfClauses_36 : decode cX1_isOfClauses 36 = .ok (.bipush 59, 2) := by decide +kernel
theorem dX1_isOfClauses_38 : decode cX1_isOfClauses 38 = .ok (.if_icmp .eq 7, 3) := by decide +kernel
theorem dX1_isOfClauses_41 : decode cX1_isOfClauses 41 = .ok (.iconst 1, 1) := by decide +kernel
theorem dX1_isOfClauses_42 : decode cX1_isOfClauses 42 = .ok (.goto 4, 3) := by decide +kernel
theorem dX1_isOfClauses_45 : decode cX1_isOfClauses 45 = .ok (.iconst 0, 1) := by decide +kernel
theorem dX1_isOfClauses_46 : decode cX1_isOfClauses 46 = .ok (.istore_n 3, 1) := by decide +kernel
theorem dX1_isOfClauses_47 : decode cX1_isOfClauses 47 = .ok (.iload_n 3, 1) := by decide +kernel
theorem dX1_isOfClauses_48 : decode cX1_isOfClauses 48 = .ok (.ifCond .eq 20, 3) := by decide +kernel
theorem dX1_isOfClauses_51 : decode cX1_isOfClauses 51 = .ok (.iload_n 1, 1) := by decide +kernel
theorem dX1_isOfClauses_52 : decode cX1_isOfClauses 52 = .ok (.iload_n 2, 1) := by decide +kernel
theorem dX1_isOfClauses_53 : decode cX1_isOfClauses 53 = .ok (.ishr, 1) := by decide +kernel
theorem dX1_isOfClauses_54 : decode cX1_isOfClauses 54 = .ok (.iconst 1, 1) := by decide +kernel
theorem dX1_isOfClauses_55 : decode cX1_isOfClauses 55 = .ok (.iand, 1) := by decide +kernel
theorem dX1_isOfClauses_56 : decode cX1_isOfClauses 56 = .ok (.iload_n 1, 1) := by decide +kernel
theorem dX1_isOfClauses_57 : decode cX1_isOfClauses 57 = .ok (.iload_n 2, 1) := by decide +kernel
theorem dX1_isOfClauses_58 : decode cX1_isOfClauses 58 = .ok (.iconst 1, 1) := by decide +kernel
theorem dX1_isOfClauses_59 : decode cX1_isOfClauses 59 = .ok (.isub, 1) := by decide +kernel
theorem dX1_isOfClauses_60 : decode cX1_isOfClauses 60 = .ok (.ishr, 1) := by decide +kernel
theorem dX1_isOfClauses_61 : decode cX1_isOfClauses 61 = .ok (.iconst 1, 1) := by decide +kernel
theorem dX1_isOfClauses_62 : decode cX1_isOfClauses 62 = .ok (.iand, 1) := by decide +kernel
theorem dX1_isOfClauses_63 : decode cX1_isOfClauses 63 = .ok (.if_icmp .eq 5, 3) := by decide +kernel
theorem dX1_isOfClauses_66 : decode cX1_isOfClauses 66 = .ok (.iconst 0, 1) := by decide +kernel
theorem dX1_isOfClauses_67 : decode cX1_isOfClauses 67 = .ok (.ireturn, 1) := by decide +kernel
theorem dX1_isOfClauses_68 : decode cX1_isOfClauses 68 = .ok (.iinc 2 1, 3) := by decide +kernel
theorem dX1_isOfClauses_71 : decode cX1_isOfClauses 71 = .ok (.goto (-69), 3) := by decide +kernel
theorem dX1_isOfClauses_74 : decode cX1_isOfClauses 74 = .ok (.iconst 1, 1) := by decide +kernel
theorem dX1_isOfClauses_75 : decode cX1_isOfClauses 75 = .ok (.ireturn, 1) := by decide +kernel
theorem dX2_init_0 : decode cX2_init 0 = .ok (.aload_n 0, 1) := by decide +kernel
theorem dX2_init_1 : decode cX2_init 1 = .ok (.invokespecial 3, 3) := by decide +kernel
theorem dX2_init_4 : decode cX2_init 4 = .ok (.aload_n 0, 1) := by decide +kernel
theorem dX2_init_5 : decode cX2_init 5 = .ok (.bipush 12, 2) := by decide +kernel
theorem dX2_init_7 : decode cX2_init 7 = .ok (.newarray .int, 2) := by decide +kernel
theorem dX2_init_9 : decode cX2_init 9 = .ok (.putfield 9, 3) := by decide +kernel
theorem dX2_init_12 : decode cX2_init 12 = .ok (.return_, 1) := by decide +kernel
theorem dX2_size_0 : decode cX2_size 0 = .ok (.aload_n 0, 1) := by decide +kernel
theorem dX2_size_1 : decode cX2_size 1 = .ok (.getfield 15, 3) := by decide +kernel
theorem dX2_size_4 : decode cX2_size 4 = .ok (.ireturn, 1) := by decide +kernel
theorem dX2_at_0 : decode cX2_at 0 = .ok (.iload_n 1, 1) := by decide +kernel
theorem dX2_at_1 : decode cX2_at 1 = .ok (.ifCond .lt 29, 3) := by decide +kernel
theorem dX2_at_4 : decode cX2_at 4 = .ok (.iload_n 1, 1) := by decide +kernel
theorem dX2_at_5 : decode cX2_at 5 = .ok (.aload_n 0, 1) := by decide +kernel
theorem dX2_at_6 : decode cX2_at 6 = .ok (.getfield 15, 3) := by decide +kernel
theorem dX2_at_9 : decode cX2_at 9 = .ok (.if_icmp .ge 21, 3) := by decide +kernel
theorem dX2_at_12 : decode cX2_at 12 = .ok (.iload_n 1, 1) := by decide +kernel
theorem dX2_at_13 : decode cX2_at 13 = .ok (.aload_n 0, 1) := by decide +kernel
theorem dX2_at_14 : decode cX2_at 14 = .ok (.getfield 9, 3) := by decide +kernel
theorem dX2_at_17 : decode cX2_at 17 = .ok (.arraylength, 1) := by decide +kernel
theorem dX2_at_18 : decode cX2_at 18 = .ok (.if_icmp .ge 12, 3) := by decide +kernel
theorem dX2_at_21 : decode cX2_at 21 = .ok (.aload_n 0, 1) := by decide +kernel
theorem dX2_at_22 : decode cX2_at 22 = .ok (.getfield 9, 3) := by decide +kernel
theorem dX2_at_25 : decode cX2_at 25 = .ok (.iload_n 1, 1) := by decide +kernel
theorem dX2_at_26 : decode cX2_at 26 = .ok (.iaload, 1) := by decide +kernel
theorem dX2_at_27 : decode cX2_at 27 = .ok (.goto 4, 3) := by decide +kernel
theorem dX2_at_30 : decode cX2_at 30 = .ok (.iconst 0, 1) := by decide +kernel
theorem dX2_at_31 : decode cX2_at 31 = .ok (.ireturn, 1) := by decide +kernel
theorem dX2_digit_0 : decode cX2_digit 0 = .ok (.iload_n 0, 1) := by decide +kernel
theorem dX2_digit_1 : decode cX2_digit 1 = .ok (.iload_n 1, 1) := by decide +kernel
theorem dX2_digit_2 : decode cX2_digit 2 = .ok (.ishr, 1) := by decide +kernel
theorem dX2_digit_3 : decode cX2_digit 3 = .ok (.bipush 31, 2) := by decide +kernel
theorem dX2_digit_5 : decode cX2_digit 5 = .ok (.iand, 1) := by decide +kernel
theorem dX2_digit_6 : decode cX2_digit 6 = .ok (.ireturn, 1) := by decide +kernel
theorem dX2_clear_0 : decode cX2_clear 0 = .ok (.aload_n 0, 1) := by decide +kernel
theorem dX2_clear_1 : decode cX2_clear 1 = .ok (.iconst 0, 1) := by decide +kernel
theorem dX2_clear_2 : decode cX2_clear 2 = .ok (.putfield 15, 3) := by decide +kernel
theorem dX2_clear_5 : decode cX2_clear 5 = .ok (.return_, 1) := by decide +kernel
theorem dX2_addThing_0 : decode cX2_addThing 0 = .ok (.iload_n 1, 1) := by decide +kernel
theorem dX2_addThing_1 : decode cX2_addThing 1 = .ok (.bipush 25, 2) := by decide +kernel
theorem dX2_addThing_3 : decode cX2_addThing 3 = .ok (.ishl, 1) := by decide +kernel
theorem dX2_addThing_4 : decode cX2_addThing 4 = .ok (.iload_n 2, 1) := by decide +kernel
theorem dX2_addThing_5 : decode cX2_addThing 5 = .ok (.bipush 20, 2) := by decide +kernel
theorem dX2_addThing_7 : decode cX2_addThing 7 = .ok (.ishl, 1) := by decide +kernel
theorem dX2_addThing_8 : decode cX2_addThing 8 = .ok (.ior, 1) := by decide +kernel
theorem dX2_addThing_9 : decode cX2_addThing 9 = .ok (.iload_n 3, 1) := by decide +kernel
theorem dX2_addThing_10 : decode cX2_addThing 10 = .ok (.bipush 15, 2) := by decide +kernel
theorem dX2_addThing_12 : decode cX2_addThing 12 = .ok (.ishl, 1) := by decide +kernel
theorem dX2_addThing_13 : decode cX2_addThing 13 = .ok (.ior, 1) := by decide +kernel
theorem dX2_addThing_14 : decode cX2_addThing 14 = .ok (.istore 5, 2) := by decide +kernel
theorem dX2_addThing_16 : decode cX2_addThing 16 = .ok (.aload_n 0, 1) := by decide +kernel
theorem dX2_addThing_17 : decode cX2_addThing 17 = .ok (.iload 5, 2) := by decide +kernel
theorem dX2_addThing_19 : decode cX2_addThing 19 = .ok (.iload 4, 2) := by decide +kernel
theorem dX2_addThing_21 : decode cX2_addThing 21 = .ok (.bipush 10, 2) := by decide +kernel
theorem dX2_addThing_23 : decode cX2_addThing 23 = .ok (.ishl, 1) := by decide +kernel
theorem dX2_addThing_24 : decode cX2_addThing 24 = .ok (.ior, 1) := by decide +kernel
theorem dX2_addThing_25 : decode cX2_addThing 25 = .ok (.sipush 320, 3) := by decide +kernel
theorem dX2_addThing_28 : decode cX2_addThing 28 = .ok (.ior, 1) := by decide +kernel
theorem dX2_addThing_29 : decode cX2_addThing 29 = .ok (.bipush 10, 2) := by decide +kernel
theorem dX2_addThing_31 : decode cX2_addThing 31 = .ok (.ior, 1) := by decide +kernel
theorem dX2_addThing_32 : decode cX2_addThing 32 = .ok (.invokevirtual 19, 3) := by decide +kernel
theorem dX2_addThing_35 : decode cX2_addThing 35 = .ok (.return_, 1) := by decide +kernel
theorem dX2_addPay_0 : decode cX2_addPay 0 = .ok (.aload_n 0, 1) := by decide +kernel
theorem dX2_addPay_1 : decode cX2_addPay 1 = .ok (.iload_n 1, 1) := by decide +kernel
theorem dX2_addPay_2 : decode cX2_addPay 2 = .ok (.bipush 25, 2) := by decide +kernel
theorem dX2_addPay_4 : decode cX2_addPay 4 = .ok (.ishl, 1) := by decide +kernel
theorem dX2_addPay_5 : decode cX2_addPay 5 = .ok (.iload_n 2, 1) := by decide +kernel
theorem dX2_addPay_6 : decode cX2_addPay 6 = .ok (.bipush 20, 2) := by decide +kernel
theorem dX2_addPay_8 : decode cX2_addPay 8 = .ok (.ishl, 1) := by decide +kernel
theorem dX2_addPay_9 : decode cX2_addPay 9 = .ok (.ior, 1) := by decide +kernel
theorem dX2_addPay_10 : decode cX2_addPay 10 = .ok (.bipush 10, 2) := by decide +kernel
theorem dX2_addPay_12 : decode cX2_addPay 12 = .ok (.iload_n 3, 1) := by decide +kernel
theorem dX2_addPay_13 : decode cX2_addPay 13 = .ok (.iadd, 1) := by decide +kernel
theorem dX2_addPay_14 : decode cX2_addPay 14 = .ok (.bipush 10, 2) := by decide +kernel
theorem dX2_addPay_16 : decode cX2_addPay 16 = .ok (.ishl, 1) := by decide +kernel
theorem dX2_addPay_17 : decode cX2_addPay 17 = .ok (.ior, 1) := by decide +kernel
theorem dX2_addPay_18 : decode cX2_addPay 18 = .ok (.invokevirtual 19, 3) := by decide +kernel
theorem dX2_addPay_21 : decode cX2_addPay 21 = .ok (.return_, 1) := by decide +kernel
theorem dX2_add_0 : decode cX2_add 0 = .ok (.aload_n 0, 1) := by decide +kernel
theorem dX2_add_1 : decode cX2_add 1 = .ok (.getfield 15, 3) := by decide +kernel
theorem dX2_add_4 : decode cX2_add 4 = .ok (.ifCond .lt 35, 3) := by decide +kernel
theorem dX2_add_7 : decode cX2_add 7 = .ok (.aload_n 0, 1) := by decide +kernel
theorem dX2_add_8 : decode cX2_add 8 = .ok (.getfield 15, 3) := by decide +kernel
theorem dX2_add_11 : decode cX2_add 11 = .ok (.aload_n 0, 1) := by decide +kernel
theorem dX2_add_12 : decode cX2_add 12 = .ok (.getfield 9, 3) := by decide +kernel
theorem dX2_add_15 : decode cX2_add 15 = .ok (.arraylength, 1) := by decide +kernel
theorem dX2_add_16 : decode cX2_add 16 = .ok (.if_icmp .ge 23, 3) := by decide +kernel
theorem dX2_add_19 : decode cX2_add 19 = .ok (.aload_n 0, 1) := by decide +kernel
theorem dX2_add_20 : decode cX2_add 20 = .ok (.getfield 9, 3) := by decide +kernel
theorem dX2_add_23 : decode cX2_add 23 = .ok (.aload_n 0, 1) := by decide +kernel
theorem dX2_add_24 : decode cX2_add 24 = .ok (.getfield 15, 3) := by decide +kernel
theorem dX2_add_27 : decode cX2_add 27 = .ok (.iload_n 1, 1) := by decide +kernel
theorem dX2_add_28 : decode cX2_add 28 = .ok (.iastore, 1) := by decide +kernel
theorem dX2_add_29 : decode cX2_add 29 = .ok (.aload_n 0, 1) := by decide +kernel
theorem dX2_add_30 : decode cX2_add 30 = .ok (.dup, 1) := by decide +kernel
theorem dX2_add_31 : decode cX2_add 31 = .ok (.getfield 15, 3) := by decide +kernel
theorem dX2_add_34 : decode cX2_add 34 = .ok (.iconst 1, 1) := by decide +kernel
theorem dX2_add_35 : decode cX2_add 35 = .ok (.iadd, 1) := by decide +kernel
theorem dX2_add_36 : decode cX2_add 36 = .ok (.putfield 15, 3) := by decide +kernel
theorem dX2_add_39 : decode cX2_add 39 = .ok (.return_, 1) := by decide +kernel
theorem dX2_setFar_0 : decode cX2_setFar 0 = .ok (.aload_n 0, 1) := by decide +kernel
theorem dX2_setFar_1 : decode cX2_setFar 1 = .ok (.iload_n 1, 1) := by decide +kernel
theorem dX2_setFar_2 : decode cX2_setFar 2 = .ok (.iconst 5, 1) := by decide +kernel
theorem dX2_setFar_3 : decode cX2_setFar 3 = .ok (.iload_n 2, 1) := by decide +kernel
theorem dX2_setFar_4 : decode cX2_setFar 4 = .ok (.invokevirtual 23, 3) := by decide +kernel
theorem dX2_setFar_7 : decode cX2_setFar 7 = .ok (.return_, 1) := by decide +kernel
theorem dX2_setLong_0 : decode cX2_setLong 0 = .ok (.aload_n 0, 1) := by decide +kernel
theorem dX2_setLong_1 : decode cX2_setLong 1 = .ok (.iload_n 1, 1) := by decide +kernel
theorem dX2_setLong_2 : decode cX2_setLong 2 = .ok (.iconst 0, 1) := by decide +kernel
theorem dX2_setLong_3 : decode cX2_setLong 3 = .ok (.iload_n 2, 1) := by decide +kernel
theorem dX2_setLong_4 : decode cX2_setLong 4 = .ok (.invokevirtual 23, 3) := by decide +kernel
theorem dX2_setLong_7 : decode cX2_setLong 7 = .ok (.return_, 1) := by decide +kernel
theorem dX2_setDigit_0 : decode cX2_setDigit 0 = .ok (.iload_n 1, 1) := by decide +kernel
theorem dX2_setDigit_1 : decode cX2_setDigit 1 = .ok (.iconst 0, 1) := by decide +kernel
theorem dX2_setDigit_2 : decode cX2_setDigit 2 = .ok (.invokestatic 27, 3) := by decide +kernel
theorem dX2_setDigit_5 : decode cX2_setDigit 5 = .ok (.istore 4, 2) := by decide +kernel
theorem dX2_setDigit_7 : decode cX2_setDigit 7 = .ok (.iload 4, 2) := by decide +kernel
theorem dX2_setDigit_9 : decode cX2_setDigit 9 = .ok (.aload_n 0, 1) := by decide +kernel
theorem dX2_setDigit_10 : decode cX2_setDigit 10 = .ok (.getfield 15, 3) := by decide +kernel
theorem dX2_setDigit_13 : decode cX2_setDigit 13 = .ok (.if_icmp .ge 44, 3) := by decide +kernel
theorem dX2_setDigit_16 : decode cX2_setDigit 16 = .ok (.iload 4, 2) := by decide +kernel
theorem dX2_setDigit_18 : decode cX2_setDigit 18 = .ok (.aload_n 0, 1) := by decide +kernel
theorem dX2_setDigit_19 : decode cX2_setDigit 19 = .ok (.getfield 9, 3) := by decide +kernel
theorem dX2_setDigit_22 : decode cX2_setDigit 22 = .ok (.arraylength, 1) := by decide +kernel
theorem dX2_setDigit_23 : decode cX2_setDigit 23 = .ok (.if_icmp .ge 34, 3) := by decide +kernel
theorem dX2_setDigit_26 : decode cX2_setDigit 26 = .ok (.aload_n 0, 1) := by decide +kernel
theorem dX2_setDigit_27 : decode cX2_setDigit 27 = .ok (.getfield 9, 3) := by decide +kernel
theorem dX2_setDigit_30 : decode cX2_setDigit 30 = .ok (.iload 4, 2) := by decide +kernel
theorem dX2_setDigit_32 : decode cX2_setDigit 32 = .ok (.aload_n 0, 1) := by decide +kernel
theorem dX2_setDigit_33 : decode cX2_setDigit 33 = .ok (.getfield 9, 3) := by decide +kernel
theorem dX2_setDigit_36 : decode cX2_setDigit 36 = .ok (.iload 4, 2) := by decide +kernel
theorem dX2_setDigit_38 : decode cX2_setDigit 38 = .ok (.iaload, 1) := by decide +kernel
theorem dX2_setDigit_39 : decode cX2_setDigit 39 = .ok (.bipush 31, 2) := by decide +kernel
theorem dX2_setDigit_41 : decode cX2_setDigit 41 = .ok (.iload_n 2, 1) := by decide +kernel
theorem dX2_setDigit_42 : decode cX2_setDigit 42 = .ok (.ishl, 1) := by decide +kernel
theorem dX2_setDigit_43 : decode cX2_setDigit 43 = .ok (.iconst (-1), 1) := by decide +kernel
theorem dX2_setDigit_44 : decode cX2_setDigit 44 = .ok (.ixor, 1) := by decide +kernel
theorem dX2_setDigit_45 : decode cX2_setDigit 45 = .ok (.iand, 1) := by decide +kernel
theorem dX2_setDigit_46 : decode cX2_setDigit 46 = .ok (.iload_n 3, 1) := by decide +kernel
theorem dX2_setDigit_47 : decode cX2_setDigit 47 = .ok (.iload_n 2, 1) := by decide +kernel
theorem dX2_setDigit_48 : decode cX2_setDigit 48 = .ok (.ishl, 1) := by decide +kernel
theorem dX2_setDigit_49 : decode cX2_setDigit 49 = .ok (.ior, 1) := by decide +kernel
theorem dX2_setDigit_50 : decode cX2_setDigit 50 = .ok (.iastore, 1) := by decide +kernel
theorem dX2_setDigit_51 : decode cX2_setDigit 51 = .ok (.iinc 4 1, 3) := by decide +kernel
theorem dX2_setDigit_54 : decode cX2_setDigit 54 = .ok (.goto (-47), 3) := by decide +kernel
theorem dX2_setDigit_57 : decode cX2_setDigit 57 = .ok (.return_, 1) := by decide +kernel
theorem dX2_isSameAs_0 : decode cX2_isSameAs 0 = .ok (.aload_n 0, 1) := by decide +kernel
theorem dX2_isSameAs_1 : decode cX2_isSameAs 1 = .ok (.getfield 15, 3) := by decide +kernel
theorem dX2_isSameAs_4 : decode cX2_isSameAs 4 = .ok (.aload_n 1, 1) := by decide +kernel
theorem dX2_isSameAs_5 : decode cX2_isSameAs 5 = .ok (.getfield 15, 3) := by decide +kernel
theorem dX2_isSameAs_8 : decode cX2_isSameAs 8 = .ok (.if_icmp .eq 5, 3) := by decide +kernel
theorem dX2_isSameAs_11 : decode cX2_isSameAs 11 = .ok (.iconst 0, 1) := by decide +kernel
theorem dX2_isSameAs_12 : decode cX2_isSameAs 12 = .ok (.ireturn, 1) := by decide +kernel
theorem dX2_isSameAs_13 : decode cX2_isSameAs 13 = .ok (.iconst 0, 1) := by decide +kernel
theorem dX2_isSameAs_14 : decode cX2_isSameAs 14 = .ok (.istore_n 2, 1) := by decide +kernel
theorem dX2_isSameAs_15 : decode cX2_isSameAs 15 = .ok (.iload_n 2, 1) := by decide +kernel
theorem dX2_isSameAs_16 : decode cX2_isSameAs 16 = .ok (.aload_n 0, 1) := by decide +kernel
theorem dX2_isSameAs_17 : decode cX2_isSameAs 17 = .ok (.getfield 15, 3) := by decide +kernel
theorem dX2_isSameAs_20 : decode cX2_isSameAs 20 = .ok (.if_icmp .ge 24, 3) := by decide +kernel
theorem dX2_isSameAs_23 : decode cX2_isSameAs 23 = .ok (.aload_n 0, 1) := by decide +kernel
theorem dX2_isSameAs_24 : decode cX2_isSameAs 24 = .ok (.iload_n 2, 1) := by decide +kernel
theorem dX2_isSameAs_25 : decode cX2_isSameAs 25 = .ok (.invokevirtual 33, 3) := by decide +kernel
theorem dX2_isSameAs_28 : decode cX2_isSameAs 28 = .ok (.aload_n 1, 1) := by decide +kernel
theorem dX2_isSameAs_29 : decode cX2_isSameAs 29 = .ok (.iload_n 2, 1) := by decide +kernel
theorem dX2_isSameAs_30 : decode cX2_isSameAs 30 = .ok (.invokevirtual 33, 3) := by decide +kernel
theorem dX2_isSameAs_33 : decode cX2_isSameAs 33 = .ok (.if_icmp .eq 5, 3) := by decide +kernel
theorem dX2_isSameAs_36 : decode cX2_isSameAs 36 = .ok (.iconst 0, 1) := by decide +kernel
theorem dX2_isSameAs_37 : decode cX2_isSameAs 37 = .ok (.ireturn, 1) := by decide +kernel
theorem dX2_isSameAs_38 : decode cX2_isSameAs 38 = .ok (.iinc 2 1, 3) := by decide +kernel
theorem dX2_isSameAs_41 : decode cX2_isSameAs 41 = .ok (.goto (-26), 3) := by decide +kernel
theorem dX2_isSameAs_44 : decode cX2_isSameAs 44 = .ok (.iconst 1, 1) := by decide +kernel
theorem dX2_isSameAs_45 : decode cX2_isSameAs 45 = .ok (.ireturn, 1) := by decide +kernel
theorem dX2_isAllBut_0 : decode cX2_isAllBut 0 = .ok (.aload_n 0, 1) := by decide +kernel
theorem dX2_isAllBut_1 : decode cX2_isAllBut 1 = .ok (.getfield 15, 3) := by decide +kernel
theorem dX2_isAllBut_4 : decode cX2_isAllBut 4 = .ok (.aload_n 1, 1) := by decide +kernel
theorem dX2_isAllBut_5 : decode cX2_isAllBut 5 = .ok (.getfield 15, 3) := by decide +kernel
theorem dX2_isAllBut_8 : decode cX2_isAllBut 8 = .ok (.iconst 1, 1) := by decide +kernel
theorem dX2_isAllBut_9 : decode cX2_isAllBut 9 = .ok (.isub, 1) := by decide +kernel
theorem dX2_isAllBut_10 : decode cX2_isAllBut 10 = .ok (.if_icmp .eq 5, 3) := by decide +kernel
theorem dX2_isAllBut_13 : decode cX2_isAllBut 13 = .ok (.iconst 0, 1) := by decide +kernel
theorem dX2_isAllBut_14 : decode cX2_isAllBut 14 = .ok (.ireturn, 1) := by decide +kernel
theorem dX2_isAllBut_15 : decode cX2_isAllBut 15 = .ok (.iconst 0, 1) := by decide +kernel
theorem dX2_isAllBut_16 : decode cX2_isAllBut 16 = .ok (.istore_n 3, 1) := by decide +kernel
theorem dX2_isAllBut_17 : decode cX2_isAllBut 17 = .ok (.iload_n 3, 1) := by decide +kernel
theorem dX2_isAllBut_18 : decode cX2_isAllBut 18 = .ok (.aload_n 0, 1) := by decide +kernel
theorem dX2_isAllBut_19 : decode cX2_isAllBut 19 = .ok (.getfield 15, 3) := by decide +kernel
theorem dX2_isAllBut_22 : decode cX2_isAllBut 22 = .ok (.if_icmp .ge 35, 3) := by decide +kernel
theorem dX2_isAllBut_25 : decode cX2_isAllBut 25 = .ok (.aload_n 0, 1) := by decide +kernel
theorem dX2_isAllBut_26 : decode cX2_isAllBut 26 = .ok (.iload_n 3, 1) := by decide +kernel
theorem dX2_isAllBut_27 : decode cX2_isAllBut 27 = .ok (.invokevirtual 33, 3) := by decide +kernel
theorem dX2_isAllBut_30 : decode cX2_isAllBut 30 = .ok (.aload_n 1, 1) := by decide +kernel
theorem dX2_isAllBut_31 : decode cX2_isAllBut 31 = .ok (.iload_n 3, 1) := by decide +kernel
theorem dX2_isAllBut_32 : decode cX2_isAllBut 32 = .ok (.iload_n 2, 1) := by decide +kernel
theorem dX2_isAllBut_33 : decode cX2_isAllBut 33 = .ok (.if_icmp .ge 7, 3) := by decide +kernel
theorem dX2_isAllBut_36 : decode cX2_isAllBut 36 = .ok (.iload_n 3, 1) := by decide +kernel
theorem dX2_isAllBut_37 : decode cX2_isAllBut 37 = .ok (.goto 6, 3) := by decide +kernel
theorem dX2_isAllBut_40 : decode cX2_isAllBut 40 = .ok (.iload_n 3, 1) := by decide +kernel
theorem dX2_isAllBut_41 : decode cX2_isAllBut 41 = .ok (.iconst 1, 1) := by decide +kernel
theorem dX2_isAllBut_42 : decode cX2_isAllBut 42 = .ok (.iadd, 1) := by decide +kernel
theorem dX2_isAllBut_43 : decode cX2_isAllBut 43 = .ok (.invokevirtual 33, 3) := by decide +kernel
theorem dX2_isAllBut_46 : decode cX2_isAllBut 46 = .ok (.if_icmp .eq 5, 3) := by decide +kernel
theorem dX2_isAllBut_49 : decode cX2_isAllBut 49 = .ok (.iconst 0, 1) := by decide +kernel
theorem dX2_isAllBut_50 : decode cX2_isAllBut 50 = .ok (.ireturn, 1) := by decide +kernel
theorem dX2_isAllBut_51 : decode cX2_isAllBut 51 = .ok (.iinc 3 1, 3) := by decide +kernel
theorem dX2_isAllBut_54 : decode cX2_isAllBut 54 = .ok (.goto (-37), 3) := by decide +kernel
theorem dX2_isAllBut_57 : decode cX2_isAllBut 57 = .ok (.iconst 1, 1) := by decide +kernel
theorem dX2_isAllBut_58 : decode cX2_isAllBut 58 = .ok (.ireturn, 1) := by decide +kernel
theorem dX2_isAllIn_0 : decode cX2_isAllIn 0 = .ok (.iconst 0, 1) := by decide +kernel
theorem dX2_isAllIn_1 : decode cX2_isAllIn 1 = .ok (.istore_n 2, 1) := by decide +kernel
theorem dX2_isAllIn_2 : decode cX2_isAllIn 2 = .ok (.iload_n 2, 1) := by decide +kernel
theorem dX2_isAllIn_3 : decode cX2_isAllIn 3 = .ok (.aload_n 0, 1) := by decide +kernel
theorem dX2_isAllIn_4 : decode cX2_isAllIn 4 = .ok (.getfield 15, 3) := by decide +kernel
theorem dX2_isAllIn_7 : decode cX2_isAllIn 7 = .ok (.if_icmp .ge 23, 3) := by decide +kernel
theorem dX2_isAllIn_10 : decode cX2_isAllIn 10 = .ok (.aload_n 1, 1) := by decide +kernel
theorem dX2_isAllIn_11 : decode cX2_isAllIn 11 = .ok (.aload_n 0, 1) := by decide +kernel
theorem dX2_isAllIn_12 : decode cX2_isAllIn 12 = .ok (.iload_n 2, 1) := by decide +kernel
theorem dX2_isAllIn_13 : decode cX2_isAllIn 13 = .ok (.invokevirtual 33, 3) := by decide +kernel
theorem dX2_isAllIn_16 : decode cX2_isAllIn 16 = .ok (.invokevirtual 37, 3) := by decide +kernel
theorem dX2_isAllIn_19 : decode cX2_isAllIn 19 = .ok (.ifCond .ne 5, 3) := by decide +kernel
theorem dX2_isAllIn_22 : decode cX2_isAllIn 22 = .ok (.iconst 0, 1) := by decide +kernel
theorem dX2_isAllIn_23 : decode cX2_isAllIn 23 = .ok (.ireturn, 1) := by decide +kernel
theorem dX2_isAllIn_24 : decode cX2_isAllIn 24 = .ok (.iinc 2 1, 3) := by decide +kernel
theorem dX2_isAllIn_27 : decode cX2_isAllIn 27 = .ok (.goto (-25), 3) := by decide +kernel
theorem dX2_isAllIn_30 : decode cX2_isAllIn 30 = .ok (.iconst 1, 1) := by decide +kernel
theorem dX2_isAllIn_31 : decode cX2_isAllIn 31 = .ok (.ireturn, 1) := by decide +kernel
theorem dX2_contains_0 : decode cX2_contains 0 = .ok (.iconst 0, 1) := by decide +kernel
theorem dX2_contains_1 : decode cX2_contains 1 = .ok (.istore_n 2, 1) := by decide +kernel
theorem dX2_contains_2 : decode cX2_contains 2 = .ok (.iload_n 2, 1) := by decide +kernel
theorem dX2_contains_3 : decode cX2_contains 3 = .ok (.aload_n 0, 1) := by decide +kernel
theorem dX2_contains_4 : decode cX2_contains 4 = .ok (.getfield 15, 3) := by decide +kernel
theorem dX2_contains_7 : decode cX2_contains 7 = .ok (.if_icmp .ge 20, 3) := by decide +kernel
theorem dX2_contains_10 : decode cX2_contains 10 = .ok (.aload_n 0, 1) := by decide +kernel
theorem dX2_contains_11 : decode cX2_contains 11 = .ok (.iload_n 2, 1) := by decide +kernel
theorem dX2_contains_12 : decode cX2_contains 12 = .ok (.invokevirtual 33, 3) := by decide +kernel
theorem dX2_contains_15 : decode cX2_contains 15 = .ok (.iload_n 1, 1) := by decide +kernel
theorem dX2_contains_16 : decode cX2_contains 16 = .ok (.if_icmp .ne 5, 3) := by decide +kernel
theorem dX2_contains_19 : decode cX2_contains 19 = .ok (.iconst 1, 1) := by decide +kernel
theorem dX2_contains_20 : decode cX2_contains 20 = .ok (.ireturn, 1) := by decide +kernel
theorem dX2_contains_21 : decode cX2_contains 21 = .ok (.iinc 2 1, 3) := by decide +kernel
theorem dX2_contains_24 : decode cX2_contains 24 = .ok (.goto (-22), 3) := by decide +kernel
theorem dX2_contains_27 : decode cX2_contains 27 = .ok (.iconst 0, 1) := by decide +kernel
theorem dX2_contains_28 : decode cX2_contains 28 = .ok (.ireturn, 1) := by decide +kernel
theorem dX2_paidTo_0 : decode cX2_paidTo 0 = .ok (.iconst 0, 1) := by decide +kernel
theorem dX2_paidTo_1 : decode cX2_paidTo 1 = .ok (.istore_n 2, 1) := by decide +kernel
theorem dX2_paidTo_2 : decode cX2_paidTo 2 = .ok (.iconst 0, 1) := by decide +kernel
theorem dX2_paidTo_3 : decode cX2_paidTo 3 = .ok (.istore_n 3, 1) := by decide +kernel
theorem dX2_paidTo_4 : decode cX2_paidTo 4 = .ok (.iload_n 3, 1) := by decide +kernel
theorem dX2_paidTo_5 : decode cX2_paidTo 5 = .ok (.aload_n 0, 1) := by decide +kernel
theorem dX2_paidTo_6 : decode cX2_paidTo 6 = .ok (.getfield 15, 3) := by decide +kernel
theorem dX2_paidTo_9 : decode cX2_paidTo 9 = .ok (.if_icmp .ge 75, 3) := by decide +kernel
theorem dX2_paidTo_12 : decode cX2_paidTo 12 = .ok (.aload_n 0, 1) := by decide +kernel
theorem dX2_paidTo_13 : decode cX2_paidTo 13 = .ok (.iload_n 3, 1) := by decide +kernel
theorem dX2_paidTo_14 : decode cX2_paidTo 14 = .ok (.invokevirtual 33, 3) := by decide +kernel
theorem dX2_paidTo_17 : decode cX2_paidTo 17 = .ok (.istore 4, 2) := by decide +kernel
theorem dX2_paidTo_19 : decode cX2_paidTo 19 = .ok (.iload 4, 2) := by decide +kernel
theorem dX2_paidTo_21 : decode cX2_paidTo 21 = .ok (.bipush 25, 2) := by decide +kernel
theorem dX2_paidTo_23 : decode cX2_paidTo 23 = .ok (.invokestatic 41, 3) := by decide +kernel
theorem dX2_paidTo_26 : decode cX2_paidTo 26 = .ok (.iload_n 1, 1) := by decide +kernel
theorem dX2_paidTo_27 : decode cX2_paidTo 27 = .ok (.if_icmp .eq 18, 3) := by decide +kernel
theorem dX2_paidTo_30 : decode cX2_paidTo 30 = .ok (.iload 4, 2) := by decide +kernel
theorem dX2_paidTo_32 : decode cX2_paidTo 32 = .ok (.bipush 20, 2) := by decide +kernel
theorem dX2_paidTo_34 : decode cX2_paidTo 34 = .ok (.invokestatic 41, 3) := by decide +kernel
theorem dX2_paidTo_37 : decode cX2_paidTo 37 = .ok (.iconst 1, 1) := by decide +kernel
theorem dX2_paidTo_38 : decode cX2_paidTo 38 = .ok (.if_icmp .ne 7, 3) := by decide +kernel
theorem dX2_paidTo_41 : decode cX2_paidTo 41 = .ok (.iconst 1, 1) := by decide +kernel
theorem dX2_paidTo_42 : decode cX2_paidTo 42 = .ok (.goto 4, 3) := by decide +kernel
theorem dX2_paidTo_45 : decode cX2_paidTo 45 = .ok (.iconst 0, 1) := by decide +kernel
theorem dX2_paidTo_46 : decode cX2_paidTo 46 = .ok (.istore 5, 2) := by decide +kernel
theorem dX2_paidTo_48 : decode cX2_paidTo 48 = .ok (.iload 5, 2) := by decide +kernel
theorem dX2_paidTo_50 : decode cX2_paidTo 50 = .ok (.ifCond .eq 28, 3) := by decide +kernel
theorem dX2_paidTo_53 : decode cX2_paidTo 53 = .ok (.iload 4, 2) := by decide +kernel
theorem dX2_paidTo_55 : decode cX2_paidTo 55 = .ok (.bipush 10, 2) := by decide +kernel
theorem dX2_paidTo_57 : decode cX2_paidTo 57 = .ok (.invokestatic 41, 3) := by decide +kernel
theorem dX2_paidTo_60 : decode cX2_paidTo 60 = .ok (.bipush 10, 2) := by decide +kernel
theorem dX2_paidTo_62 : decode cX2_paidTo 62 = .ok (.if_icmp .lt 16, 3) := by decide +kernel
theorem dX2_paidTo_65 : decode cX2_paidTo 65 = .ok (.iload_n 2, 1) := by decide +kernel
theorem dX2_paidTo_66 : decode cX2_paidTo 66 = .ok (.iload 4, 2) := by decide +kernel
theorem dX2_paidTo_68 : decode cX2_paidTo 68 = .ok (.bipush 10, 2) := by decide +kernel
theorem dX2_paidTo_70 : decode cX2_paidTo 70 = .ok (.invokestatic 41, 3) := by decide +kernel
theorem dX2_paidTo_73 : decode cX2_paidTo 73 = .ok (.bipush 10, 2) := by decide +kernel
theorem dX2_paidTo_75 : decode cX2_paidTo 75 = .ok (.isub, 1) := by decide +kernel
theorem dX2_paidTo_76 : decode cX2_paidTo 76 = .ok (.iadd, 1) := by decide +kernel
theorem dX2_paidTo_77 : decode cX2_paidTo 77 = .ok (.istore_n 2, 1) := by decide +kernel
theorem dX2_paidTo_78 : decode cX2_paidTo 78 = .ok (.iinc 3 1, 3) := by decide +kernel
theorem dX2_paidTo_81 : decode cX2_paidTo 81 = .ok (.goto (-77), 3) := by decide +kernel
theorem dX2_paidTo_84 : decode cX2_paidTo 84 = .ok (.iload_n 2, 1) := by decide +kernel
theorem dX2_paidTo_85 : decode cX2_paidTo 85 = .ok (.ireturn, 1) := by decide +kernel
theorem dX2_isGivenBy_0 : decode cX2_isGivenBy 0 = .ok (.iconst 0, 1) := by decide +kernel
theorem dX2_isGivenBy_1 : decode cX2_isGivenBy 1 = .ok (.istore_n 2, 1) := by decide +kernel
theorem dX2_isGivenBy_2 : decode cX2_isGivenBy 2 = .ok (.iload_n 2, 1) := by decide +kernel
theorem dX2_isGivenBy_3 : decode cX2_isGivenBy 3 = .ok (.aload_n 0, 1) := by decide +kernel
theorem dX2_isGivenBy_4 : decode cX2_isGivenBy 4 = .ok (.getfield 15, 3) := by decide +kernel
theorem dX2_isGivenBy_7 : decode cX2_isGivenBy 7 = .ok (.if_icmp .ge 46, 3) := by decide +kernel
theorem dX2_isGivenBy_10 : decode cX2_isGivenBy 10 = .ok (.aload_n 0, 1) := by decide +kernel
theorem dX2_isGivenBy_11 : decode cX2_isGivenBy 11 = .ok (.iload_n 2, 1) := by decide +kernel
theorem dX2_isGivenBy_12 : decode cX2_isGivenBy 12 = .ok (.invokevirtual 33, 3) := by decide +kernel
theorem dX2_isGivenBy_15 : decode cX2_isGivenBy 15 = .ok (.istore_n 3, 1) := by decide +kernel
theorem dX2_isGivenBy_16 : decode cX2_isGivenBy 16 = .ok (.iload_n 3, 1) := by decide +kernel
theorem dX2_isGivenBy_17 : decode cX2_isGivenBy 17 = .ok (.bipush 25, 2) := by decide +kernel
theorem dX2_isGivenBy_19 : decode cX2_isGivenBy 19 = .ok (.invokestatic 41, 3) := by decide +kernel
theorem dX2_isGivenBy_22 : decode cX2_isGivenBy 22 = .ok (.iload_n 1, 1) := by decide +kernel
theorem dX2_isGivenBy_23 : decode cX2_isGivenBy 23 = .ok (.if_icmp .ne 24, 3) := by decide +kernel
theorem dX2_isGivenBy_26 : decode cX2_isGivenBy 26 = .ok (.iload_n 3, 1) := by decide +kernel
theorem dX2_isGivenBy_27 : decode cX2_isGivenBy 27 = .ok (.bipush 20, 2) := by decide +kernel
theorem dX2_isGivenBy_29 : decode cX2_isGivenBy 29 = .ok (.invokestatic 41, 3) := by decide +kernel
theorem dX2_isGivenBy_32 : decode cX2_isGivenBy 32 = .ok (.iconst 1, 1) := by decide +kernel
theorem dX2_isGivenBy_33 : decode cX2_isGivenBy 33 = .ok (.if_icmp .ne 14, 3) := by decide +kernel
theorem dX2_isGivenBy_36 : decode cX2_isGivenBy 36 = .ok (.iload_n 3, 1) := by decide +kernel
theorem dX2_isGivenBy_37 : decode cX2_isGivenBy 37 = .ok (.bipush 15, 2) := by decide +kernel
theorem dX2_isGivenBy_39 : decode cX2_isGivenBy 39 = .ok (.invokestatic 41, 3) := by decide +kernel
theorem dX2_isGivenBy_42 : decode cX2_isGivenBy 42 = .ok (.ifCond .ne 5, 3) := by decide +kernel
theorem dX2_isGivenBy_45 : decode cX2_isGivenBy 45 = .ok (.iconst 1, 1) := by decide +kernel
theorem dX2_isGivenBy_46 : decode cX2_isGivenBy 46 = .ok (.ireturn, 1) := by decide +kernel
theorem dX2_isGivenBy_47 : decode cX2_isGivenBy 47 = .ok (.iinc 2 1, 3) := by decide +kernel
theorem dX2_isGivenBy_50 : decode cX2_isGivenBy 50 = .ok (.goto (-48), 3) := by decide +kernel
theorem dX2_isGivenBy_53 : decode cX2_isGivenBy 53 = .ok (.iconst 0, 1) := by decide +kernel
theorem dX2_isGivenBy_54 : decode cX2_isGivenBy 54 = .ok (.ireturn, 1) := by decide +kernel
theorem dX2_longsOfNots_0 : decode cX2_longsOfNots 0 = .ok (.iconst 0, 1) := by decide +kernel
theorem dX2_longsOfNots_1 : decode cX2_longsOfNots 1 = .ok (.istore_n 1, 1) := by decide +kernel
theorem dX2_longsOfNots_2 : decode cX2_longsOfNots 2 = .ok (.iconst 0, 1) := by decide +kernel
theorem dX2_longsOfNots_3 : decode cX2_longsOfNots 3 = .ok (.istore_n 2, 1) := by decide +kernel
theorem dX2_longsOfNots_4 : decode cX2_longsOfNots 4 = .ok (.iload_n 2, 1) := by decide +kernel
theorem dX2_longsOfNots_5 : decode cX2_longsOfNots 5 = .ok (.aload_n 0, 1) := by decide +kernel
theorem dX2_longsOfNots_6 : decode cX2_longsOfNots 6 = .ok (.getfield 15, 3) := by decide +kernel
theorem dX2_longsOfNots_9 : decode cX2_longsOfNots 9 = .ok (.if_icmp .ge 39, 3) := by decide +kernel
theorem dX2_longsOfNots_12 : decode cX2_longsOfNots 12 = .ok (.iload_n 1, 1) := by decide +kernel
theorem dX2_longsOfNots_13 : decode cX2_longsOfNots 13 = .ok (.aload_n 0, 1) := by decide +kernel
theorem dX2_longsOfNots_14 : decode cX2_longsOfNots 14 = .ok (.iload_n 2, 1) := by decide +kernel
theorem dX2_longsOfNots_15 : decode cX2_longsOfNots 15 = .ok (.invokevirtual 33, 3) := by decide +kernel
theorem dX2_longsOfNots_18 : decode cX2_longsOfNots 18 = .ok (.bipush 15, 2) := by decide +kernel
theorem dX2_longsOfNots_20 : decode cX2_longsOfNots 20 = .ok (.invokestatic 41, 3) := by decide +kernel
theorem dX2_longsOfNots_23 : decode cX2_longsOfNots 23 = .ok (.iconst 1, 1) := by decide +kernel
theorem dX2_longsOfNots_24 : decode cX2_longsOfNots 24 = .ok (.if_icmp .ne 15, 3) := by decide +kernel
theorem dX2_longsOfNots_27 : decode cX2_longsOfNots 27 = .ok (.aload_n 0, 1) := by decide +kernel
theorem dX2_longsOfNots_28 : decode cX2_longsOfNots 28 = .ok (.iload_n 2, 1) := by decide +kernel
theorem dX2_longsOfNots_29 : decode cX2_longsOfNots 29 = .ok (.invokevirtual 33, 3) := by decide +kernel
theorem dX2_longsOfNots_32 : decode cX2_longsOfNots 32 = .ok (.iconst 0, 1) := by decide +kernel
theorem dX2_longsOfNots_33 : decode cX2_longsOfNots 33 = .ok (.invokestatic 41, 3) := by decide +kernel
theorem dX2_longsOfNots_36 : decode cX2_longsOfNots 36 = .ok (.goto 4, 3) := by decide +kernel
theorem dX2_longsOfNots_39 : decode cX2_longsOfNots 39 = .ok (.iconst 0, 1) := by decide +kernel
theorem dX2_longsOfNots_40 : decode cX2_longsOfNots 40 = .ok (.iadd, 1) := by decide +kernel
theorem dX2_longsOfNots_41 : decode cX2_longsOfNots 41 = .ok (.istore_n 1, 1) := by decide +kernel
theorem dX2_longsOfNots_42 : decode cX2_longsOfNots 42 = .ok (.iinc 2 1, 3) := by decide +kernel
theorem dX2_longsOfNots_45 : decode cX2_longsOfNots 45 = .ok (.goto (-41), 3) := by decide +kernel
theorem dX2_longsOfNots_48 : decode cX2_longsOfNots 48 = .ok (.iload_n 1, 1) := by decide +kernel
theorem dX2_longsOfNots_49 : decode cX2_longsOfNots 49 = .ok (.ireturn, 1) := by decide +kernel
theorem dX2_costFor_0 : decode cX2_costFor 0 = .ok (.aload_n 0, 1) := by decide +kernel
theorem dX2_costFor_1 : decode cX2_costFor 1 = .ok (.iload_n 1, 1) := by decide +kernel
theorem dX2_costFor_2 : decode cX2_costFor 2 = .ok (.aload_n 2, 1) := by decide +kernel
theorem dX2_costFor_3 : decode cX2_costFor 3 = .ok (.invokevirtual 44, 3) := by decide +kernel
theorem dX2_costFor_6 : decode cX2_costFor 6 = .ok (.aload_n 0, 1) := by decide +kernel
theorem dX2_costFor_7 : decode cX2_costFor 7 = .ok (.iconst 1, 1) := by decide +kernel
theorem dX2_costFor_8 : decode cX2_costFor 8 = .ok (.iload_n 1, 1) := by decide +kernel
theorem dX2_costFor_9 : decode cX2_costFor 9 = .ok (.isub, 1) := by decide +kernel
theorem dX2_costFor_10 : decode cX2_costFor 10 = .ok (.aload_n 2, 1) := by decide +kernel
theorem dX2_costFor_11 : decode cX2_costFor 11 = .ok (.invokevirtual 44, 3) := by decide +kernel
theorem dX2_costFor_14 : decode cX2_costFor 14 = .ok (.iconst 2, 1) := by decide +kernel
theorem dX2_costFor_15 : decode cX2_costFor 15 = .ok (.idiv, 1) := by decide +kernel
theorem dX2_costFor_16 : decode cX2_costFor 16 = .ok (.isub, 1) := by decide +kernel
theorem dX2_costFor_17 : decode cX2_costFor 17 = .ok (.ireturn, 1) := by decide +kernel
theorem dX2_burdenOf_0 : decode cX2_burdenOf 0 = .ok (.iconst 0, 1) := by decide +kernel
theorem dX2_burdenOf_1 : decode cX2_burdenOf 1 = .ok (.istore_n 3, 1) := by decide +kernel
theorem dX2_burdenOf_2 : decode cX2_burdenOf 2 = .ok (.iconst 0, 1) := by decide +kernel
theorem dX2_burdenOf_3 : decode cX2_burdenOf 3 = .ok (.istore 4, 2) := by decide +kernel
theorem dX2_burdenOf_5 : decode cX2_burdenOf 5 = .ok (.iload 4, 2) := by decide +kernel
theorem dX2_burdenOf_7 : decode cX2_burdenOf 7 = .ok (.aload_n 0, 1) := by decide +kernel
theorem dX2_burdenOf_8 : decode cX2_burdenOf 8 = .ok (.getfield 15, 3) := by decide +kernel
theorem dX2_burdenOf_11 : decode cX2_burdenOf 11 = .ok (.if_icmp .ge 48, 3) := by decide +kernel
theorem dX2_burdenOf_14 : decode cX2_burdenOf 14 = .ok (.aload_n 0, 1) := by decide +kernel
theorem dX2_burdenOf_15 : decode cX2_burdenOf 15 = .ok (.iload 4, 2) := by decide +kernel
theorem dX2_burdenOf_17 : decode cX2_burdenOf 17 = .ok (.invokevirtual 33, 3) := by decide +kernel
theorem dX2_burdenOf_20 : decode cX2_burdenOf 20 = .ok (.istore 5, 2) := by decide +kernel
theorem dX2_burdenOf_22 : decode cX2_burdenOf 22 = .ok (.iload 5, 2) := by decide +kernel
theorem dX2_burdenOf_24 : decode cX2_burdenOf 24 = .ok (.bipush 25, 2) := by decide +kernel
theorem dX2_burdenOf_26 : decode cX2_burdenOf 26 = .ok (.invokestatic 41, 3) := by decide +kernel
theorem dX2_burdenOf_29 : decode cX2_burdenOf 29 = .ok (.iload_n 1, 1) := by decide +kernel
theorem dX2_burdenOf_30 : decode cX2_burdenOf 30 = .ok (.if_icmp .ne 23, 3) := by decide +kernel
theorem dX2_burdenOf_33 : decode cX2_burdenOf 33 = .ok (.iload 5, 2) := by decide +kernel
theorem dX2_burdenOf_35 : decode cX2_burdenOf 35 = .ok (.bipush 20, 2) := by decide +kernel
theorem dX2_burdenOf_37 : decode cX2_burdenOf 37 = .ok (.invokestatic 41, 3) := by decide +kernel
theorem dX2_burdenOf_40 : decode cX2_burdenOf 40 = .ok (.iconst 1, 1) := by decide +kernel
theorem dX2_burdenOf_41 : decode cX2_burdenOf 41 = .ok (.if_icmp .ne 12, 3) := by decide +kernel
theorem dX2_burdenOf_44 : decode cX2_burdenOf 44 = .ok (.iload_n 3, 1) := by decide +kernel
theorem dX2_burdenOf_45 : decode cX2_burdenOf 45 = .ok (.iload 5, 2) := by decide +kernel
theorem dX2_burdenOf_47 : decode cX2_burdenOf 47 = .ok (.aload_n 2, 1) := by decide +kernel
theorem dX2_burdenOf_48 : decode cX2_burdenOf 48 = .ok (.invokestatic 48, 3) := by decide +kernel
theorem dX2_burdenOf_51 : decode cX2_burdenOf 51 = .ok (.iadd, 1) := by decide +kernel
theorem dX2_burdenOf_52 : decode cX2_burdenOf 52 = .ok (.istore_n 3, 1) := by decide +kernel
theorem dX2_burdenOf_53 : decode cX2_burdenOf 53 = .ok (.iinc 4 1, 3) := by decide +kernel
theorem dX2_burdenOf_56 : decode cX2_burdenOf 56 = .ok (.goto (-51), 3) := by decide +kernel
theorem dX2_burdenOf_59 : decode cX2_burdenOf 59 = .ok (.iload_n 3, 1) := by decide +kernel
theorem dX2_burdenOf_60 : decode cX2_burdenOf 60 = .ok (.ireturn, 1) := by decide +kernel
theorem dX2_burdenOfDuty_0 : decode cX2_burdenOfDuty 0 = .ok (.iload_n 0, 1) := by decide +kernel
theorem dX2_burdenOfDuty_1 : decode cX2_burdenOfDuty 1 = .ok (.bipush 10, 2) := by decide +kernel
theorem dX2_burdenOfDuty_3 : decode cX2_burdenOfDuty 3 = .ok (.invokestatic 41, 3) := by decide +kernel
theorem dX2_burdenOfDuty_6 : decode cX2_burdenOfDuty 6 = .ok (.istore_n 2, 1) := by decide +kernel
theorem dX2_burdenOfDuty_7 : decode cX2_burdenOfDuty 7 = .ok (.iload_n 2, 1) := by decide +kernel
theorem dX2_burdenOfDuty_8 : decode cX2_burdenOfDuty 8 = .ok (.bipush 10, 2) := by decide +kernel
theorem dX2_burdenOfDuty_10 : decode cX2_burdenOfDuty 10 = .ok (.if_icmp .lt 11, 3) := by decide +kernel
theorem dX2_burdenOfDuty_13 : decode cX2_burdenOfDuty 13 = .ok (.bipush 10, 2) := by decide +kernel
theorem dX2_burdenOfDuty_15 : decode cX2_burdenOfDuty 15 = .ok (.iload_n 2, 1) := by decide +kernel
theorem dX2_burdenOfDuty_16 : decode cX2_burdenOfDuty 16 = .ok (.bipush 10, 2) := by decide +kernel
theorem dX2_burdenOfDuty_18 : decode cX2_burdenOfDuty 18 = .ok (.isub, 1) := by decide +kernel
theorem dX2_burdenOfDuty_19 : decode cX2_burdenOfDuty 19 = .ok (.imul, 1) := by decide +kernel
theorem dX2_burdenOfDuty_20 : decode cX2_burdenOfDuty 20 = .ok (.ireturn, 1) := by decide +kernel
theorem dX2_burdenOfDuty_21 : decode cX2_burdenOfDuty 21 = .ok (.iload_n 2, 1) := by decide +kernel
theorem dX2_burdenOfDuty_22 : decode cX2_burdenOfDuty 22 = .ok (.aload_n 1, 1) := by decide +kernel
theorem dX2_burdenOfDuty_23 : decode cX2_burdenOfDuty 23 = .ok (.arraylength, 1) := by decide +kernel
theorem dX2_burdenOfDuty_24 : decode cX2_burdenOfDuty 24 = .ok (.if_icmp .ge 9, 3) := by decide +kernel
theorem dX2_burdenOfDuty_27 : decode cX2_burdenOfDuty 27 = .ok (.aload_n 1, 1) := by decide +kernel
theorem dX2_burdenOfDuty_28 : decode cX2_burdenOfDuty 28 = .ok (.iload_n 2, 1) := by decide +kernel
theorem dX2_burdenOfDuty_29 : decode cX2_burdenOfDuty 29 = .ok (.iaload, 1) := by decide +kernel
theorem dX2_burdenOfDuty_30 : decode cX2_burdenOfDuty 30 = .ok (.goto 4, 3) := by decide +kernel
theorem dX2_burdenOfDuty_33 : decode cX2_burdenOfDuty 33 = .ok (.iconst 0, 1) := by decide +kernel
theorem dX2_burdenOfDuty_34 : decode cX2_burdenOfDuty 34 = .ok (.istore_n 3, 1) := by decide +kernel
theorem dX2_burdenOfDuty_35 : decode cX2_burdenOfDuty 35 = .ok (.iload_n 3, 1) := by decide +kernel
theorem dX2_burdenOfDuty_36 : decode cX2_burdenOfDuty 36 = .ok (.iload_n 0, 1) := by decide +kernel
theorem dX2_burdenOfDuty_37 : decode cX2_burdenOfDuty 37 = .ok (.iconst 0, 1) := by decide +kernel
theorem dX2_burdenOfDuty_38 : decode cX2_burdenOfDuty 38 = .ok (.invokestatic 41, 3) := by decide +kernel
theorem dX2_burdenOfDuty_41 : decode cX2_burdenOfDuty 41 = .ok (.imul, 1) := by decide +kernel
theorem dX2_burdenOfDuty_42 : decode cX2_burdenOfDuty 42 = .ok (.istore 4, 2) := by decide +kernel
theorem dX2_burdenOfDuty_44 : decode cX2_burdenOfDuty 44 = .ok (.iload_n 0, 1) := by decide +kernel
theorem dX2_burdenOfDuty_45 : decode cX2_burdenOfDuty 45 = .ok (.bipush 15, 2) := by decide +kernel
theorem dX2_burdenOfDuty_47 : decode cX2_burdenOfDuty 47 = .ok (.invokestatic 41, 3) := by decide +kernel
theorem dX2_burdenOfDuty_50 : decode cX2_burdenOfDuty 50 = .ok (.iconst 1, 1) := by decide +kernel
theorem dX2_burdenOfDuty_51 : decode cX2_burdenOfDuty 51 = .ok (.if_icmp .ne 14, 3) := by decide +kernel
theorem dX2_burdenOfDuty_54 : decode cX2_burdenOfDuty 54 = .ok (.iload 4, 2) := by decide +kernel
theorem dX2_burdenOfDuty_56 : decode cX2_burdenOfDuty 56 = .ok (.iload_n 0, 1) := by decide +kernel
theorem dX2_burdenOfDuty_57 : decode cX2_burdenOfDuty 57 = .ok (.iconst 5, 1) := by decide +kernel
theorem dX2_burdenOfDuty_58 : decode cX2_burdenOfDuty 58 = .ok (.invokestatic 41, 3) := by decide +kernel
theorem dX2_burdenOfDuty_61 : decode cX2_burdenOfDuty 61 = .ok (.imul, 1) := by decide +kernel
theorem dX2_burdenOfDuty_62 : decode cX2_burdenOfDuty 62 = .ok (.goto 5, 3) := by decide +kernel
theorem dX2_burdenOfDuty_65 : decode cX2_burdenOfDuty 65 = .ok (.iload 4, 2) := by decide +kernel
theorem dX2_burdenOfDuty_67 : decode cX2_burdenOfDuty 67 = .ok (.ireturn, 1) := by decide +kernel
theorem dX3_init_0 : decode cX3_init 0 = .ok (.aload_n 0, 1) := by decide +kernel
theorem dX3_init_1 : decode cX3_init 1 = .ok (.invokespecial 1, 3) := by decide +kernel
theorem dX3_init_4 : decode cX3_init 4 = .ok (.aload_n 0, 1) := by decide +kernel
theorem dX3_init_5 : decode cX3_init 5 = .ok (.aload_n 1, 1) := by decide +kernel
theorem dX3_init_6 : decode cX3_init 6 = .ok (.putfield 7, 3) := by decide +kernel
theorem dX3_init_9 : decode cX3_init 9 = .ok (.aload_n 0, 1) := by decide +kernel
theorem dX3_init_10 : decode cX3_init 10 = .ok (.iload_n 2, 1) := by decide +kernel
theorem dX3_init_11 : decode cX3_init 11 = .ok (.putfield 13, 3) := by decide +kernel
theorem dX3_init_14 : decode cX3_init 14 = .ok (.aload_n 0, 1) := by decide +kernel
theorem dX3_init_15 : decode cX3_init 15 = .ok (.iload_n 3, 1) := by decide +kernel
theorem dX3_init_16 : decode cX3_init 16 = .ok (.putfield 17, 3) := by decide +kernel
theorem dX3_init_19 : decode cX3_init 19 = .ok (.aload_n 0, 1) := by decide +kernel
theorem dX3_init_20 : decode cX3_init 20 = .ok (.iload 4, 2) := by decide +kernel
theorem dX3_init_22 : decode cX3_init 22 = .ok (.putfield 20, 3) := by decide +kernel
theorem dX3_init_25 : decode cX3_init 25 = .ok (.return_, 1) := by decide +kernel
theorem dX3_hasSense_0 : decode cX3_hasSense 0 = .ok (.aload_n 0, 1) := by decide +kernel
theorem dX3_hasSense_1 : decode cX3_hasSense 1 = .ok (.getfield 17, 3) := by decide +kernel
theorem dX3_hasSense_4 : decode cX3_hasSense 4 = .ok (.ireturn, 1) := by decide +kernel
theorem dX3_testStep_0 : decode cX3_testStep 0 = .ok (.iload_n 0, 1) := by decide +kernel
theorem dX3_testStep_1 : decode cX3_testStep 1 = .ok (.bipush 8, 2) := by decide +kernel
theorem dX3_testStep_3 : decode cX3_testStep 3 = .ok (.ishl, 1) := by decide +kernel
theorem dX3_testStep_4 : decode cX3_testStep 4 = .ok (.iload_n 1, 1) := by decide +kernel
theorem dX3_testStep_5 : decode cX3_testStep 5 = .ok (.ior, 1) := by decide +kernel
theorem dX3_testStep_6 : decode cX3_testStep 6 = .ok (.bipush 10, 2) := by decide +kernel
theorem dX3_testStep_8 : decode cX3_testStep 8 = .ok (.ishl, 1) := by decide +kernel
theorem dX3_testStep_9 : decode cX3_testStep 9 = .ok (.iload_n 2, 1) := by decide +kernel
theorem dX3_testStep_10 : decode cX3_testStep 10 = .ok (.ior, 1) := by decide +kernel
theorem dX3_testStep_11 : decode cX3_testStep 11 = .ok (.ireturn, 1) := by decide +kernel
theorem dX3_allows_0 : decode cX3_allows 0 = .ok (.aload_n 0, 1) := by decide +kernel
theorem dX3_allows_1 : decode cX3_allows 1 = .ok (.getfield 20, 3) := by decide +kernel
theorem dX3_allows_4 : decode cX3_allows 4 = .ok (.iconst (-1), 1) := by decide +kernel
theorem dX3_allows_5 : decode cX3_allows 5 = .ok (.if_icmp .eq 18, 3) := by decide +kernel
theorem dX3_allows_8 : decode cX3_allows 8 = .ok (.aload_n 1, 1) := by decide +kernel
theorem dX3_allows_9 : decode cX3_allows 9 = .ok (.invokevirtual 24, 3) := by decide +kernel
theorem dX3_allows_12 : decode cX3_allows 12 = .ok (.aload_n 0, 1) := by decide +kernel
theorem dX3_allows_13 : decode cX3_allows 13 = .ok (.getfield 20, 3) := by decide +kernel
theorem dX3_allows_16 : decode cX3_allows 16 = .ok (.iload_n 2, 1) := by decide +kernel
theorem dX3_allows_17 : decode cX3_allows 17 = .ok (.iadd, 1) := by decide +kernel
theorem dX3_allows_18 : decode cX3_allows 18 = .ok (.if_icmp .le 5, 3) := by decide +kernel
theorem dX3_allows_21 : decode cX3_allows 21 = .ok (.iconst 0, 1) := by decide +kernel
theorem dX3_allows_22 : decode cX3_allows 22 = .ok (.ireturn, 1) := by decide +kernel
theorem dX3_allows_23 : decode cX3_allows 23 = .ok (.aload_n 0, 1) := by decide +kernel
theorem dX3_allows_24 : decode cX3_allows 24 = .ok (.getfield 13, 3) := by decide +kernel
theorem dX3_allows_27 : decode cX3_allows 27 = .ok (.ifCond .eq 21, 3) := by decide +kernel
theorem dX3_allows_30 : decode cX3_allows 30 = .ok (.aload_n 1, 1) := by decide +kernel
theorem dX3_allows_31 : decode cX3_allows 31 = .ok (.iconst 0, 1) := by decide +kernel
theorem dX3_allows_32 : decode cX3_allows 32 = .ok (.invokevirtual 30, 3) := by decide +kernel
theorem dX3_allows_35 : decode cX3_allows 35 = .ok (.ifCond .eq 11, 3) := by decide +kernel
theorem dX3_allows_38 : decode cX3_allows 38 = .ok (.aload_n 1, 1) := by decide +kernel
theorem dX3_allows_39 : decode cX3_allows 39 = .ok (.iconst 1, 1) := by decide +kernel
theorem dX3_allows_40 : decode cX3_allows 40 = .ok (.invokevirtual 30, 3) := by decide +kernel
theorem dX3_allows_43 : decode cX3_allows 43 = .ok (.ifCond .ne 5, 3) := by decide +kernel
theorem dX3_allows_46 : decode cX3_allows 46 = .ok (.iconst 0, 1) := by decide +kernel
theorem dX3_allows_47 : decode cX3_allows 47 = .ok (.ireturn, 1) := by decide +kernel
theorem dX3_allows_48 : decode cX3_allows 48 = .ok (.aload_n 0, 1) := by decide +kernel
theorem dX3_allows_49 : decode cX3_allows 49 = .ok (.aload_n 1, 1) := by decide +kernel
theorem dX3_allows_50 : decode cX3_allows 50 = .ok (.invokevirtual 34, 3) := by decide +kernel
theorem dX3_allows_53 : decode cX3_allows 53 = .ok (.ifCond .ne 7, 3) := by decide +kernel
theorem dX3_allows_56 : decode cX3_allows 56 = .ok (.iconst 1, 1) := by decide +kernel
theorem dX3_allows_57 : decode cX3_allows 57 = .ok (.goto 4, 3) := by decide +kernel
theorem dX3_allows_60 : decode cX3_allows 60 = .ok (.iconst 0, 1) := by decide +kernel
theorem dX3_allows_61 : decode cX3_allows 61 = .ok (.ireturn, 1) := by decide +kernel
theorem dX3_barredDuties_0 : decode cX3_barredDuties 0 = .ok (.aload_n 1, 1) := by decide +kernel
theorem dX3_barredDuties_1 : decode cX3_barredDuties 1 = .ok (.iconst 0, 1) := by decide +kernel
theorem dX3_barredDuties_2 : decode cX3_barredDuties 2 = .ok (.invokevirtual 38, 3) := by decide +kernel
theorem dX3_barredDuties_5 : decode cX3_barredDuties 5 = .ok (.istore_n 2, 1) := by decide +kernel
theorem dX3_barredDuties_6 : decode cX3_barredDuties 6 = .ok (.aload_n 1, 1) := by decide +kernel
theorem dX3_barredDuties_7 : decode cX3_barredDuties 7 = .ok (.iconst 1, 1) := by decide +kernel
theorem dX3_barredDuties_8 : decode cX3_barredDuties 8 = .ok (.invokevirtual 38, 3) := by decide +kernel
theorem dX3_barredDuties_11 : decode cX3_barredDuties 11 = .ok (.istore_n 3, 1) := by decide +kernel
theorem dX3_barredDuties_12 : decode cX3_barredDuties 12 = .ok (.iconst 0, 1) := by decide +kernel
theorem dX3_barredDuties_13 : decode cX3_barredDuties 13 = .ok (.istore 4, 2) := by decide +kernel
theorem dX3_barredDuties_15 : decode cX3_barredDuties 15 = .ok (.iconst 0, 1) := by decide +kernel
theorem dX3_barredDuties_16 : decode cX3_barredDuties 16 = .ok (.istore 5, 2) := by decide +kernel
theorem dX3_barredDuties_18 : decode cX3_barredDuties 18 = .ok (.iload 5, 2) := by decide +kernel
theorem dX3_barredDuties_20 : decode cX3_barredDuties 20 = .ok (.aload_n 1, 1) := by decide +kernel
theorem dX3_barredDuties_21 : decode cX3_barredDuties 21 = .ok (.invokevirtual 42, 3) := by decide +kernel
theorem dX3_barredDuties_24 : decode cX3_barredDuties 24 = .ok (.if_icmp .ge 54, 3) := by decide +kernel
theorem dX3_barredDuties_27 : decode cX3_barredDuties 27 = .ok (.aload_n 1, 1) := by decide +kernel
theorem dX3_barredDuties_28 : decode cX3_barredDuties 28 = .ok (.iload 5, 2) := by decide +kernel
theorem dX3_barredDuties_30 : decode cX3_barredDuties 30 = .ok (.invokevirtual 45, 3) := by decide +kernel
theorem dX3_barredDuties_33 : decode cX3_barredDuties 33 = .ok (.istore 6, 2) := by decide +kernel
theorem dX3_barredDuties_35 : decode cX3_barredDuties 35 = .ok (.iload 6, 2) := by decide +kernel
theorem dX3_barredDuties_37 : decode cX3_barredDuties 37 = .ok (.bipush 25, 2) := by decide +kernel
theorem dX3_barredDuties_39 : decode cX3_barredDuties 39 = .ok (.invokestatic 48, 3) := by decide +kernel
theorem dX3_barredDuties_42 : decode cX3_barredDuties 42 = .ok (.ifCond .ne 7, 3) := by decide +kernel
theorem dX3_barredDuties_45 : decode cX3_barredDuties 45 = .ok (.iload_n 2, 1) := by decide +kernel
theorem dX3_barredDuties_46 : decode cX3_barredDuties 46 = .ok (.goto 4, 3) := by decide +kernel
theorem dX3_barredDuties_49 : decode cX3_barredDuties 49 = .ok (.iload_n 3, 1) := by decide +kernel
theorem dX3_barredDuties_50 : decode cX3_barredDuties 50 = .ok (.istore 7, 2) := by decide +kernel
theorem dX3_barredDuties_52 : decode cX3_barredDuties 52 = .ok (.aload_n 0, 1) := by decide +kernel
theorem dX3_barredDuties_53 : decode cX3_barredDuties 53 = .ok (.iload 6, 2) := by decide +kernel
theorem dX3_barredDuties_55 : decode cX3_barredDuties 55 = .ok (.iload 7, 2) := by decide +kernel
theorem dX3_barredDuties_57 : decode cX3_barredDuties 57 = .ok (.invokevirtual 52, 3) := by decide +kernel
theorem dX3_barredDuties_60 : decode cX3_barredDuties 60 = .ok (.ifCond .eq 12, 3) := by decide +kernel
theorem dX3_barredDuties_63 : decode cX3_barredDuties 63 = .ok (.iload 4, 2) := by decide +kernel
theorem dX3_barredDuties_65 : decode cX3_barredDuties 65 = .ok (.iconst 1, 1) := by decide +kernel
theorem dX3_barredDuties_66 : decode cX3_barredDuties 66 = .ok (.iload 5, 2) := by decide +kernel
theorem dX3_barredDuties_68 : decode cX3_barredDuties 68 = .ok (.ishl, 1) := by decide +kernel
theorem dX3_barredDuties_69 : decode cX3_barredDuties 69 = .ok (.ior, 1) := by decide +kernel
theorem dX3_barredDuties_70 : decode cX3_barredDuties 70 = .ok (.istore 4, 2) := by decide +kernel
theorem dX3_barredDuties_72 : decode cX3_barredDuties 72 = .ok (.iinc 5 1, 3) := by decide +kernel
theorem dX3_barredDuties_75 : decode cX3_barredDuties 75 = .ok (.goto (-57), 3) := by decide +kernel
theorem dX3_barredDuties_78 : decode cX3_barredDuties 78 = .ok (.iload 4, 2) := by decide +kernel
theorem dX3_barredDuties_80 : decode cX3_barredDuties 80 = .ok (.ireturn, 1) := by decide +kernel
theorem dX3_bars_0 : decode cX3_bars 0 = .ok (.iconst 0, 1) := by decide +kernel
theorem dX3_bars_1 : decode cX3_bars 1 = .ok (.istore_n 3, 1) := by decide +kernel
theorem dX3_bars_2 : decode cX3_bars 2 = .ok (.iconst 0, 1) := by decide +kernel
theorem dX3_bars_3 : decode cX3_bars 3 = .ok (.istore 4, 2) := by decide +kernel
theorem dX3_bars_5 : decode cX3_bars 5 = .ok (.iload 4, 2) := by decide +kernel
theorem dX3_bars_7 : decode cX3_bars 7 = .ok (.aload_n 0, 1) := by decide +kernel
theorem dX3_bars_8 : decode cX3_bars 8 = .ok (.getfield 7, 3) := by decide +kernel
theorem dX3_bars_11 : decode cX3_bars 11 = .ok (.arraylength, 1) := by decide +kernel
theorem dX3_bars_12 : decode cX3_bars 12 = .ok (.if_icmp .ge 101, 3) := by decide +kernel
theorem dX3_bars_15 : decode cX3_bars 15 = .ok (.iload_n 3, 1) := by decide +kernel
theorem dX3_bars_16 : decode cX3_bars 16 = .ok (.iconst 1, 1) := by decide +kernel
theorem dX3_bars_17 : decode cX3_bars 17 = .ok (.iand, 1) := by decide +kernel
theorem dX3_bars_18 : decode cX3_bars 18 = .ok (.istore 5, 2) := by decide +kernel
theorem dX3_bars_20 : decode cX3_bars 20 = .ok (.aload_n 0, 1) := by decide +kernel
theorem dX3_bars_21 : decode cX3_bars 21 = .ok (.getfield 7, 3) := by decide +kernel
theorem dX3_bars_24 : decode cX3_bars 24 = .ok (.iload 4, 2) := by decide +kernel
theorem dX3_bars_26 : decode cX3_bars 26 = .ok (.iaload, 1) := by decide +kernel
theorem dX3_bars_27 : decode cX3_bars 27 = .ok (.tableswitch 55 (-3) (-1) #[45, 32, 25], 25) := by decide +kernel
theorem dX3_bars_52 : decode cX3_bars 52 = .ok (.iload_n 3, 1) := by decide +kernel
theorem dX3_bars_53 : decode cX3_bars 53 = .ok (.iconst 1, 1) := by decide +kernel
theorem dX3_bars_54 : decode cX3_bars 54 = .ok (.ixor, 1) := by decide +kernel
theorem dX3_bars_55 : decode cX3_bars 55 = .ok (.istore_n 3, 1) := by decide +kernel
theorem dX3_bars_56 : decode cX3_bars 56 = .ok (.goto 51, 3) := by decide +kernel
theorem dX3_bars_59 : decode cX3_bars 59 = .ok (.iload_n 3, 1) := by decide +kernel
theorem dX3_bars_60 : decode cX3_bars 60 = .ok (.iconst 1, 1) := by decide +kernel
theorem dX3_bars_61 : decode cX3_bars 61 = .ok (.ishr, 1) := by decide +kernel
theorem dX3_bars_62 : decode cX3_bars 62 = .ok (.bipush (-2), 2) := by decide +kernel
theorem dX3_bars_64 : decode cX3_bars 64 = .ok (.iload 5, 2) := by decide +kernel
theorem dX3_bars_66 : decode cX3_bars 66 = .ok (.ior, 1) := by decide +kernel
theorem dX3_bars_67 : decode cX3_bars 67 = .ok (.iand, 1) := by decide +kernel
theorem dX3_bars_68 : decode cX3_bars 68 = .ok (.istore_n 3, 1) := by decide +kernel
theorem dX3_bars_69 : decode cX3_bars 69 = .ok (.goto 38, 3) := by decide +kernel
theorem dX3_bars_72 : decode cX3_bars 72 = .ok (.iload_n 3, 1) := by decide +kernel
theorem dX3_bars_73 : decode cX3_bars 73 = .ok (.iconst 1, 1) := by decide +kernel
theorem dX3_bars_74 : decode cX3_bars 74 = .ok (.ishr, 1) := by decide +kernel
theorem dX3_bars_75 : decode cX3_bars 75 = .ok (.iload 5, 2) := by decide +kernel
theorem dX3_bars_77 : decode cX3_bars 77 = .ok (.ior, 1) := by decide +kernel
theorem dX3_bars_78 : decode cX3_bars 78 = .ok (.istore_n 3, 1) := by decide +kernel
theorem dX3_bars_79 : decode cX3_bars 79 = .ok (.goto 28, 3) := by decide +kernel
theorem dX3_bars_82 : decode cX3_bars 82 = .ok (.iload_n 3, 1) := by decide +kernel
theorem dX3_bars_83 : decode cX3_bars 83 = .ok (.iconst 1, 1) := by decide +kernel
theorem dX3_bars_84 : decode cX3_bars 84 = .ok (.ishl, 1) := by decide +kernel
theorem dX3_bars_85 : decode cX3_bars 85 = .ok (.aload_n 0, 1) := by decide +kernel
theorem dX3_bars_86 : decode cX3_bars 86 = .ok (.getfield 7, 3) := by decide +kernel
theorem dX3_bars_89 : decode cX3_bars 89 = .ok (.iload 4, 2) := by decide +kernel
theorem dX3_bars_91 : decode cX3_bars 91 = .ok (.iaload, 1) := by decide +kernel
theorem dX3_bars_92 : decode cX3_bars 92 = .ok (.iload_n 1, 1) := by decide +kernel
theorem dX3_bars_93 : decode cX3_bars 93 = .ok (.iload_n 2, 1) := by decide +kernel
theorem dX3_bars_94 : decode cX3_bars 94 = .ok (.invokestatic 56, 3) := by decide +kernel
theorem dX3_bars_97 : decode cX3_bars 97 = .ok (.ifCond .eq 7, 3) := by decide +kernel
theorem dX3_bars_100 : decode cX3_bars 100 = .ok (.iconst 1, 1) := by decide +kernel
theorem dX3_bars_101 : decode cX3_bars 101 = .ok (.goto 4, 3) := by decide +kernel
theorem dX3_bars_104 : decode cX3_bars 104 = .ok (.iconst 0, 1) := by decide +kernel
theorem dX3_bars_105 : decode cX3_bars 105 = .ok (.ior, 1) := by decide +kernel
theorem dX3_bars_106 : decode cX3_bars 106 = .ok (.istore_n 3, 1) := by decide +kernel
theorem dX3_bars_107 : decode cX3_bars 107 = .ok (.iinc 4 1, 3) := by decide +kernel
theorem dX3_bars_110 : decode cX3_bars 110 = .ok (.goto (-105), 3) := by decide +kernel
theorem dX3_bars_113 : decode cX3_bars 113 = .ok (.iload_n 3, 1) := by decide +kernel
theorem dX3_bars_114 : decode cX3_bars 114 = .ok (.iconst 1, 1) := by decide +kernel
theorem dX3_bars_115 : decode cX3_bars 115 = .ok (.iand, 1) := by decide +kernel
theorem dX3_bars_116 : decode cX3_bars 116 = .ok (.iconst 1, 1) := by decide +kernel
theorem dX3_bars_117 : decode cX3_bars 117 = .ok (.if_icmp .ne 7, 3) := by decide +kernel
theorem dX3_bars_120 : decode cX3_bars 120 = .ok (.iconst 1, 1) := by decide +kernel
theorem dX3_bars_121 : decode cX3_bars 121 = .ok (.goto 4, 3) := by decide +kernel
theorem dX3_bars_124 : decode cX3_bars 124 = .ok (.iconst 0, 1) := by decide +kernel
theorem dX3_bars_125 : decode cX3_bars 125 = .ok (.ireturn, 1) := by decide +kernel
theorem dX3_holds_0 : decode cX3_holds 0 = .ok (.iload_n 0, 1) := by decide +kernel
theorem dX3_holds_1 : decode cX3_holds 1 = .ok (.bipush 18, 2) := by decide +kernel
theorem dX3_holds_3 : decode cX3_holds 3 = .ok (.ishr, 1) := by decide +kernel
theorem dX3_holds_4 : decode cX3_holds 4 = .ok (.istore_n 3, 1) := by decide +kernel
theorem dX3_holds_5 : decode cX3_holds 5 = .ok (.iload_n 0, 1) := by decide +kernel
theorem dX3_holds_6 : decode cX3_holds 6 = .ok (.sipush 1023, 3) := by decide +kernel
theorem dX3_holds_9 : decode cX3_holds 9 = .ok (.iand, 1) := by decide +kernel
theorem dX3_holds_10 : decode cX3_holds 10 = .ok (.istore 4, 2) := by decide +kernel
theorem dX3_holds_12 : decode cX3_holds 12 = .ok (.iload_n 3, 1) := by decide +kernel
theorem dX3_holds_13 : decode cX3_holds 13 = .ok (.bipush 6, 2) := by decide +kernel
theorem dX3_holds_15 : decode cX3_holds 15 = .ok (.if_icmp .ge 15, 3) := by decide +kernel
theorem dX3_holds_18 : decode cX3_holds 18 = .ok (.iload_n 1, 1) := by decide +kernel
theorem dX3_holds_19 : decode cX3_holds 19 = .ok (.iconst 5, 1) := by decide +kernel
theorem dX3_holds_20 : decode cX3_holds 20 = .ok (.iconst 5, 1) := by decide +kernel
theorem dX3_holds_21 : decode cX3_holds 21 = .ok (.iload_n 3, 1) := by decide +kernel
theorem dX3_holds_22 : decode cX3_holds 22 = .ok (.isub, 1) := by decide +kernel
theorem dX3_holds_23 : decode cX3_holds 23 = .ok (.imul, 1) := by decide +kernel
theorem dX3_holds_24 : decode cX3_holds 24 = .ok (.invokestatic 48, 3) := by decide +kernel
theorem dX3_holds_27 : decode cX3_holds 27 = .ok (.goto 4, 3) := by decide +kernel
theorem dX3_holds_30 : decode cX3_holds 30 = .ok (.iload_n 2, 1) := by decide +kernel
theorem dX3_holds_31 : decode cX3_holds 31 = .ok (.istore 5, 2) := by decide +kernel
theorem dX3_holds_33 : decode cX3_holds 33 = .ok (.iload_n 0, 1) := by decide +kernel
theorem dX3_holds_34 : decode cX3_holds 34 = .ok (.bipush 10, 2) := by decide +kernel
theorem dX3_holds_36 : decode cX3_holds 36 = .ok (.ishr, 1) := by decide +kernel
theorem dX3_holds_37 : decode cX3_holds 37 = .ok (.sipush 255, 3) := by decide +kernel
theorem dX3_holds_40 : decode cX3_holds 40 = .ok (.iand, 1) := by decide +kernel
theorem dX3_holds_41 : decode cX3_holds 41 = .ok (.lookupswitch 53 #[(60, 27), (61, 40)], 27) := by decide +kernel
theorem dX3_holds_68 : decode cX3_holds 68 = .ok (.iload 5, 2) := by decide +kernel
theorem dX3_holds_70 : decode cX3_holds 70 = .ok (.iload 4, 2) := by decide +kernel
theorem dX3_holds_72 : decode cX3_holds 72 = .ok (.if_icmp .ge 7, 3) := by decide +kernel
theorem dX3_holds_75 : decode cX3_holds 75 = .ok (.iconst 1, 1) := by decide +kernel
theorem dX3_holds_76 : decode cX3_holds 76 = .ok (.goto 4, 3) := by decide +kernel
theorem dX3_holds_79 : decode cX3_holds 79 = .ok (.iconst 0, 1) := by decide +kernel
theorem dX3_holds_80 : decode cX3_holds 80 = .ok (.ireturn, 1) := by decide +kernel
theorem dX3_holds_81 : decode cX3_holds 81 = .ok (.iload 5, 2) := by decide +kernel
theorem dX3_holds_83 : decode cX3_holds 83 = .ok (.iload 4, 2) := by decide +kernel
theorem dX3_holds_85 : decode cX3_holds 85 = .ok (.if_icmp .ne 7, 3) := by decide +kernel
theorem dX3_holds_88 : decode cX3_holds 88 = .ok (.iconst 1, 1) := by decide +kernel
theorem dX3_holds_89 : decode cX3_holds 89 = .ok (.goto 4, 3) := by decide +kernel
theorem dX3_holds_92 : decode cX3_holds 92 = .ok (.iconst 0, 1) := by decide +kernel
theorem dX3_holds_93 : decode cX3_holds 93 = .ok (.ireturn, 1) := by decide +kernel
theorem dX3_holds_94 : decode cX3_holds 94 = .ok (.iload 5, 2) := by decide +kernel
theorem dX3_holds_96 : decode cX3_holds 96 = .ok (.iload 4, 2) := by decide +kernel
theorem dX3_holds_98 : decode cX3_holds 98 = .ok (.if_icmp .le 7, 3) := by decide +kernel
theorem dX3_holds_101 : decode cX3_holds 101 = .ok (.iconst 1, 1) := by decide +kernel
theorem dX3_holds_102 : decode cX3_holds 102 = .ok (.goto 4, 3) := by decide +kernel
theorem dX3_holds_105 : decode cX3_holds 105 = .ok (.iconst 0, 1) := by decide +kernel
theorem dX3_holds_106 : decode cX3_holds 106 = .ok (.ireturn, 1) := by decide +kernel
theorem dX4_init_0 : decode cX4_init 0 = .ok (.aload_n 0, 1) := by decide +kernel
theorem dX4_init_1 : decode cX4_init 1 = .ok (.invokespecial 3, 3) := by decide +kernel
theorem dX4_init_4 : decode cX4_init 4 = .ok (.aload_n 0, 1) := by decide +kernel
theorem dX4_init_5 : decode cX4_init 5 = .ok (.bipush 100, 2) := by decide +kernel
theorem dX4_init_7 : decode cX4_init 7 = .ok (.newarray .int, 2) := by decide +kernel
theorem dX4_init_9 : decode cX4_init 9 = .ok (.putfield 9, 3) := by decide +kernel
theorem dX4_init_12 : decode cX4_init 12 = .ok (.aload_n 0, 1) := by decide +kernel
theorem dX4_init_13 : decode cX4_init 13 = .ok (.bipush 100, 2) := by decide +kernel
theorem dX4_init_15 : decode cX4_init 15 = .ok (.newarray .int, 2) := by decide +kernel
theorem dX4_init_17 : decode cX4_init 17 = .ok (.putfield 15, 3) := by decide +kernel
theorem dX4_init_20 : decode cX4_init 20 = .ok (.return_, 1) := by decide +kernel
theorem dX4_faultOf_0 : decode cX4_faultOf 0 = .ok (.aload_n 0, 1) := by decide +kernel
theorem dX4_faultOf_1 : decode cX4_faultOf 1 = .ok (.aload_n 1, 1) := by decide +kernel
theorem dX4_faultOf_2 : decode cX4_faultOf 2 = .ok (.aload_n 0, 1) := by decide +kernel
theorem dX4_faultOf_3 : decode cX4_faultOf 3 = .ok (.getfield 9, 3) := by decide +kernel
theorem dX4_faultOf_6 : decode cX4_faultOf 6 = .ok (.invokevirtual 18, 3) := by decide +kernel
theorem dX4_faultOf_9 : decode cX4_faultOf 9 = .ok (.putfield 24, 3) := by decide +kernel
theorem dX4_faultOf_12 : decode cX4_faultOf 12 = .ok (.aload_n 0, 1) := by decide +kernel
theorem dX4_faultOf_13 : decode cX4_faultOf 13 = .ok (.iconst 0, 1) := by decide +kernel
theorem dX4_faultOf_14 : decode cX4_faultOf 14 = .ok (.putfield 28, 3) := by decide +kernel
theorem dX4_faultOf_17 : decode cX4_faultOf 17 = .ok (.aload_n 0, 1) := by decide +kernel
theorem dX4_faultOf_18 : decode cX4_faultOf 18 = .ok (.iconst 0, 1) := by decide +kernel
theorem dX4_faultOf_19 : decode cX4_faultOf 19 = .ok (.putfield 31, 3) := by decide +kernel
theorem dX4_faultOf_22 : decode cX4_faultOf 22 = .ok (.aload_n 0, 1) := by decide +kernel
theorem dX4_faultOf_23 : decode cX4_faultOf 23 = .ok (.iconst 0, 1) := by decide +kernel
theorem dX4_faultOf_24 : decode cX4_faultOf 24 = .ok (.putfield 34, 3) := by decide +kernel
theorem dX4_faultOf_27 : decode cX4_faultOf 27 = .ok (.aload_n 0, 1) := by decide +kernel
theorem dX4_faultOf_28 : decode cX4_faultOf 28 = .ok (.iconst 0, 1) := by decide +kernel
theorem dX4_faultOf_29 : decode cX4_faultOf 29 = .ok (.putfield 37, 3) := by decide +kernel
theorem dX4_faultOf_32 : decode cX4_faultOf 32 = .ok (.aload_n 0, 1) := by decide +kernel
theorem dX4_faultOf_33 : decode cX4_faultOf 33 = .ok (.iconst 0, 1) := by decide +kernel
theorem dX4_faultOf_34 : decode cX4_faultOf 34 = .ok (.putfield 41, 3) := by decide +kernel
theorem dX4_faultOf_37 : decode cX4_faultOf 37 = .ok (.aload_n 0, 1) := by decide +kernel
theorem dX4_faultOf_38 : decode cX4_faultOf 38 = .ok (.iconst (-1), 1) := by decide +kernel
theorem dX4_faultOf_39 : decode cX4_faultOf 39 = .ok (.putfield 46, 3) := by decide +kernel
theorem dX4_faultOf_42 : decode cX4_faultOf 42 = .ok (.iconst 1, 1) := by decide +kernel
theorem dX4_faultOf_43 : decode cX4_faultOf 43 = .ok (.istore_n 2, 1) := by decide +kernel
theorem dX4_faultOf_44 : decode cX4_faultOf 44 = .ok (.iload_n 2, 1) := by decide +kernel
theorem dX4_faultOf_45 : decode cX4_faultOf 45 = .ok (.bipush 8, 2) := by decide +kernel
theorem dX4_faultOf_47 : decode cX4_faultOf 47 = .ok (.if_icmp .gt 50, 3) := by decide +kernel
theorem dX4_faultOf_50 : decode cX4_faultOf 50 = .ok (.aload_n 0, 1) := by decide +kernel
theorem dX4_faultOf_51 : decode cX4_faultOf 51 = .ok (.invokevirtual 49, 3) := by decide +kernel
theorem dX4_faultOf_54 : decode cX4_faultOf 54 = .ok (.ifCond .ne 8, 3) := by decide +kernel
theorem dX4_faultOf_57 : decode cX4_faultOf 57 = .ok (.aload_n 0, 1) := by decide +kernel
theorem dX4_faultOf_58 : decode cX4_faultOf 58 = .ok (.getfield 28, 3) := by decide +kernel
theorem dX4_faultOf_61 : decode cX4_faultOf 61 = .ok (.ireturn, 1) := by decide +kernel
theorem dX4_faultOf_62 : decode cX4_faultOf 62 = .ok (.aload_n 0, 1) := by decide +kernel
theorem dX4_faultOf_63 : decode cX4_faultOf 63 = .ok (.invokevirtual 53, 3) := by decide +kernel
theorem dX4_faultOf_66 : decode cX4_faultOf 66 = .ok (.ifCond .ge 5, 3) := by decide +kernel
theorem dX4_faultOf_69 : decode cX4_faultOf 69 = .ok (.iconst (-1), 1) := by decide +kernel
theorem dX4_faultOf_70 : decode cX4_faultOf 70 = .ok (.ireturn, 1) := by decide +kernel
theorem dX4_faultOf_71 : decode cX4_faultOf 71 = .ok (.iload_n 2, 1) := by decide +kernel
theorem dX4_faultOf_72 : decode cX4_faultOf 72 = .ok (.bipush 8, 2) := by decide +kernel
theorem dX4_faultOf_74 : decode cX4_faultOf 74 = .ok (.if_icmp .eq 12, 3) := by decide +kernel
theorem dX4_faultOf_77 : decode cX4_faultOf 77 = .ok (.aload_n 0, 1) := by decide +kernel
theorem dX4_faultOf_78 : decode cX4_faultOf 78 = .ok (.bipush 59, 2) := by decide +kernel
theorem dX4_faultOf_80 : decode cX4_faultOf 80 = .ok (.invokevirtual 57, 3) := by decide +kernel
theorem dX4_faultOf_83 : decode cX4_faultOf 83 = .ok (.ifCond .ne 8, 3) := by decide +kernel
theorem dX4_faultOf_86 : decode cX4_faultOf 86 = .ok (.aload_n 0, 1) := by decide +kernel
theorem dX4_faultOf_87 : decode cX4_faultOf 87 = .ok (.getfield 28, 3) := by decide +kernel
theorem dX4_faultOf_90 : decode cX4_faultOf 90 = .ok (.ireturn, 1) := by decide +kernel
theorem dX4_faultOf_91 : decode cX4_faultOf 91 = .ok (.iinc 2 1, 3) := by decide +kernel
theorem dX4_faultOf_94 : decode cX4_faultOf 94 = .ok (.goto (-50), 3) := by decide +kernel
theorem dX4_faultOf_97 : decode cX4_faultOf 97 = .ok (.aload_n 0, 1) := by decide +kernel
theorem dX4_faultOf_98 : decode cX4_faultOf 98 = .ok (.getfield 28, 3) := by decide +kernel
theorem dX4_faultOf_101 : decode cX4_faultOf 101 = .ok (.ireturn, 1) := by decide +kernel
theorem dX4_lawRead_0 : decode cX4_lawRead 0 = .ok (.iconst 0, 1) := by decide +kernel
theorem dX4_lawRead_1 : decode cX4_lawRead 1 = .ok (.aload_n 0, 1) := by decide +kernel
theorem dX4_lawRead_2 : decode cX4_lawRead 2 = .ok (.getfield 31, 3) := by decide +kernel
theorem dX4_lawRead_5 : decode cX4_lawRead 5 = .ok (.aload_n 0, 1) := by decide +kernel
theorem dX4_lawRead_6 : decode cX4_lawRead 6 = .ok (.getfield 15, 3) := by decide +kernel
theorem dX4_lawRead_9 : decode cX4_lawRead 9 = .ok (.arraylength, 1) := by decide +kernel
theorem dX4_lawRead_10 : decode cX4_lawRead 10 = .ok (.invokestatic 61, 3) := by decide +kernel
theorem dX4_lawRead_13 : decode cX4_lawRead 13 = .ok (.invokestatic 67, 3) := by decide +kernel
theorem dX4_lawRead_16 : decode cX4_lawRead 16 = .ok (.newarray .int, 2) := by decide +kernel
theorem dX4_lawRead_18 : decode cX4_lawRead 18 = .ok (.astore_n 1, 1) := by decide +kernel
theorem dX4_lawRead_19 : decode cX4_lawRead 19 = .ok (.aload_n 0, 1) := by decide +kernel
theorem dX4_lawRead_20 : decode cX4_lawRead 20 = .ok (.getfield 15, 3) := by decide +kernel
theorem dX4_lawRead_23 : decode cX4_lawRead 23 = .ok (.iconst 0, 1) := by decide +kernel
theorem dX4_lawRead_24 : decode cX4_lawRead 24 = .ok (.aload_n 1, 1) := by decide +kernel
theorem dX4_lawRead_25 : decode cX4_lawRead 25 = .ok (.iconst 0, 1) := by decide +kernel
theorem dX4_lawRead_26 : decode cX4_lawRead 26 = .ok (.aload_n 1, 1) := by decide +kernel
theorem dX4_lawRead_27 : decode cX4_lawRead 27 = .ok (.arraylength, 1) := by decide +kernel
theorem dX4_lawRead_28 : decode cX4_lawRead 28 = .ok (.invokestatic 70, 3) := by decide +kernel
theorem dX4_lawRead_31 : decode cX4_lawRead 31 = .ok (.new 44, 3) := by decide +kernel
theorem dX4_lawRead_34 : decode cX4_lawRead 34 = .ok (.dup, 1) := by decide +kernel
theorem dX4_lawRead_35 : decode cX4_lawRead 35 = .ok (.aload_n 1, 1) := by decide +kernel
theorem dX4_lawRead_36 : decode cX4_lawRead 36 = .ok (.aload_n 0, 1) := by decide +kernel
theorem dX4_lawRead_37 : decode cX4_lawRead 37 = .ok (.getfield 37, 3) := by decide +kernel
theorem dX4_lawRead_40 : decode cX4_lawRead 40 = .ok (.aload_n 0, 1) := by decide +kernel
theorem dX4_lawRead_41 : decode cX4_lawRead 41 = .ok (.getfield 41, 3) := by decide +kernel
theorem dX4_lawRead_44 : decode cX4_lawRead 44 = .ok (.aload_n 0, 1) := by decide +kernel
theorem dX4_lawRead_45 : decode cX4_lawRead 45 = .ok (.getfield 46, 3) := by decide +kernel
theorem dX4_lawRead_48 : decode cX4_lawRead 48 = .ok (.invokespecial 76, 3) := by decide +kernel
theorem dX4_lawRead_51 : decode cX4_lawRead 51 = .ok (.areturn, 1) := by decide +kernel
theorem dX4_at_0 : decode cX4_at 0 = .ok (.aload_n 0, 1) := by decide +kernel
theorem dX4_at_1 : decode cX4_at 1 = .ok (.getfield 28, 3) := by decide +kernel
theorem dX4_at_4 : decode cX4_at 4 = .ok (.ifCond .lt 38, 3) := by decide +kernel
theorem dX4_at_7 : decode cX4_at 7 = .ok (.aload_n 0, 1) := by decide +kernel
theorem dX4_at_8 : decode cX4_at 8 = .ok (.getfield 28, 3) := by decide +kernel
theorem dX4_at_11 : decode cX4_at 11 = .ok (.aload_n 0, 1) := by decide +kernel
theorem dX4_at_12 : decode cX4_at 12 = .ok (.getfield 24, 3) := by decide +kernel
theorem dX4_at_15 : decode cX4_at 15 = .ok (.if_icmp .ge 27, 3) := by decide +kernel
theorem dX4_at_18 : decode cX4_at 18 = .ok (.aload_n 0, 1) := by decide +kernel
theorem dX4_at_19 : decode cX4_at 19 = .ok (.getfield 28, 3) := by decide +kernel
theorem dX4_at_22 : decode cX4_at 22 = .ok (.aload_n 0, 1) := by decide +kernel
theorem dX4_at_23 : decode cX4_at 23 = .ok (.getfield 9, 3) := by decide +kernel
theorem dX4_at_26 : decode cX4_at 26 = .ok (.arraylength, 1) := by decide +kernel
theorem dX4_at_27 : decode cX4_at 27 = .ok (.if_icmp .ge 15, 3) := by decide +kernel
theorem dX4_at_30 : decode cX4_at 30 = .ok (.aload_n 0, 1) := by decide +kernel
theorem dX4_at_31 : decode cX4_at 31 = .ok (.getfield 9, 3) := by decide +kernel
theorem dX4_at_34 : decode cX4_at 34 = .ok (.aload_n 0, 1) := by decide +kernel
theorem dX4_at_35 : decode cX4_at 35 = .ok (.getfield 28, 3) := by decide +kernel
theorem dX4_at_38 : decode cX4_at 38 = .ok (.iaload, 1) := by decide +kernel
theorem dX4_at_39 : decode cX4_at 39 = .ok (.goto 4, 3) := by decide +kernel
theorem dX4_at_42 : decode cX4_at 42 = .ok (.iconst (-1), 1) := by decide +kernel
theorem dX4_at_43 : decode cX4_at 43 = .ok (.ireturn, 1) := by decide +kernel
theorem dX4_clause_0 : decode cX4_clause 0 = .ok (.aload_n 0, 1) := by decide +kernel
theorem dX4_clause_1 : decode cX4_clause 1 = .ok (.invokevirtual 53, 3) := by decide +kernel
theorem dX4_clause_4 : decode cX4_clause 4 = .ok (.lookupswitch 127 #[(98, 44), (103, 74), (109, 86), (115, 115)], 44) := by decide +kernel
theorem dX4_clause_48 : decode cX4_clause 48 = .ok (.aload_n 0, 1) := by decide +kernel
theorem dX4_clause_49 : decode cX4_clause 49 = .ok (.ldc 79, 2) := by decide +kernel
theorem dX4_clause_51 : decode cX4_clause 51 = .ok (.invokevirtual 81, 3) := by decide +kernel
theorem dX4_clause_54 : decode cX4_clause 54 = .ok (.ifCond .eq 22, 3) := by decide +kernel
theorem dX4_clause_57 : decode cX4_clause 57 = .ok (.aload_n 0, 1) := by decide +kernel
theorem dX4_clause_58 : decode cX4_clause 58 = .ok (.iconst 0, 1) := by decide +kernel
theorem dX4_clause_59 : decode cX4_clause 59 = .ok (.invokevirtual 85, 3) := by decide +kernel
theorem dX4_clause_62 : decode cX4_clause 62 = .ok (.ifCond .eq 14, 3) := by decide +kernel
theorem dX4_clause_65 : decode cX4_clause 65 = .ok (.aload_n 0, 1) := by decide +kernel
theorem dX4_clause_66 : decode cX4_clause 66 = .ok (.invokevirtual 88, 3) := by decide +kernel
theorem dX4_clause_69 : decode cX4_clause 69 = .ok (.ifCond .eq 7, 3) := by decide +kernel
theorem dX4_clause_72 : decode cX4_clause 72 = .ok (.iconst 1, 1) := by decide +kernel
theorem dX4_clause_73 : decode cX4_clause 73 = .ok (.goto 4, 3) := by decide +kernel
theorem dX4_clause_76 : decode cX4_clause 76 = .ok (.iconst 0, 1) := by decide +kernel
theorem dX4_clause_77 : decode cX4_clause 77 = .ok (.ireturn, 1) := by decide +kernel
theorem dX4_clause_78 : decode cX4_clause 78 = .ok (.aload_n 0, 1) := by decide +kernel
theorem dX4_clause_79 : decode cX4_clause 79 = .ok (.iconst 1, 1) := by decide +kernel
theorem dX4_clause_80 : decode cX4_clause 80 = .ok (.putfield 37, 3) := by decide +kernel
theorem dX4_clause_83 : decode cX4_clause 83 = .ok (.aload_n 0, 1) := by decide +kernel
theorem dX4_clause_84 : decode cX4_clause 84 = .ok (.ldc 91, 2) := by decide +kernel
theorem dX4_clause_86 : decode cX4_clause 86 = .ok (.invokevirtual 81, 3) := by decide +kernel
theorem dX4_clause_89 : decode cX4_clause 89 = .ok (.ireturn, 1) := by decide +kernel
theorem dX4_clause_90 : decode cX4_clause 90 = .ok (.aload_n 0, 1) := by decide +kernel
theorem dX4_clause_91 : decode cX4_clause 91 = .ok (.ldc 92, 2) := by decide +kernel
theorem dX4_clause_93 : decode cX4_clause 93 = .ok (.invokevirtual 81, 3) := by decide +kernel
theorem dX4_clause_96 : decode cX4_clause 96 = .ok (.ifCond .eq 21, 3) := by decide +kernel
theorem dX4_clause_99 : decode cX4_clause 99 = .ok (.aload_n 0, 1) := by decide +kernel
theorem dX4_clause_100 : decode cX4_clause 100 = .ok (.invokevirtual 94, 3) := by decide +kernel
theorem dX4_clause_103 : decode cX4_clause 103 = .ok (.ifCond .eq 14, 3) := by decide +kernel
theorem dX4_clause_106 : decode cX4_clause 106 = .ok (.aload_n 0, 1) := by decide +kernel
theorem dX4_clause_107 : decode cX4_clause 107 = .ok (.invokevirtual 97, 3) := by decide +kernel
theorem dX4_clause_110 : decode cX4_clause 110 = .ok (.ifCond .eq 7, 3) := by decide +kernel
theorem dX4_clause_113 : decode cX4_clause 113 = .ok (.iconst 1, 1) := by decide +kernel
theorem dX4_clause_114 : decode cX4_clause 114 = .ok (.goto 4, 3) := by decide +kernel
theorem dX4_clause_117 : decode cX4_clause 117 = .ok (.iconst 0, 1) := by decide +kernel
theorem dX4_clause_118 : decode cX4_clause 118 = .ok (.ireturn, 1) := by decide +kernel
theorem dX4_clause_119 : decode cX4_clause 119 = .ok (.aload_n 0, 1) := by decide +kernel
theorem dX4_clause_120 : decode cX4_clause 120 = .ok (.iconst 1, 1) := by decide +kernel
theorem dX4_clause_121 : decode cX4_clause 121 = .ok (.putfield 41, 3) := by decide +kernel
theorem dX4_clause_124 : decode cX4_clause 124 = .ok (.aload_n 0, 1) := by decide +kernel
theorem dX4_clause_125 : decode cX4_clause 125 = .ok (.ldc 100, 2) := by decide +kernel
theorem dX4_clause_127 : decode cX4_clause 127 = .ok (.invokevirtual 81, 3) := by decide +kernel
theorem dX4_clause_130 : decode cX4_clause 130 = .ok (.ireturn, 1) := by decide +kernel
theorem dX4_clause_131 : decode cX4_clause 131 = .ok (.iconst 0, 1) := by decide +kernel
theorem dX4_clause_132 : decode cX4_clause 132 = .ok (.ireturn, 1) := by decide +kernel
theorem dX4_barEnds_0 : decode cX4_barEnds 0 = .ok (.aload_n 0, 1) := by decide +kernel
theorem dX4_barEnds_1 : decode cX4_barEnds 1 = .ok (.dup, 1) := by decide +kernel
theorem dX4_barEnds_2 : decode cX4_barEnds 2 = .ok (.getfield 34, 3) := by decide +kernel
theorem dX4_barEnds_5 : decode cX4_barEnds 5 = .ok (.iconst 1, 1) := by decide +kernel
theorem dX4_barEnds_6 : decode cX4_barEnds 6 = .ok (.iadd, 1) := by decide +kernel
theorem dX4_barEnds_7 : decode cX4_barEnds 7 = .ok (.putfield 34, 3) := by decide +kernel
theorem dX4_barEnds_10 : decode cX4_barEnds 10 = .ok (.aload_n 0, 1) := by decide +kernel
theorem dX4_barEnds_11 : decode cX4_barEnds 11 = .ok (.getfield 34, 3) := by decide +kernel
theorem dX4_barEnds_14 : decode cX4_barEnds 14 = .ok (.iconst 1, 1) := by decide +kernel
theorem dX4_barEnds_15 : decode cX4_barEnds 15 = .ok (.if_icmp .le 10, 3) := by decide +kernel
theorem dX4_barEnds_18 : decode cX4_barEnds 18 = .ok (.aload_n 0, 1) := by decide +kernel
theorem dX4_barEnds_19 : decode cX4_barEnds 19 = .ok (.bipush (-3), 2) := by decide +kernel
theorem dX4_barEnds_21 : decode cX4_barEnds 21 = .ok (.invokevirtual 101, 3) := by decide +kernel
theorem dX4_barEnds_24 : decode cX4_barEnds 24 = .ok (.pop, 1) := by decide +kernel
theorem dX4_barEnds_25 : decode cX4_barEnds 25 = .ok (.iconst 1, 1) := by decide +kernel
theorem dX4_barEnds_26 : decode cX4_barEnds 26 = .ok (.ireturn, 1) := by decide +kernel
theorem dX4_mostEnds_0 : decode cX4_mostEnds 0 = .ok (.aload_n 0, 1) := by decide +kernel
theorem dX4_mostEnds_1 : decode cX4_mostEnds 1 = .ok (.aload_n 0, 1) := by decide +kernel
theorem dX4_mostEnds_2 : decode cX4_mostEnds 2 = .ok (.getfield 46, 3) := by decide +kernel
theorem dX4_mostEnds_5 : decode cX4_mostEnds 5 = .ok (.iconst (-1), 1) := by decide +kernel
theorem dX4_mostEnds_6 : decode cX4_mostEnds 6 = .ok (.if_icmp .ne 10, 3) := by decide +kernel
theorem dX4_mostEnds_9 : decode cX4_mostEnds 9 = .ok (.aload_n 0, 1) := by decide +kernel
theorem dX4_mostEnds_10 : decode cX4_mostEnds 10 = .ok (.getfield 104, 3) := by decide +kernel
theorem dX4_mostEnds_13 : decode cX4_mostEnds 13 = .ok (.goto 14, 3) := by decide +kernel
theorem dX4_mostEnds_16 : decode cX4_mostEnds 16 = .ok (.aload_n 0, 1) := by decide +kernel
theorem dX4_mostEnds_17 : decode cX4_mostEnds 17 = .ok (.getfield 46, 3) := by decide +kernel
theorem dX4_mostEnds_20 : decode cX4_mostEnds 20 = .ok (.aload_n 0, 1) := by decide +kernel
theorem dX4_mostEnds_21 : decode cX4_mostEnds 21 = .ok (.getfield 104, 3) := by decide +kernel
theorem dX4_mostEnds_24 : decode cX4_mostEnds 24 = .ok (.invokestatic 61, 3) := by decide +kernel
theorem dX4_mostEnds_27 : decode cX4_mostEnds 27 = .ok (.putfield 46, 3) := by decide +kernel
theorem dX4_mostEnds_30 : decode cX4_mostEnds 30 = .ok (.iconst 1, 1) := by decide +kernel
theorem dX4_mostEnds_31 : decode cX4_mostEnds 31 = .ok (.ireturn, 1) := by decide +kernel
theorem dX4_name_0 : decode cX4_name 0 = .ok (.iconst 0, 1) := by decide +kernel
theorem dX4_name_1 : decode cX4_name 1 = .ok (.istore_n 2, 1) := by decide +kernel
theorem dX4_name_2 : decode cX4_name 2 = .ok (.iload_n 2, 1) := by decide +kernel
theorem dX4_name_3 : decode cX4_name 3 = .ok (.aload_n 1, 1) := by decide +kernel
theorem dX4_name_4 : decode cX4_name 4 = .ok (.invokevirtual 107, 3) := by decide +kernel
theorem dX4_name_7 : decode cX4_name 7 = .ok (.if_icmp .ge 23, 3) := by decide +kernel
theorem dX4_name_10 : decode cX4_name 10 = .ok (.aload_n 0, 1) := by decide +kernel
theorem dX4_name_11 : decode cX4_name 11 = .ok (.aload_n 1, 1) := by decide +kernel
theorem dX4_name_12 : decode cX4_name 12 = .ok (.iload_n 2, 1) := by decide +kernel
theorem dX4_name_13 : decode cX4_name 13 = .ok (.invokevirtual 112, 3) := by decide +kernel
theorem dX4_name_16 : decode cX4_name 16 = .ok (.invokevirtual 57, 3) := by decide +kernel
theorem dX4_name_19 : decode cX4_name 19 = .ok (.ifCond .ne 5, 3) := by decide +kernel
theorem dX4_name_22 : decode cX4_name 22 = .ok (.iconst 0, 1) := by decide +kernel
theorem dX4_name_23 : decode cX4_name 23 = .ok (.ireturn, 1) := by decide +kernel
theorem dX4_name_24 : decode cX4_name 24 = .ok (.iinc 2 1, 3) := by decide +kernel
theorem dX4_name_27 : decode cX4_name 27 = .ok (.goto (-25), 3) := by decide +kernel
theorem dX4_name_30 : decode cX4_name 30 = .ok (.iconst 1, 1) := by decide +kernel
theorem dX4_name_31 : decode cX4_name 31 = .ok (.ireturn, 1) := by decide +kernel
theorem dX4_sign_0 : decode cX4_sign 0 = .ok (.aload_n 0, 1) := by decide +kernel
theorem dX4_sign_1 : decode cX4_sign 1 = .ok (.invokevirtual 53, 3) := by decide +kernel
theorem dX4_sign_4 : decode cX4_sign 4 = .ok (.iload_n 1, 1) := by decide +kernel
theorem dX4_sign_5 : decode cX4_sign 5 = .ok (.if_icmp .eq 5, 3) := by decide +kernel
theorem dX4_sign_8 : decode cX4_sign 8 = .ok (.iconst 0, 1) := by decide +kernel
theorem dX4_sign_9 : decode cX4_sign 9 = .ok (.ireturn, 1) := by decide +kernel
theorem dX4_sign_10 : decode cX4_sign 10 = .ok (.aload_n 0, 1) := by decide +kernel
theorem dX4_sign_11 : decode cX4_sign 11 = .ok (.dup, 1) := by decide +kernel
theorem dX4_sign_12 : decode cX4_sign 12 = .ok (.getfield 28, 3) := by decide +kernel
theorem dX4_sign_15 : decode cX4_sign 15 = .ok (.iconst 1, 1) := by decide +kernel
theorem dX4_sign_16 : decode cX4_sign 16 = .ok (.iadd, 1) := by decide +kernel
theorem dX4_sign_17 : decode cX4_sign 17 = .ok (.putfield 28, 3) := by decide +kernel
theorem dX4_sign_20 : decode cX4_sign 20 = .ok (.iconst 1, 1) := by decide +kernel
theorem dX4_sign_21 : decode cX4_sign 21 = .ok (.ireturn, 1) := by decide +kernel
theorem dX4_either_0 : decode cX4_either 0 = .ok (.iconst 0, 1) := by decide +kernel
theorem dX4_either_1 : decode cX4_either 1 = .ok (.istore_n 2, 1) := by decide +kernel
theorem dX4_either_2 : decode cX4_either 2 = .ok (.iconst 0, 1) := by decide +kernel
theorem dX4_either_3 : decode cX4_either 3 = .ok (.istore_n 3, 1) := by decide +kernel
theorem dX4_either_4 : decode cX4_either 4 = .ok (.iconst 0, 1) := by decide +kernel
theorem dX4_either_5 : decode cX4_either 5 = .ok (.istore 4, 2) := by decide +kernel
theorem dX4_either_7 : decode cX4_either 7 = .ok (.iload 4, 2) := by decide +kernel
theorem dX4_either_9 : decode cX4_either 9 = .ok (.bipush 100, 2) := by decide +kernel
theorem dX4_either_11 : decode cX4_either 11 = .ok (.if_icmp .ge 68, 3) := by decide +kernel
theorem dX4_either_14 : decode cX4_either 14 = .ok (.aload_n 0, 1) := by decide +kernel
theorem dX4_either_15 : decode cX4_either 15 = .ok (.iload_n 1, 1) := by decide +kernel
theorem dX4_either_16 : decode cX4_either 16 = .ok (.invokevirtual 116, 3) := by decide +kernel
theorem dX4_either_19 : decode cX4_either 19 = .ok (.ifCond .ne 5, 3) := by decide +kernel
theorem dX4_either_22 : decode cX4_either 22 = .ok (.iconst 0, 1) := by decide +kernel
theorem dX4_either_23 : decode cX4_either 23 = .ok (.ireturn, 1) := by decide +kernel
theorem dX4_either_24 : decode cX4_either 24 = .ok (.iload_n 2, 1) := by decide +kernel
theorem dX4_either_25 : decode cX4_either 25 = .ok (.ifCond .eq 10, 3) := by decide +kernel
theorem dX4_either_28 : decode cX4_either 28 = .ok (.aload_n 0, 1) := by decide +kernel
theorem dX4_either_29 : decode cX4_either 29 = .ok (.bipush (-2), 2) := by decide +kernel
theorem dX4_either_31 : decode cX4_either 31 = .ok (.invokevirtual 101, 3) := by decide +kernel
theorem dX4_either_34 : decode cX4_either 34 = .ok (.pop, 1) := by decide +kernel
theorem dX4_either_35 : decode cX4_either 35 = .ok (.aload_n 0, 1) := by decide +kernel
theorem dX4_either_36 : decode cX4_either 36 = .ok (.bipush 38, 2) := by decide +kernel
theorem dX4_either_38 : decode cX4_either 38 = .ok (.invokevirtual 57, 3) := by decide +kernel
theorem dX4_either_41 : decode cX4_either 41 = .ok (.istore_n 2, 1) := by decide +kernel
theorem dX4_either_42 : decode cX4_either 42 = .ok (.iload_n 2, 1) := by decide +kernel
theorem dX4_either_43 : decode cX4_either 43 = .ok (.ifCond .eq 6, 3) := by decide +kernel
theorem dX4_either_46 : decode cX4_either 46 = .ok (.goto 27, 3) := by decide +kernel
theorem dX4_either_49 : decode cX4_either 49 = .ok (.iload_n 3, 1) := by decide +kernel
theorem dX4_either_50 : decode cX4_either 50 = .ok (.ifCond .eq 10, 3) := by decide +kernel
theorem dX4_either_53 : decode cX4_either 53 = .ok (.aload_n 0, 1) := by decide +kernel
theorem dX4_either_54 : decode cX4_either 54 = .ok (.bipush (-3), 2) := by decide +kernel
theorem dX4_either_56 : decode cX4_either 56 = .ok (.invokevirtual 101, 3) := by decide +kernel
theorem dX4_either_59 : decode cX4_either 59 = .ok (.pop, 1) := by decide +kernel
theorem dX4_either_60 : decode cX4_either 60 = .ok (.aload_n 0, 1) := by decide +kernel
theorem dX4_either_61 : decode cX4_either 61 = .ok (.bipush 124, 2) := by decide +kernel
theorem dX4_either_63 : decode cX4_either 63 = .ok (.invokevirtual 57, 3) := by decide +kernel
theorem dX4_either_66 : decode cX4_either 66 = .ok (.istore_n 3, 1) := by decide +kernel
theorem dX4_either_67 : decode cX4_either 67 = .ok (.iload_n 3, 1) := by decide +kernel
theorem dX4_either_68 : decode cX4_either 68 = .ok (.ifCond .ne 5, 3) := by decide +kernel
theorem dX4_either_71 : decode cX4_either 71 = .ok (.iconst 1, 1) := by decide +kernel
theorem dX4_either_72 : decode cX4_either 72 = .ok (.ireturn, 1) := by decide +kernel
theorem dX4_either_73 : decode cX4_either 73 = .ok (.iinc 4 1, 3) := by decide +kernel
theorem dX4_either_76 : decode cX4_either 76 = .ok (.goto (-69), 3) := by decide +kernel
theorem dX4_either_79 : decode cX4_either 79 = .ok (.iconst 0, 1) := by decide +kernel
theorem dX4_either_80 : decode cX4_either 80 = .ok (.ireturn, 1) := by decide +kernel
theorem dX4_part_0 : decode cX4_part 0 = .ok (.aload_n 0, 1) := by decide +kernel
theorem dX4_part_1 : decode cX4_part 1 = .ok (.invokevirtual 53, 3) := by decide +kernel
theorem dX4_part_4 : decode cX4_part 4 = .ok (.istore_n 2, 1) := by decide +kernel
theorem dX4_part_5 : decode cX4_part 5 = .ok (.iload_n 2, 1) := by decide +kernel
theorem dX4_part_6 : decode cX4_part 6 = .ok (.bipush 33, 2) := by decide +kernel
theorem dX4_part_8 : decode cX4_part 8 = .ok (.if_icmp .eq 14, 3) := by decide +kernel
theorem dX4_part_11 : decode cX4_part 11 = .ok (.iload_n 2, 1) := by decide +kernel
theorem dX4_part_12 : decode cX4_part 12 = .ok (.bipush 40, 2) := by decide +kernel
theorem dX4_part_14 : decode cX4_part 14 = .ok (.if_icmp .eq 8, 3) := by decide +kernel
theorem dX4_part_17 : decode cX4_part 17 = .ok (.aload_n 0, 1) := by decide +kernel
theorem dX4_part_18 : decode cX4_part 18 = .ok (.invokevirtual 119, 3) := by decide +kernel
theorem dX4_part_21 : decode cX4_part 21 = .ok (.ireturn, 1) := by decide +kernel
theorem dX4_part_22 : decode cX4_part 22 = .ok (.iload_n 1, 1) := by decide +kernel
theorem dX4_part_23 : decode cX4_part 23 = .ok (.iconst 4, 1) := by decide +kernel
theorem dX4_part_24 : decode cX4_part 24 = .ok (.if_icmp .lt 5, 3) := by decide +kernel
theorem dX4_part_27 : decode cX4_part 27 = .ok (.iconst 0, 1) := by decide +kernel
theorem dX4_part_28 : decode cX4_part 28 = .ok (.ireturn, 1) := by decide +kernel
theorem dX4_part_29 : decode cX4_part 29 = .ok (.aload_n 0, 1) := by decide +kernel
theorem dX4_part_30 : decode cX4_part 30 = .ok (.dup, 1) := by decide +kernel
theorem dX4_part_31 : decode cX4_part 31 = .ok (.getfield 28, 3) := by decide +kernel
theorem dX4_part_34 : decode cX4_part 34 = .ok (.iconst 1, 1) := by decide +kernel
theorem dX4_part_35 : decode cX4_part 35 = .ok (.iadd, 1) := by decide +kernel
theorem dX4_part_36 : decode cX4_part 36 = .ok (.putfield 28, 3) := by decide +kernel
theorem dX4_part_39 : decode cX4_part 39 = .ok (.iload_n 2, 1) := by decide +kernel
theorem dX4_part_40 : decode cX4_part 40 = .ok (.bipush 40, 2) := by decide +kernel
theorem dX4_part_42 : decode cX4_part 42 = .ok (.if_icmp .ne 28, 3) := by decide +kernel
theorem dX4_part_45 : decode cX4_part 45 = .ok (.aload_n 0, 1) := by decide +kernel
theorem dX4_part_46 : decode cX4_part 46 = .ok (.iload_n 1, 1) := by decide +kernel
theorem dX4_part_47 : decode cX4_part 47 = .ok (.iconst 1, 1) := by decide +kernel
theorem dX4_part_48 : decode cX4_part 48 = .ok (.iadd, 1) := by decide +kernel
theorem dX4_part_49 : decode cX4_part 49 = .ok (.invokevirtual 85, 3) := by decide +kernel
theorem dX4_part_52 : decode cX4_part 52 = .ok (.ifCond .eq 16, 3) := by decide +kernel
theorem dX4_part_55 : decode cX4_part 55 = .ok (.aload_n 0, 1) := by decide +kernel
theorem dX4_part_56 : decode cX4_part 56 = .ok (.bipush 41, 2) := by decide +kernel
theorem dX4_part_58 : decode cX4_part 58 = .ok (.invokevirtual 57, 3) := by decide +kernel
theorem dX4_part_61 : decode cX4_part 61 = .ok (.ifCond .eq 7, 3) := by decide +kernel
theorem dX4_part_64 : decode cX4_part 64 = .ok (.iconst 1, 1) := by decide +kernel
theorem dX4_part_65 : decode cX4_part 65 = .ok (.goto 4, 3) := by decide +kernel
theorem dX4_part_68 : decode cX4_part 68 = .ok (.iconst 0, 1) := by decide +kernel
theorem dX4_part_69 : decode cX4_part 69 = .ok (.ireturn, 1) := by decide +kernel
theorem dX4_part_70 : decode cX4_part 70 = .ok (.aload_n 0, 1) := by decide +kernel
theorem dX4_part_71 : decode cX4_part 71 = .ok (.iload_n 1, 1) := by decide +kernel
theorem dX4_part_72 : decode cX4_part 72 = .ok (.iconst 1, 1) := by decide +kernel
theorem dX4_part_73 : decode cX4_part 73 = .ok (.iadd, 1) := by decide +kernel
theorem dX4_part_74 : decode cX4_part 74 = .ok (.invokevirtual 116, 3) := by decide +kernel
theorem dX4_part_77 : decode cX4_part 77 = .ok (.ifCond .eq 15, 3) := by decide +kernel
theorem dX4_part_80 : decode cX4_part 80 = .ok (.aload_n 0, 1) := by decide +kernel
theorem dX4_part_81 : decode cX4_part 81 = .ok (.iconst (-1), 1) := by decide +kernel
theorem dX4_part_82 : decode cX4_part 82 = .ok (.invokevirtual 101, 3) := by decide +kernel
theorem dX4_part_85 : decode cX4_part 85 = .ok (.ifCond .eq 7, 3) := by decide +kernel
theorem dX4_part_88 : decode cX4_part 88 = .ok (.iconst 1, 1) := by decide +kernel
theorem dX4_part_89 : decode cX4_part 89 = .ok (.goto 4, 3) := by decide +kernel
theorem dX4_part_92 : decode cX4_part 92 = .ok (.iconst 0, 1) := by decide +kernel
theorem dX4_part_93 : decode cX4_part 93 = .ok (.ireturn, 1) := by decide +kernel
theorem dX4_test_0 : decode cX4_test 0 = .ok (.aload_n 0, 1) := by decide +kernel
theorem dX4_test_1 : decode cX4_test 1 = .ok (.invokevirtual 53, 3) := by decide +kernel
theorem dX4_test_4 : decode cX4_test 4 = .ok (.ifCond .ge 7, 3) := by decide +kernel
theorem dX4_test_7 : decode cX4_test 7 = .ok (.iconst (-1), 1) := by decide +kernel
theorem dX4_test_8 : decode cX4_test 8 = .ok (.goto 13, 3) := by decide +kernel
theorem dX4_test_11 : decode cX4_test 11 = .ok (.ldc 122, 2) := by decide +kernel
theorem dX4_test_13 : decode cX4_test 13 = .ok (.aload_n 0, 1) := by decide +kernel
theorem dX4_test_14 : decode cX4_test 14 = .ok (.invokevirtual 53, 3) := by decide +kernel
theorem dX4_test_17 : decode cX4_test 17 = .ok (.i2c, 1) := by decide +kernel
theorem dX4_test_18 : decode cX4_test 18 = .ok (.invokevirtual 124, 3) := by decide +kernel
theorem dX4_test_21 : decode cX4_test 21 = .ok (.istore_n 1, 1) := by decide +kernel
theorem dX4_test_22 : decode cX4_test 22 = .ok (.iload_n 1, 1) := by decide +kernel
theorem dX4_test_23 : decode cX4_test 23 = .ok (.ifCond .ge 5, 3) := by decide +kernel
theorem dX4_test_26 : decode cX4_test 26 = .ok (.iconst 0, 1) := by decide +kernel
theorem dX4_test_27 : decode cX4_test 27 = .ok (.ireturn, 1) := by decide +kernel
theorem dX4_test_28 : decode cX4_test 28 = .ok (.aload_n 0, 1) := by decide +kernel
theorem dX4_test_29 : decode cX4_test 29 = .ok (.dup, 1) := by decide +kernel
theorem dX4_test_30 : decode cX4_test 30 = .ok (.getfield 28, 3) := by decide +kernel
theorem dX4_test_33 : decode cX4_test 33 = .ok (.iconst 1, 1) := by decide +kernel
theorem dX4_test_34 : decode cX4_test 34 = .ok (.iadd, 1) := by decide +kernel
theorem dX4_test_35 : decode cX4_test 35 = .ok (.putfield 28, 3) := by decide +kernel
theorem dX4_test_38 : decode cX4_test 38 = .ok (.aload_n 0, 1) := by decide +kernel
theorem dX4_test_39 : decode cX4_test 39 = .ok (.invokevirtual 53, 3) := by decide +kernel
theorem dX4_test_42 : decode cX4_test 42 = .ok (.istore_n 2, 1) := by decide +kernel
theorem dX4_test_43 : decode cX4_test 43 = .ok (.iload_n 2, 1) := by decide +kernel
theorem dX4_test_44 : decode cX4_test 44 = .ok (.bipush 60, 2) := by decide +kernel
theorem dX4_test_46 : decode cX4_test 46 = .ok (.if_icmp .eq 17, 3) := by decide +kernel
theorem dX4_test_49 : decode cX4_test 49 = .ok (.iload_n 2, 1) := by decide +kernel
theorem dX4_test_50 : decode cX4_test 50 = .ok (.bipush 61, 2) := by decide +kernel
theorem dX4_test_52 : decode cX4_test 52 = .ok (.if_icmp .eq 11, 3) := by decide +kernel
theorem dX4_test_55 : decode cX4_test 55 = .ok (.iload_n 2, 1) := by decide +kernel
theorem dX4_test_56 : decode cX4_test 56 = .ok (.bipush 62, 2) := by decide +kernel
theorem dX4_test_58 : decode cX4_test 58 = .ok (.if_icmp .eq 5, 3) := by decide +kernel
theorem dX4_test_61 : decode cX4_test 61 = .ok (.iconst 0, 1) := by decide +kernel
theorem dX4_test_62 : decode cX4_test 62 = .ok (.ireturn, 1) := by decide +kernel
theorem dX4_test_63 : decode cX4_test 63 = .ok (.aload_n 0, 1) := by decide +kernel
theorem dX4_test_64 : decode cX4_test 64 = .ok (.dup, 1) := by decide +kernel
theorem dX4_test_65 : decode cX4_test 65 = .ok (.getfield 28, 3) := by decide +kernel
theorem dX4_test_68 : decode cX4_test 68 = .ok (.iconst 1, 1) := by decide +kernel
theorem dX4_test_69 : decode cX4_test 69 = .ok (.iadd, 1) := by decide +kernel
theorem dX4_test_70 : decode cX4_test 70 = .ok (.putfield 28, 3) := by decide +kernel
theorem dX4_test_73 : decode cX4_test 73 = .ok (.aload_n 0, 1) := by decide +kernel
theorem dX4_test_74 : decode cX4_test 74 = .ok (.invokevirtual 94, 3) := by decide +kernel
theorem dX4_test_77 : decode cX4_test 77 = .ok (.ifCond .eq 23, 3) := by decide +kernel
theorem dX4_test_80 : decode cX4_test 80 = .ok (.aload_n 0, 1) := by decide +kernel
theorem dX4_test_81 : decode cX4_test 81 = .ok (.iload_n 1, 1) := by decide +kernel
theorem dX4_test_82 : decode cX4_test 82 = .ok (.iload_n 2, 1) := by decide +kernel
theorem dX4_test_83 : decode cX4_test 83 = .ok (.aload_n 0, 1) := by decide +kernel
theorem dX4_test_84 : decode cX4_test 84 = .ok (.getfield 104, 3) := by decide +kernel
theorem dX4_test_87 : decode cX4_test 87 = .ok (.invokestatic 128, 3) := by decide +kernel
theorem dX4_test_90 : decode cX4_test 90 = .ok (.invokevirtual 101, 3) := by decide +kernel
theorem dX4_test_93 : decode cX4_test 93 = .ok (.ifCond .eq 7, 3) := by decide +kernel
theorem dX4_test_96 : decode cX4_test 96 = .ok (.iconst 1, 1) := by decide +kernel
theorem dX4_test_97 : decode cX4_test 97 = .ok (.goto 4, 3) := by decide +kernel
theorem dX4_test_100 : decode cX4_test 100 = .ok (.iconst 0, 1) := by decide +kernel
theorem dX4_test_101 : decode cX4_test 101 = .ok (.ireturn, 1) := by decide +kernel
theorem dX4_figures_0 : decode cX4_figures 0 = .ok (.aload_n 0, 1) := by decide +kernel
theorem dX4_figures_1 : decode cX4_figures 1 = .ok (.iconst 0, 1) := by decide +kernel
theorem dX4_figures_2 : decode cX4_figures 2 = .ok (.putfield 104, 3) := by decide +kernel
theorem dX4_figures_5 : decode cX4_figures 5 = .ok (.iconst 0, 1) := by decide +kernel
theorem dX4_figures_6 : decode cX4_figures 6 = .ok (.istore_n 1, 1) := by decide +kernel
theorem dX4_figures_7 : decode cX4_figures 7 = .ok (.iload_n 1, 1) := by decide +kernel
theorem dX4_figures_8 : decode cX4_figures 8 = .ok (.iconst 3, 1) := by decide +kernel
theorem dX4_figures_9 : decode cX4_figures 9 = .ok (.if_icmp .ge 48, 3) := by decide +kernel
theorem dX4_figures_12 : decode cX4_figures 12 = .ok (.aload_n 0, 1) := by decide +kernel
theorem dX4_figures_13 : decode cX4_figures 13 = .ok (.invokevirtual 53, 3) := by decide +kernel
theorem dX4_figures_16 : decode cX4_figures 16 = .ok (.invokestatic 132, 3) := by decide +kernel
theorem dX4_figures_19 : decode cX4_figures 19 = .ok (.ifCond .eq 38, 3) := by decide +kernel
theorem dX4_figures_22 : decode cX4_figures 22 = .ok (.aload_n 0, 1) := by decide +kernel
theorem dX4_figures_23 : decode cX4_figures 23 = .ok (.bipush 10, 2) := by decide +kernel
theorem dX4_figures_25 : decode cX4_figures 25 = .ok (.aload_n 0, 1) := by decide +kernel
theorem dX4_figures_26 : decode cX4_figures 26 = .ok (.getfield 104, 3) := by decide +kernel
theorem dX4_figures_29 : decode cX4_figures 29 = .ok (.imul, 1) := by decide +kernel
theorem dX4_figures_30 : decode cX4_figures 30 = .ok (.aload_n 0, 1) := by decide +kernel
theorem dX4_figures_31 : decode cX4_figures 31 = .ok (.invokevirtual 53, 3) := by decide +kernel
theorem dX4_figures_34 : decode cX4_figures 34 = .ok (.iadd, 1) := by decide +kernel
theorem dX4_figures_35 : decode cX4_figures 35 = .ok (.bipush 48, 2) := by decide +kernel
theorem dX4_figures_37 : decode cX4_figures 37 = .ok (.isub, 1) := by decide +kernel
theorem dX4_figures_38 : decode cX4_figures 38 = .ok (.putfield 104, 3) := by decide +kernel
theorem dX4_figures_41 : decode cX4_figures 41 = .ok (.aload_n 0, 1) := by decide +kernel
theorem dX4_figures_42 : decode cX4_figures 42 = .ok (.dup, 1) := by decide +kernel
theorem dX4_figures_43 : decode cX4_figures 43 = .ok (.getfield 28, 3) := by decide +kernel
theorem dX4_figures_46 : decode cX4_figures 46 = .ok (.iconst 1, 1) := by decide +kernel
theorem dX4_figures_47 : decode cX4_figures 47 = .ok (.iadd, 1) := by decide +kernel
theorem dX4_figures_48 : decode cX4_figures 48 = .ok (.putfield 28, 3) := by decide +kernel
theorem dX4_figures_51 : decode cX4_figures 51 = .ok (.iinc 1 1, 3) := by decide +kernel
theorem dX4_figures_54 : decode cX4_figures 54 = .ok (.goto (-47), 3) := by decide +kernel
theorem dX4_figures_57 : decode cX4_figures 57 = .ok (.iload_n 1, 1) := by decide +kernel
theorem dX4_figures_58 : decode cX4_figures 58 = .ok (.ifCond .le 7, 3) := by decide +kernel
theorem dX4_figures_61 : decode cX4_figures 61 = .ok (.iconst 1, 1) := by decide +kernel
theorem dX4_figures_62 : decode cX4_figures 62 = .ok (.goto 4, 3) := by decide +kernel
theorem dX4_figures_65 : decode cX4_figures 65 = .ok (.iconst 0, 1) := by decide +kernel
theorem dX4_figures_66 : decode cX4_figures 66 = .ok (.ireturn, 1) := by decide +kernel
theorem dX4_addStep_0 : decode cX4_addStep 0 = .ok (.aload_n 0, 1) := by decide +kernel
theorem dX4_addStep_1 : decode cX4_addStep 1 = .ok (.getfield 31, 3) := by decide +kernel
theorem dX4_addStep_4 : decode cX4_addStep 4 = .ok (.ifCond .lt 35, 3) := by decide +kernel
theorem dX4_addStep_7 : decode cX4_addStep 7 = .ok (.aload_n 0, 1) := by decide +kernel
theorem dX4_addStep_8 : decode cX4_addStep 8 = .ok (.getfield 31, 3) := by decide +kernel
theorem dX4_addStep_11 : decode cX4_addStep 11 = .ok (.aload_n 0, 1) := by decide +kernel
theorem dX4_addStep_12 : decode cX4_addStep 12 = .ok (.getfield 15, 3) := by decide +kernel
theorem dX4_addStep_15 : decode cX4_addStep 15 = .ok (.arraylength, 1) := by decide +kernel
theorem dX4_addStep_16 : decode cX4_addStep 16 = .ok (.if_icmp .ge 23, 3) := by decide +kernel
theorem dX4_addStep_19 : decode cX4_addStep 19 = .ok (.aload_n 0, 1) := by decide +kernel
theorem dX4_addStep_20 : decode cX4_addStep 20 = .ok (.getfield 15, 3) := by decide +kernel
theorem dX4_addStep_23 : decode cX4_addStep 23 = .ok (.aload_n 0, 1) := by decide +kernel
theorem dX4_addStep_24 : decode cX4_addStep 24 = .ok (.getfield 31, 3) := by decide +kernel
theorem dX4_addStep_27 : decode cX4_addStep 27 = .ok (.iload_n 1, 1) := by decide +kernel
theorem dX4_addStep_28 : decode cX4_addStep 28 = .ok (.iastore, 1) := by decide +kernel
theorem dX4_addStep_29 : decode cX4_addStep 29 = .ok (.aload_n 0, 1) := by decide +kernel
theorem dX4_addStep_30 : decode cX4_addStep 30 = .ok (.dup, 1) := by decide +kernel
theorem dX4_addStep_31 : decode cX4_addStep 31 = .ok (.getfield 31, 3) := by decide +kernel
theorem dX4_addStep_34 : decode cX4_addStep 34 = .ok (.iconst 1, 1) := by decide +kernel
theorem dX4_addStep_35 : decode cX4_addStep 35 = .ok (.iadd, 1) := by decide +kernel
theorem dX4_addStep_36 : decode cX4_addStep 36 = .ok (.putfield 31, 3) := by decide +kernel
theorem dX4_addStep_39 : decode cX4_addStep 39 = .ok (.iconst 1, 1) := by decide +kernel
theorem dX4_addStep_40 : decode cX4_addStep 40 = .ok (.ireturn, 1) := by decide +kernel
theorem dX5_init_0 : decode cX5_init 0 = .ok (.aload_n 0, 1) := by decide +kernel
theorem dX5_init_1 : decode cX5_init 1 = .ok (.invokespecial 3, 3) := by decide +kernel
theorem dX5_init_4 : decode cX5_init 4 = .ok (.aload_n 0, 1) := by decide +kernel
theorem dX5_init_5 : decode cX5_init 5 = .ok (.bipush 60, 2) := by decide +kernel
theorem dX5_init_7 : decode cX5_init 7 = .ok (.newarray .long, 2) := by decide +kernel
theorem dX5_init_9 : decode cX5_init 9 = .ok (.putfield 9, 3) := by decide +kernel
theorem dX5_init_12 : decode cX5_init 12 = .ok (.aload_n 0, 1) := by decide +kernel
theorem dX5_init_13 : decode cX5_init 13 = .ok (.iconst (-1), 1) := by decide +kernel
theorem dX5_init_14 : decode cX5_init 14 = .ok (.putfield 15, 3) := by decide +kernel
theorem dX5_init_17 : decode cX5_init 17 = .ok (.return_, 1) := by decide +kernel
theorem dX5_holds_0 : decode cX5_holds 0 = .ok (.aload_n 0, 1) := by decide +kernel
theorem dX5_holds_1 : decode cX5_holds 1 = .ok (.getfield 15, 3) := by decide +kernel
theorem dX5_holds_4 : decode cX5_holds 4 = .ok (.iconst (-1), 1) := by decide +kernel
theorem dX5_holds_5 : decode cX5_holds 5 = .ok (.if_icmp .eq 7, 3) := by decide +kernel
theorem dX5_holds_8 : decode cX5_holds 8 = .ok (.iconst 1, 1) := by decide +kernel
theorem dX5_holds_9 : decode cX5_holds 9 = .ok (.goto 4, 3) := by decide +kernel
theorem dX5_holds_12 : decode cX5_holds 12 = .ok (.iconst 0, 1) := by decide +kernel
theorem dX5_holds_13 : decode cX5_holds 13 = .ok (.ireturn, 1) := by decide +kernel
theorem dX5_sort_0 : decode cX5_sort 0 = .ok (.aload_n 0, 1) := by decide +kernel
theorem dX5_sort_1 : decode cX5_sort 1 = .ok (.getfield 15, 3) := by decide +kernel
theorem dX5_sort_4 : decode cX5_sort 4 = .ok (.ireturn, 1) := by decide +kernel
theorem dX5_size_0 : decode cX5_size 0 = .ok (.aload_n 0, 1) := by decide +kernel
theorem dX5_size_1 : decode cX5_size 1 = .ok (.getfield 19, 3) := by decide +kernel
theorem dX5_size_4 : decode cX5_size 4 = .ok (.ireturn, 1) := by decide +kernel
theorem dX5_become_0 : decode cX5_become 0 = .ok (.aload_n 0, 1) := by decide +kernel
theorem dX5_become_1 : decode cX5_become 1 = .ok (.iload_n 1, 1) := by decide +kernel
theorem dX5_become_2 : decode cX5_become 2 = .ok (.putfield 15, 3) := by decide +kernel
theorem dX5_become_5 : decode cX5_become 5 = .ok (.aload_n 0, 1) := by decide +kernel
theorem dX5_become_6 : decode cX5_become 6 = .ok (.iload_n 2, 1) := by decide +kernel
theorem dX5_become_7 : decode cX5_become 7 = .ok (.putfield 19, 3) := by decide +kernel
theorem dX5_become_10 : decode cX5_become 10 = .ok (.iconst 0, 1) := by decide +kernel
theorem dX5_become_11 : decode cX5_become 11 = .ok (.istore_n 3, 1) := by decide +kernel
theorem dX5_become_12 : decode cX5_become 12 = .ok (.iload_n 3, 1) := by decide +kernel
theorem dX5_become_13 : decode cX5_become 13 = .ok (.aload_n 0, 1) := by decide +kernel
theorem dX5_become_14 : decode cX5_become 14 = .ok (.getfield 9, 3) := by decide +kernel
theorem dX5_become_17 : decode cX5_become 17 = .ok (.arraylength, 1) := by decide +kernel
theorem dX5_become_18 : decode cX5_become 18 = .ok (.if_icmp .ge 16, 3) := by decide +kernel
theorem dX5_become_21 : decode cX5_become 21 = .ok (.aload_n 0, 1) := by decide +kernel
theorem dX5_become_22 : decode cX5_become 22 = .ok (.getfield 9, 3) := by decide +kernel
theorem dX5_become_25 : decode cX5_become 25 = .ok (.iload_n 3, 1) := by decide +kernel
theorem dX5_become_26 : decode cX5_become 26 = .ok (.lconst 0, 1) := by decide +kernel
theorem dX5_become_27 : decode cX5_become 27 = .ok (.lastore, 1) := by decide +kernel
theorem dX5_become_28 : decode cX5_become 28 = .ok (.iinc 3 1, 3) := by decide +kernel
theorem dX5_become_31 : decode cX5_become 31 = .ok (.goto (-19), 3) := by decide +kernel
theorem dX5_become_34 : decode cX5_become 34 = .ok (.return_, 1) := by decide +kernel
theorem dX5_at_0 : decode cX5_at 0 = .ok (.iload_n 1, 1) := by decide +kernel
theorem dX5_at_1 : decode cX5_at 1 = .ok (.ifCond .lt 29, 3) := by decide +kernel
theorem dX5_at_4 : decode cX5_at 4 = .ok (.iload_n 1, 1) := by decide +kernel
theorem dX5_at_5 : decode cX5_at 5 = .ok (.aload_n 0, 1) := by decide +kernel
theorem dX5_at_6 : decode cX5_at 6 = .ok (.getfield 19, 3) := by decide +kernel
theorem dX5_at_9 : decode cX5_at 9 = .ok (.if_icmp .ge 21, 3) := by decide +kernel
theorem dX5_at_12 : decode cX5_at 12 = .ok (.iload_n 1, 1) := by decide +kernel
theorem dX5_at_13 : decode cX5_at 13 = .ok (.aload_n 0, 1) := by decide +kernel
theorem dX5_at_14 : decode cX5_at 14 = .ok (.getfield 9, 3) := by decide +kernel
theorem dX5_at_17 : decode cX5_at 17 = .ok (.arraylength, 1) := by decide +kernel
theorem dX5_at_18 : decode cX5_at 18 = .ok (.if_icmp .ge 12, 3) := by decide +kernel
theorem dX5_at_21 : decode cX5_at 21 = .ok (.aload_n 0, 1) := by decide +kernel
theorem dX5_at_22 : decode cX5_at 22 = .ok (.getfield 9, 3) := by decide +kernel
theorem dX5_at_25 : decode cX5_at 25 = .ok (.iload_n 1, 1) := by decide +kernel
theorem dX5_at_26 : decode cX5_at 26 = .ok (.laload, 1) := by decide +kernel
theorem dX5_at_27 : decode cX5_at 27 = .ok (.goto 4, 3) := by decide +kernel
theorem dX5_at_30 : decode cX5_at 30 = .ok (.lconst 0, 1) := by decide +kernel
theorem dX5_at_31 : decode cX5_at 31 = .ok (.lreturn, 1) := by decide +kernel
theorem dX5_put_0 : decode cX5_put 0 = .ok (.iload_n 1, 1) := by decide +kernel
theorem dX5_put_1 : decode cX5_put 1 = .ok (.ifCond .lt 31, 3) := by decide +kernel
theorem dX5_put_4 : decode cX5_put 4 = .ok (.iload_n 1, 1) := by decide +kernel
theorem dX5_put_5 : decode cX5_put 5 = .ok (.aload_n 0, 1) := by decide +kernel
theorem dX5_put_6 : decode cX5_put 6 = .ok (.getfield 19, 3) := by decide +kernel
theorem dX5_put_9 : decode cX5_put 9 = .ok (.if_icmp .ge 23, 3) := by decide +kernel
theorem dX5_put_12 : decode cX5_put 12 = .ok (.iload_n 1, 1) := by decide +kernel
theorem dX5_put_13 : decode cX5_put 13 = .ok (.aload_n 0, 1) := by decide +kernel
theorem dX5_put_14 : decode cX5_put 14 = .ok (.getfield 9, 3) := by decide +kernel
theorem dX5_put_17 : decode cX5_put 17 = .ok (.arraylength, 1) := by decide +kernel
theorem dX5_put_18 : decode cX5_put 18 = .ok (.if_icmp .ge 14, 3) := by decide +kernel
theorem dX5_put_21 : decode cX5_put 21 = .ok (.aload_n 0, 1) := by decide +kernel
theorem dX5_put_22 : decode cX5_put 22 = .ok (.getfield 9, 3) := by decide +kernel
theorem dX5_put_25 : decode cX5_put 25 = .ok (.iload_n 1, 1) := by decide +kernel
theorem dX5_put_26 : decode cX5_put 26 = .ok (.aload_n 0, 1) := by decide +kernel
theorem dX5_put_27 : decode cX5_put 27 = .ok (.lload_n 2, 1) := by decide +kernel
theorem dX5_put_28 : decode cX5_put 28 = .ok (.invokevirtual 22, 3) := by decide +kernel
theorem dX5_put_31 : decode cX5_put 31 = .ok (.lastore, 1) := by decide +kernel
theorem dX5_put_32 : decode cX5_put 32 = .ok (.return_, 1) := by decide +kernel
theorem dX5_asItem_0 : decode cX5_asItem 0 = .ok (.aload_n 0, 1) := by decide +kernel
theorem dX5_asItem_1 : decode cX5_asItem 1 = .ok (.getfield 15, 3) := by decide +kernel
theorem dX5_asItem_4 : decode cX5_asItem 4 = .ok (.tableswitch 48 0 3 #[32, 37, 42, 46], 32) := by decide +kernel
theorem dX5_asItem_36 : decode cX5_asItem 36 = .ok (.lload_n 1, 1) := by decide +kernel
theorem dX5_asItem_37 : decode cX5_asItem 37 = .ok (.l2i, 1) := by decide +kernel
theorem dX5_asItem_38 : decode cX5_asItem 38 = .ok (.i2b, 1) := by decide +kernel
theorem dX5_asItem_39 : decode cX5_asItem 39 = .ok (.i2l, 1) := by decide +kernel
theorem dX5_asItem_40 : decode cX5_asItem 40 = .ok (.lreturn, 1) := by decide +kernel
theorem dX5_asItem_41 : decode cX5_asItem 41 = .ok (.lload_n 1, 1) := by decide +kernel
theorem dX5_asItem_42 : decode cX5_asItem 42 = .ok (.l2i, 1) := by decide +kernel
theorem dX5_asItem_43 : decode cX5_asItem 43 = .ok (.i2s, 1) := by decide +kernel
theorem dX5_asItem_44 : decode cX5_asItem 44 = .ok (.i2l, 1) := by decide +kernel
theorem dX5_asItem_45 : decode cX5_asItem 45 = .ok (.lreturn, 1) := by decide +kernel
theorem dX5_asItem_46 : decode cX5_asItem 46 = .ok (.lload_n 1, 1) := by decide +kernel
theorem dX5_asItem_47 : decode cX5_asItem 47 = .ok (.l2i, 1) := by decide +kernel
theorem dX5_asItem_48 : decode cX5_asItem 48 = .ok (.i2l, 1) := by decide +kernel
theorem dX5_asItem_49 : decode cX5_asItem 49 = .ok (.lreturn, 1) := by decide +kernel
theorem dX5_asItem_50 : decode cX5_asItem 50 = .ok (.lload_n 1, 1) := by decide +kernel
theorem dX5_asItem_51 : decode cX5_asItem 51 = .ok (.lreturn, 1) := by decide +kernel
theorem dX5_asItem_52 : decode cX5_asItem 52 = .ok (.lload_n 1, 1) := by decide +kernel
theorem dX5_asItem_53 : decode cX5_asItem 53 = .ok (.lconst 0, 1) := by decide +kernel
theorem dX5_asItem_54 : decode cX5_asItem 54 = .ok (.lcmp, 1) := by decide +kernel
theorem dX5_asItem_55 : decode cX5_asItem 55 = .ok (.ifCond .eq 7, 3) := by decide +kernel
theorem dX5_asItem_58 : decode cX5_asItem 58 = .ok (.lconst 1, 1) := by decide +kernel
theorem dX5_asItem_59 : decode cX5_asItem 59 = .ok (.goto 4, 3) := by decide +kernel
theorem dX5_asItem_62 : decode cX5_asItem 62 = .ok (.lconst 0, 1) := by decide +kernel
theorem dX5_asItem_63 : decode cX5_asItem 63 = .ok (.lreturn, 1) := by decide +kernel
theorem dX5_copyFrom_0 : decode cX5_copyFrom 0 = .ok (.iload 4, 2) := by decide +kernel
theorem dX5_copyFrom_2 : decode cX5_copyFrom 2 = .ok (.ifCond .lt 39, 3) := by decide +kernel
theorem dX5_copyFrom_5 : decode cX5_copyFrom 5 = .ok (.iload_n 2, 1) := by decide +kernel
theorem dX5_copyFrom_6 : decode cX5_copyFrom 6 = .ok (.ifCond .lt 35, 3) := by decide +kernel
theorem dX5_copyFrom_9 : decode cX5_copyFrom 9 = .ok (.iload_n 3, 1) := by decide +kernel
theorem dX5_copyFrom_10 : decode cX5_copyFrom 10 = .ok (.ifCond .lt 31, 3) := by decide +kernel
theorem dX5_copyFrom_13 : decode cX5_copyFrom 13 = .ok (.iload 4, 2) := by decide +kernel
theorem dX5_copyFrom_15 : decode cX5_copyFrom 15 = .ok (.aload_n 1, 1) := by decide +kernel
theorem dX5_copyFrom_16 : decode cX5_copyFrom 16 = .ok (.getfield 9, 3) := by decide +kernel
theorem dX5_copyFrom_19 : decode cX5_copyFrom 19 = .ok (.arraylength, 1) := by decide +kernel
theorem dX5_copyFrom_20 : decode cX5_copyFrom 20 = .ok (.iload_n 2, 1) := by decide +kernel
theorem dX5_copyFrom_21 : decode cX5_copyFrom 21 = .ok (.isub, 1) := by decide +kernel
theorem dX5_copyFrom_22 : decode cX5_copyFrom 22 = .ok (.if_icmp .gt 19, 3) := by decide +kernel
theorem dX5_copyFrom_25 : decode cX5_copyFrom 25 = .ok (.iload 4, 2) := by decide +kernel
theorem dX5_copyFrom_27 : decode cX5_copyFrom 27 = .ok (.aload_n 0, 1) := by decide +kernel
theorem dX5_copyFrom_28 : decode cX5_copyFrom 28 = .ok (.getfield 9, 3) := by decide +kernel
theorem dX5_copyFrom_31 : decode cX5_copyFrom 31 = .ok (.arraylength, 1) := by decide +kernel
theorem dX5_copyFrom_32 : decode cX5_copyFrom 32 = .ok (.iload_n 3, 1) := by decide +kernel
theorem dX5_copyFrom_33 : decode cX5_copyFrom 33 = .ok (.isub, 1) := by decide +kernel
theorem dX5_copyFrom_34 : decode cX5_copyFrom 34 = .ok (.if_icmp .gt 7, 3) := by decide +kernel
theorem dX5_copyFrom_37 : decode cX5_copyFrom 37 = .ok (.iconst 1, 1) := by decide +kernel
theorem dX5_copyFrom_38 : decode cX5_copyFrom 38 = .ok (.goto 4, 3) := by decide +kernel
theorem dX5_copyFrom_41 : decode cX5_copyFrom 41 = .ok (.iconst 0, 1) := by decide +kernel
theorem dX5_copyFrom_42 : decode cX5_copyFrom 42 = .ok (.istore 5, 2) := by decide +kernel
theorem dX5_copyFrom_44 : decode cX5_copyFrom 44 = .ok (.iload 5, 2) := by decide +kernel
theorem dX5_copyFrom_46 : decode cX5_copyFrom 46 = .ok (.ifCond .eq 18, 3) := by decide +kernel
theorem dX5_copyFrom_49 : decode cX5_copyFrom 49 = .ok (.aload_n 1, 1) := by decide +kernel
theorem dX5_copyFrom_50 : decode cX5_copyFrom 50 = .ok (.getfield 9, 3) := by decide +kernel
theorem dX5_copyFrom_53 : decode cX5_copyFrom 53 = .ok (.iload_n 2, 1) := by decide +kernel
theorem dX5_copyFrom_54 : decode cX5_copyFrom 54 = .ok (.aload_n 0, 1) := by decide +kernel
theorem dX5_copyFrom_55 : decode cX5_copyFrom 55 = .ok (.getfield 9, 3) := by decide +kernel
theorem dX5_copyFrom_58 : decode cX5_copyFrom 58 = .ok (.iload_n 3, 1) := by decide +kernel
theorem dX5_copyFrom_59 : decode cX5_copyFrom 59 = .ok (.iload 4, 2) := by decide +kernel
theorem dX5_copyFrom_61 : decode cX5_copyFrom 61 = .ok (.invokestatic 26, 3) := by decide +kernel
theorem dX5_copyFrom_64 : decode cX5_copyFrom 64 = .ok (.return_, 1) := by decide +kernel
theorem dX6_init_0 : decode cX6_init 0 = .ok (.aload_n 0, 1) := by decide +kernel
theorem dX6_init_1 : decode cX6_init 1 = .ok (.invokespecial 3, 3) := by decide +kernel
theorem dX6_init_4 : decode cX6_init 4 = .ok (.aload_n 0, 1) := by decide +kernel
theorem dX6_init_5 : decode cX6_init 5 = .ok (.bipush 100, 2) := by decide +kernel
theorem dX6_init_7 : decode cX6_init 7 = .ok (.newarray .int, 2) := by decide +kernel
theorem dX6_init_9 : decode cX6_init 9 = .ok (.putfield 9, 3) := by decide +kernel
theorem dX6_init_12 : decode cX6_init 12 = .ok (.return_, 1) := by decide +kernel
theorem dX6_size_0 : decode cX6_size 0 = .ok (.aload_n 0, 1) := by decide +kernel
theorem dX6_size_1 : decode cX6_size 1 = .ok (.getfield 15, 3) := by decide +kernel
theorem dX6_size_4 : decode cX6_size 4 = .ok (.ireturn, 1) := by decide +kernel
theorem dX6_add_0 : decode cX6_add 0 = .ok (.aload_n 0, 1) := by decide +kernel
theorem dX6_add_1 : decode cX6_add 1 = .ok (.getfield 15, 3) := by decide +kernel
theorem dX6_add_4 : decode cX6_add 4 = .ok (.ifCond .lt 35, 3) := by decide +kernel
theorem dX6_add_7 : decode cX6_add 7 = .ok (.aload_n 0, 1) := by decide +kernel
theorem dX6_add_8 : decode cX6_add 8 = .ok (.getfield 15, 3) := by decide +kernel
theorem dX6_add_11 : decode cX6_add 11 = .ok (.aload_n 0, 1) := by decide +kernel
theorem dX6_add_12 : decode cX6_add 12 = .ok (.getfield 9, 3) := by decide +kernel
theorem dX6_add_15 : decode cX6_add 15 = .ok (.arraylength, 1) := by decide +kernel
theorem dX6_add_16 : decode cX6_add 16 = .ok (.if_icmp .ge 23, 3) := by decide +kernel
theorem dX6_add_19 : decode cX6_add 19 = .ok (.aload_n 0, 1) := by decide +kernel
theorem dX6_add_20 : decode cX6_add 20 = .ok (.getfield 9, 3) := by decide +kernel
theorem dX6_add_23 : decode cX6_add 23 = .ok (.aload_n 0, 1) := by decide +kernel
theorem dX6_add_24 : decode cX6_add 24 = .ok (.getfield 15, 3) := by decide +kernel
theorem dX6_add_27 : decode cX6_add 27 = .ok (.iload_n 1, 1) := by decide +kernel
theorem dX6_add_28 : decode cX6_add 28 = .ok (.iastore, 1) := by decide +kernel
theorem dX6_add_29 : decode cX6_add 29 = .ok (.aload_n 0, 1) := by decide +kernel
theorem dX6_add_30 : decode cX6_add 30 = .ok (.dup, 1) := by decide +kernel
theorem dX6_add_31 : decode cX6_add 31 = .ok (.getfield 15, 3) := by decide +kernel
theorem dX6_add_34 : decode cX6_add 34 = .ok (.iconst 1, 1) := by decide +kernel
theorem dX6_add_35 : decode cX6_add 35 = .ok (.iadd, 1) := by decide +kernel
theorem dX6_add_36 : decode cX6_add 36 = .ok (.putfield 15, 3) := by decide +kernel
theorem dX6_add_39 : decode cX6_add 39 = .ok (.return_, 1) := by decide +kernel
theorem dX6_at_0 : decode cX6_at 0 = .ok (.iload_n 1, 1) := by decide +kernel
theorem dX6_at_1 : decode cX6_at 1 = .ok (.ifCond .lt 29, 3) := by decide +kernel
theorem dX6_at_4 : decode cX6_at 4 = .ok (.iload_n 1, 1) := by decide +kernel
theorem dX6_at_5 : decode cX6_at 5 = .ok (.aload_n 0, 1) := by decide +kernel
theorem dX6_at_6 : decode cX6_at 6 = .ok (.getfield 15, 3) := by decide +kernel
theorem dX6_at_9 : decode cX6_at 9 = .ok (.if_icmp .ge 21, 3) := by decide +kernel
theorem dX6_at_12 : decode cX6_at 12 = .ok (.iload_n 1, 1) := by decide +kernel
theorem dX6_at_13 : decode cX6_at 13 = .ok (.aload_n 0, 1) := by decide +kernel
theorem dX6_at_14 : decode cX6_at 14 = .ok (.getfield 9, 3) := by decide +kernel
theorem dX6_at_17 : decode cX6_at 17 = .ok (.arraylength, 1) := by decide +kernel
theorem dX6_at_18 : decode cX6_at 18 = .ok (.if_icmp .ge 12, 3) := by decide +kernel
theorem dX6_at_21 : decode cX6_at 21 = .ok (.aload_n 0, 1) := by decide +kernel
theorem dX6_at_22 : decode cX6_at 22 = .ok (.getfield 9, 3) := by decide +kernel
theorem dX6_at_25 : decode cX6_at 25 = .ok (.iload_n 1, 1) := by decide +kernel
theorem dX6_at_26 : decode cX6_at 26 = .ok (.iaload, 1) := by decide +kernel
theorem dX6_at_27 : decode cX6_at 27 = .ok (.goto 4, 3) := by decide +kernel
theorem dX6_at_30 : decode cX6_at 30 = .ok (.iconst (-1), 1) := by decide +kernel
theorem dX6_at_31 : decode cX6_at 31 = .ok (.ireturn, 1) := by decide +kernel
theorem dX6_copyTo_0 : decode cX6_copyTo 0 = .ok (.iconst 0, 1) := by decide +kernel
theorem dX6_copyTo_1 : decode cX6_copyTo 1 = .ok (.aload_n 0, 1) := by decide +kernel
theorem dX6_copyTo_2 : decode cX6_copyTo 2 = .ok (.getfield 15, 3) := by decide +kernel
theorem dX6_copyTo_5 : decode cX6_copyTo 5 = .ok (.aload_n 0, 1) := by decide +kernel
theorem dX6_copyTo_6 : decode cX6_copyTo 6 = .ok (.getfield 9, 3) := by decide +kernel
theorem dX6_copyTo_9 : decode cX6_copyTo 9 = .ok (.arraylength, 1) := by decide +kernel
theorem dX6_copyTo_10 : decode cX6_copyTo 10 = .ok (.aload_n 1, 1) := by decide +kernel
theorem dX6_copyTo_11 : decode cX6_copyTo 11 = .ok (.arraylength, 1) := by decide +kernel
theorem dX6_copyTo_12 : decode cX6_copyTo 12 = .ok (.invokestatic 19, 3) := by decide +kernel
theorem dX6_copyTo_15 : decode cX6_copyTo 15 = .ok (.invokestatic 19, 3) := by decide +kernel
theorem dX6_copyTo_18 : decode cX6_copyTo 18 = .ok (.invokestatic 25, 3) := by decide +kernel
theorem dX6_copyTo_21 : decode cX6_copyTo 21 = .ok (.istore_n 2, 1) := by decide +kernel
theorem dX6_copyTo_22 : decode cX6_copyTo 22 = .ok (.aload_n 0, 1) := by decide +kernel
theorem dX6_copyTo_23 : decode cX6_copyTo 23 = .ok (.getfield 9, 3) := by decide +kernel
theorem dX6_copyTo_26 : decode cX6_copyTo 26 = .ok (.iconst 0, 1) := by decide +kernel
theorem dX6_copyTo_27 : decode cX6_copyTo 27 = .ok (.aload_n 1, 1) := by decide +kernel
theorem dX6_copyTo_28 : decode cX6_copyTo 28 = .ok (.iconst 0, 1) := by decide +kernel
theorem dX6_copyTo_29 : decode cX6_copyTo 29 = .ok (.iload_n 2, 1) := by decide +kernel
theorem dX6_copyTo_30 : decode cX6_copyTo 30 = .ok (.invokestatic 28, 3) := by decide +kernel
theorem dX6_copyTo_33 : decode cX6_copyTo 33 = .ok (.iload_n 2, 1) := by decide +kernel
theorem dX6_copyTo_34 : decode cX6_copyTo 34 = .ok (.ireturn, 1) := by decide +kernel
theorem dX6_clear_0 : decode cX6_clear 0 = .ok (.aload_n 0, 1) := by decide +kernel
theorem dX6_clear_1 : decode cX6_clear 1 = .ok (.iconst 0, 1) := by decide +kernel
theorem dX6_clear_2 : decode cX6_clear 2 = .ok (.putfield 15, 3) := by decide +kernel
theorem dX6_clear_5 : decode cX6_clear 5 = .ok (.return_, 1) := by decide +kernel
theorem dX6_isFigure_0 : decode cX6_isFigure 0 = .ok (.iload_n 0, 1) := by decide +kernel
theorem dX6_isFigure_1 : decode cX6_isFigure 1 = .ok (.bipush 48, 2) := by decide +kernel
theorem dX6_isFigure_3 : decode cX6_isFigure 3 = .ok (.if_icmp .lt 13, 3) := by decide +kernel
theorem dX6_isFigure_6 : decode cX6_isFigure 6 = .ok (.iload_n 0, 1) := by decide +kernel
theorem dX6_isFigure_7 : decode cX6_isFigure 7 = .ok (.bipush 57, 2) := by decide +kernel
theorem dX6_isFigure_9 : decode cX6_isFigure 9 = .ok (.if_icmp .gt 7, 3) := by decide +kernel
theorem dX6_isFigure_12 : decode cX6_isFigure 12 = .ok (.iconst 1, 1) := by decide +kernel
theorem dX6_isFigure_13 : decode cX6_isFigure 13 = .ok (.goto 4, 3) := by decide +kernel
theorem dX6_isFigure_16 : decode cX6_isFigure 16 = .ok (.iconst 0, 1) := by decide +kernel
theorem dX6_isFigure_17 : decode cX6_isFigure 17 = .ok (.ireturn, 1) := by decide +kernel
theorem dJ11_isValidCodePoint_9a6ad_0 : decode cJ11_isValidCodePoint_9a6ad 0 = .ok (.iload_n 0, 1) := by decide +kernel
theorem dJ11_isValidCodePoint_9a6ad_1 : decode cJ11_isValidCodePoint_9a6ad 1 = .ok (.bipush 16, 2) := by decide +kernel
theorem dJ11_isValidCodePoint_9a6ad_3 : decode cJ11_isValidCodePoint_9a6ad 3 = .ok (.iushr, 1) := by decide +kernel
theorem dJ11_isValidCodePoint_9a6ad_4 : decode cJ11_isValidCodePoint_9a6ad 4 = .ok (.istore_n 1, 1) := by decide +kernel
theorem dJ11_isValidCodePoint_9a6ad_5 : decode cJ11_isValidCodePoint_9a6ad 5 = .ok (.iload_n 1, 1) := by decide +kernel
theorem dJ11_isValidCodePoint_9a6ad_6 : decode cJ11_isValidCodePoint_9a6ad 6 = .ok (.bipush 17, 2) := by decide +kernel
theorem dJ11_isValidCodePoint_9a6ad_8 : decode cJ11_isValidCodePoint_9a6ad 8 = .ok (.if_icmp .ge 7, 3) := by decide +kernel
theorem dJ11_isValidCodePoint_9a6ad_11 : decode cJ11_isValidCodePoint_9a6ad 11 = .ok (.iconst 1, 1) := by decide +kernel
theorem dJ11_isValidCodePoint_9a6ad_12 : decode cJ11_isValidCodePoint_9a6ad 12 = .ok (.goto 4, 3) := by decide +kernel
theorem dJ11_isValidCodePoint_9a6ad_15 : decode cJ11_isValidCodePoint_9a6ad 15 = .ok (.iconst 0, 1) := by decide +kernel
theorem dJ11_isValidCodePoint_9a6ad_16 : decode cJ11_isValidCodePoint_9a6ad 16 = .ok (.ireturn, 1) := by decide +kernel
theorem dJ11_highSurrogate_5068e_0 : decode cJ11_highSurrogate_5068e 0 = .ok (.iload_n 0, 1) := by decide +kernel
theorem dJ11_highSurrogate_5068e_1 : decode cJ11_highSurrogate_5068e 1 = .ok (.bipush 10, 2) := by decide +kernel
theorem dJ11_highSurrogate_5068e_3 : decode cJ11_highSurrogate_5068e 3 = .ok (.iushr, 1) := by decide +kernel
theorem dJ11_highSurrogate_5068e_4 : decode cJ11_highSurrogate_5068e 4 = .ok (.ldc 110, 2) := by decide +kernel
theorem dJ11_highSurrogate_5068e_6 : decode cJ11_highSurrogate_5068e 6 = .ok (.iadd, 1) := by decide +kernel
theorem dJ11_highSurrogate_5068e_7 : decode cJ11_highSurrogate_5068e 7 = .ok (.i2c, 1) := by decide +kernel
theorem dJ11_highSurrogate_5068e_8 : decode cJ11_highSurrogate_5068e 8 = .ok (.ireturn, 1) := by decide +kernel
theorem dJ11_lowSurrogate_5068e_0 : decode cJ11_lowSurrogate_5068e 0 = .ok (.iload_n 0, 1) := by decide +kernel
theorem dJ11_lowSurrogate_5068e_1 : decode cJ11_lowSurrogate_5068e 1 = .ok (.sipush 1023, 3) := by decide +kernel
theorem dJ11_lowSurrogate_5068e_4 : decode cJ11_lowSurrogate_5068e 4 = .ok (.iand, 1) := by decide +kernel
theorem dJ11_lowSurrogate_5068e_5 : decode cJ11_lowSurrogate_5068e 5 = .ok (.ldc 76, 2) := by decide +kernel
theorem dJ11_lowSurrogate_5068e_7 : decode cJ11_lowSurrogate_5068e 7 = .ok (.iadd, 1) := by decide +kernel
theorem dJ11_lowSurrogate_5068e_8 : decode cJ11_lowSurrogate_5068e 8 = .ok (.i2c, 1) := by decide +kernel
theorem dJ11_lowSurrogate_5068e_9 : decode cJ11_lowSurrogate_5068e 9 = .ok (.ireturn, 1) := by decide +kernel
theorem dJ6_bitCount_0f7a4_0 : decode cJ6_bitCount_0f7a4 0 = .ok (.iload_n 0, 1) := by decide +kernel
theorem dJ6_bitCount_0f7a4_1 : decode cJ6_bitCount_0f7a4 1 = .ok (.iload_n 0, 1) := by decide +kernel
theorem dJ6_bitCount_0f7a4_2 : decode cJ6_bitCount_0f7a4 2 = .ok (.iconst 1, 1) := by decide +kernel
theorem dJ6_bitCount_0f7a4_3 : decode cJ6_bitCount_0f7a4 3 = .ok (.iushr, 1) := by decide +kernel
theorem dJ6_bitCount_0f7a4_4 : decode cJ6_bitCount_0f7a4 4 = .ok (.ldc_w 265, 3) := by decide +kernel
theorem dJ6_bitCount_0f7a4_7 : decode cJ6_bitCount_0f7a4 7 = .ok (.iand, 1) := by decide +kernel
theorem dJ6_bitCount_0f7a4_8 : decode cJ6_bitCount_0f7a4 8 = .ok (.isub, 1) := by decide +kernel
theorem dJ6_bitCount_0f7a4_9 : decode cJ6_bitCount_0f7a4 9 = .ok (.istore_n 0, 1) := by decide +kernel
theorem dJ6_bitCount_0f7a4_10 : decode cJ6_bitCount_0f7a4 10 = .ok (.iload_n 0, 1) := by decide +kernel
theorem dJ6_bitCount_0f7a4_11 : decode cJ6_bitCount_0f7a4 11 = .ok (.ldc_w 266, 3) := by decide +kernel
theorem dJ6_bitCount_0f7a4_14 : decode cJ6_bitCount_0f7a4 14 = .ok (.iand, 1) := by decide +kernel
theorem dJ6_bitCount_0f7a4_15 : decode cJ6_bitCount_0f7a4 15 = .ok (.iload_n 0, 1) := by decide +kernel
theorem dJ6_bitCount_0f7a4_16 : decode cJ6_bitCount_0f7a4 16 = .ok (.iconst 2, 1) := by decide +kernel
theorem dJ6_bitCount_0f7a4_17 : decode cJ6_bitCount_0f7a4 17 = .ok (.iushr, 1) := by decide +kernel
theorem dJ6_bitCount_0f7a4_18 : decode cJ6_bitCount_0f7a4 18 = .ok (.ldc_w 266, 3) := by decide +kernel
theorem dJ6_bitCount_0f7a4_21 : decode cJ6_bitCount_0f7a4 21 = .ok (.iand, 1) := by decide +kernel
theorem dJ6_bitCount_0f7a4_22 : decode cJ6_bitCount_0f7a4 22 = .ok (.iadd, 1) := by decide +kernel
theorem dJ6_bitCount_0f7a4_23 : decode cJ6_bitCount_0f7a4 23 = .ok (.istore_n 0, 1) := by decide +kernel
theorem dJ6_bitCount_0f7a4_24 : decode cJ6_bitCount_0f7a4 24 = .ok (.iload_n 0, 1) := by decide +kernel
theorem dJ6_bitCount_0f7a4_25 : decode cJ6_bitCount_0f7a4 25 = .ok (.iload_n 0, 1) := by decide +kernel
theorem dJ6_bitCount_0f7a4_26 : decode cJ6_bitCount_0f7a4 26 = .ok (.iconst 4, 1) := by decide +kernel
theorem dJ6_bitCount_0f7a4_27 : decode cJ6_bitCount_0f7a4 27 = .ok (.iushr, 1) := by decide +kernel
theorem dJ6_bitCount_0f7a4_28 : decode cJ6_bitCount_0f7a4 28 = .ok (.iadd, 1) := by decide +kernel
theorem dJ6_bitCount_0f7a4_29 : decode cJ6_bitCount_0f7a4 29 = .ok (.ldc_w 267, 3) := by decide +kernel
theorem dJ6_bitCount_0f7a4_32 : decode cJ6_bitCount_0f7a4 32 = .ok (.iand, 1) := by decide +kernel
theorem dJ6_bitCount_0f7a4_33 : decode cJ6_bitCount_0f7a4 33 = .ok (.istore_n 0, 1) := by decide +kernel
theorem dJ6_bitCount_0f7a4_34 : decode cJ6_bitCount_0f7a4 34 = .ok (.iload_n 0, 1) := by decide +kernel
theorem dJ6_bitCount_0f7a4_35 : decode cJ6_bitCount_0f7a4 35 = .ok (.iload_n 0, 1) := by decide +kernel
theorem dJ6_bitCount_0f7a4_36 : decode cJ6_bitCount_0f7a4 36 = .ok (.bipush 8, 2) := by decide +kernel
theorem dJ6_bitCount_0f7a4_38 : decode cJ6_bitCount_0f7a4 38 = .ok (.iushr, 1) := by decide +kernel
theorem dJ6_bitCount_0f7a4_39 : decode cJ6_bitCount_0f7a4 39 = .ok (.iadd, 1) := by decide +kernel
theorem dJ6_bitCount_0f7a4_40 : decode cJ6_bitCount_0f7a4 40 = .ok (.istore_n 0, 1) := by decide +kernel
theorem dJ6_bitCount_0f7a4_41 : decode cJ6_bitCount_0f7a4 41 = .ok (.iload_n 0, 1) := by decide +kernel
theorem dJ6_bitCount_0f7a4_42 : decode cJ6_bitCount_0f7a4 42 = .ok (.iload_n 0, 1) := by decide +kernel
theorem dJ6_bitCount_0f7a4_43 : decode cJ6_bitCount_0f7a4 43 = .ok (.bipush 16, 2) := by decide +kernel
theorem dJ6_bitCount_0f7a4_45 : decode cJ6_bitCount_0f7a4 45 = .ok (.iushr, 1) := by decide +kernel
theorem dJ6_bitCount_0f7a4_46 : decode cJ6_bitCount_0f7a4 46 = .ok (.iadd, 1) := by decide +kernel
theorem dJ6_bitCount_0f7a4_47 : decode cJ6_bitCount_0f7a4 47 = .ok (.istore_n 0, 1) := by decide +kernel
theorem dJ6_bitCount_0f7a4_48 : decode cJ6_bitCount_0f7a4 48 = .ok (.iload_n 0, 1) := by decide +kernel
theorem dJ6_bitCount_0f7a4_49 : decode cJ6_bitCount_0f7a4 49 = .ok (.bipush 63, 2) := by decide +kernel
theorem dJ6_bitCount_0f7a4_51 : decode cJ6_bitCount_0f7a4 51 = .ok (.iand, 1) := by decide +kernel
theorem dJ6_bitCount_0f7a4_52 : decode cJ6_bitCount_0f7a4 52 = .ok (.ireturn, 1) := by decide +kernel
theorem dJ9_abs_0f7a4_0 : decode cJ9_abs_0f7a4 0 = .ok (.iload_n 0, 1) := by decide +kernel
theorem dJ9_abs_0f7a4_1 : decode cJ9_abs_0f7a4 1 = .ok (.ifCond .ge 8, 3) := by decide +kernel
theorem dJ9_abs_0f7a4_4 : decode cJ9_abs_0f7a4 4 = .ok (.iload_n 0, 1) := by decide +kernel
theorem dJ9_abs_0f7a4_5 : decode cJ9_abs_0f7a4 5 = .ok (.ineg, 1) := by decide +kernel
theorem dJ9_abs_0f7a4_6 : decode cJ9_abs_0f7a4 6 = .ok (.goto 4, 3) := by decide +kernel
theorem dJ9_abs_0f7a4_9 : decode cJ9_abs_0f7a4 9 = .ok (.iload_n 0, 1) := by decide +kernel
theorem dJ9_abs_0f7a4_10 : decode cJ9_abs_0f7a4 10 = .ok (.ireturn, 1) := by decide +kernel
theorem dJ9_max_7cf53_0 : decode cJ9_max_7cf53 0 = .ok (.iload_n 0, 1) := by decide +kernel
theorem dJ9_max_7cf53_1 : decode cJ9_max_7cf53 1 = .ok (.iload_n 1, 1) := by decide +kernel
theorem dJ9_max_7cf53_2 : decode cJ9_max_7cf53 2 = .ok (.if_icmp .lt 7, 3) := by decide +kernel
theorem dJ9_max_7cf53_5 : decode cJ9_max_7cf53 5 = .ok (.iload_n 0, 1) := by decide +kernel
theorem dJ9_max_7cf53_6 : decode cJ9_max_7cf53 6 = .ok (.goto 4, 3) := by decide +kernel
theorem dJ9_max_7cf53_9 : decode cJ9_max_7cf53 9 = .ok (.iload_n 1, 1) := by decide +kernel
theorem dJ9_max_7cf53_10 : decode cJ9_max_7cf53 10 = .ok (.ireturn, 1) := by decide +kernel
theorem dJ9_min_7cf53_0 : decode cJ9_min_7cf53 0 = .ok (.iload_n 0, 1) := by decide +kernel
theorem dJ9_min_7cf53_1 : decode cJ9_min_7cf53 1 = .ok (.iload_n 1, 1) := by decide +kernel
theorem dJ9_min_7cf53_2 : decode cJ9_min_7cf53 2 = .ok (.if_icmp .gt 7, 3) := by decide +kernel
theorem dJ9_min_7cf53_5 : decode cJ9_min_7cf53 5 = .ok (.iload_n 0, 1) := by decide +kernel
theorem dJ9_min_7cf53_6 : decode cJ9_min_7cf53 6 = .ok (.goto 4, 3) := by decide +kernel
theorem dJ9_min_7cf53_9 : decode cJ9_min_7cf53 9 = .ok (.iload_n 1, 1) := by decide +kernel
theorem dJ9_min_7cf53_10 : decode cJ9_min_7cf53 10 = .ok (.ireturn, 1) := by decide +kernel
theorem dJ0_length_8abf5_0 : decode cJ0_length_8abf5 0 = .ok (.aload_n 0, 1) := by decide +kernel
theorem dJ0_length_8abf5_1 : decode cJ0_length_8abf5 1 = .ok (.getfield 9, 3) := by decide +kernel
theorem dJ0_length_8abf5_4 : decode cJ0_length_8abf5 4 = .ok (.arraylength, 1) := by decide +kernel
theorem dJ0_length_8abf5_5 : decode cJ0_length_8abf5 5 = .ok (.aload_n 0, 1) := by decide +kernel
theorem dJ0_length_8abf5_6 : decode cJ0_length_8abf5 6 = .ok (.invokevirtual 335, 3) := by decide +kernel
theorem dJ0_length_8abf5_9 : decode cJ0_length_8abf5 9 = .ok (.ishr, 1) := by decide +kernel
theorem dJ0_length_8abf5_10 : decode cJ0_length_8abf5 10 = .ok (.ireturn, 1) := by decide +kernel
theorem dJ0_charAt_5068e_0 : decode cJ0_charAt_5068e 0 = .ok (.aload_n 0, 1) := by decide +kernel
theorem dJ0_charAt_5068e_1 : decode cJ0_charAt_5068e 1 = .ok (.invokevirtual 492, 3) := by decide +kernel
theorem dJ0_charAt_5068e_4 : decode cJ0_charAt_5068e 4 = .ok (.ifCond .eq 12, 3) := by decide +kernel
theorem dJ0_charAt_5068e_7 : decode cJ0_charAt_5068e 7 = .ok (.aload_n 0, 1) := by decide +kernel
theorem dJ0_charAt_5068e_8 : decode cJ0_charAt_5068e 8 = .ok (.getfield 9, 3) := by decide +kernel
theorem dJ0_charAt_5068e_11 : decode cJ0_charAt_5068e 11 = .ok (.iload_n 1, 1) := by decide +kernel
theorem dJ0_charAt_5068e_12 : decode cJ0_charAt_5068e 12 = .ok (.invokestatic 495, 3) := by decide +kernel
theorem dJ0_charAt_5068e_15 : decode cJ0_charAt_5068e 15 = .ok (.ireturn, 1) := by decide +kernel
theorem dJ0_charAt_5068e_16 : decode cJ0_charAt_5068e 16 = .ok (.aload_n 0, 1) := by decide +kernel
theorem dJ0_charAt_5068e_17 : decode cJ0_charAt_5068e 17 = .ok (.getfield 9, 3) := by decide +kernel
theorem dJ0_charAt_5068e_20 : decode cJ0_charAt_5068e 20 = .ok (.iload_n 1, 1) := by decide +kernel
theorem dJ0_charAt_5068e_21 : decode cJ0_charAt_5068e 21 = .ok (.invokestatic 498, 3) := by decide +kernel
theorem dJ0_charAt_5068e_24 : decode cJ0_charAt_5068e 24 = .ok (.ireturn, 1) := by decide +kernel
theorem dJ0_indexOf_0f7a4_0 : decode cJ0_indexOf_0f7a4 0 = .ok (.aload_n 0, 1) := by decide +kernel
theorem dJ0_indexOf_0f7a4_1 : decode cJ0_indexOf_0f7a4 1 = .ok (.iload_n 1, 1) := by decide +kernel
theorem dJ0_indexOf_0f7a4_2 : decode cJ0_indexOf_0f7a4 2 = .ok (.iconst 0, 1) := by decide +kernel
theorem dJ0_indexOf_0f7a4_3 : decode cJ0_indexOf_0f7a4 3 = .ok (.invokevirtual 633, 3) := by decide +kernel
theorem dJ0_indexOf_0f7a4_6 : decode cJ0_indexOf_0f7a4 6 = .ok (.ireturn, 1) := by decide +kernel
theorem dJ0_indexOf_7cf53_0 : decode cJ0_indexOf_7cf53 0 = .ok (.aload_n 0, 1) := by decide +kernel
theorem dJ0_indexOf_7cf53_1 : decode cJ0_indexOf_7cf53 1 = .ok (.invokevirtual 492, 3) := by decide +kernel
theorem dJ0_indexOf_7cf53_4 : decode cJ0_indexOf_7cf53 4 = .ok (.ifCond .eq 19, 3) := by decide +kernel
theorem dJ0_indexOf_7cf53_7 : decode cJ0_indexOf_7cf53 7 = .ok (.aload_n 0, 1) := by decide +kernel
theorem dJ0_indexOf_7cf53_8 : decode cJ0_indexOf_7cf53 8 = .ok (.getfield 9, 3) := by decide +kernel
theorem dJ0_indexOf_7cf53_11 : decode cJ0_indexOf_7cf53 11 = .ok (.iload_n 1, 1) := by decide +kernel
theorem dJ0_indexOf_7cf53_12 : decode cJ0_indexOf_7cf53 12 = .ok (.iload_n 2, 1) := by decide +kernel
theorem dJ0_indexOf_7cf53_13 : decode cJ0_indexOf_7cf53 13 = .ok (.aload_n 0, 1) := by decide +kernel
theorem dJ0_indexOf_7cf53_14 : decode cJ0_indexOf_7cf53 14 = .ok (.invokevirtual 505, 3) := by decide +kernel
theorem dJ0_indexOf_7cf53_17 : decode cJ0_indexOf_7cf53 17 = .ok (.invokestatic 637, 3) := by decide +kernel
theorem dJ0_indexOf_7cf53_20 : decode cJ0_indexOf_7cf53 20 = .ok (.goto 16, 3) := by decide +kernel
theorem dJ0_indexOf_7cf53_23 : decode cJ0_indexOf_7cf53 23 = .ok (.aload_n 0, 1) := by decide +kernel
theorem dJ0_indexOf_7cf53_24 : decode cJ0_indexOf_7cf53 24 = .ok (.getfield 9, 3) := by decide +kernel
theorem dJ0_indexOf_7cf53_27 : decode cJ0_indexOf_7cf53 27 = .ok (.iload_n 1, 1) := by decide +kernel
theorem dJ0_indexOf_7cf53_28 : decode cJ0_indexOf_7cf53 28 = .ok (.iload_n 2, 1) := by decide +kernel
theorem dJ0_indexOf_7cf53_29 : decode cJ0_indexOf_7cf53 29 = .ok (.aload_n 0, 1) := by decide +kernel
theorem dJ0_indexOf_7cf53_30 : decode cJ0_indexOf_7cf53 30 = .ok (.invokevirtual 505, 3) := by decide +kernel
theorem dJ0_indexOf_7cf53_33 : decode cJ0_indexOf_7cf53 33 = .ok (.invokestatic 640, 3) := by decide +kernel
theorem dJ0_indexOf_7cf53_36 : decode cJ0_indexOf_7cf53 36 = .ok (.ireturn, 1) := by decide +kernel
theorem dJ0_coder_7d493_0 : decode cJ0_coder_7d493 0 = .ok (.getstatic 38, 3) := by decide +kernel
theorem dJ0_coder_7d493_3 : decode cJ0_coder_7d493 3 = .ok (.ifCond .eq 10, 3) := by decide +kernel
theorem dJ0_coder_7d493_6 : decode cJ0_coder_7d493 6 = .ok (.aload_n 0, 1) := by decide +kernel
theorem dJ0_coder_7d493_7 : decode cJ0_coder_7d493 7 = .ok (.getfield 15, 3) := by decide +kernel
theorem dJ0_coder_7d493_10 : decode cJ0_coder_7d493 10 = .ok (.goto 4, 3) := by decide +kernel
theorem dJ0_coder_7d493_13 : decode cJ0_coder_7d493 13 = .ok (.iconst 1, 1) := by decide +kernel
theorem dJ0_coder_7d493_14 : decode cJ0_coder_7d493 14 = .ok (.ireturn, 1) := by decide +kernel
theorem dJ0_isLatin1_aae02_0 : decode cJ0_isLatin1_aae02 0 = .ok (.getstatic 38, 3) := by decide +kernel
theorem dJ0_isLatin1_aae02_3 : decode cJ0_isLatin1_aae02 3 = .ok (.ifCond .eq 14, 3) := by decide +kernel
theorem dJ0_isLatin1_aae02_6 : decode cJ0_isLatin1_aae02 6 = .ok (.aload_n 0, 1) := by decide +kernel
theorem dJ0_isLatin1_aae02_7 : decode cJ0_isLatin1_aae02 7 = .ok (.getfield 15, 3) := by decide +kernel
theorem dJ0_isLatin1_aae02_10 : decode cJ0_isLatin1_aae02 10 = .ok (.ifCond .ne 7, 3) := by decide +kernel
theorem dJ0_isLatin1_aae02_13 : decode cJ0_isLatin1_aae02 13 = .ok (.iconst 1, 1) := by decide +kernel
theorem dJ0_isLatin1_aae02_14 : decode cJ0_isLatin1_aae02 14 = .ok (.goto 4, 3) := by decide +kernel
theorem dJ0_isLatin1_aae02_17 : decode cJ0_isLatin1_aae02 17 = .ok (.iconst 0, 1) := by decide +kernel
theorem dJ0_isLatin1_aae02_18 : decode cJ0_isLatin1_aae02 18 = .ok (.ireturn, 1) := by decide +kernel
theorem dJ0_checkIndex_df160_0 : decode cJ0_checkIndex_df160 0 = .ok (.iload_n 0, 1) := by decide +kernel
theorem dJ0_checkIndex_df160_1 : decode cJ0_checkIndex_df160 1 = .ok (.iload_n 1, 1) := by decide +kernel
theorem dJ0_checkIndex_df160_2 : decode cJ0_checkIndex_df160 2 = .ok (.getstatic 1053, 3) := by decide +kernel
theorem dJ0_checkIndex_df160_5 : decode cJ0_checkIndex_df160 5 = .ok (.invokestatic 1059, 3) := by decide +kernel
theorem dJ0_checkIndex_df160_8 : decode cJ0_checkIndex_df160 8 = .ok (.pop, 1) := by decide +kernel
theorem dJ0_checkIndex_df160_9 : decode cJ0_checkIndex_df160 9 = .ok (.return_, 1) := by decide +kernel
theorem dJ0_checkBoundsBeginEnd_23922_0 : decode cJ0_checkBoundsBeginEnd_23922 0 = .ok (.iload_n 0, 1) := by decide +kernel
theorem dJ0_checkBoundsBeginEnd_23922_1 : decode cJ0_checkBoundsBeginEnd_23922 1 = .ok (.iload_n 1, 1) := by decide +kernel
theorem dJ0_checkBoundsBeginEnd_23922_2 : decode cJ0_checkBoundsBeginEnd_23922 2 = .ok (.iload_n 2, 1) := by decide +kernel
theorem dJ0_checkBoundsBeginEnd_23922_3 : decode cJ0_checkBoundsBeginEnd_23922 3 = .ok (.getstatic 1053, 3) := by decide +kernel
theorem dJ0_checkBoundsBeginEnd_23922_6 : decode cJ0_checkBoundsBeginEnd_23922 6 = .ok (.invokestatic 1062, 3) := by decide +kernel
theorem dJ0_checkBoundsBeginEnd_23922_9 : decode cJ0_checkBoundsBeginEnd_23922 9 = .ok (.pop, 1) := by decide +kernel
theorem dJ0_checkBoundsBeginEnd_23922_10 : decode cJ0_checkBoundsBeginEnd_23922 10 = .ok (.return_, 1) := by decide +kernel
theorem dJ1_charAt_3b067_0 : decode cJ1_charAt_3b067 0 = .ok (.iload_n 1, 1) := by decide +kernel
theorem dJ1_charAt_3b067_1 : decode cJ1_charAt_3b067 1 = .ok (.aload_n 0, 1) := by decide +kernel
theorem dJ1_charAt_3b067_2 : decode cJ1_charAt_3b067 2 = .ok (.arraylength, 1) := by decide +kernel
theorem dJ1_charAt_3b067_3 : decode cJ1_charAt_3b067 3 = .ok (.invokestatic 9, 3) := by decide +kernel
theorem dJ1_charAt_3b067_6 : decode cJ1_charAt_3b067 6 = .ok (.aload_n 0, 1) := by decide +kernel
theorem dJ1_charAt_3b067_7 : decode cJ1_charAt_3b067 7 = .ok (.iload_n 1, 1) := by decide +kernel
theorem dJ1_charAt_3b067_8 : decode cJ1_charAt_3b067 8 = .ok (.baload, 1) := by decide +kernel
theorem dJ1_charAt_3b067_9 : decode cJ1_charAt_3b067 9 = .ok (.sipush 255, 3) := by decide +kernel
theorem dJ1_charAt_3b067_12 : decode cJ1_charAt_3b067 12 = .ok (.iand, 1) := by decide +kernel
theorem dJ1_charAt_3b067_13 : decode cJ1_charAt_3b067 13 = .ok (.i2c, 1) := by decide +kernel
theorem dJ1_charAt_3b067_14 : decode cJ1_charAt_3b067 14 = .ok (.ireturn, 1) := by decide +kernel
theorem dJ1_canEncode_9a6ad_0 : decode cJ1_canEncode_9a6ad 0 = .ok (.iload_n 0, 1) := by decide +kernel
theorem dJ1_canEncode_9a6ad_1 : decode cJ1_canEncode_9a6ad 1 = .ok (.ifCond .lt 14, 3) := by decide +kernel
theorem dJ1_canEncode_9a6ad_4 : decode cJ1_canEncode_9a6ad 4 = .ok (.iload_n 0, 1) := by decide +kernel
theorem dJ1_canEncode_9a6ad_5 : decode cJ1_canEncode_9a6ad 5 = .ok (.sipush 255, 3) := by decide +kernel
theorem dJ1_canEncode_9a6ad_8 : decode cJ1_canEncode_9a6ad 8 = .ok (.if_icmp .gt 7, 3) := by decide +kernel
theorem dJ1_canEncode_9a6ad_11 : decode cJ1_canEncode_9a6ad 11 = .ok (.iconst 1, 1) := by decide +kernel
theorem dJ1_canEncode_9a6ad_12 : decode cJ1_canEncode_9a6ad 12 = .ok (.goto 4, 3) := by decide +kernel
theorem dJ1_canEncode_9a6ad_15 : decode cJ1_canEncode_9a6ad 15 = .ok (.iconst 0, 1) := by decide +kernel
theorem dJ1_canEncode_9a6ad_16 : decode cJ1_canEncode_9a6ad 16 = .ok (.ireturn, 1) := by decide +kernel
theorem dJ1_indexOf_4cfef_0 : decode cJ1_indexOf_4cfef 0 = .ok (.iload_n 1, 1) := by decide +kernel
theorem dJ1_indexOf_4cfef_1 : decode cJ1_indexOf_4cfef 1 = .ok (.invokestatic 88, 3) := by decide +kernel
theorem dJ1_indexOf_4cfef_4 : decode cJ1_indexOf_4cfef 4 = .ok (.ifCond .ne 5, 3) := by decide +kernel
theorem dJ1_indexOf_4cfef_7 : decode cJ1_indexOf_4cfef 7 = .ok (.iconst (-1), 1) := by decide +kernel
theorem dJ1_indexOf_4cfef_8 : decode cJ1_indexOf_4cfef 8 = .ok (.ireturn, 1) := by decide +kernel
theorem dJ1_indexOf_4cfef_9 : decode cJ1_indexOf_4cfef 9 = .ok (.iload_n 2, 1) := by decide +kernel
theorem dJ1_indexOf_4cfef_10 : decode cJ1_indexOf_4cfef 10 = .ok (.iconst 0, 1) := by decide +kernel
theorem dJ1_indexOf_4cfef_11 : decode cJ1_indexOf_4cfef 11 = .ok (.invokestatic 92, 3) := by decide +kernel
theorem dJ1_indexOf_4cfef_14 : decode cJ1_indexOf_4cfef 14 = .ok (.istore_n 2, 1) := by decide +kernel
theorem dJ1_indexOf_4cfef_15 : decode cJ1_indexOf_4cfef 15 = .ok (.iload_n 3, 1) := by decide +kernel
theorem dJ1_indexOf_4cfef_16 : decode cJ1_indexOf_4cfef 16 = .ok (.aload_n 0, 1) := by decide +kernel
theorem dJ1_indexOf_4cfef_17 : decode cJ1_indexOf_4cfef 17 = .ok (.arraylength, 1) := by decide +kernel
theorem dJ1_indexOf_4cfef_18 : decode cJ1_indexOf_4cfef 18 = .ok (.invokestatic 38, 3) := by decide +kernel
theorem dJ1_indexOf_4cfef_21 : decode cJ1_indexOf_4cfef 21 = .ok (.istore_n 3, 1) := by decide +kernel
theorem dJ1_indexOf_4cfef_22 : decode cJ1_indexOf_4cfef 22 = .ok (.iload_n 2, 1) := by decide +kernel
theorem dJ1_indexOf_4cfef_23 : decode cJ1_indexOf_4cfef 23 = .ok (.iload_n 3, 1) := by decide +kernel
theorem dJ1_indexOf_4cfef_24 : decode cJ1_indexOf_4cfef 24 = .ok (.if_icmp .lt 5, 3) := by decide +kernel
theorem dJ1_indexOf_4cfef_27 : decode cJ1_indexOf_4cfef 27 = .ok (.iconst (-1), 1) := by decide +kernel
theorem dJ1_indexOf_4cfef_28 : decode cJ1_indexOf_4cfef 28 = .ok (.ireturn, 1) := by decide +kernel
theorem dJ1_indexOf_4cfef_29 : decode cJ1_indexOf_4cfef 29 = .ok (.aload_n 0, 1) := by decide +kernel
theorem dJ1_indexOf_4cfef_30 : decode cJ1_indexOf_4cfef 30 = .ok (.iload_n 1, 1) := by decide +kernel
theorem dJ1_indexOf_4cfef_31 : decode cJ1_indexOf_4cfef 31 = .ok (.iload_n 2, 1) := by decide +kernel
theorem dJ1_indexOf_4cfef_32 : decode cJ1_indexOf_4cfef 32 = .ok (.iload_n 3, 1) := by decide +kernel
theorem dJ1_indexOf_4cfef_33 : decode cJ1_indexOf_4cfef 33 = .ok (.invokestatic 95, 3) := by decide +kernel
theorem dJ1_indexOf_4cfef_36 : decode cJ1_indexOf_4cfef 36 = .ok (.ireturn, 1) := by decide +kernel
theorem dJ1_indexOfChar_4cfef_0 : decode cJ1_indexOfChar_4cfef 0 = .ok (.iload_n 1, 1) := by decide +kernel
theorem dJ1_indexOfChar_4cfef_1 : decode cJ1_indexOfChar_4cfef 1 = .ok (.i2b, 1) := by decide +kernel
theorem dJ1_indexOfChar_4cfef_2 : decode cJ1_indexOfChar_4cfef 2 = .ok (.istore 4, 2) := by decide +kernel
theorem dJ1_indexOfChar_4cfef_4 : decode cJ1_indexOfChar_4cfef 4 = .ok (.iload_n 2, 1) := by decide +kernel
theorem dJ1_indexOfChar_4cfef_5 : decode cJ1_indexOfChar_4cfef 5 = .ok (.istore 5, 2) := by decide +kernel
theorem dJ1_indexOfChar_4cfef_7 : decode cJ1_indexOfChar_4cfef 7 = .ok (.iload 5, 2) := by decide +kernel
theorem dJ1_indexOfChar_4cfef_9 : decode cJ1_indexOfChar_4cfef 9 = .ok (.iload_n 3, 1) := by decide +kernel
theorem dJ1_indexOfChar_4cfef_10 : decode cJ1_indexOfChar_4cfef 10 = .ok (.if_icmp .ge 21, 3) := by decide +kernel
theorem dJ1_indexOfChar_4cfef_13 : decode cJ1_indexOfChar_4cfef 13 = .ok (.aload_n 0, 1) := by decide +kernel
theorem dJ1_indexOfChar_4cfef_14 : decode cJ1_indexOfChar_4cfef 14 = .ok (.iload 5, 2) := by decide +kernel
theorem dJ1_indexOfChar_4cfef_16 : decode cJ1_indexOfChar_4cfef 16 = .ok (.baload, 1) := by decide +kernel
theorem dJ1_indexOfChar_4cfef_17 : decode cJ1_indexOfChar_4cfef 17 = .ok (.iload 4, 2) := by decide +kernel
theorem dJ1_indexOfChar_4cfef_19 : decode cJ1_indexOfChar_4cfef 19 = .ok (.if_icmp .ne 6, 3) := by decide +kernel
theorem dJ1_indexOfChar_4cfef_22 : decode cJ1_indexOfChar_4cfef 22 = .ok (.iload 5, 2) := by decide +kernel
theorem dJ1_indexOfChar_4cfef_24 : decode cJ1_indexOfChar_4cfef 24 = .ok (.ireturn, 1) := by decide +kernel
theorem dJ1_indexOfChar_4cfef_25 : decode cJ1_indexOfChar_4cfef 25 = .ok (.iinc 5 1, 3) := by decide +kernel
theorem dJ1_indexOfChar_4cfef_28 : decode cJ1_indexOfChar_4cfef 28 = .ok (.goto (-21), 3) := by decide +kernel
theorem dJ1_indexOfChar_4cfef_31 : decode cJ1_indexOfChar_4cfef 31 = .ok (.iconst (-1), 1) := by decide +kernel
theorem dJ1_indexOfChar_4cfef_32 : decode cJ1_indexOfChar_4cfef 32 = .ok (.ireturn, 1) := by decide +kernel
theorem dJ2_getChar_3b067_0 : decode cJ2_getChar_3b067 0 = .ok (.getstatic 44, 3) := by decide +kernel
theorem dJ2_getChar_3b067_3 : decode cJ2_getChar_3b067 3 = .ok (.ifCond .ne 25, 3) := by decide +kernel
theorem dJ2_getChar_3b067_6 : decode cJ2_getChar_3b067 6 = .ok (.iload_n 1, 1) := by decide +kernel
theorem dJ2_getChar_3b067_7 : decode cJ2_getChar_3b067 7 = .ok (.ifCond .lt 11, 3) := by decide +kernel
theorem dJ2_getChar_3b067_10 : decode cJ2_getChar_3b067 10 = .ok (.iload_n 1, 1) := by decide +kernel
theorem dJ2_getChar_3b067_11 : decode cJ2_getChar_3b067 11 = .ok (.aload_n 0, 1) := by decide +kernel
theorem dJ2_getChar_3b067_12 : decode cJ2_getChar_3b067 12 = .ok (.invokestatic 48, 3) := by decide +kernel
theorem dJ2_getChar_3b067_15 : decode cJ2_getChar_3b067 15 = .ok (.if_icmp .lt 13, 3) := by decide +kernel
theorem dJ2_getChar_3b067_18 : decode cJ2_getChar_3b067 18 = .ok (.new 52, 3) := by decide +kernel
theorem dJ2_getChar_3b067_21 : decode cJ2_getChar_3b067 21 = .ok (.dup, 1) := by decide +kernel
theorem dJ2_getChar_3b067_22 : decode cJ2_getChar_3b067 22 = .ok (.ldc 54, 2) := by decide +kernel
theorem dJ2_getChar_3b067_24 : decode cJ2_getChar_3b067 24 = .ok (.invokespecial 56, 3) := by decide +kernel
theorem dJ2_getChar_3b067_27 : decode cJ2_getChar_3b067 27 = .ok (.athrow, 1) := by decide +kernel
theorem dJ2_getChar_3b067_28 : decode cJ2_getChar_3b067 28 = .ok (.iload_n 1, 1) := by decide +kernel
theorem dJ2_getChar_3b067_29 : decode cJ2_getChar_3b067 29 = .ok (.iconst 1, 1) := by decide +kernel
theorem dJ2_getChar_3b067_30 : decode cJ2_getChar_3b067 30 = .ok (.ishl, 1) := by decide +kernel
theorem dJ2_getChar_3b067_31 : decode cJ2_getChar_3b067 31 = .ok (.istore_n 1, 1) := by decide +kernel
theorem dJ2_getChar_3b067_32 : decode cJ2_getChar_3b067 32 = .ok (.aload_n 0, 1) := by decide +kernel
theorem dJ2_getChar_3b067_33 : decode cJ2_getChar_3b067 33 = .ok (.iload_n 1, 1) := by decide +kernel
theorem dJ2_getChar_3b067_34 : decode cJ2_getChar_3b067 34 = .ok (.iinc 1 1, 3) := by decide +kernel
theorem dJ2_getChar_3b067_37 : decode cJ2_getChar_3b067 37 = .ok (.baload, 1) := by decide +kernel
theorem dJ2_getChar_3b067_38 : decode cJ2_getChar_3b067 38 = .ok (.sipush 255, 3) := by decide +kernel
theorem dJ2_getChar_3b067_41 : decode cJ2_getChar_3b067 41 = .ok (.iand, 1) := by decide +kernel
theorem dJ2_getChar_3b067_42 : decode cJ2_getChar_3b067 42 = .ok (.getstatic 59, 3) := by decide +kernel
theorem dJ2_getChar_3b067_45 : decode cJ2_getChar_3b067 45 = .ok (.ishl, 1) := by decide +kernel
theorem dJ2_getChar_3b067_46 : decode cJ2_getChar_3b067 46 = .ok (.aload_n 0, 1) := by decide +kernel
theorem dJ2_getChar_3b067_47 : decode cJ2_getChar_3b067 47 = .ok (.iload_n 1, 1) := by decide +kernel
theorem dJ2_getChar_3b067_48 : decode cJ2_getChar_3b067 48 = .ok (.baload, 1) := by decide +kernel
theorem dJ2_getChar_3b067_49 : decode cJ2_getChar_3b067 49 = .ok (.sipush 255, 3) := by decide +kernel
theorem dJ2_getChar_3b067_52 : decode cJ2_getChar_3b067 52 = .ok (.iand, 1) := by decide +kernel
theorem dJ2_getChar_3b067_53 : decode cJ2_getChar_3b067 53 = .ok (.getstatic 63, 3) := by decide +kernel
theorem dJ2_getChar_3b067_56 : decode cJ2_getChar_3b067 56 = .ok (.ishl, 1) := by decide +kernel
theorem dJ2_getChar_3b067_57 : decode cJ2_getChar_3b067 57 = .ok (.ior, 1) := by decide +kernel
theorem dJ2_getChar_3b067_58 : decode cJ2_getChar_3b067 58 = .ok (.i2c, 1) := by decide +kernel
theorem dJ2_getChar_3b067_59 : decode cJ2_getChar_3b067 59 = .ok (.ireturn, 1) := by decide +kernel
theorem dJ2_length_9d52b_0 : decode cJ2_length_9d52b 0 = .ok (.aload_n 0, 1) := by decide +kernel
theorem dJ2_length_9d52b_1 : decode cJ2_length_9d52b 1 = .ok (.arraylength, 1) := by decide +kernel
theorem dJ2_length_9d52b_2 : decode cJ2_length_9d52b 2 = .ok (.iconst 1, 1) := by decide +kernel
theorem dJ2_length_9d52b_3 : decode cJ2_length_9d52b 3 = .ok (.ishr, 1) := by decide +kernel
theorem dJ2_length_9d52b_4 : decode cJ2_length_9d52b 4 = .ok (.ireturn, 1) := by decide +kernel
theorem dJ2_indexOf_4cfef_0 : decode cJ2_indexOf_4cfef 0 = .ok (.iload_n 2, 1) := by decide +kernel
theorem dJ2_indexOf_4cfef_1 : decode cJ2_indexOf_4cfef 1 = .ok (.iconst 0, 1) := by decide +kernel
theorem dJ2_indexOf_4cfef_2 : decode cJ2_indexOf_4cfef 2 = .ok (.invokestatic 224, 3) := by decide +kernel
theorem dJ2_indexOf_4cfef_5 : decode cJ2_indexOf_4cfef 5 = .ok (.istore_n 2, 1) := by decide +kernel
theorem dJ2_indexOf_4cfef_6 : decode cJ2_indexOf_4cfef 6 = .ok (.iload_n 3, 1) := by decide +kernel
theorem dJ2_indexOf_4cfef_7 : decode cJ2_indexOf_4cfef 7 = .ok (.aload_n 0, 1) := by decide +kernel
theorem dJ2_indexOf_4cfef_8 : decode cJ2_indexOf_4cfef 8 = .ok (.arraylength, 1) := by decide +kernel
theorem dJ2_indexOf_4cfef_9 : decode cJ2_indexOf_4cfef 9 = .ok (.iconst 1, 1) := by decide +kernel
theorem dJ2_indexOf_4cfef_10 : decode cJ2_indexOf_4cfef 10 = .ok (.ishr, 1) := by decide +kernel
theorem dJ2_indexOf_4cfef_11 : decode cJ2_indexOf_4cfef 11 = .ok (.invokestatic 183, 3) := by decide +kernel
theorem dJ2_indexOf_4cfef_14 : decode cJ2_indexOf_4cfef 14 = .ok (.istore_n 3, 1) := by decide +kernel
theorem dJ2_indexOf_4cfef_15 : decode cJ2_indexOf_4cfef 15 = .ok (.iload_n 2, 1) := by decide +kernel
theorem dJ2_indexOf_4cfef_16 : decode cJ2_indexOf_4cfef 16 = .ok (.iload_n 3, 1) := by decide +kernel
theorem dJ2_indexOf_4cfef_17 : decode cJ2_indexOf_4cfef 17 = .ok (.if_icmp .lt 5, 3) := by decide +kernel
theorem dJ2_indexOf_4cfef_20 : decode cJ2_indexOf_4cfef 20 = .ok (.iconst (-1), 1) := by decide +kernel
theorem dJ2_indexOf_4cfef_21 : decode cJ2_indexOf_4cfef 21 = .ok (.ireturn, 1) := by decide +kernel
theorem dJ2_indexOf_4cfef_22 : decode cJ2_indexOf_4cfef 22 = .ok (.iload_n 1, 1) := by decide +kernel
theorem dJ2_indexOf_4cfef_23 : decode cJ2_indexOf_4cfef 23 = .ok (.ldc 227, 2) := by decide +kernel
theorem dJ2_indexOf_4cfef_25 : decode cJ2_indexOf_4cfef 25 = .ok (.if_icmp .ge 11, 3) := by decide +kernel
theorem dJ2_indexOf_4cfef_28 : decode cJ2_indexOf_4cfef 28 = .ok (.aload_n 0, 1) := by decide +kernel
theorem dJ2_indexOf_4cfef_29 : decode cJ2_indexOf_4cfef 29 = .ok (.iload_n 1, 1) := by decide +kernel
theorem dJ2_indexOf_4cfef_30 : decode cJ2_indexOf_4cfef 30 = .ok (.iload_n 2, 1) := by decide +kernel
theorem dJ2_indexOf_4cfef_31 : decode cJ2_indexOf_4cfef 31 = .ok (.iload_n 3, 1) := by decide +kernel
theorem dJ2_indexOf_4cfef_32 : decode cJ2_indexOf_4cfef 32 = .ok (.invokestatic 228, 3) := by decide +kernel
theorem dJ2_indexOf_4cfef_35 : decode cJ2_indexOf_4cfef 35 = .ok (.ireturn, 1) := by decide +kernel
theorem dJ2_indexOf_4cfef_36 : decode cJ2_indexOf_4cfef 36 = .ok (.aload_n 0, 1) := by decide +kernel
theorem dJ2_indexOf_4cfef_37 : decode cJ2_indexOf_4cfef 37 = .ok (.iload_n 1, 1) := by decide +kernel
theorem dJ2_indexOf_4cfef_38 : decode cJ2_indexOf_4cfef 38 = .ok (.iload_n 2, 1) := by decide +kernel
theorem dJ2_indexOf_4cfef_39 : decode cJ2_indexOf_4cfef 39 = .ok (.iload_n 3, 1) := by decide +kernel
theorem dJ2_indexOf_4cfef_40 : decode cJ2_indexOf_4cfef 40 = .ok (.invokestatic 232, 3) := by decide +kernel
theorem dJ2_indexOf_4cfef_43 : decode cJ2_indexOf_4cfef 43 = .ok (.ireturn, 1) := by decide +kernel
theorem dJ2_indexOfChar_4cfef_0 : decode cJ2_indexOfChar_4cfef 0 = .ok (.iload_n 2, 1) := by decide +kernel
theorem dJ2_indexOfChar_4cfef_1 : decode cJ2_indexOfChar_4cfef 1 = .ok (.iload_n 3, 1) := by decide +kernel
theorem dJ2_indexOfChar_4cfef_2 : decode cJ2_indexOfChar_4cfef 2 = .ok (.aload_n 0, 1) := by decide +kernel
theorem dJ2_indexOfChar_4cfef_3 : decode cJ2_indexOfChar_4cfef 3 = .ok (.invokestatic 96, 3) := by decide +kernel
theorem dJ2_indexOfChar_4cfef_6 : decode cJ2_indexOfChar_4cfef 6 = .ok (.aload_n 0, 1) := by decide +kernel
theorem dJ2_indexOfChar_4cfef_7 : decode cJ2_indexOfChar_4cfef 7 = .ok (.iload_n 1, 1) := by decide +kernel
theorem dJ2_indexOfChar_4cfef_8 : decode cJ2_indexOfChar_4cfef 8 = .ok (.iload_n 2, 1) := by decide +kernel
theorem dJ2_indexOfChar_4cfef_9 : decode cJ2_indexOfChar_4cfef 9 = .ok (.iload_n 3, 1) := by decide +kernel
theorem dJ2_indexOfChar_4cfef_10 : decode cJ2_indexOfChar_4cfef 10 = .ok (.invokestatic 244, 3) := by decide +kernel
theorem dJ2_indexOfChar_4cfef_13 : decode cJ2_indexOfChar_4cfef 13 = .ok (.ireturn, 1) := by decide +kernel
theorem dJ2_indexOfCharUnsafe_4cfef_0 : decode cJ2_indexOfCharUnsafe_4cfef 0 = .ok (.iload_n 2, 1) := by decide +kernel
theorem dJ2_indexOfCharUnsafe_4cfef_1 : decode cJ2_indexOfCharUnsafe_4cfef 1 = .ok (.istore 4, 2) := by decide +kernel
theorem dJ2_indexOfCharUnsafe_4cfef_3 : decode cJ2_indexOfCharUnsafe_4cfef 3 = .ok (.iload 4, 2) := by decide +kernel
theorem dJ2_indexOfCharUnsafe_4cfef_5 : decode cJ2_indexOfCharUnsafe_4cfef 5 = .ok (.iload_n 3, 1) := by decide +kernel
theorem dJ2_indexOfCharUnsafe_4cfef_6 : decode cJ2_indexOfCharUnsafe_4cfef 6 = .ok (.if_icmp .ge 22, 3) := by decide +kernel
theorem dJ2_indexOfCharUnsafe_4cfef_9 : decode cJ2_indexOfCharUnsafe_4cfef 9 = .ok (.aload_n 0, 1) := by decide +kernel
theorem dJ2_indexOfCharUnsafe_4cfef_10 : decode cJ2_indexOfCharUnsafe_4cfef 10 = .ok (.iload 4, 2) := by decide +kernel
theorem dJ2_indexOfCharUnsafe_4cfef_12 : decode cJ2_indexOfCharUnsafe_4cfef 12 = .ok (.invokestatic 71, 3) := by decide +kernel
theorem dJ2_indexOfCharUnsafe_4cfef_15 : decode cJ2_indexOfCharUnsafe_4cfef 15 = .ok (.iload_n 1, 1) := by decide +kernel
theorem dJ2_indexOfCharUnsafe_4cfef_16 : decode cJ2_indexOfCharUnsafe_4cfef 16 = .ok (.if_icmp .ne 6, 3) := by decide +kernel
theorem dJ2_indexOfCharUnsafe_4cfef_19 : decode cJ2_indexOfCharUnsafe_4cfef 19 = .ok (.iload 4, 2) := by decide +kernel
theorem dJ2_indexOfCharUnsafe_4cfef_21 : decode cJ2_indexOfCharUnsafe_4cfef 21 = .ok (.ireturn, 1) := by decide +kernel
theorem dJ2_indexOfCharUnsafe_4cfef_22 : decode cJ2_indexOfCharUnsafe_4cfef 22 = .ok (.iinc 4 1, 3) := by decide +kernel
theorem dJ2_indexOfCharUnsafe_4cfef_25 : decode cJ2_indexOfCharUnsafe_4cfef 25 = .ok (.goto (-22), 3) := by decide +kernel
theorem dJ2_indexOfCharUnsafe_4cfef_28 : decode cJ2_indexOfCharUnsafe_4cfef 28 = .ok (.iconst (-1), 1) := by decide +kernel
theorem dJ2_indexOfCharUnsafe_4cfef_29 : decode cJ2_indexOfCharUnsafe_4cfef 29 = .ok (.ireturn, 1) := by decide +kernel
theorem dJ2_indexOfSupplementary_4cfef_0 : decode cJ2_indexOfSupplementary_4cfef 0 = .ok (.iload_n 1, 1) := by decide +kernel
theorem dJ2_indexOfSupplementary_4cfef_1 : decode cJ2_indexOfSupplementary_4cfef 1 = .ok (.invokestatic 164, 3) := by decide +kernel
theorem dJ2_indexOfSupplementary_4cfef_4 : decode cJ2_indexOfSupplementary_4cfef 4 = .ok (.ifCond .eq 65, 3) := by decide +kernel
theorem dJ2_indexOfSupplementary_4cfef_7 : decode cJ2_indexOfSupplementary_4cfef 7 = .ok (.iload_n 1, 1) := by decide +kernel
theorem dJ2_indexOfSupplementary_4cfef_8 : decode cJ2_indexOfSupplementary_4cfef 8 = .ok (.invokestatic 157, 3) := by decide +kernel
theorem dJ2_indexOfSupplementary_4cfef_11 : decode cJ2_indexOfSupplementary_4cfef 11 = .ok (.istore 4, 2) := by decide +kernel
theorem dJ2_indexOfSupplementary_4cfef_13 : decode cJ2_indexOfSupplementary_4cfef 13 = .ok (.iload_n 1, 1) := by decide +kernel
theorem dJ2_indexOfSupplementary_4cfef_14 : decode cJ2_indexOfSupplementary_4cfef 14 = .ok (.invokestatic 161, 3) := by decide +kernel
theorem dJ2_indexOfSupplementary_4cfef_17 : decode cJ2_indexOfSupplementary_4cfef 17 = .ok (.istore 5, 2) := by decide +kernel
theorem dJ2_indexOfSupplementary_4cfef_19 : decode cJ2_indexOfSupplementary_4cfef 19 = .ok (.iload_n 2, 1) := by decide +kernel
theorem dJ2_indexOfSupplementary_4cfef_20 : decode cJ2_indexOfSupplementary_4cfef 20 = .ok (.iload_n 3, 1) := by decide +kernel
theorem dJ2_indexOfSupplementary_4cfef_21 : decode cJ2_indexOfSupplementary_4cfef 21 = .ok (.aload_n 0, 1) := by decide +kernel
theorem dJ2_indexOfSupplementary_4cfef_22 : decode cJ2_indexOfSupplementary_4cfef 22 = .ok (.invokestatic 96, 3) := by decide +kernel
theorem dJ2_indexOfSupplementary_4cfef_25 : decode cJ2_indexOfSupplementary_4cfef 25 = .ok (.iload_n 2, 1) := by decide +kernel
theorem dJ2_indexOfSupplementary_4cfef_26 : decode cJ2_indexOfSupplementary_4cfef 26 = .ok (.istore 6, 2) := by decide +kernel
theorem dJ2_indexOfSupplementary_4cfef_28 : decode cJ2_indexOfSupplementary_4cfef 28 = .ok (.iload 6, 2) := by decide +kernel
theorem dJ2_indexOfSupplementary_4cfef_30 : decode cJ2_indexOfSupplementary_4cfef 30 = .ok (.iload_n 3, 1) := by decide +kernel
theorem dJ2_indexOfSupplementary_4cfef_31 : decode cJ2_indexOfSupplementary_4cfef 31 = .ok (.iconst 1, 1) := by decide +kernel
theorem dJ2_indexOfSupplementary_4cfef_32 : decode cJ2_indexOfSupplementary_4cfef 32 = .ok (.isub, 1) := by decide +kernel
theorem dJ2_indexOfSupplementary_4cfef_33 : decode cJ2_indexOfSupplementary_4cfef 33 = .ok (.if_icmp .ge 36, 3) := by decide +kernel
theorem dJ2_indexOfSupplementary_4cfef_36 : decode cJ2_indexOfSupplementary_4cfef 36 = .ok (.aload_n 0, 1) := by decide +kernel
theorem dJ2_indexOfSupplementary_4cfef_37 : decode cJ2_indexOfSupplementary_4cfef 37 = .ok (.iload 6, 2) := by decide +kernel
theorem dJ2_indexOfSupplementary_4cfef_39 : decode cJ2_indexOfSupplementary_4cfef 39 = .ok (.invokestatic 71, 3) := by decide +kernel
theorem dJ2_indexOfSupplementary_4cfef_42 : decode cJ2_indexOfSupplementary_4cfef 42 = .ok (.iload 4, 2) := by decide +kernel
theorem dJ2_indexOfSupplementary_4cfef_44 : decode cJ2_indexOfSupplementary_4cfef 44 = .ok (.if_icmp .ne 19, 3) := by decide +kernel
theorem dJ2_indexOfSupplementary_4cfef_47 : decode cJ2_indexOfSupplementary_4cfef 47 = .ok (.aload_n 0, 1) := by decide +kernel
theorem dJ2_indexOfSupplementary_4cfef_48 : decode cJ2_indexOfSupplementary_4cfef 48 = .ok (.iload 6, 2) := by decide +kernel
theorem dJ2_indexOfSupplementary_4cfef_50 : decode cJ2_indexOfSupplementary_4cfef 50 = .ok (.iconst 1, 1) := by decide +kernel
theorem dJ2_indexOfSupplementary_4cfef_51 : decode cJ2_indexOfSupplementary_4cfef 51 = .ok (.iadd, 1) := by decide +kernel
theorem dJ2_indexOfSupplementary_4cfef_52 : decode cJ2_indexOfSupplementary_4cfef 52 = .ok (.invokestatic 71, 3) := by decide +kernel
theorem dJ2_indexOfSupplementary_4cfef_55 : decode cJ2_indexOfSupplementary_4cfef 55 = .ok (.iload 5, 2) := by decide +kernel
theorem dJ2_indexOfSupplementary_4cfef_57 : decode cJ2_indexOfSupplementary_4cfef 57 = .ok (.if_icmp .ne 6, 3) := by decide +kernel
theorem dJ2_indexOfSupplementary_4cfef_60 : decode cJ2_indexOfSupplementary_4cfef 60 = .ok (.iload 6, 2) := by decide +kernel
theorem dJ2_indexOfSupplementary_4cfef_62 : decode cJ2_indexOfSupplementary_4cfef 62 = .ok (.ireturn, 1) := by decide +kernel
theorem dJ2_indexOfSupplementary_4cfef_63 : decode cJ2_indexOfSupplementary_4cfef 63 = .ok (.iinc 6 1, 3) := by decide +kernel
theorem dJ2_indexOfSupplementary_4cfef_66 : decode cJ2_indexOfSupplementary_4cfef 66 = .ok (.goto (-38), 3) := by decide +kernel
theorem dJ2_indexOfSupplementary_4cfef_69 : decode cJ2_indexOfSupplementary_4cfef 69 = .ok (.iconst (-1), 1) := by decide +kernel
theorem dJ2_indexOfSupplementary_4cfef_70 : decode cJ2_indexOfSupplementary_4cfef 70 = .ok (.ireturn, 1) := by decide +kernel
theorem dJ2_charAt_3b067_0 : decode cJ2_charAt_3b067 0 = .ok (.iload_n 1, 1) := by decide +kernel
theorem dJ2_charAt_3b067_1 : decode cJ2_charAt_3b067 1 = .ok (.aload_n 0, 1) := by decide +kernel
theorem dJ2_charAt_3b067_2 : decode cJ2_charAt_3b067 2 = .ok (.invokestatic 67, 3) := by decide +kernel
theorem dJ2_charAt_3b067_5 : decode cJ2_charAt_3b067 5 = .ok (.aload_n 0, 1) := by decide +kernel
theorem dJ2_charAt_3b067_6 : decode cJ2_charAt_3b067 6 = .ok (.iload_n 1, 1) := by decide +kernel
theorem dJ2_charAt_3b067_7 : decode cJ2_charAt_3b067 7 = .ok (.invokestatic 71, 3) := by decide +kernel
theorem dJ2_charAt_3b067_10 : decode cJ2_charAt_3b067 10 = .ok (.ireturn, 1) := by decide +kernel
theorem dJ2_checkIndex_2214a_0 : decode cJ2_checkIndex_2214a 0 = .ok (.iload_n 0, 1) := by decide +kernel
theorem dJ2_checkIndex_2214a_1 : decode cJ2_checkIndex_2214a 1 = .ok (.aload_n 1, 1) := by decide +kernel
theorem dJ2_checkIndex_2214a_2 : decode cJ2_checkIndex_2214a 2 = .ok (.invokestatic 48, 3) := by decide +kernel
theorem dJ2_checkIndex_2214a_5 : decode cJ2_checkIndex_2214a 5 = .ok (.invokestatic 414, 3) := by decide +kernel
theorem dJ2_checkIndex_2214a_8 : decode cJ2_checkIndex_2214a 8 = .ok (.return_, 1) := by decide +kernel
theorem dJ2_checkBoundsBeginEnd_d044e_0 : decode cJ2_checkBoundsBeginEnd_d044e 0 = .ok (.iload_n 0, 1) := by decide +kernel
theorem dJ2_checkBoundsBeginEnd_d044e_1 : decode cJ2_checkBoundsBeginEnd_d044e 1 = .ok (.iload_n 1, 1) := by decide +kernel
theorem dJ2_checkBoundsBeginEnd_d044e_2 : decode cJ2_checkBoundsBeginEnd_d044e 2 = .ok (.aload_n 2, 1) := by decide +kernel
theorem dJ2_checkBoundsBeginEnd_d044e_3 : decode cJ2_checkBoundsBeginEnd_d044e 3 = .ok (.invokestatic 48, 3) := by decide +kernel
theorem dJ2_checkBoundsBeginEnd_d044e_6 : decode cJ2_checkBoundsBeginEnd_d044e 6 = .ok (.invokestatic 241, 3) := by decide +kernel
theorem dJ2_checkBoundsBeginEnd_d044e_9 : decode cJ2_checkBoundsBeginEnd_d044e 9 = .ok (.return_, 1) := by decide +kernel
theorem dJ3_checkIndex_8e157_0 : decode cJ3_checkIndex_8e157 0 = .ok (.iload_n 0, 1) := by decide +kernel
theorem dJ3_checkIndex_8e157_1 : decode cJ3_checkIndex_8e157 1 = .ok (.ifCond .lt 8, 3) := by decide +kernel
theorem dJ3_checkIndex_8e157_4 : decode cJ3_checkIndex_8e157 4 = .ok (.iload_n 0, 1) := by decide +kernel
theorem dJ3_checkIndex_8e157_5 : decode cJ3_checkIndex_8e157 5 = .ok (.iload_n 1, 1) := by decide +kernel
theorem dJ3_checkIndex_8e157_6 : decode cJ3_checkIndex_8e157 6 = .ok (.if_icmp .lt 10, 3) := by decide +kernel
theorem dJ3_checkIndex_8e157_9 : decode cJ3_checkIndex_8e157 9 = .ok (.aload_n 2, 1) := by decide +kernel
theorem dJ3_checkIndex_8e157_10 : decode cJ3_checkIndex_8e157 10 = .ok (.iload_n 0, 1) := by decide +kernel
theorem dJ3_checkIndex_8e157_11 : decode cJ3_checkIndex_8e157 11 = .ok (.iload_n 1, 1) := by decide +kernel
theorem dJ3_checkIndex_8e157_12 : decode cJ3_checkIndex_8e157 12 = .ok (.invokestatic 95, 3) := by decide +kernel
theorem dJ3_checkIndex_8e157_15 : decode cJ3_checkIndex_8e157 15 = .ok (.athrow, 1) := by decide +kernel
theorem dJ3_checkIndex_8e157_16 : decode cJ3_checkIndex_8e157 16 = .ok (.iload_n 0, 1) := by decide +kernel
theorem dJ3_checkIndex_8e157_17 : decode cJ3_checkIndex_8e157 17 = .ok (.ireturn, 1) := by decide +kernel
theorem dJ3_checkFromToIndex_8c36e_0 : decode cJ3_checkFromToIndex_8c36e 0 = .ok (.iload_n 0, 1) := by decide +kernel
theorem dJ3_checkFromToIndex_8c36e_1 : decode cJ3_checkFromToIndex_8c36e 1 = .ok (.ifCond .lt 13, 3) := by decide +kernel
theorem dJ3_checkFromToIndex_8c36e_4 : decode cJ3_checkFromToIndex_8c36e 4 = .ok (.iload_n 0, 1) := by decide +kernel
theorem dJ3_checkFromToIndex_8c36e_5 : decode cJ3_checkFromToIndex_8c36e 5 = .ok (.iload_n 1, 1) := by decide +kernel
theorem dJ3_checkFromToIndex_8c36e_6 : decode cJ3_checkFromToIndex_8c36e 6 = .ok (.if_icmp .gt 8, 3) := by decide +kernel
theorem dJ3_checkFromToIndex_8c36e_9 : decode cJ3_checkFromToIndex_8c36e 9 = .ok (.iload_n 1, 1) := by decide +kernel
theorem dJ3_checkFromToIndex_8c36e_10 : decode cJ3_checkFromToIndex_8c36e 10 = .ok (.iload_n 2, 1) := by decide +kernel
theorem dJ3_checkFromToIndex_8c36e_11 : decode cJ3_checkFromToIndex_8c36e 11 = .ok (.if_icmp .le 11, 3) := by decide +kernel
theorem dJ3_checkFromToIndex_8c36e_14 : decode cJ3_checkFromToIndex_8c36e 14 = .ok (.aload_n 3, 1) := by decide +kernel
theorem dJ3_checkFromToIndex_8c36e_15 : decode cJ3_checkFromToIndex_8c36e 15 = .ok (.iload_n 0, 1) := by decide +kernel
theorem dJ3_checkFromToIndex_8c36e_16 : decode cJ3_checkFromToIndex_8c36e 16 = .ok (.iload_n 1, 1) := by decide +kernel
theorem dJ3_checkFromToIndex_8c36e_17 : decode cJ3_checkFromToIndex_8c36e 17 = .ok (.iload_n 2, 1) := by decide +kernel
theorem dJ3_checkFromToIndex_8c36e_18 : decode cJ3_checkFromToIndex_8c36e 18 = .ok (.invokestatic 99, 3) := by decide +kernel
theorem dJ3_checkFromToIndex_8c36e_21 : decode cJ3_checkFromToIndex_8c36e 21 = .ok (.athrow, 1) := by decide +kernel
theorem dJ3_checkFromToIndex_8c36e_22 : decode cJ3_checkFromToIndex_8c36e 22 = .ok (.iload_n 0, 1) := by decide +kernel
theorem dJ3_checkFromToIndex_8c36e_23 : decode cJ3_checkFromToIndex_8c36e 23 = .ok (.ireturn, 1) := by decide +kernel
