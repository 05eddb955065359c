theorem dL_isOrder_128 : decode cL_isOrder 128 = .ok (.invokevirtual 44, 3) := by decide +kernel
theorem dL_isOrder_131 : decode cL_isOrder 131 = .ok (.invokevirtual 47, 3) := by decide +kernel
theorem dL_isOrder_134 : decode cL_isOrder 134 = .ok (.aload_n 0, 1) := by decide +kernel
theorem dL_isOrder_135 : decode cL_isOrder 135 = .ok (.iload 4, 2) := by decide +kernel
theorem dL_isOrder_137 : decode cL_isOrder 137 = .ok (.invokevirtual 47, 3) := by decide +kernel
theorem dL_isOrder_140 : decode cL_isOrder 140 = .ok (.if_icmp .lt 35, 3) := by decide +kernel
theorem dL_isOrder_143 : decode cL_isOrder 143 = .ok (.aload_n 0, 1) := by decide +kernel
theorem dL_isOrder_144 : decode cL_isOrder 144 = .ok (.aload_n 0, 1) := by decide +kernel
theorem dL_isOrder_145 : decode cL_isOrder 145 = .ok (.iload_n 3, 1) := by decide +kernel
theorem dL_isOrder_146 : decode cL_isOrder 146 = .ok (.iconst 1, 1) := by decide +kernel
theorem dL_isOrder_147 : decode cL_isOrder 147 = .ok (.isub, 1) := by decide +kernel
theorem dL_isOrder_148 : decode cL_isOrder 148 = .ok (.invokevirtual 44, 3) := by decide +kernel
theorem dL_isOrder_151 : decode cL_isOrder 151 = .ok (.invokevirtual 47, 3) := by decide +kernel
theorem dL_isOrder_154 : decode cL_isOrder 154 = .ok (.aload_n 0, 1) := by decide +kernel
theorem dL_isOrder_155 : decode cL_isOrder 155 = .ok (.iload 4, 2) := by decide +kernel
theorem dL_isOrder_157 : decode cL_isOrder 157 = .ok (.invokevirtual 47, 3) := by decide +kernel
theorem dL_isOrder_160 : decode cL_isOrder 160 = .ok (.if_icmp .ne 19, 3) := by decide +kernel
theorem dL_isOrder_163 : decode cL_isOrder 163 = .ok (.aload_n 0, 1) := by decide +kernel
theorem dL_isOrder_164 : decode cL_isOrder 164 = .ok (.iload_n 3, 1) := by decide +kernel
theorem dL_isOrder_165 : decode cL_isOrder 165 = .ok (.iconst 1, 1) := by decide +kernel
theorem dL_isOrder_166 : decode cL_isOrder 166 = .ok (.isub, 1) := by decide +kernel
theorem dL_isOrder_167 : decode cL_isOrder 167 = .ok (.invokevirtual 44, 3) := by decide +kernel
theorem dL_isOrder_170 : decode cL_isOrder 170 = .ok (.iload 4, 2) := by decide +kernel
theorem dL_isOrder_172 : decode cL_isOrder 172 = .ok (.if_icmp .ge 7, 3) := by decide +kernel
theorem dL_isOrder_175 : decode cL_isOrder 175 = .ok (.iconst 1, 1) := by decide +kernel
theorem dL_isOrder_176 : decode cL_isOrder 176 = .ok (.goto 4, 3) := by decide +kernel
theorem dL_isOrder_179 : decode cL_isOrder 179 = .ok (.iconst 0, 1) := by decide +kernel
theorem dL_isOrder_180 : decode cL_isOrder 180 = .ok (.istore_n 2, 1) := by decide +kernel
theorem dL_isOrder_181 : decode cL_isOrder 181 = .ok (.iinc 3 1, 3) := by decide +kernel
theorem dL_isOrder_184 : decode cL_isOrder 184 = .ok (.goto (-138), 3) := by decide +kernel
theorem dL_isOrder_187 : decode cL_isOrder 187 = .ok (.iload_n 2, 1) := by decide +kernel
theorem dL_isOrder_188 : decode cL_isOrder 188 = .ok (.ireturn, 1) := by decide +kernel
set_option maxRecDepth 20000 in
theorem ggL_isTree_X4_levels : GoodIn wsL_isTree wsX4_levels := goodIn_r _ [6, 7, 8, 9, 10, 11, 12, 13, 168, 169, 170, 171, 172, 173] (by decide +kernel) (by decide +kernel)
set_option maxRecDepth 20000 in
theorem gL_isTree_X4_levels : GoodIn wsL_isTree (wsV RL 84 RX4 yX4_levels wsX4_levels) := goodIn_app (goodIn_of _ (by decide +kernel)) ggL_isTree_X4_levels
set_option maxRecDepth 20000 in
theorem ggL_isTree_L_tree : GoodIn wsL_isTree wsL_tree := goodIn_ca (goodIn_ca (goodIn_r _ [17, 18, 19, 20, 21, 22, 5, 23, 24, 25, 7, 26, 27, 28, 11, 29, 13, 30, 31, 32, 33, 34, 35, 36, 37, 38, 39, 40, 41, 42, 43, 44, 45, 46, 47, 48, 49, 50, 51, 52, 53, 54, 55, 56, 57, 58, 59, 60, 61, 62, 63, 64, 65, 66, 67, 68, 69, 70, 71, 72, 73, 74, 75, 76, 77, 78, 79, 80, 81, 82, 83, 84, 85, 86, 87, 88, 89, 90, 91, 92, 93, 94, 95, 96, 97, 98, 99, 100, 101, 102, 103, 104, 105, 106, 107, 108, 109, 110, 111, 112, 113, 114, 115, 116, 117, 118, 119, 120, 121, 122, 123, 124, 125, 126, 127, 128, 129, 130, 131, 132, 133, 134, 135, 136, 137, 138, 139, 140, 141, 142, 143, 144, 145, 146, 147, 148, 149, 168, 169, 170, 171, 172, 173, 174, 175, 176, 177, 178, 179] (by decide +kernel) (by decide +kernel)) (goodIn_sub (fun _ h => List.mem_cons_of_mem _ (List.mem_append_left _ (List.mem_append_left _ (List.mem_append_right _ h)))) (by decide +kernel))) (goodIn_sub (fun _ h => List.mem_cons_of_mem _ (List.mem_append_left _ (List.mem_append_right _ h))) (by decide +kernel))
set_option maxRecDepth 20000 in
theorem gL_isTree_L_tree : GoodIn wsL_isTree (va_wsS RL 78 yL_tree wsL_tree) := goodIn_app (goodIn_of _ (by decide +kernel)) ggL_isTree_L_tree
set_option maxRecDepth 20000 in
theorem ggL_isTree_X4_nodes : GoodIn wsL_isTree wsX4_nodes := goodIn_ca (goodIn_r _ [23, 24, 25, 7, 26, 27, 28, 11, 29, 13, 30, 31, 32, 33, 34, 168, 169, 170, 171, 172, 173] (by decide +kernel) (by decide +kernel)) (goodIn_sub (fun _ h => List.mem_cons_of_mem _ (List.mem_append_left _ (List.mem_append_left _ (List.mem_append_right _ h)))) (by decide +kernel))
set_option maxRecDepth 20000 in
theorem gL_isTree_X4_nodes : GoodIn wsL_isTree (wsV RL 31 RX4 yX4_nodes wsX4_nodes) := goodIn_app (goodIn_of _ (by decide +kernel)) ggL_isTree_X4_nodes
set_option maxRecDepth 20000 in
theorem ggL_isTree_X4_boxAt : GoodIn wsL_isTree wsX4_boxAt := goodIn_ca (goodIn_r _ [135, 24, 25, 66, 136, 137, 138, 80, 139, 87, 140, 83, 84, 85, 86, 168, 169, 170, 174, 175, 176, 177, 178, 179] (by decide +kernel) (by decide +kernel)) (goodIn_sub (fun _ h => List.mem_cons_of_mem _ (List.mem_append_left _ (List.mem_append_left _ (List.mem_append_right _ h)))) (by decide +kernel))
set_option maxRecDepth 20000 in
theorem gL_isTree_X4_boxAt : GoodIn wsL_isTree (wsV RL 44 RX4 yX4_boxAt wsX4_boxAt) := goodIn_app (goodIn_of _ (by decide +kernel)) ggL_isTree_X4_boxAt
set_option maxRecDepth 20000 in
theorem ggL_isTree_L_tightness : GoodIn wsL_isTree wsL_tightness := goodIn_ca (goodIn_r _ [157, 158, 1, 159, 160, 161, 5, 162, 163, 164, 7, 66, 30, 31, 32, 11, 33, 13, 34, 62, 63, 64, 65, 67, 68, 69, 70, 71, 72, 73, 74, 75, 76, 48, 49, 50, 51, 52, 44, 45, 46, 77, 78, 79, 80, 81, 82, 83, 84, 85, 86, 87, 88, 89, 90, 91, 92, 93, 94, 95, 96, 97, 98, 99, 100, 101, 102, 103, 104, 105, 106, 107, 108, 109, 165, 166, 167, 136, 137, 138, 139, 168, 169, 170, 171, 172, 173, 174, 175, 176, 177, 178, 179] (by decide +kernel) (by decide +kernel)) (goodIn_sub (fun _ h => List.mem_cons_of_mem _ (List.mem_append_right _ h)) (by decide +kernel))
set_option maxRecDepth 20000 in
theorem gL_isTree_L_tightness : GoodIn wsL_isTree (va_wsS RL 87 yL_tightness wsL_tightness) := goodIn_app (goodIn_of _ (by decide +kernel)) ggL_isTree_L_tightness
theorem dL_isTree_0 : decode cL_isTree 0 = .ok (.aload_n 1, 1) := by decide +kernel
theorem dL_isTree_1 : decode cL_isTree 1 = .ok (.iconst 1, 1) := by decide +kernel
theorem dL_isTree_2 : decode cL_isTree 2 = .ok (.iaload, 1) := by decide +kernel
theorem dL_isTree_3 : decode cL_isTree 3 = .ok (.istore_n 2, 1) := by decide +kernel
theorem dL_isTree_4 : decode cL_isTree 4 = .ok (.aload_n 0, 1) := by decide +kernel
theorem dL_isTree_5 : decode cL_isTree 5 = .ok (.invokevirtual 84, 3) := by decide +kernel
theorem dL_isTree_8 : decode cL_isTree 8 = .ok (.istore_n 3, 1) := by decide +kernel
theorem dL_isTree_9 : decode cL_isTree 9 = .ok (.iload_n 3, 1) := by decide +kernel
theorem dL_isTree_10 : decode cL_isTree 10 = .ok (.ifCond .ne 7, 3) := by decide +kernel
theorem dL_isTree_13 : decode cL_isTree 13 = .ok (.iconst 1, 1) := by decide +kernel
theorem dL_isTree_14 : decode cL_isTree 14 = .ok (.goto 4, 3) := by decide +kernel
theorem dL_isTree_17 : decode cL_isTree 17 = .ok (.iconst 0, 1) := by decide +kernel
theorem dL_isTree_18 : decode cL_isTree 18 = .ok (.aload_n 1, 1) := by decide +kernel
theorem dL_isTree_19 : decode cL_isTree 19 = .ok (.iconst 1, 1) := by decide +kernel
theorem dL_isTree_20 : decode cL_isTree 20 = .ok (.iaload, 1) := by decide +kernel
theorem dL_isTree_21 : decode cL_isTree 21 = .ok (.ifCond .ne 7, 3) := by decide +kernel
theorem dL_isTree_24 : decode cL_isTree 24 = .ok (.iconst 1, 1) := by decide +kernel
theorem dL_isTree_25 : decode cL_isTree 25 = .ok (.goto 4, 3) := by decide +kernel
theorem dL_isTree_28 : decode cL_isTree 28 = .ok (.iconst 0, 1) := by decide +kernel
theorem dL_isTree_29 : decode cL_isTree 29 = .ok (.if_icmp .ne 39, 3) := by decide +kernel
theorem dL_isTree_32 : decode cL_isTree 32 = .ok (.iload_n 3, 1) := by decide +kernel
theorem dL_isTree_33 : decode cL_isTree 33 = .ok (.bipush 9, 2) := by decide +kernel
theorem dL_isTree_35 : decode cL_isTree 35 = .ok (.if_icmp .ge 33, 3) := by decide +kernel
theorem dL_isTree_38 : decode cL_isTree 38 = .ok (.aload_n 0, 1) := by decide +kernel
theorem dL_isTree_39 : decode cL_isTree 39 = .ok (.iconst 0, 1) := by decide +kernel
theorem dL_isTree_40 : decode cL_isTree 40 = .ok (.iload_n 3, 1) := by decide +kernel
theorem dL_isTree_41 : decode cL_isTree 41 = .ok (.iconst 0, 1) := by decide +kernel
theorem dL_isTree_42 : decode cL_isTree 42 = .ok (.iconst 0, 1) := by decide +kernel
theorem dL_isTree_43 : decode cL_isTree 43 = .ok (.invokestatic 78, 3) := by decide +kernel
theorem dL_isTree_46 : decode cL_isTree 46 = .ok (.bipush (-30), 2) := by decide +kernel
theorem dL_isTree_48 : decode cL_isTree 48 = .ok (.if_icmp .ne 20, 3) := by decide +kernel
theorem dL_isTree_51 : decode cL_isTree 51 = .ok (.aload_n 0, 1) := by decide +kernel
theorem dL_isTree_52 : decode cL_isTree 52 = .ok (.iconst 0, 1) := by decide +kernel
theorem dL_isTree_53 : decode cL_isTree 53 = .ok (.iconst (-1), 1) := by decide +kernel
theorem dL_isTree_54 : decode cL_isTree 54 = .ok (.iconst 0, 1) := by decide +kernel
theorem dL_isTree_55 : decode cL_isTree 55 = .ok (.iconst 0, 1) := by decide +kernel
theorem dL_isTree_56 : decode cL_isTree 56 = .ok (.invokestatic 78, 3) := by decide +kernel
theorem dL_isTree_59 : decode cL_isTree 59 = .ok (.bipush (-30), 2) := by decide +kernel
theorem dL_isTree_61 : decode cL_isTree 61 = .ok (.if_icmp .ne 7, 3) := by decide +kernel
theorem dL_isTree_64 : decode cL_isTree 64 = .ok (.iconst 1, 1) := by decide +kernel
theorem dL_isTree_65 : decode cL_isTree 65 = .ok (.goto 4, 3) := by decide +kernel
theorem dL_isTree_68 : decode cL_isTree 68 = .ok (.iconst 0, 1) := by decide +kernel
theorem dL_isTree_69 : decode cL_isTree 69 = .ok (.istore 4, 2) := by decide +kernel
theorem dL_isTree_71 : decode cL_isTree 71 = .ok (.iconst 0, 1) := by decide +kernel
theorem dL_isTree_72 : decode cL_isTree 72 = .ok (.istore 5, 2) := by decide +kernel
theorem dL_isTree_74 : decode cL_isTree 74 = .ok (.iload 5, 2) := by decide +kernel
theorem dL_isTree_76 : decode cL_isTree 76 = .ok (.iload_n 3, 1) := by decide +kernel
theorem dL_isTree_77 : decode cL_isTree 77 = .ok (.if_icmp .ge 341, 3) := by decide +kernel
theorem dL_isTree_80 : decode cL_isTree 80 = .ok (.iload 4, 2) := by decide +kernel
theorem dL_isTree_82 : decode cL_isTree 82 = .ok (.ifCond .eq 336, 3) := by decide +kernel
theorem dL_isTree_85 : decode cL_isTree 85 = .ok (.aload_n 0, 1) := by decide +kernel
theorem dL_isTree_86 : decode cL_isTree 86 = .ok (.iload 5, 2) := by decide +kernel
theorem dL_isTree_88 : decode cL_isTree 88 = .ok (.invokevirtual 31, 3) := by decide +kernel
theorem dL_isTree_91 : decode cL_isTree 91 = .ok (.istore 6, 2) := by decide +kernel
theorem dL_isTree_93 : decode cL_isTree 93 = .ok (.iconst 0, 1) := by decide +kernel
theorem dL_isTree_94 : decode cL_isTree 94 = .ok (.istore 7, 2) := by decide +kernel
theorem dL_isTree_96 : decode cL_isTree 96 = .ok (.iconst 0, 1) := by decide +kernel
theorem dL_isTree_97 : decode cL_isTree 97 = .ok (.istore 8, 2) := by decide +kernel
theorem dL_isTree_99 : decode cL_isTree 99 = .ok (.iload 8, 2) := by decide +kernel
theorem dL_isTree_101 : decode cL_isTree 101 = .ok (.iload 6, 2) := by decide +kernel
theorem dL_isTree_103 : decode cL_isTree 103 = .ok (.if_icmp .ge 259, 3) := by decide +kernel
theorem dL_isTree_106 : decode cL_isTree 106 = .ok (.iload 4, 2) := by decide +kernel
theorem dL_isTree_108 : decode cL_isTree 108 = .ok (.ifCond .eq 254, 3) := by decide +kernel
theorem dL_isTree_111 : decode cL_isTree 111 = .ok (.aload_n 0, 1) := by decide +kernel
theorem dL_isTree_112 : decode cL_isTree 112 = .ok (.iload 5, 2) := by decide +kernel
theorem dL_isTree_114 : decode cL_isTree 114 = .ok (.iload 8, 2) := by decide +kernel
theorem dL_isTree_116 : decode cL_isTree 116 = .ok (.invokevirtual 34, 3) := by decide +kernel
theorem dL_isTree_119 : decode cL_isTree 119 = .ok (.istore 9, 2) := by decide +kernel
theorem dL_isTree_121 : decode cL_isTree 121 = .ok (.iload 9, 2) := by decide +kernel
theorem dL_isTree_123 : decode cL_isTree 123 = .ok (.ifCond .le 13, 3) := by decide +kernel
theorem dL_isTree_126 : decode cL_isTree 126 = .ok (.iload 9, 2) := by decide +kernel
theorem dL_isTree_128 : decode cL_isTree 128 = .ok (.iconst 5, 1) := by decide +kernel
theorem dL_isTree_129 : decode cL_isTree 129 = .ok (.if_icmp .ge 7, 3) := by decide +kernel
theorem dL_isTree_132 : decode cL_isTree 132 = .ok (.iconst 1, 1) := by decide +kernel
theorem dL_isTree_133 : decode cL_isTree 133 = .ok (.goto 4, 3) := by decide +kernel
theorem dL_isTree_136 : decode cL_isTree 136 = .ok (.iconst 0, 1) := by decide +kernel
theorem dL_isTree_137 : decode cL_isTree 137 = .ok (.istore 4, 2) := by decide +kernel
theorem dL_isTree_139 : decode cL_isTree 139 = .ok (.iconst 0, 1) := by decide +kernel
theorem dL_isTree_140 : decode cL_isTree 140 = .ok (.istore 10, 2) := by decide +kernel
theorem dL_isTree_142 : decode cL_isTree 142 = .ok (.iload 10, 2) := by decide +kernel
theorem dL_isTree_144 : decode cL_isTree 144 = .ok (.iconst 4, 1) := by decide +kernel
theorem dL_isTree_145 : decode cL_isTree 145 = .ok (.if_icmp .ge 146, 3) := by decide +kernel
theorem dL_isTree_148 : decode cL_isTree 148 = .ok (.iload 4, 2) := by decide +kernel
theorem dL_isTree_150 : decode cL_isTree 150 = .ok (.ifCond .eq 141, 3) := by decide +kernel
theorem dL_isTree_153 : decode cL_isTree 153 = .ok (.iload 10, 2) := by decide +kernel
theorem dL_isTree_155 : decode cL_isTree 155 = .ok (.iconst 2, 1) := by decide +kernel
theorem dL_isTree_156 : decode cL_isTree 156 = .ok (.if_icmp .ge 9, 3) := by decide +kernel
theorem dL_isTree_159 : decode cL_isTree 159 = .ok (.sipush 255, 3) := by decide +kernel
theorem dL_isTree_162 : decode cL_isTree 162 = .ok (.goto 4, 3) := by decide +kernel
theorem dL_isTree_165 : decode cL_isTree 165 = .ok (.iconst 0, 1) := by decide +kernel
theorem dL_isTree_166 : decode cL_isTree 166 = .ok (.istore 11, 2) := by decide +kernel
theorem dL_isTree_168 : decode cL_isTree 168 = .ok (.iload 7, 2) := by decide +kernel
theorem dL_isTree_170 : decode cL_isTree 170 = .ok (.istore 12, 2) := by decide +kernel
theorem dL_isTree_172 : decode cL_isTree 172 = .ok (.iload 12, 2) := by decide +kernel
theorem dL_isTree_174 : decode cL_isTree 174 = .ok (.iload 7, 2) := by decide +kernel
theorem dL_isTree_176 : decode cL_isTree 176 = .ok (.iload 9, 2) := by decide +kernel
theorem dL_isTree_178 : decode cL_isTree 178 = .ok (.iadd, 1) := by decide +kernel
theorem dL_isTree_179 : decode cL_isTree 179 = .ok (.if_icmp .ge 84, 3) := by decide +kernel
theorem dL_isTree_182 : decode cL_isTree 182 = .ok (.iload 12, 2) := by decide +kernel
theorem dL_isTree_184 : decode cL_isTree 184 = .ok (.iload_n 2, 1) := by decide +kernel
theorem dL_isTree_185 : decode cL_isTree 185 = .ok (.if_icmp .ge 78, 3) := by decide +kernel
theorem dL_isTree_188 : decode cL_isTree 188 = .ok (.iload 5, 2) := by decide +kernel
theorem dL_isTree_190 : decode cL_isTree 190 = .ok (.ifCond .ne 18, 3) := by decide +kernel
theorem dL_isTree_193 : decode cL_isTree 193 = .ok (.aload_n 0, 1) := by decide +kernel
theorem dL_isTree_194 : decode cL_isTree 194 = .ok (.aload_n 0, 1) := by decide +kernel
theorem dL_isTree_195 : decode cL_isTree 195 = .ok (.iload 12, 2) := by decide +kernel
theorem dL_isTree_197 : decode cL_isTree 197 = .ok (.invokevirtual 44, 3) := by decide +kernel
theorem dL_isTree_200 : decode cL_isTree 200 = .ok (.iload 10, 2) := by decide +kernel
theorem dL_isTree_202 : decode cL_isTree 202 = .ok (.invokevirtual 28, 3) := by decide +kernel
theorem dL_isTree_205 : decode cL_isTree 205 = .ok (.goto 15, 3) := by decide +kernel
theorem dL_isTree_208 : decode cL_isTree 208 = .ok (.aload_n 0, 1) := by decide +kernel
theorem dL_isTree_209 : decode cL_isTree 209 = .ok (.iload 5, 2) := by decide +kernel
theorem dL_isTree_211 : decode cL_isTree 211 = .ok (.iconst 1, 1) := by decide +kernel
theorem dL_isTree_212 : decode cL_isTree 212 = .ok (.isub, 1) := by decide +kernel
theorem dL_isTree_213 : decode cL_isTree 213 = .ok (.iload 12, 2) := by decide +kernel
theorem dL_isTree_215 : decode cL_isTree 215 = .ok (.iload 10, 2) := by decide +kernel
theorem dL_isTree_217 : decode cL_isTree 217 = .ok (.invokevirtual 37, 3) := by decide +kernel
theorem dL_isTree_220 : decode cL_isTree 220 = .ok (.istore 13, 2) := by decide +kernel
theorem dL_isTree_222 : decode cL_isTree 222 = .ok (.iload 10, 2) := by decide +kernel
theorem dL_isTree_224 : decode cL_isTree 224 = .ok (.iconst 2, 1) := by decide +kernel
theorem dL_isTree_225 : decode cL_isTree 225 = .ok (.if_icmp .ge 7, 3) := by decide +kernel
theorem dL_isTree_228 : decode cL_isTree 228 = .ok (.iconst 1, 1) := by decide +kernel
theorem dL_isTree_229 : decode cL_isTree 229 = .ok (.goto 4, 3) := by decide +kernel
theorem dL_isTree_232 : decode cL_isTree 232 = .ok (.iconst 0, 1) := by decide +kernel
theorem dL_isTree_233 : decode cL_isTree 233 = .ok (.iload 13, 2) := by decide +kernel
theorem dL_isTree_235 : decode cL_isTree 235 = .ok (.iload 11, 2) := by decide +kernel
theorem dL_isTree_237 : decode cL_isTree 237 = .ok (.if_icmp .ge 7, 3) := by decide +kernel
theorem dL_isTree_240 : decode cL_isTree 240 = .ok (.iconst 1, 1) := by decide +kernel
theorem dL_isTree_241 : decode cL_isTree 241 = .ok (.goto 4, 3) := by decide +kernel
theorem dL_isTree_244 : decode cL_isTree 244 = .ok (.iconst 0, 1) := by decide +kernel
theorem dL_isTree_245 : decode cL_isTree 245 = .ok (.if_icmp .ne 8, 3) := by decide +kernel
theorem dL_isTree_248 : decode cL_isTree 248 = .ok (.iload 13, 2) := by decide +kernel
theorem dL_isTree_250 : decode cL_isTree 250 = .ok (.goto 5, 3) := by decide +kernel
theorem dL_isTree_253 : decode cL_isTree 253 = .ok (.iload 11, 2) := by decide +kernel
theorem dL_isTree_255 : decode cL_isTree 255 = .ok (.istore 11, 2) := by decide +kernel
theorem dL_isTree_257 : decode cL_isTree 257 = .ok (.iinc 12 1, 3) := by decide +kernel
theorem dL_isTree_260 : decode cL_isTree 260 = .ok (.goto (-88), 3) := by decide +kernel
theorem dL_isTree_263 : decode cL_isTree 263 = .ok (.aload_n 0, 1) := by decide +kernel
theorem dL_isTree_264 : decode cL_isTree 264 = .ok (.iload 5, 2) := by decide +kernel
theorem dL_isTree_266 : decode cL_isTree 266 = .ok (.iload 8, 2) := by decide +kernel
theorem dL_isTree_268 : decode cL_isTree 268 = .ok (.iload 10, 2) := by decide +kernel
theorem dL_isTree_270 : decode cL_isTree 270 = .ok (.invokevirtual 37, 3) := by decide +kernel
theorem dL_isTree_273 : decode cL_isTree 273 = .ok (.iload 11, 2) := by decide +kernel
theorem dL_isTree_275 : decode cL_isTree 275 = .ok (.if_icmp .ne 7, 3) := by decide +kernel
theorem dL_isTree_278 : decode cL_isTree 278 = .ok (.iconst 1, 1) := by decide +kernel
theorem dL_isTree_279 : decode cL_isTree 279 = .ok (.goto 4, 3) := by decide +kernel
theorem dL_isTree_282 : decode cL_isTree 282 = .ok (.iconst 0, 1) := by decide +kernel
theorem dL_isTree_283 : decode cL_isTree 283 = .ok (.istore 4, 2) := by decide +kernel
theorem dL_isTree_285 : decode cL_isTree 285 = .ok (.iinc 10 1, 3) := by decide +kernel
theorem dL_isTree_288 : decode cL_isTree 288 = .ok (.goto (-146), 3) := by decide +kernel
theorem dL_isTree_291 : decode cL_isTree 291 = .ok (.iload 7, 2) := by decide +kernel
theorem dL_isTree_293 : decode cL_isTree 293 = .ok (.istore 10, 2) := by decide +kernel
theorem dL_isTree_295 : decode cL_isTree 295 = .ok (.iload 10, 2) := by decide +kernel
theorem dL_isTree_297 : decode cL_isTree 297 = .ok (.iload 7, 2) := by decide +kernel
theorem dL_isTree_299 : decode cL_isTree 299 = .ok (.iload 9, 2) := by decide +kernel
theorem dL_isTree_301 : decode cL_isTree 301 = .ok (.iadd, 1) := by decide +kernel
theorem dL_isTree_302 : decode cL_isTree 302 = .ok (.if_icmp .ge 47, 3) := by decide +kernel
theorem dL_isTree_305 : decode cL_isTree 305 = .ok (.iload 10, 2) := by decide +kernel
theorem dL_isTree_307 : decode cL_isTree 307 = .ok (.iload_n 2, 1) := by decide +kernel
theorem dL_isTree_308 : decode cL_isTree 308 = .ok (.if_icmp .ge 41, 3) := by decide +kernel
theorem dL_isTree_311 : decode cL_isTree 311 = .ok (.iload 5, 2) := by decide +kernel
theorem dL_isTree_313 : decode cL_isTree 313 = .ok (.ifCond .ne 36, 3) := by decide +kernel
theorem dL_isTree_316 : decode cL_isTree 316 = .ok (.iload 4, 2) := by decide +kernel
theorem dL_isTree_318 : decode cL_isTree 318 = .ok (.ifCond .eq 31, 3) := by decide +kernel
theorem dL_isTree_321 : decode cL_isTree 321 = .ok (.aload_n 0, 1) := by decide +kernel
theorem dL_isTree_322 : decode cL_isTree 322 = .ok (.aload_n 0, 1) := by decide +kernel
theorem dL_isTree_323 : decode cL_isTree 323 = .ok (.iload 10, 2) := by decide +kernel
theorem dL_isTree_325 : decode cL_isTree 325 = .ok (.invokevirtual 44, 3) := by decide +kernel
theorem dL_isTree_328 : decode cL_isTree 328 = .ok (.invokevirtual 41, 3) := by decide +kernel
theorem dL_isTree_331 : decode cL_isTree 331 = .ok (.iload 8, 2) := by decide +kernel
theorem dL_isTree_333 : decode cL_isTree 333 = .ok (.if_icmp .ne 7, 3) := by decide +kernel
theorem dL_isTree_336 : decode cL_isTree 336 = .ok (.iconst 1, 1) := by decide +kernel
theorem dL_isTree_337 : decode cL_isTree 337 = .ok (.goto 4, 3) := by decide +kernel
theorem dL_isTree_340 : decode cL_isTree 340 = .ok (.iconst 0, 1) := by decide +kernel
theorem dL_isTree_341 : decode cL_isTree 341 = .ok (.istore 4, 2) := by decide +kernel
theorem dL_isTree_343 : decode cL_isTree 343 = .ok (.iinc 10 1, 3) := by decide +kernel
theorem dL_isTree_346 : decode cL_isTree 346 = .ok (.goto (-51), 3) := by decide +kernel
theorem dL_isTree_349 : decode cL_isTree 349 = .ok (.iload 7, 2) := by decide +kernel
theorem dL_isTree_351 : decode cL_isTree 351 = .ok (.iload 9, 2) := by decide +kernel
theorem dL_isTree_353 : decode cL_isTree 353 = .ok (.iadd, 1) := by decide +kernel
theorem dL_isTree_354 : decode cL_isTree 354 = .ok (.istore 7, 2) := by decide +kernel
theorem dL_isTree_356 : decode cL_isTree 356 = .ok (.iinc 8 1, 3) := by decide +kernel
theorem dL_isTree_359 : decode cL_isTree 359 = .ok (.goto (-260), 3) := by decide +kernel
theorem dL_isTree_362 : decode cL_isTree 362 = .ok (.iload 4, 2) := by decide +kernel
theorem dL_isTree_364 : decode cL_isTree 364 = .ok (.ifCond .eq 42, 3) := by decide +kernel
theorem dL_isTree_367 : decode cL_isTree 367 = .ok (.iload 7, 2) := by decide +kernel
theorem dL_isTree_369 : decode cL_isTree 369 = .ok (.iload_n 2, 1) := by decide +kernel
theorem dL_isTree_370 : decode cL_isTree 370 = .ok (.if_icmp .ne 36, 3) := by decide +kernel
theorem dL_isTree_373 : decode cL_isTree 373 = .ok (.aload_n 0, 1) := by decide +kernel
theorem dL_isTree_374 : decode cL_isTree 374 = .ok (.iconst 1, 1) := by decide +kernel
theorem dL_isTree_375 : decode cL_isTree 375 = .ok (.iload 5, 2) := by decide +kernel
theorem dL_isTree_377 : decode cL_isTree 377 = .ok (.iload 6, 2) := by decide +kernel
theorem dL_isTree_379 : decode cL_isTree 379 = .ok (.iconst 0, 1) := by decide +kernel
theorem dL_isTree_380 : decode cL_isTree 380 = .ok (.invokestatic 78, 3) := by decide +kernel
theorem dL_isTree_383 : decode cL_isTree 383 = .ok (.bipush (-30), 2) := by decide +kernel
theorem dL_isTree_385 : decode cL_isTree 385 = .ok (.if_icmp .ne 21, 3) := by decide +kernel
theorem dL_isTree_388 : decode cL_isTree 388 = .ok (.aload_n 0, 1) := by decide +kernel
theorem dL_isTree_389 : decode cL_isTree 389 = .ok (.iconst 2, 1) := by decide +kernel
theorem dL_isTree_390 : decode cL_isTree 390 = .ok (.iload 5, 2) := by decide +kernel
theorem dL_isTree_392 : decode cL_isTree 392 = .ok (.iconst 0, 1) := by decide +kernel
theorem dL_isTree_393 : decode cL_isTree 393 = .ok (.iconst 4, 1) := by decide +kernel
theorem dL_isTree_394 : decode cL_isTree 394 = .ok (.invokestatic 78, 3) := by decide +kernel
theorem dL_isTree_397 : decode cL_isTree 397 = .ok (.bipush (-20), 2) := by decide +kernel
theorem dL_isTree_399 : decode cL_isTree 399 = .ok (.if_icmp .ne 7, 3) := by decide +kernel
theorem dL_isTree_402 : decode cL_isTree 402 = .ok (.iconst 1, 1) := by decide +kernel
theorem dL_isTree_403 : decode cL_isTree 403 = .ok (.goto 4, 3) := by decide +kernel
theorem dL_isTree_406 : decode cL_isTree 406 = .ok (.iconst 0, 1) := by decide +kernel
theorem dL_isTree_407 : decode cL_isTree 407 = .ok (.istore 4, 2) := by decide +kernel
theorem dL_isTree_409 : decode cL_isTree 409 = .ok (.iload 6, 2) := by decide +kernel
theorem dL_isTree_411 : decode cL_isTree 411 = .ok (.istore_n 2, 1) := by decide +kernel
theorem dL_isTree_412 : decode cL_isTree 412 = .ok (.iinc 5 1, 3) := by decide +kernel
theorem dL_isTree_415 : decode cL_isTree 415 = .ok (.goto (-341), 3) := by decide +kernel
theorem dL_isTree_418 : decode cL_isTree 418 = .ok (.aload_n 0, 1) := by decide +kernel
theorem dL_isTree_419 : decode cL_isTree 419 = .ok (.invokestatic 87, 3) := by decide +kernel
theorem dL_isTree_422 : decode cL_isTree 422 = .ok (.fstore 5, 2) := by decide +kernel
theorem dL_isTree_424 : decode cL_isTree 424 = .ok (.iload 4, 2) := by decide +kernel
theorem dL_isTree_426 : decode cL_isTree 426 = .ok (.ifCond .eq 65, 3) := by decide +kernel
theorem dL_isTree_429 : decode cL_isTree 429 = .ok (.iload_n 3, 1) := by decide +kernel
theorem dL_isTree_430 : decode cL_isTree 430 = .ok (.ifCond .eq 25, 3) := by decide +kernel
theorem dL_isTree_433 : decode cL_isTree 433 = .ok (.iload_n 2, 1) := by decide +kernel
theorem dL_isTree_434 : decode cL_isTree 434 = .ok (.iconst 1, 1) := by decide +kernel
theorem dL_isTree_435 : decode cL_isTree 435 = .ok (.if_icmp .ne 56, 3) := by decide +kernel
theorem dL_isTree_438 : decode cL_isTree 438 = .ok (.iload_n 3, 1) := by decide +kernel
theorem dL_isTree_439 : decode cL_isTree 439 = .ok (.iconst 1, 1) := by decide +kernel
theorem dL_isTree_440 : decode cL_isTree 440 = .ok (.if_icmp .eq 15, 3) := by decide +kernel
theorem dL_isTree_443 : decode cL_isTree 443 = .ok (.aload_n 0, 1) := by decide +kernel
theorem dL_isTree_444 : decode cL_isTree 444 = .ok (.iload_n 3, 1) := by decide +kernel
theorem dL_isTree_445 : decode cL_isTree 445 = .ok (.iconst 1, 1) := by decide +kernel
theorem dL_isTree_446 : decode cL_isTree 446 = .ok (.isub, 1) := by decide +kernel
theorem dL_isTree_447 : decode cL_isTree 447 = .ok (.iconst 0, 1) := by decide +kernel
theorem dL_isTree_448 : decode cL_isTree 448 = .ok (.invokevirtual 34, 3) := by decide +kernel
theorem dL_isTree_451 : decode cL_isTree 451 = .ok (.iconst 1, 1) := by decide +kernel
theorem dL_isTree_452 : decode cL_isTree 452 = .ok (.if_icmp .le 39, 3) := by decide +kernel
theorem dL_isTree_455 : decode cL_isTree 455 = .ok (.iload_n 3, 1) := by decide +kernel
theorem dL_isTree_456 : decode cL_isTree 456 = .ok (.ifCond .ne 14, 3) := by decide +kernel
theorem dL_isTree_459 : decode cL_isTree 459 = .ok (.fload 5, 2) := by decide +kernel
theorem dL_isTree_461 : decode cL_isTree 461 = .ok (.ldc 73, 2) := by decide +kernel
theorem dL_isTree_463 : decode cL_isTree 463 = .ok (.fcmp .l, 1) := by decide +kernel
theorem dL_isTree_464 : decode cL_isTree 464 = .ok (.ifCond .ne 27, 3) := by decide +kernel
theorem dL_isTree_467 : decode cL_isTree 467 = .ok (.goto 20, 3) := by decide +kernel
theorem dL_isTree_470 : decode cL_isTree 470 = .ok (.fload 5, 2) := by decide +kernel
theorem dL_isTree_472 : decode cL_isTree 472 = .ok (.fconst 0, 1) := by decide +kernel
theorem dL_isTree_473 : decode cL_isTree 473 = .ok (.fcmp .l, 1) := by decide +kernel
theorem dL_isTree_474 : decode cL_isTree 474 = .ok (.ifCond .le 17, 3) := by decide +kernel
theorem dL_isTree_477 : decode cL_isTree 477 = .ok (.fload 5, 2) := by decide +kernel
theorem dL_isTree_479 : decode cL_isTree 479 = .ok (.aload_n 1, 1) := by decide +kernel
theorem dL_isTree_480 : decode cL_isTree 480 = .ok (.iconst 1, 1) := by decide +kernel
theorem dL_isTree_481 : decode cL_isTree 481 = .ok (.iaload, 1) := by decide +kernel
theorem dL_isTree_482 : decode cL_isTree 482 = .ok (.i2f, 1) := by decide +kernel
theorem dL_isTree_483 : decode cL_isTree 483 = .ok (.fcmp .g, 1) := by decide +kernel
theorem dL_isTree_484 : decode cL_isTree 484 = .ok (.ifCond .gt 7, 3) := by decide +kernel
theorem dL_isTree_487 : decode cL_isTree 487 = .ok (.iconst 1, 1) := by decide +kernel
theorem dL_isTree_488 : decode cL_isTree 488 = .ok (.goto 4, 3) := by decide +kernel
theorem dL_isTree_491 : decode cL_isTree 491 = .ok (.iconst 0, 1) := by decide +kernel
theorem dL_isTree_492 : decode cL_isTree 492 = .ok (.ireturn, 1) := by decide +kernel
set_option maxRecDepth 20000 in
theorem ggL_arePairs_L_pair : GoodIn wsL_arePairs wsL_pair := goodIn_ca (goodIn_r _ [44, 6, 45, 46, 47, 10, 48, 22, 23, 12, 49, 50, 51, 27, 52, 53, 54, 55, 56, 57, 58, 25, 26, 28, 29, 59, 31, 32, 33, 34, 60, 61, 37, 62, 63, 36, 38, 68, 69, 70, 71, 72, 73, 74, 75, 76] (by decide +kernel) (by decide +kernel)) (goodIn_sub (fun _ h => List.mem_cons_of_mem _ (List.mem_append_right _ h)) (by decide +kernel))
set_option maxRecDepth 20000 in
theorem gL_arePairs_L_pair : GoodIn wsL_arePairs (va_wsS RL 110 yL_pair wsL_pair) := goodIn_app (goodIn_of _ (by decide +kernel)) ggL_arePairs_L_pair
set_option maxRecDepth 20000 in
theorem ggL_arePairs_X4_pairs : GoodIn wsL_arePairs wsX4_pairs := goodIn_r _ [67, 12, 49, 50, 51, 27, 52, 53, 54, 55, 56, 57, 58, 25, 26, 28, 29, 59, 31, 32, 33, 34, 60, 61, 37, 62, 63, 36, 38, 68, 69, 70, 71, 72, 73, 74, 75, 76] (by decide +kernel) (by decide +kernel)
set_option maxRecDepth 20000 in
theorem gL_arePairs_X4_pairs : GoodIn wsL_arePairs (wsV RL 113 RX4 yX4_pairs wsX4_pairs) := goodIn_app (goodIn_of _ (by decide +kernel)) ggL_arePairs_X4_pairs
theorem dL_arePairs_0 : decode cL_arePairs 0 = .ok (.iconst 0, 1) := by decide +kernel
theorem dL_arePairs_1 : decode cL_arePairs 1 = .ok (.istore_n 2, 1) := by decide +kernel
theorem dL_arePairs_2 : decode cL_arePairs 2 = .ok (.iconst 1, 1) := by decide +kernel
theorem dL_arePairs_3 : decode cL_arePairs 3 = .ok (.istore_n 3, 1) := by decide +kernel
theorem dL_arePairs_4 : decode cL_arePairs 4 = .ok (.iconst 0, 1) := by decide +kernel
theorem dL_arePairs_5 : decode cL_arePairs 5 = .ok (.istore 4, 2) := by decide +kernel
theorem dL_arePairs_7 : decode cL_arePairs 7 = .ok (.iload 4, 2) := by decide +kernel
theorem dL_arePairs_9 : decode cL_arePairs 9 = .ok (.aload_n 1, 1) := by decide +kernel
theorem dL_arePairs_10 : decode cL_arePairs 10 = .ok (.iconst 0, 1) := by decide +kernel
theorem dL_arePairs_11 : decode cL_arePairs 11 = .ok (.iaload, 1) := by decide +kernel
theorem dL_arePairs_12 : decode cL_arePairs 12 = .ok (.if_icmp .ge 119, 3) := by decide +kernel
theorem dL_arePairs_15 : decode cL_arePairs 15 = .ok (.iload_n 3, 1) := by decide +kernel
theorem dL_arePairs_16 : decode cL_arePairs 16 = .ok (.ifCond .eq 115, 3) := by decide +kernel
theorem dL_arePairs_19 : decode cL_arePairs 19 = .ok (.iload 4, 2) := by decide +kernel
theorem dL_arePairs_21 : decode cL_arePairs 21 = .ok (.iconst 1, 1) := by decide +kernel
theorem dL_arePairs_22 : decode cL_arePairs 22 = .ok (.iadd, 1) := by decide +kernel
theorem dL_arePairs_23 : decode cL_arePairs 23 = .ok (.istore 5, 2) := by decide +kernel
theorem dL_arePairs_25 : decode cL_arePairs 25 = .ok (.iload 5, 2) := by decide +kernel
theorem dL_arePairs_27 : decode cL_arePairs 27 = .ok (.aload_n 1, 1) := by decide +kernel
theorem dL_arePairs_28 : decode cL_arePairs 28 = .ok (.iconst 0, 1) := by decide +kernel
theorem dL_arePairs_29 : decode cL_arePairs 29 = .ok (.iaload, 1) := by decide +kernel
theorem dL_arePairs_30 : decode cL_arePairs 30 = .ok (.if_icmp .ge 95, 3) := by decide +kernel
theorem dL_arePairs_33 : decode cL_arePairs 33 = .ok (.iload_n 3, 1) := by decide +kernel
theorem dL_arePairs_34 : decode cL_arePairs 34 = .ok (.ifCond .eq 91, 3) := by decide +kernel
theorem dL_arePairs_37 : decode cL_arePairs 37 = .ok (.aload_n 0, 1) := by decide +kernel
theorem dL_arePairs_38 : decode cL_arePairs 38 = .ok (.iload 4, 2) := by decide +kernel
theorem dL_arePairs_40 : decode cL_arePairs 40 = .ok (.iconst 0, 1) := by decide +kernel
theorem dL_arePairs_41 : decode cL_arePairs 41 = .ok (.invokestatic 106, 3) := by decide +kernel
theorem dL_arePairs_44 : decode cL_arePairs 44 = .ok (.ifCond .lt 75, 3) := by decide +kernel
theorem dL_arePairs_47 : decode cL_arePairs 47 = .ok (.aload_n 0, 1) := by decide +kernel
theorem dL_arePairs_48 : decode cL_arePairs 48 = .ok (.iload 5, 2) := by decide +kernel
theorem dL_arePairs_50 : decode cL_arePairs 50 = .ok (.iconst 0, 1) := by decide +kernel
theorem dL_arePairs_51 : decode cL_arePairs 51 = .ok (.invokestatic 106, 3) := by decide +kernel
theorem dL_arePairs_54 : decode cL_arePairs 54 = .ok (.ifCond .lt 65, 3) := by decide +kernel
theorem dL_arePairs_57 : decode cL_arePairs 57 = .ok (.aload_n 0, 1) := by decide +kernel
theorem dL_arePairs_58 : decode cL_arePairs 58 = .ok (.iload 4, 2) := by decide +kernel
theorem dL_arePairs_60 : decode cL_arePairs 60 = .ok (.aload_n 0, 1) := by decide +kernel
theorem dL_arePairs_61 : decode cL_arePairs 61 = .ok (.iload 5, 2) := by decide +kernel
theorem dL_arePairs_63 : decode cL_arePairs 63 = .ok (.iconst 0, 1) := by decide +kernel
theorem dL_arePairs_64 : decode cL_arePairs 64 = .ok (.invokevirtual 28, 3) := by decide +kernel
theorem dL_arePairs_67 : decode cL_arePairs 67 = .ok (.aload_n 0, 1) := by decide +kernel
theorem dL_arePairs_68 : decode cL_arePairs 68 = .ok (.iload 5, 2) := by decide +kernel
theorem dL_arePairs_70 : decode cL_arePairs 70 = .ok (.iconst 1, 1) := by decide +kernel
theorem dL_arePairs_71 : decode cL_arePairs 71 = .ok (.invokevirtual 28, 3) := by decide +kernel
theorem dL_arePairs_74 : decode cL_arePairs 74 = .ok (.aload_n 0, 1) := by decide +kernel
theorem dL_arePairs_75 : decode cL_arePairs 75 = .ok (.iload 5, 2) := by decide +kernel
theorem dL_arePairs_77 : decode cL_arePairs 77 = .ok (.iconst 2, 1) := by decide +kernel
theorem dL_arePairs_78 : decode cL_arePairs 78 = .ok (.invokevirtual 28, 3) := by decide +kernel
theorem dL_arePairs_81 : decode cL_arePairs 81 = .ok (.aload_n 0, 1) := by decide +kernel
theorem dL_arePairs_82 : decode cL_arePairs 82 = .ok (.iload 5, 2) := by decide +kernel
theorem dL_arePairs_84 : decode cL_arePairs 84 = .ok (.iconst 3, 1) := by decide +kernel
theorem dL_arePairs_85 : decode cL_arePairs 85 = .ok (.invokevirtual 28, 3) := by decide +kernel
theorem dL_arePairs_88 : decode cL_arePairs 88 = .ok (.invokestatic 98, 3) := by decide +kernel
theorem dL_arePairs_91 : decode cL_arePairs 91 = .ok (.ifCond .eq 28, 3) := by decide +kernel
theorem dL_arePairs_94 : decode cL_arePairs 94 = .ok (.aload_n 0, 1) := by decide +kernel
theorem dL_arePairs_95 : decode cL_arePairs 95 = .ok (.iload_n 2, 1) := by decide +kernel
theorem dL_arePairs_96 : decode cL_arePairs 96 = .ok (.invokestatic 110, 3) := by decide +kernel
theorem dL_arePairs_99 : decode cL_arePairs 99 = .ok (.bipush 100, 2) := by decide +kernel
theorem dL_arePairs_101 : decode cL_arePairs 101 = .ok (.iload 4, 2) := by decide +kernel
theorem dL_arePairs_103 : decode cL_arePairs 103 = .ok (.imul, 1) := by decide +kernel
theorem dL_arePairs_104 : decode cL_arePairs 104 = .ok (.iload 5, 2) := by decide +kernel
theorem dL_arePairs_106 : decode cL_arePairs 106 = .ok (.iadd, 1) := by decide +kernel
theorem dL_arePairs_107 : decode cL_arePairs 107 = .ok (.if_icmp .ne 7, 3) := by decide +kernel
theorem dL_arePairs_110 : decode cL_arePairs 110 = .ok (.iconst 1, 1) := by decide +kernel
theorem dL_arePairs_111 : decode cL_arePairs 111 = .ok (.goto 4, 3) := by decide +kernel
theorem dL_arePairs_114 : decode cL_arePairs 114 = .ok (.iconst 0, 1) := by decide +kernel
theorem dL_arePairs_115 : decode cL_arePairs 115 = .ok (.istore_n 3, 1) := by decide +kernel
theorem dL_arePairs_116 : decode cL_arePairs 116 = .ok (.iinc 2 1, 3) := by decide +kernel
theorem dL_arePairs_119 : decode cL_arePairs 119 = .ok (.iinc 5 1, 3) := by decide +kernel
theorem dL_arePairs_122 : decode cL_arePairs 122 = .ok (.goto (-97), 3) := by decide +kernel
theorem dL_arePairs_125 : decode cL_arePairs 125 = .ok (.iinc 4 1, 3) := by decide +kernel
theorem dL_arePairs_128 : decode cL_arePairs 128 = .ok (.goto (-121), 3) := by decide +kernel
theorem dL_arePairs_131 : decode cL_arePairs 131 = .ok (.iload_n 3, 1) := by decide +kernel
theorem dL_arePairs_132 : decode cL_arePairs 132 = .ok (.ifCond .eq 35, 3) := by decide +kernel
theorem dL_arePairs_135 : decode cL_arePairs 135 = .ok (.aload_n 0, 1) := by decide +kernel
theorem dL_arePairs_136 : decode cL_arePairs 136 = .ok (.invokevirtual 113, 3) := by decide +kernel
theorem dL_arePairs_139 : decode cL_arePairs 139 = .ok (.iload_n 2, 1) := by decide +kernel
theorem dL_arePairs_140 : decode cL_arePairs 140 = .ok (.if_icmp .ne 27, 3) := by decide +kernel
theorem dL_arePairs_143 : decode cL_arePairs 143 = .ok (.aload_n 0, 1) := by decide +kernel
theorem dL_arePairs_144 : decode cL_arePairs 144 = .ok (.iload_n 2, 1) := by decide +kernel
theorem dL_arePairs_145 : decode cL_arePairs 145 = .ok (.invokestatic 110, 3) := by decide +kernel
theorem dL_arePairs_148 : decode cL_arePairs 148 = .ok (.bipush (-30), 2) := by decide +kernel
theorem dL_arePairs_150 : decode cL_arePairs 150 = .ok (.if_icmp .ne 17, 3) := by decide +kernel
theorem dL_arePairs_153 : decode cL_arePairs 153 = .ok (.aload_n 0, 1) := by decide +kernel
theorem dL_arePairs_154 : decode cL_arePairs 154 = .ok (.iconst (-1), 1) := by decide +kernel
theorem dL_arePairs_155 : decode cL_arePairs 155 = .ok (.invokestatic 110, 3) := by decide +kernel
theorem dL_arePairs_158 : decode cL_arePairs 158 = .ok (.bipush (-30), 2) := by decide +kernel
theorem dL_arePairs_160 : decode cL_arePairs 160 = .ok (.if_icmp .ne 7, 3) := by decide +kernel
theorem dL_arePairs_163 : decode cL_arePairs 163 = .ok (.iconst 1, 1) := by decide +kernel
theorem dL_arePairs_164 : decode cL_arePairs 164 = .ok (.goto 4, 3) := by decide +kernel
theorem dL_arePairs_167 : decode cL_arePairs 167 = .ok (.iconst 0, 1) := by decide +kernel
theorem dL_arePairs_168 : decode cL_arePairs 168 = .ok (.ireturn, 1) := by decide +kernel
set_option maxRecDepth 20000 in
theorem ggL_areAll_L_isOrder : GoodIn wsL_areAll wsL_isOrder := goodIn_ca (goodIn_ca (goodIn_r _ [4, 5, 6, 7, 8, 9, 10, 11, 12, 13, 14, 15, 16, 17, 18, 3, 19, 20, 21, 22, 23, 24, 25, 26, 27, 28, 29, 30, 31, 32, 33, 34, 35, 36, 37, 38, 39, 40, 41, 42, 43, 44, 45, 46, 47, 48, 49, 50, 51, 52, 53, 54, 55, 56, 57, 58, 59, 60, 61, 62, 63, 64, 65, 66, 67, 68, 69, 70, 71, 72, 73, 74, 75, 76, 77, 78, 79, 80, 81, 82, 83, 84, 85, 86, 87, 88, 89, 90, 91, 92, 93, 94, 95, 96, 97, 98, 99, 100, 101, 102, 103, 104, 105, 106, 107, 108, 109, 110, 111, 112, 113, 114, 115, 116, 117, 118, 119, 120, 121, 122, 123, 124, 125, 126, 127, 128, 129, 130, 131, 132, 133, 134, 135, 136, 137, 138, 139, 140, 141, 142, 143, 144, 145, 146, 147, 148, 149, 150, 151, 152, 153, 154, 155, 156, 157, 158, 159, 160, 161, 162, 163, 164, 165, 166, 167, 168, 169, 195, 196, 197, 198, 199, 200, 201, 202, 203, 204, 205, 206] (by decide +kernel) (by decide +kernel)) (goodIn_sub (fun _ h => List.mem_cons_of_mem _ (List.mem_append_left _ (List.mem_append_left _ (List.mem_append_right _ h)))) (by decide +kernel))) (goodIn_sub (fun _ h => List.mem_cons_of_mem _ (List.mem_append_left _ (List.mem_append_right _ h))) (by decide +kernel))
set_option maxRecDepth 20000 in
theorem gL_areAll_L_isOrder : GoodIn wsL_areAll (va_wsS RL 116 yL_isOrder wsL_isOrder) := goodIn_app (goodIn_of _ (by decide +kernel)) ggL_areAll_L_isOrder
set_option maxRecDepth 20000 in
theorem ggL_areAll_L_isTree : GoodIn wsL_areAll wsL_isTree := goodIn_ca (goodIn_ca (goodIn_ca (goodIn_r _ [172, 173, 174, 175, 176, 8, 177, 28, 178, 179, 180, 32, 181, 34, 17, 18, 3, 19, 20, 21, 22, 23, 24, 25, 26, 27, 29, 30, 31, 33, 35, 36, 37, 38, 39, 40, 41, 42, 43, 44, 45, 46, 47, 48, 49, 50, 51, 52, 53, 54, 55, 56, 57, 58, 59, 60, 61, 62, 63, 64, 65, 66, 67, 68, 69, 70, 10, 71, 72, 73, 74, 75, 76, 77, 78, 79, 80, 81, 82, 83, 14, 84, 85, 86, 87, 88, 89, 16, 90, 91, 92, 93, 94, 95, 96, 97, 98, 99, 100, 101, 102, 103, 104, 105, 106, 107, 108, 109, 110, 111, 112, 113, 114, 115, 116, 117, 118, 119, 120, 121, 122, 123, 124, 125, 126, 127, 128, 129, 130, 131, 132, 133, 134, 135, 136, 137, 11, 12, 13, 15, 138, 139, 140, 141, 142, 143, 144, 145, 146, 147, 148, 149, 150, 151, 152, 182, 183, 184, 185, 186, 187, 188, 189, 190, 191, 192, 193, 194, 195, 196, 197, 204, 205, 206, 198, 199, 200, 201, 202, 203] (by decide +kernel) (by decide +kernel)) (goodIn_sub (fun _ h => List.mem_cons_of_mem _ (List.mem_append_left _ (List.mem_append_left _ (List.mem_append_right _ h)))) (by decide +kernel))) (goodIn_sub (fun _ h => List.mem_cons_of_mem _ (List.mem_append_left _ (List.mem_append_right _ h))) (by decide +kernel))) (goodIn_sub (fun _ h => List.mem_cons_of_mem _ (List.mem_append_right _ h)) (by decide +kernel))
set_option maxRecDepth 20000 in
theorem gL_areAll_L_isTree : GoodIn wsL_areAll (va_wsS RL 120 yL_isTree wsL_isTree) := goodIn_app (goodIn_of _ (by decide +kernel)) ggL_areAll_L_isTree
theorem dL_areAll_0 : decode cL_areAll 0 = .ok (.aload_n 0, 1) := by decide +kernel
theorem dL_areAll_1 : decode cL_areAll 1 = .ok (.aload_n 1, 1) := by decide +kernel
theorem dL_areAll_2 : decode cL_areAll 2 = .ok (.invokestatic 116, 3) := by decide +kernel
theorem dL_areAll_5 : decode cL_areAll 5 = .ok (.ifCond .eq 15, 3) := by decide +kernel
theorem dL_areAll_8 : decode cL_areAll 8 = .ok (.aload_n 0, 1) := by decide +kernel
theorem dL_areAll_9 : decode cL_areAll 9 = .ok (.aload_n 1, 1) := by decide +kernel
theorem dL_areAll_10 : decode cL_areAll 10 = .ok (.invokestatic 120, 3) := by decide +kernel
theorem dL_areAll_13 : decode cL_areAll 13 = .ok (.ifCond .eq 7, 3) := by decide +kernel
theorem dL_areAll_16 : decode cL_areAll 16 = .ok (.iconst 1, 1) := by decide +kernel
theorem dL_areAll_17 : decode cL_areAll 17 = .ok (.goto 4, 3) := by decide +kernel
theorem dL_areAll_20 : decode cL_areAll 20 = .ok (.iconst 0, 1) := by decide +kernel
theorem dL_areAll_21 : decode cL_areAll 21 = .ok (.ireturn, 1) := by decide +kernel
set_option maxRecDepth 20000 in
theorem ggL_isDone_L_part : GoodIn wsL_isDone wsL_part := goodIn_r _ [5, 6] (by decide +kernel) (by decide +kernel)
set_option maxRecDepth 20000 in
theorem gL_isDone_L_part : GoodIn wsL_isDone (va_wsS RL 129 yL_part wsL_part) := goodIn_app (goodIn_of _ (by decide +kernel)) ggL_isDone_L_part
set_option maxRecDepth 20000 in
theorem ggL_isDone_L_tree : GoodIn wsL_isDone wsL_tree := goodIn_ca (goodIn_ca (goodIn_r _ [224, 13, 167, 225, 226, 227, 18, 228, 179, 180, 23, 229, 125, 126, 87, 127, 89, 230, 113, 114, 115, 98, 231, 232, 233, 234, 235, 236, 237, 238, 239, 105, 106, 107, 240, 117, 118, 119, 103, 104, 241, 242, 243, 244, 172, 173, 174, 27, 28, 245, 246, 247, 248, 22, 249, 250, 251, 252, 140, 141, 142, 143, 112, 116, 253, 254, 255, 35, 256, 67, 68, 69, 70, 71, 38, 257, 186, 187, 188, 47, 258, 259, 41, 260, 261, 133, 134, 135, 262, 210, 211, 53, 54, 55, 263, 40, 42, 189, 264, 265, 266, 267, 175, 176, 177, 178, 181, 182, 183, 184, 49, 80, 81, 82, 83, 268, 109, 110, 111, 269, 270, 271, 272, 160, 161, 162, 163, 273, 274, 275, 276, 277, 278, 73, 74, 75, 48, 389, 390, 391, 398, 399, 400, 392, 393, 394, 395, 396, 397] (by decide +kernel) (by decide +kernel)) (goodIn_sub (fun _ h => List.mem_cons_of_mem _ (List.mem_append_right _ h)) (by decide +kernel))) (goodIn_sub (fun _ h => List.mem_cons_of_mem _ (List.mem_append_left _ (List.mem_append_right _ h))) (by decide +kernel))
set_option maxRecDepth 20000 in
theorem gL_isDone_L_tree : GoodIn wsL_isDone (va_wsS RL 78 yL_tree wsL_tree) := goodIn_app (goodIn_of _ (by decide +kernel)) ggL_isDone_L_tree
set_option maxRecDepth 20000 in
theorem ggL_isDone_X4_levels : GoodIn wsL_isDone wsX4_levels := goodIn_r _ [290, 23, 291, 292, 293, 87, 294, 89, 389, 390, 391, 398, 399, 400] (by decide +kernel) (by decide +kernel)
set_option maxRecDepth 20000 in
theorem gL_isDone_X4_levels : GoodIn wsL_isDone (wsV RL 84 RX4 yX4_levels wsX4_levels) := goodIn_app (goodIn_of _ (by decide +kernel)) ggL_isDone_X4_levels
set_option maxRecDepth 20000 in
theorem ggL_isDone_X4_nodes : GoodIn wsL_isDone wsX4_nodes := goodIn_ca (goodIn_r _ [228, 179, 180, 23, 229, 125, 126, 87, 127, 89, 230, 113, 114, 115, 98, 389, 390, 391, 398, 399, 400] (by decide +kernel) (by decide +kernel)) (goodIn_sub (fun _ h => List.mem_cons_of_mem _ (List.mem_append_right _ h)) (by decide +kernel))
set_option maxRecDepth 20000 in
theorem gL_isDone_X4_nodes : GoodIn wsL_isDone (wsV RL 31 RX4 yX4_nodes wsX4_nodes) := goodIn_app (goodIn_of _ (by decide +kernel)) ggL_isDone_X4_nodes
set_option maxRecDepth 20000 in
theorem ggL_isDone_L_arePairs : GoodIn wsL_isDone wsL_arePairs := goodIn_ca (goodIn_ca (goodIn_r _ [356, 164, 165, 4, 166, 13, 167, 168, 169, 170, 18, 171, 22, 172, 173, 174, 27, 28, 175, 176, 177, 178, 179, 180, 181, 182, 183, 35, 184, 49, 185, 186, 187, 188, 47, 189, 54, 41, 55, 298, 299, 300, 357, 358, 359, 360, 361, 362, 363, 364, 365, 366, 367, 37, 368, 369, 370, 371, 221, 257, 372, 309, 310, 53, 373, 374, 375, 376, 389, 390, 391, 392, 393, 394, 395, 396, 397] (by decide +kernel) (by decide +kernel)) (goodIn_sub (fun _ h => List.mem_cons_of_mem _ (List.mem_append_left _ (List.mem_append_right _ h))) (by decide +kernel))) (goodIn_sub (fun _ h => List.mem_cons_of_mem _ (List.mem_append_right _ h)) (by decide +kernel))
set_option maxRecDepth 20000 in
theorem gL_isDone_L_arePairs : GoodIn wsL_isDone (va_wsS RL 152 yL_arePairs wsL_arePairs) := goodIn_app (goodIn_of _ (by decide +kernel)) ggL_isDone_L_arePairs
theorem dL_isDone_0 : decode cL_isDone 0 = .ok (.aload_n 1, 1) := by decide +kernel
theorem dL_isDone_1 : decode cL_isDone 1 = .ok (.iload_n 2, 1) := by decide +kernel
theorem dL_isDone_2 : decode cL_isDone 2 = .ok (.bipush 20, 2) := by decide +kernel
theorem dL_isDone_4 : decode cL_isDone 4 = .ok (.invokestatic 129, 3) := by decide +kernel
theorem dL_isDone_7 : decode cL_isDone 7 = .ok (.istore 4, 2) := by decide +kernel
theorem dL_isDone_9 : decode cL_isDone 9 = .ok (.aload_n 1, 1) := by decide +kernel
theorem dL_isDone_10 : decode cL_isDone 10 = .ok (.iload_n 2, 1) := by decide +kernel
theorem dL_isDone_11 : decode cL_isDone 11 = .ok (.iconst 1, 1) := by decide +kernel
theorem dL_isDone_12 : decode cL_isDone 12 = .ok (.iadd, 1) := by decide +kernel
theorem dL_isDone_13 : decode cL_isDone 13 = .ok (.ldc 133, 2) := by decide +kernel
theorem dL_isDone_15 : decode cL_isDone 15 = .ok (.invokestatic 129, 3) := by decide +kernel
theorem dL_isDone_18 : decode cL_isDone 18 = .ok (.istore 5, 2) := by decide +kernel
theorem dL_isDone_20 : decode cL_isDone 20 = .ok (.aload_n 1, 1) := by decide +kernel
theorem dL_isDone_21 : decode cL_isDone 21 = .ok (.iload_n 2, 1) := by decide +kernel
theorem dL_isDone_22 : decode cL_isDone 22 = .ok (.iconst 2, 1) := by decide +kernel
theorem dL_isDone_23 : decode cL_isDone 23 = .ok (.iadd, 1) := by decide +kernel
theorem dL_isDone_24 : decode cL_isDone 24 = .ok (.sipush 7000, 3) := by decide +kernel
theorem dL_isDone_27 : decode cL_isDone 27 = .ok (.invokestatic 129, 3) := by decide +kernel
theorem dL_isDone_30 : decode cL_isDone 30 = .ok (.istore 6, 2) := by decide +kernel
theorem dL_isDone_32 : decode cL_isDone 32 = .ok (.aload_n 1, 1) := by decide +kernel
theorem dL_isDone_33 : decode cL_isDone 33 = .ok (.iload_n 2, 1) := by decide +kernel
theorem dL_isDone_34 : decode cL_isDone 34 = .ok (.iconst 3, 1) := by decide +kernel
theorem dL_isDone_35 : decode cL_isDone 35 = .ok (.iadd, 1) := by decide +kernel
theorem dL_isDone_36 : decode cL_isDone 36 = .ok (.sipush 8000, 3) := by decide +kernel
theorem dL_isDone_39 : decode cL_isDone 39 = .ok (.invokestatic 129, 3) := by decide +kernel
theorem dL_isDone_42 : decode cL_isDone 42 = .ok (.istore 7, 2) := by decide +kernel
theorem dL_isDone_44 : decode cL_isDone 44 = .ok (.iload 4, 2) := by decide +kernel
theorem dL_isDone_46 : decode cL_isDone 46 = .ok (.bipush 9, 2) := by decide +kernel
theorem dL_isDone_48 : decode cL_isDone 48 = .ok (.if_icmp .ge 52, 3) := by decide +kernel
theorem dL_isDone_51 : decode cL_isDone 51 = .ok (.aload_n 0, 1) := by decide +kernel
theorem dL_isDone_52 : decode cL_isDone 52 = .ok (.aload_n 3, 1) := by decide +kernel
theorem dL_isDone_53 : decode cL_isDone 53 = .ok (.iload 5, 2) := by decide +kernel
theorem dL_isDone_55 : decode cL_isDone 55 = .ok (.iload 6, 2) := by decide +kernel
theorem dL_isDone_57 : decode cL_isDone 57 = .ok (.iload 7, 2) := by decide +kernel
theorem dL_isDone_59 : decode cL_isDone 59 = .ok (.invokestatic 134, 3) := by decide +kernel
theorem dL_isDone_62 : decode cL_isDone 62 = .ok (.ifCond .eq 36, 3) := by decide +kernel
theorem dL_isDone_65 : decode cL_isDone 65 = .ok (.iload 4, 2) := by decide +kernel
theorem dL_isDone_67 : decode cL_isDone 67 = .ok (.iconst 5, 1) := by decide +kernel
theorem dL_isDone_68 : decode cL_isDone 68 = .ok (.if_icmp .lt 26, 3) := by decide +kernel
theorem dL_isDone_71 : decode cL_isDone 71 = .ok (.aload_n 0, 1) := by decide +kernel
theorem dL_isDone_72 : decode cL_isDone 72 = .ok (.aload_n 3, 1) := by decide +kernel
theorem dL_isDone_73 : decode cL_isDone 73 = .ok (.iload 6, 2) := by decide +kernel
theorem dL_isDone_75 : decode cL_isDone 75 = .ok (.iconst 3, 1) := by decide +kernel
theorem dL_isDone_76 : decode cL_isDone 76 = .ok (.imul, 1) := by decide +kernel
theorem dL_isDone_77 : decode cL_isDone 77 = .ok (.iload 7, 2) := by decide +kernel
theorem dL_isDone_79 : decode cL_isDone 79 = .ok (.iadd, 1) := by decide +kernel
theorem dL_isDone_80 : decode cL_isDone 80 = .ok (.iload 5, 2) := by decide +kernel
theorem dL_isDone_82 : decode cL_isDone 82 = .ok (.sipush 7000, 3) := by decide +kernel
theorem dL_isDone_85 : decode cL_isDone 85 = .ok (.irem, 1) := by decide +kernel
theorem dL_isDone_86 : decode cL_isDone 86 = .ok (.iload 6, 2) := by decide +kernel
theorem dL_isDone_88 : decode cL_isDone 88 = .ok (.invokestatic 134, 3) := by decide +kernel
theorem dL_isDone_91 : decode cL_isDone 91 = .ok (.ifCond .eq 7, 3) := by decide +kernel
theorem dL_isDone_94 : decode cL_isDone 94 = .ok (.iconst 1, 1) := by decide +kernel
theorem dL_isDone_95 : decode cL_isDone 95 = .ok (.goto 4, 3) := by decide +kernel
theorem dL_isDone_98 : decode cL_isDone 98 = .ok (.iconst 0, 1) := by decide +kernel
theorem dL_isDone_99 : decode cL_isDone 99 = .ok (.ireturn, 1) := by decide +kernel
theorem dL_isDone_100 : decode cL_isDone 100 = .ok (.iload 4, 2) := by decide +kernel
theorem dL_isDone_102 : decode cL_isDone 102 = .ok (.bipush 13, 2) := by decide +kernel
theorem dL_isDone_104 : decode cL_isDone 104 = .ok (.if_icmp .ge 118, 3) := by decide +kernel
theorem dL_isDone_107 : decode cL_isDone 107 = .ok (.iload 5, 2) := by decide +kernel
theorem dL_isDone_109 : decode cL_isDone 109 = .ok (.aload_n 3, 1) := by decide +kernel
theorem dL_isDone_110 : decode cL_isDone 110 = .ok (.iconst 0, 1) := by decide +kernel
theorem dL_isDone_111 : decode cL_isDone 111 = .ok (.iaload, 1) := by decide +kernel
theorem dL_isDone_112 : decode cL_isDone 112 = .ok (.iconst 1, 1) := by decide +kernel
theorem dL_isDone_113 : decode cL_isDone 113 = .ok (.iadd, 1) := by decide +kernel
theorem dL_isDone_114 : decode cL_isDone 114 = .ok (.irem, 1) := by decide +kernel
theorem dL_isDone_115 : decode cL_isDone 115 = .ok (.istore 8, 2) := by decide +kernel
theorem dL_isDone_117 : decode cL_isDone 117 = .ok (.aload_n 0, 1) := by decide +kernel
theorem dL_isDone_118 : decode cL_isDone 118 = .ok (.iload 8, 2) := by decide +kernel
theorem dL_isDone_120 : decode cL_isDone 120 = .ok (.iconst 0, 1) := by decide +kernel
theorem dL_isDone_121 : decode cL_isDone 121 = .ok (.invokestatic 106, 3) := by decide +kernel
theorem dL_isDone_124 : decode cL_isDone 124 = .ok (.ifCond .lt 7, 3) := by decide +kernel
theorem dL_isDone_127 : decode cL_isDone 127 = .ok (.iconst 1, 1) := by decide +kernel
theorem dL_isDone_128 : decode cL_isDone 128 = .ok (.goto 4, 3) := by decide +kernel
theorem dL_isDone_131 : decode cL_isDone 131 = .ok (.iconst 0, 1) := by decide +kernel
theorem dL_isDone_132 : decode cL_isDone 132 = .ok (.istore 9, 2) := by decide +kernel
theorem dL_isDone_134 : decode cL_isDone 134 = .ok (.aload_n 0, 1) := by decide +kernel
theorem dL_isDone_135 : decode cL_isDone 135 = .ok (.iload 8, 2) := by decide +kernel
theorem dL_isDone_137 : decode cL_isDone 137 = .ok (.invokestatic 138, 3) := by decide +kernel
theorem dL_isDone_140 : decode cL_isDone 140 = .ok (.istore 10, 2) := by decide +kernel
theorem dL_isDone_142 : decode cL_isDone 142 = .ok (.aload_n 3, 1) := by decide +kernel
theorem dL_isDone_143 : decode cL_isDone 143 = .ok (.iconst 1, 1) := by decide +kernel
theorem dL_isDone_144 : decode cL_isDone 144 = .ok (.dup2, 1) := by decide +kernel
theorem dL_isDone_145 : decode cL_isDone 145 = .ok (.iaload, 1) := by decide +kernel
theorem dL_isDone_146 : decode cL_isDone 146 = .ok (.iload 9, 2) := by decide +kernel
theorem dL_isDone_148 : decode cL_isDone 148 = .ok (.ifCond .eq 7, 3) := by decide +kernel
theorem dL_isDone_151 : decode cL_isDone 151 = .ok (.iconst 1, 1) := by decide +kernel
theorem dL_isDone_152 : decode cL_isDone 152 = .ok (.goto 4, 3) := by decide +kernel
theorem dL_isDone_155 : decode cL_isDone 155 = .ok (.iconst 0, 1) := by decide +kernel
theorem dL_isDone_156 : decode cL_isDone 156 = .ok (.isub, 1) := by decide +kernel
theorem dL_isDone_157 : decode cL_isDone 157 = .ok (.iastore, 1) := by decide +kernel
theorem dL_isDone_158 : decode cL_isDone 158 = .ok (.iload 10, 2) := by decide +kernel
theorem dL_isDone_160 : decode cL_isDone 160 = .ok (.iload 9, 2) := by decide +kernel
theorem dL_isDone_162 : decode cL_isDone 162 = .ok (.ifCond .eq 9, 3) := by decide +kernel
theorem dL_isDone_165 : decode cL_isDone 165 = .ok (.aload_n 3, 1) := by decide +kernel
theorem dL_isDone_166 : decode cL_isDone 166 = .ok (.iconst 1, 1) := by decide +kernel
theorem dL_isDone_167 : decode cL_isDone 167 = .ok (.iaload, 1) := by decide +kernel
theorem dL_isDone_168 : decode cL_isDone 168 = .ok (.goto 5, 3) := by decide +kernel
theorem dL_isDone_171 : decode cL_isDone 171 = .ok (.bipush (-30), 2) := by decide +kernel
theorem dL_isDone_173 : decode cL_isDone 173 = .ok (.if_icmp .ne 47, 3) := by decide +kernel
theorem dL_isDone_176 : decode cL_isDone 176 = .ok (.aload_n 0, 1) := by decide +kernel
theorem dL_isDone_177 : decode cL_isDone 177 = .ok (.iload 8, 2) := by decide +kernel
theorem dL_isDone_179 : decode cL_isDone 179 = .ok (.iconst 0, 1) := by decide +kernel
theorem dL_isDone_180 : decode cL_isDone 180 = .ok (.invokestatic 106, 3) := by decide +kernel
theorem dL_isDone_183 : decode cL_isDone 183 = .ok (.bipush (-30), 2) := by decide +kernel
theorem dL_isDone_185 : decode cL_isDone 185 = .ok (.if_icmp .ne 35, 3) := by decide +kernel
theorem dL_isDone_188 : decode cL_isDone 188 = .ok (.aload_n 0, 1) := by decide +kernel
theorem dL_isDone_189 : decode cL_isDone 189 = .ok (.iconst 3, 1) := by decide +kernel
theorem dL_isDone_190 : decode cL_isDone 190 = .ok (.iload 8, 2) := by decide +kernel
theorem dL_isDone_192 : decode cL_isDone 192 = .ok (.iconst 0, 1) := by decide +kernel
theorem dL_isDone_193 : decode cL_isDone 193 = .ok (.iconst 0, 1) := by decide +kernel
theorem dL_isDone_194 : decode cL_isDone 194 = .ok (.invokestatic 78, 3) := by decide +kernel
theorem dL_isDone_197 : decode cL_isDone 197 = .ok (.bipush (-30), 2) := by decide +kernel
theorem dL_isDone_199 : decode cL_isDone 199 = .ok (.if_icmp .ne 21, 3) := by decide +kernel
theorem dL_isDone_202 : decode cL_isDone 202 = .ok (.aload_n 0, 1) := by decide +kernel
theorem dL_isDone_203 : decode cL_isDone 203 = .ok (.iconst 5, 1) := by decide +kernel
theorem dL_isDone_204 : decode cL_isDone 204 = .ok (.iload 8, 2) := by decide +kernel
theorem dL_isDone_206 : decode cL_isDone 206 = .ok (.iconst 0, 1) := by decide +kernel
theorem dL_isDone_207 : decode cL_isDone 207 = .ok (.iconst 0, 1) := by decide +kernel
theorem dL_isDone_208 : decode cL_isDone 208 = .ok (.invokestatic 78, 3) := by decide +kernel
theorem dL_isDone_211 : decode cL_isDone 211 = .ok (.bipush (-30), 2) := by decide +kernel
theorem dL_isDone_213 : decode cL_isDone 213 = .ok (.if_icmp .ne 7, 3) := by decide +kernel
theorem dL_isDone_216 : decode cL_isDone 216 = .ok (.iconst 1, 1) := by decide +kernel
theorem dL_isDone_217 : decode cL_isDone 217 = .ok (.goto 4, 3) := by decide +kernel
theorem dL_isDone_220 : decode cL_isDone 220 = .ok (.iconst 0, 1) := by decide +kernel
theorem dL_isDone_221 : decode cL_isDone 221 = .ok (.ireturn, 1) := by decide +kernel
theorem dL_isDone_222 : decode cL_isDone 222 = .ok (.iload 4, 2) := by decide +kernel
theorem dL_isDone_224 : decode cL_isDone 224 = .ok (.bipush 13, 2) := by decide +kernel
theorem dL_isDone_226 : decode cL_isDone 226 = .ok (.if_icmp .ne 52, 3) := by decide +kernel
theorem dL_isDone_229 : decode cL_isDone 229 = .ok (.aload_n 3, 1) := by decide +kernel
theorem dL_isDone_230 : decode cL_isDone 230 = .ok (.iconst 1, 1) := by decide +kernel
theorem dL_isDone_231 : decode cL_isDone 231 = .ok (.iaload, 1) := by decide +kernel
theorem dL_isDone_232 : decode cL_isDone 232 = .ok (.iconst 3, 1) := by decide +kernel
theorem dL_isDone_233 : decode cL_isDone 233 = .ok (.iadd, 1) := by decide +kernel
theorem dL_isDone_234 : decode cL_isDone 234 = .ok (.iconst 4, 1) := by decide +kernel
theorem dL_isDone_235 : decode cL_isDone 235 = .ok (.idiv, 1) := by decide +kernel
theorem dL_isDone_236 : decode cL_isDone 236 = .ok (.istore 8, 2) := by decide +kernel
theorem dL_isDone_238 : decode cL_isDone 238 = .ok (.aload_n 0, 1) := by decide +kernel
theorem dL_isDone_239 : decode cL_isDone 239 = .ok (.invokevirtual 141, 3) := by decide +kernel
theorem dL_isDone_242 : decode cL_isDone 242 = .ok (.iload 8, 2) := by decide +kernel
theorem dL_isDone_244 : decode cL_isDone 244 = .ok (.if_icmp .ne 32, 3) := by decide +kernel
theorem dL_isDone_247 : decode cL_isDone 247 = .ok (.iload 8, 2) := by decide +kernel
theorem dL_isDone_249 : decode cL_isDone 249 = .ok (.ifCond .ne 13, 3) := by decide +kernel
theorem dL_isDone_252 : decode cL_isDone 252 = .ok (.aload_n 0, 1) := by decide +kernel
theorem dL_isDone_253 : decode cL_isDone 253 = .ok (.invokevirtual 84, 3) := by decide +kernel
theorem dL_isDone_256 : decode cL_isDone 256 = .ok (.ifCond .ne 20, 3) := by decide +kernel
theorem dL_isDone_259 : decode cL_isDone 259 = .ok (.goto 13, 3) := by decide +kernel
theorem dL_isDone_262 : decode cL_isDone 262 = .ok (.aload_n 0, 1) := by decide +kernel
theorem dL_isDone_263 : decode cL_isDone 263 = .ok (.iconst 0, 1) := by decide +kernel
theorem dL_isDone_264 : decode cL_isDone 264 = .ok (.invokevirtual 31, 3) := by decide +kernel
theorem dL_isDone_267 : decode cL_isDone 267 = .ok (.iload 8, 2) := by decide +kernel
theorem dL_isDone_269 : decode cL_isDone 269 = .ok (.if_icmp .ne 7, 3) := by decide +kernel
theorem dL_isDone_272 : decode cL_isDone 272 = .ok (.iconst 1, 1) := by decide +kernel
theorem dL_isDone_273 : decode cL_isDone 273 = .ok (.goto 4, 3) := by decide +kernel
theorem dL_isDone_276 : decode cL_isDone 276 = .ok (.iconst 0, 1) := by decide +kernel
theorem dL_isDone_277 : decode cL_isDone 277 = .ok (.ireturn, 1) := by decide +kernel
theorem dL_isDone_278 : decode cL_isDone 278 = .ok (.iload 5, 2) := by decide +kernel
theorem dL_isDone_280 : decode cL_isDone 280 = .ok (.sipush 256, 3) := by decide +kernel
theorem dL_isDone_283 : decode cL_isDone 283 = .ok (.irem, 1) := by decide +kernel
theorem dL_isDone_284 : decode cL_isDone 284 = .ok (.istore 8, 2) := by decide +kernel
theorem dL_isDone_286 : decode cL_isDone 286 = .ok (.iload 6, 2) := by decide +kernel
theorem dL_isDone_288 : decode cL_isDone 288 = .ok (.sipush 256, 3) := by decide +kernel
theorem dL_isDone_291 : decode cL_isDone 291 = .ok (.irem, 1) := by decide +kernel
theorem dL_isDone_292 : decode cL_isDone 292 = .ok (.istore 9, 2) := by decide +kernel
theorem dL_isDone_294 : decode cL_isDone 294 = .ok (.iload 8, 2) := by decide +kernel
theorem dL_isDone_296 : decode cL_isDone 296 = .ok (.iload 7, 2) := by decide +kernel
theorem dL_isDone_298 : decode cL_isDone 298 = .ok (.sipush 256, 3) := by decide +kernel
theorem dL_isDone_301 : decode cL_isDone 301 = .ok (.iload 8, 2) := by decide +kernel
theorem dL_isDone_303 : decode cL_isDone 303 = .ok (.isub, 1) := by decide +kernel
theorem dL_isDone_304 : decode cL_isDone 304 = .ok (.irem, 1) := by decide +kernel
theorem dL_isDone_305 : decode cL_isDone 305 = .ok (.iadd, 1) := by decide +kernel
theorem dL_isDone_306 : decode cL_isDone 306 = .ok (.istore 10, 2) := by decide +kernel
theorem dL_isDone_308 : decode cL_isDone 308 = .ok (.iload 9, 2) := by decide +kernel
theorem dL_isDone_310 : decode cL_isDone 310 = .ok (.iload 5, 2) := by decide +kernel
theorem dL_isDone_312 : decode cL_isDone 312 = .ok (.sipush 256, 3) := by decide +kernel
theorem dL_isDone_315 : decode cL_isDone 315 = .ok (.idiv, 1) := by decide +kernel
theorem dL_isDone_316 : decode cL_isDone 316 = .ok (.sipush 256, 3) := by decide +kernel
theorem dL_isDone_319 : decode cL_isDone 319 = .ok (.iload 9, 2) := by decide +kernel
theorem dL_isDone_321 : decode cL_isDone 321 = .ok (.isub, 1) := by decide +kernel
theorem dL_isDone_322 : decode cL_isDone 322 = .ok (.irem, 1) := by decide +kernel
theorem dL_isDone_323 : decode cL_isDone 323 = .ok (.iadd, 1) := by decide +kernel
theorem dL_isDone_324 : decode cL_isDone 324 = .ok (.istore 11, 2) := by decide +kernel
theorem dL_isDone_326 : decode cL_isDone 326 = .ok (.iload 4, 2) := by decide +kernel
theorem dL_isDone_328 : decode cL_isDone 328 = .ok (.bipush 16, 2) := by decide +kernel
theorem dL_isDone_330 : decode cL_isDone 330 = .ok (.if_icmp .ge 67, 3) := by decide +kernel
theorem dL_isDone_333 : decode cL_isDone 333 = .ok (.aload_n 0, 1) := by decide +kernel
theorem dL_isDone_334 : decode cL_isDone 334 = .ok (.aload_n 3, 1) := by decide +kernel
theorem dL_isDone_335 : decode cL_isDone 335 = .ok (.iload 8, 2) := by decide +kernel
theorem dL_isDone_337 : decode cL_isDone 337 = .ok (.iload 9, 2) := by decide +kernel
theorem dL_isDone_339 : decode cL_isDone 339 = .ok (.iload 10, 2) := by decide +kernel
theorem dL_isDone_341 : decode cL_isDone 341 = .ok (.iload 11, 2) := by decide +kernel
theorem dL_isDone_343 : decode cL_isDone 343 = .ok (.invokestatic 144, 3) := by decide +kernel
theorem dL_isDone_346 : decode cL_isDone 346 = .ok (.ifCond .eq 49, 3) := by decide +kernel
theorem dL_isDone_349 : decode cL_isDone 349 = .ok (.aload_n 0, 1) := by decide +kernel
theorem dL_isDone_350 : decode cL_isDone 350 = .ok (.iconst 0, 1) := by decide +kernel
theorem dL_isDone_351 : decode cL_isDone 351 = .ok (.iload 8, 2) := by decide +kernel
theorem dL_isDone_353 : decode cL_isDone 353 = .ok (.iload 9, 2) := by decide +kernel
theorem dL_isDone_355 : decode cL_isDone 355 = .ok (.iload 8, 2) := by decide +kernel
theorem dL_isDone_357 : decode cL_isDone 357 = .ok (.iconst 1, 1) := by decide +kernel
theorem dL_isDone_358 : decode cL_isDone 358 = .ok (.isub, 1) := by decide +kernel
theorem dL_isDone_359 : decode cL_isDone 359 = .ok (.iload 11, 2) := by decide +kernel
theorem dL_isDone_361 : decode cL_isDone 361 = .ok (.iconst 0, 1) := by decide +kernel
theorem dL_isDone_362 : decode cL_isDone 362 = .ok (.invokestatic 102, 3) := by decide +kernel
theorem dL_isDone_365 : decode cL_isDone 365 = .ok (.bipush (-20), 2) := by decide +kernel
theorem dL_isDone_367 : decode cL_isDone 367 = .ok (.if_icmp .ne 28, 3) := by decide +kernel
theorem dL_isDone_370 : decode cL_isDone 370 = .ok (.aload_n 0, 1) := by decide +kernel
theorem dL_isDone_371 : decode cL_isDone 371 = .ok (.iconst 1, 1) := by decide +kernel
theorem dL_isDone_372 : decode cL_isDone 372 = .ok (.iload 8, 2) := by decide +kernel
theorem dL_isDone_374 : decode cL_isDone 374 = .ok (.sipush 256, 3) := by decide +kernel
theorem dL_isDone_377 : decode cL_isDone 377 = .ok (.iload 10, 2) := by decide +kernel
theorem dL_isDone_379 : decode cL_isDone 379 = .ok (.sipush 256, 3) := by decide +kernel
theorem dL_isDone_382 : decode cL_isDone 382 = .ok (.iconst (-1), 1) := by decide +kernel
theorem dL_isDone_383 : decode cL_isDone 383 = .ok (.invokestatic 102, 3) := by decide +kernel
theorem dL_isDone_386 : decode cL_isDone 386 = .ok (.bipush (-20), 2) := by decide +kernel
theorem dL_isDone_388 : decode cL_isDone 388 = .ok (.if_icmp .ne 7, 3) := by decide +kernel
theorem dL_isDone_391 : decode cL_isDone 391 = .ok (.iconst 1, 1) := by decide +kernel
theorem dL_isDone_392 : decode cL_isDone 392 = .ok (.goto 4, 3) := by decide +kernel
theorem dL_isDone_395 : decode cL_isDone 395 = .ok (.iconst 0, 1) := by decide +kernel
theorem dL_isDone_396 : decode cL_isDone 396 = .ok (.ireturn, 1) := by decide +kernel
theorem dL_isDone_397 : decode cL_isDone 397 = .ok (.iload 4, 2) := by decide +kernel
theorem dL_isDone_399 : decode cL_isDone 399 = .ok (.bipush 18, 2) := by decide +kernel
theorem dL_isDone_401 : decode cL_isDone 401 = .ok (.if_icmp .ge 13, 3) := by decide +kernel
theorem dL_isDone_404 : decode cL_isDone 404 = .ok (.aload_n 0, 1) := by decide +kernel
theorem dL_isDone_405 : decode cL_isDone 405 = .ok (.aload_n 3, 1) := by decide +kernel
theorem dL_isDone_406 : decode cL_isDone 406 = .ok (.iload 8, 2) := by decide +kernel
theorem dL_isDone_408 : decode cL_isDone 408 = .ok (.iload 9, 2) := by decide +kernel
theorem dL_isDone_410 : decode cL_isDone 410 = .ok (.invokestatic 148, 3) := by decide +kernel
theorem dL_isDone_413 : decode cL_isDone 413 = .ok (.ireturn, 1) := by decide +kernel
theorem dL_isDone_414 : decode cL_isDone 414 = .ok (.iload 4, 2) := by decide +kernel
theorem dL_isDone_416 : decode cL_isDone 416 = .ok (.bipush 18, 2) := by decide +kernel
theorem dL_isDone_418 : decode cL_isDone 418 = .ok (.if_icmp .ne 11, 3) := by decide +kernel
theorem dL_isDone_421 : decode cL_isDone 421 = .ok (.aload_n 0, 1) := by decide +kernel
theorem dL_isDone_422 : decode cL_isDone 422 = .ok (.aload_n 3, 1) := by decide +kernel
theorem dL_isDone_423 : decode cL_isDone 423 = .ok (.invokestatic 152, 3) := by decide +kernel
theorem dL_isDone_426 : decode cL_isDone 426 = .ok (.goto 11, 3) := by decide +kernel
theorem dL_isDone_429 : decode cL_isDone 429 = .ok (.aload_n 0, 1) := by decide +kernel
theorem dL_isDone_430 : decode cL_isDone 430 = .ok (.iload 8, 2) := by decide +kernel
theorem dL_isDone_432 : decode cL_isDone 432 = .ok (.iload 9, 2) := by decide +kernel
theorem dL_isDone_434 : decode cL_isDone 434 = .ok (.invokestatic 155, 3) := by decide +kernel
theorem dL_isDone_437 : decode cL_isDone 437 = .ok (.ireturn, 1) := by decide +kernel
set_option maxRecDepth 20000 in
theorem ggL_law_X4_init : GoodIn wsL_law wsX4_init := goodIn_r _ [6, 7, 8, 9, 3, 10, 11, 12, 13, 14, 15, 16, 17, 18, 19, 20, 21, 22, 23, 24, 25, 26, 27, 28, 29, 30, 31, 431, 432, 433, 434, 435, 436, 437, 438, 439, 440, 441, 442] (by decide +kernel) (by decide +kernel)
set_option maxRecDepth 20000 in
theorem gL_law_X4_init : GoodIn wsL_law (wsX4_init) := ggL_law_X4_init
set_option maxRecDepth 20000 in
theorem ggL_law_L_areAll : GoodIn wsL_law wsL_areAll := goodIn_ca (goodIn_ca (goodIn_ca (goodIn_r _ [35, 36, 37, 34, 38, 39, 40, 41, 2, 42, 14, 43, 44, 45, 13, 46, 47, 48, 49, 50, 51, 52, 53, 54, 55, 56, 57, 58, 18, 59, 60, 61, 17, 62, 63, 64, 65, 66, 67, 31, 68, 69, 70, 71, 72, 73, 74, 75, 76, 77, 78, 79, 80, 81, 82, 83, 30, 84, 85, 86, 87, 88, 89, 90, 91, 92, 93, 94, 95, 96, 97, 98, 99, 100, 101, 102, 103, 104, 105, 106, 107, 108, 109, 110, 111, 112, 113, 114, 115, 26, 116, 117, 118, 119, 22, 120, 121, 122, 123, 124, 125, 126, 127, 128, 129, 130, 131, 132, 133, 134, 135, 136, 137, 138, 139, 140, 141, 142, 143, 144, 145, 146, 147, 148, 149, 25, 150, 151, 152, 153, 154, 155, 156, 157, 158, 159, 160, 161, 162, 163, 164, 165, 166, 167, 168, 169, 170, 23, 171, 172, 173, 174, 175, 176, 177, 178, 179, 180, 181, 182, 183, 184, 185, 186, 187, 188, 189, 190, 191, 192, 193, 194, 195, 196, 197, 198, 199, 200, 201, 202, 203, 204, 205, 206, 207, 208, 209, 210, 211, 212, 213, 214, 215, 216, 217, 431, 432, 433, 434, 435, 436, 437, 438, 439, 440, 441, 442] (by decide +kernel) (by decide +kernel)) (goodIn_sub (fun _ h => List.mem_append_left _ (List.mem_append_left _ (List.mem_append_right _ h))) (by decide +kernel))) (goodIn_sub (fun _ h => List.mem_append_left _ (List.mem_append_right _ h)) (by decide +kernel))) (goodIn_sub (fun _ h => List.mem_append_right _ h) (by decide +kernel))
set_option maxRecDepth 20000 in
theorem gL_law_L_areAll : GoodIn wsL_law (va_wsS RL 160 yL_areAll wsL_areAll) := goodIn_app (goodIn_of _ (by decide +kernel)) ggL_law_L_areAll
set_option maxRecDepth 20000 in
theorem ggL_law_L_arePairs : GoodIn wsL_law wsL_arePairs := goodIn_ca (goodIn_ca (goodIn_r _ [220, 221, 222, 34, 223, 51, 52, 171, 172, 173, 2, 174, 14, 89, 90, 91, 92, 93, 142, 143, 144, 145, 57, 58, 146, 147, 148, 13, 149, 25, 175, 117, 118, 119, 22, 137, 132, 122, 133, 224, 225, 226, 227, 228, 229, 230, 231, 232, 233, 234, 235, 236, 237, 238, 239, 240, 241, 242, 243, 116, 244, 245, 246, 131, 247, 248, 249, 250, 431, 432, 433, 434, 435, 436, 437, 438, 439] (by decide +kernel) (by decide +kernel)) (goodIn_sub (fun _ h => List.mem_append_left _ (List.mem_append_right _ h)) (by decide +kernel))) (goodIn_sub (fun _ h => List.mem_append_left _ (List.mem_append_left _ (List.mem_append_right _ h))) (by decide +kernel))
set_option maxRecDepth 20000 in
theorem gL_law_L_arePairs : GoodIn wsL_law (va_wsS RL 152 yL_arePairs wsL_arePairs) := goodIn_app (goodIn_of _ (by decide +kernel)) ggL_law_L_arePairs
theorem xg_cons {big a : List Cond} {c : Cond} (h : GoodIn big [c]) (ha : GoodIn big a) : GoodIn big (c :: a) := fun w hw => (List.mem_cons.mp hw).elim (fun e => h w (List.mem_singleton.mpr e)) (ha w)
set_option maxRecDepth 20000 in
theorem ggL_law_L_isDone_c0 : GoodIn wsL_law [.code yL_isDone cL_isDone 12 (some .boolean)] := goodIn_r _ [253] (by decide +kernel) (by decide +kernel)
set_option maxRecDepth 20000 in
theorem ggL_law_L_isDone_r1 : GoodIn wsL_law wsL_isDone_r1 := goodIn_r _ [254, 255, 256, 34, 257, 258, 259, 260, 261, 262, 263, 264, 51, 208, 265, 266, 267, 2, 268, 213, 214, 14, 18, 269] (by decide +kernel) (by decide +kernel)
set_option maxRecDepth 20000 in
theorem ggL_law_L_isDone_r2 : GoodIn wsL_law wsL_isDone_r2 := goodIn_r _ [270, 271, 92, 93, 183, 184, 185, 272, 273, 274, 13, 275, 238, 47, 276, 135, 122, 136, 277, 278, 279, 280, 22, 23] (by decide +kernel) (by decide +kernel)
set_option maxRecDepth 20000 in
theorem ggL_law_L_isDone_r3 : GoodIn wsL_law wsL_isDone_r3 := goodIn_r _ [25, 281, 282, 283, 131, 132, 133, 284, 187, 188, 189, 190, 191, 192, 285, 286, 287, 288, 112, 113, 114, 115, 26, 289] (by decide +kernel) (by decide +kernel)
set_option maxRecDepth 20000 in
theorem ggL_law_L_isDone_r4 : GoodIn wsL_law wsL_isDone_r4 := goodIn_r _ [168, 169, 170, 290, 291, 292, 293, 150, 151, 152, 153, 294, 295, 296, 17, 297, 63, 298, 299, 300, 301, 302, 303, 304] (by decide +kernel) (by decide +kernel)
set_option maxRecDepth 20000 in
theorem ggL_law_L_isDone_r5 : GoodIn wsL_law wsL_isDone_r5 := goodIn_r _ [305, 31, 306, 307, 308, 309, 30, 84, 77, 78, 79, 310, 155, 156, 157, 106, 65, 66, 67, 107, 81, 82, 83, 311] (by decide +kernel) (by decide +kernel)
set_option maxRecDepth 20000 in
theorem ggL_law_L_isDone_r6 : GoodIn wsL_law wsL_isDone_r6 := goodIn_r _ [312, 313, 314, 315, 60, 61, 62, 316, 317, 318, 319, 320, 125, 126, 127, 321, 322, 323, 324, 102, 103, 104, 105, 325] (by decide +kernel) (by decide +kernel)
set_option maxRecDepth 20000 in
theorem ggL_law_L_isDone_r7 : GoodIn wsL_law wsL_isDone_r7 := goodIn_r _ [326, 327, 328, 329, 330, 331, 332, 333, 334, 335, 336, 39, 40, 41, 42, 43, 44, 45, 46, 221, 222, 223, 52, 171] (by decide +kernel) (by decide +kernel)
set_option maxRecDepth 20000 in
theorem ggL_law_L_isDone_r8 : GoodIn wsL_law wsL_isDone_r8 := goodIn_r _ [172, 173, 174, 89, 90, 91, 142, 143, 144, 145, 57, 58, 146, 147, 148, 149, 175, 117, 118, 119, 137, 337, 338, 339] (by decide +kernel) (by decide +kernel)
set_option maxRecDepth 20000 in
theorem ggL_law_L_isDone_r9 : GoodIn wsL_law wsL_isDone_r9 := goodIn_r _ [340, 341, 342, 343, 344, 345, 346, 347, 348, 349, 350, 351, 352, 353, 354, 355, 356, 129, 130, 357, 358, 359, 360, 361] (by decide +kernel) (by decide +kernel)
set_option maxRecDepth 20000 in
theorem ggL_law_L_isDone_r10 : GoodIn wsL_law wsL_isDone_r10 := goodIn_r _ [362, 363, 364, 365, 243, 48, 49, 50, 53, 54, 55, 56, 59, 64, 68, 69, 70, 71, 72, 73, 74, 75, 76, 80] (by decide +kernel) (by decide +kernel)
set_option maxRecDepth 20000 in
theorem ggL_law_L_isDone_r11 : GoodIn wsL_law wsL_isDone_r11 := goodIn_r _ [85, 86, 87, 88, 94, 95, 96, 97, 98, 99, 100, 101, 108, 109, 110, 111, 116, 120, 121, 123, 124, 128, 134, 138] (by decide +kernel) (by decide +kernel)
set_option maxRecDepth 20000 in
theorem ggL_law_L_isDone_r12 : GoodIn wsL_law wsL_isDone_r12 := goodIn_r _ [139, 140, 141, 154, 158, 159, 160, 161, 162, 163, 164, 165, 166, 167, 366, 367, 368, 369, 370, 371, 372, 373, 197, 198] (by decide +kernel) (by decide +kernel)
set_option maxRecDepth 20000 in
theorem ggL_law_L_isDone_r13 : GoodIn wsL_law wsL_isDone_r13 := goodIn_r _ [199, 200, 201, 202, 203, 204, 374, 375, 376, 224, 225, 226, 377, 378, 379, 380, 381, 382, 383, 384, 245, 246, 385, 386] (by decide +kernel) (by decide +kernel)
set_option maxRecDepth 20000 in
theorem ggL_law_L_isDone_r14 : GoodIn wsL_law wsL_isDone_r14 := goodIn_r _ [387, 388, 389, 390, 391, 392, 393, 394, 395, 396, 397, 398, 399, 400, 401, 402, 180, 181, 182, 403, 404, 405, 406, 407] (by decide +kernel) (by decide +kernel)
set_option maxRecDepth 20000 in
theorem ggL_law_L_isDone_r15 : GoodIn wsL_law wsL_isDone_r15 := goodIn_r _ [408, 409, 410, 411, 412, 413, 414, 415, 416, 10, 417, 418, 419, 420, 421, 422, 423, 218, 219, 220, 227, 228, 229, 230] (by decide +kernel) (by decide +kernel)
set_option maxRecDepth 20000 in
theorem ggL_law_L_isDone_r16 : GoodIn wsL_law wsL_isDone_r16 := goodIn_r _ [231, 232, 233, 234, 235, 236, 237, 239, 240, 241, 242, 244, 247, 248, 249, 250, 424, 425, 426, 427, 176, 177, 178, 179] (by decide +kernel) (by decide +kernel)
set_option maxRecDepth 20000 in
theorem ggL_law_L_isDone_r17 : GoodIn wsL_law wsL_isDone_r17 := goodIn_r _ [186, 428, 429, 430] (by decide +kernel) (by decide +kernel)
set_option maxRecDepth 20000 in
theorem ggL_law_L_isDone_u4 : GoodIn wsL_law wsX40 := goodIn_r _ [431, 432, 433] (by decide +kernel) (by decide +kernel)
set_option maxRecDepth 20000 in
theorem ggL_law_L_isDone_u2 : GoodIn wsL_law wsX20 := goodIn_r _ [434, 435, 436, 437, 438, 439] (by decide +kernel) (by decide +kernel)
set_option maxRecDepth 20000 in
theorem ggL_law_L_isDone_u3 : GoodIn wsL_law wsX30 := goodIn_r _ [440, 441, 442] (by decide +kernel) (by decide +kernel)
set_option maxRecDepth 20000 in
theorem ggL_law_L_isDone : GoodIn wsL_law wsL_isDone := goodIn_ca (goodIn_ca (goodIn_ca (xg_cons ggL_law_L_isDone_c0 (goodIn_app (goodIn_app (goodIn_app (goodIn_app ggL_law_L_isDone_r1 (goodIn_app ggL_law_L_isDone_r2 (goodIn_app ggL_law_L_isDone_r3 (goodIn_app ggL_law_L_isDone_r4 (goodIn_app ggL_law_L_isDone_r5 (goodIn_app ggL_law_L_isDone_r6 (goodIn_app ggL_law_L_isDone_r7 (goodIn_app ggL_law_L_isDone_r8 (goodIn_app ggL_law_L_isDone_r9 (goodIn_app ggL_law_L_isDone_r10 (goodIn_app ggL_law_L_isDone_r11 (goodIn_app ggL_law_L_isDone_r12 (goodIn_app ggL_law_L_isDone_r13 (goodIn_app ggL_law_L_isDone_r14 (goodIn_app ggL_law_L_isDone_r15 (goodIn_app ggL_law_L_isDone_r16 ggL_law_L_isDone_r17)))))))))))))))) ggL_law_L_isDone_u4) ggL_law_L_isDone_u2) ggL_law_L_isDone_u3)) (goodIn_sub (fun _ h => List.mem_append_right _ h) (by decide +kernel))) (goodIn_sub (fun _ h => List.mem_append_left _ (List.mem_append_right _ h)) (by decide +kernel))) (goodIn_sub (fun _ h => List.mem_append_left _ (List.mem_append_left _ (List.mem_append_right _ h))) (by decide +kernel))
set_option maxRecDepth 20000 in
theorem gL_law_L_isDone : GoodIn wsL_law (va_wsS RL 163 yL_isDone wsL_isDone) := goodIn_app (goodIn_of _ (by decide +kernel)) ggL_law_L_isDone
theorem dL_law_0 : decode cL_law 0 = .ok (.new 9, 3) := by decide +kernel
theorem dL_law_3 : decode cL_law 3 = .ok (.dup, 1) := by decide +kernel
theorem dL_law_4 : decode cL_law 4 = .ok (.invokespecial 159, 3) := by decide +kernel
theorem dL_law_7 : decode cL_law 7 = .ok (.astore_n 1, 1) := by decide +kernel
theorem dL_law_8 : decode cL_law 8 = .ok (.iconst 2, 1) := by decide +kernel
theorem dL_law_9 : decode cL_law 9 = .ok (.newarray .int, 2) := by decide +kernel
theorem dL_law_11 : decode cL_law 11 = .ok (.astore_n 2, 1) := by decide +kernel
theorem dL_law_12 : decode cL_law 12 = .ok (.aload_n 1, 1) := by decide +kernel
theorem dL_law_13 : decode cL_law 13 = .ok (.aload_n 2, 1) := by decide +kernel
theorem dL_law_14 : decode cL_law 14 = .ok (.invokestatic 160, 3) := by decide +kernel
theorem dL_law_17 : decode cL_law 17 = .ok (.ifCond .eq 15, 3) := by decide +kernel
theorem dL_law_20 : decode cL_law 20 = .ok (.aload_n 1, 1) := by decide +kernel
theorem dL_law_21 : decode cL_law 21 = .ok (.aload_n 2, 1) := by decide +kernel
theorem dL_law_22 : decode cL_law 22 = .ok (.invokestatic 152, 3) := by decide +kernel
theorem dL_law_25 : decode cL_law 25 = .ok (.ifCond .eq 7, 3) := by decide +kernel
theorem dL_law_28 : decode cL_law 28 = .ok (.iconst 1, 1) := by decide +kernel
theorem dL_law_29 : decode cL_law 29 = .ok (.goto 4, 3) := by decide +kernel
theorem dL_law_32 : decode cL_law 32 = .ok (.iconst 0, 1) := by decide +kernel
theorem dL_law_33 : decode cL_law 33 = .ok (.istore_n 3, 1) := by decide +kernel
theorem dL_law_34 : decode cL_law 34 = .ok (.iconst 0, 1) := by decide +kernel
theorem dL_law_35 : decode cL_law 35 = .ok (.istore 4, 2) := by decide +kernel
theorem dL_law_37 : decode cL_law 37 = .ok (.iload 4, 2) := by decide +kernel
theorem dL_law_39 : decode cL_law 39 = .ok (.bipush 64, 2) := by decide +kernel
theorem dL_law_41 : decode cL_law 41 = .ok (.if_icmp .ge 48, 3) := by decide +kernel
theorem dL_law_44 : decode cL_law 44 = .ok (.iload_n 3, 1) := by decide +kernel
theorem dL_law_45 : decode cL_law 45 = .ok (.ifCond .eq 44, 3) := by decide +kernel
theorem dL_law_48 : decode cL_law 48 = .ok (.aload_n 1, 1) := by decide +kernel
theorem dL_law_49 : decode cL_law 49 = .ok (.aload_n 0, 1) := by decide +kernel
theorem dL_law_50 : decode cL_law 50 = .ok (.iconst 4, 1) := by decide +kernel
theorem dL_law_51 : decode cL_law 51 = .ok (.iload 4, 2) := by decide +kernel
theorem dL_law_53 : decode cL_law 53 = .ok (.imul, 1) := by decide +kernel
theorem dL_law_54 : decode cL_law 54 = .ok (.aload_n 2, 1) := by decide +kernel
theorem dL_law_55 : decode cL_law 55 = .ok (.invokestatic 163, 3) := by decide +kernel
theorem dL_law_58 : decode cL_law 58 = .ok (.ifCond .eq 23, 3) := by decide +kernel
theorem dL_law_61 : decode cL_law 61 = .ok (.iload 4, 2) := by decide +kernel
theorem dL_law_63 : decode cL_law 63 = .ok (.iconst 4, 1) := by decide +kernel
theorem dL_law_64 : decode cL_law 64 = .ok (.irem, 1) := by decide +kernel
theorem dL_law_65 : decode cL_law 65 = .ok (.iconst 3, 1) := by decide +kernel
theorem dL_law_66 : decode cL_law 66 = .ok (.if_icmp .lt 11, 3) := by decide +kernel
theorem dL_law_69 : decode cL_law 69 = .ok (.aload_n 1, 1) := by decide +kernel
theorem dL_law_70 : decode cL_law 70 = .ok (.aload_n 2, 1) := by decide +kernel
theorem dL_law_71 : decode cL_law 71 = .ok (.invokestatic 160, 3) := by decide +kernel
theorem dL_law_74 : decode cL_law 74 = .ok (.ifCond .eq 7, 3) := by decide +kernel
theorem dL_law_77 : decode cL_law 77 = .ok (.iconst 1, 1) := by decide +kernel
theorem dL_law_78 : decode cL_law 78 = .ok (.goto 4, 3) := by decide +kernel
theorem dL_law_81 : decode cL_law 81 = .ok (.iconst 0, 1) := by decide +kernel
theorem dL_law_82 : decode cL_law 82 = .ok (.istore_n 3, 1) := by decide +kernel
theorem dL_law_83 : decode cL_law 83 = .ok (.iinc 4 1, 3) := by decide +kernel
theorem dL_law_86 : decode cL_law 86 = .ok (.goto (-49), 3) := by decide +kernel
theorem dL_law_89 : decode cL_law 89 = .ok (.iload_n 3, 1) := by decide +kernel
theorem dL_law_90 : decode cL_law 90 = .ok (.ifCond .eq 69, 3) := by decide +kernel
theorem dL_law_93 : decode cL_law 93 = .ok (.aload_n 1, 1) := by decide +kernel
theorem dL_law_94 : decode cL_law 94 = .ok (.iconst 1, 1) := by decide +kernel
theorem dL_law_95 : decode cL_law 95 = .ok (.iconst 0, 1) := by decide +kernel
theorem dL_law_96 : decode cL_law 96 = .ok (.iconst 0, 1) := by decide +kernel
theorem dL_law_97 : decode cL_law 97 = .ok (.iconst 0, 1) := by decide +kernel
theorem dL_law_98 : decode cL_law 98 = .ok (.invokestatic 126, 3) := by decide +kernel
theorem dL_law_101 : decode cL_law 101 = .ok (.bipush (-20), 2) := by decide +kernel
theorem dL_law_103 : decode cL_law 103 = .ok (.if_icmp .ne 56, 3) := by decide +kernel
theorem dL_law_106 : decode cL_law 106 = .ok (.aload_n 1, 1) := by decide +kernel
theorem dL_law_107 : decode cL_law 107 = .ok (.iconst 0, 1) := by decide +kernel
theorem dL_law_108 : decode cL_law 108 = .ok (.iconst 0, 1) := by decide +kernel
theorem dL_law_109 : decode cL_law 109 = .ok (.iconst 0, 1) := by decide +kernel
theorem dL_law_110 : decode cL_law 110 = .ok (.sipush 256, 3) := by decide +kernel
theorem dL_law_113 : decode cL_law 113 = .ok (.invokestatic 126, 3) := by decide +kernel
theorem dL_law_116 : decode cL_law 116 = .ok (.bipush (-20), 2) := by decide +kernel
theorem dL_law_118 : decode cL_law 118 = .ok (.if_icmp .ne 41, 3) := by decide +kernel
theorem dL_law_121 : decode cL_law 121 = .ok (.aload_n 1, 1) := by decide +kernel
theorem dL_law_122 : decode cL_law 122 = .ok (.iconst (-1), 1) := by decide +kernel
theorem dL_law_123 : decode cL_law 123 = .ok (.invokestatic 138, 3) := by decide +kernel
theorem dL_law_126 : decode cL_law 126 = .ok (.bipush (-30), 2) := by decide +kernel
theorem dL_law_128 : decode cL_law 128 = .ok (.if_icmp .ne 31, 3) := by decide +kernel
theorem dL_law_131 : decode cL_law 131 = .ok (.aload_n 1, 1) := by decide +kernel
theorem dL_law_132 : decode cL_law 132 = .ok (.bipush 100, 2) := by decide +kernel
theorem dL_law_134 : decode cL_law 134 = .ok (.iconst 4, 1) := by decide +kernel
theorem dL_law_135 : decode cL_law 135 = .ok (.invokestatic 106, 3) := by decide +kernel
theorem dL_law_138 : decode cL_law 138 = .ok (.bipush (-20), 2) := by decide +kernel
theorem dL_law_140 : decode cL_law 140 = .ok (.if_icmp .ne 19, 3) := by decide +kernel
theorem dL_law_143 : decode cL_law 143 = .ok (.aload_n 1, 1) := by decide +kernel
theorem dL_law_144 : decode cL_law 144 = .ok (.bipush 100, 2) := by decide +kernel
theorem dL_law_146 : decode cL_law 146 = .ok (.iconst 0, 1) := by decide +kernel
theorem dL_law_147 : decode cL_law 147 = .ok (.invokestatic 106, 3) := by decide +kernel
theorem dL_law_150 : decode cL_law 150 = .ok (.bipush (-30), 2) := by decide +kernel
theorem dL_law_152 : decode cL_law 152 = .ok (.if_icmp .ne 7, 3) := by decide +kernel
theorem dL_law_155 : decode cL_law 155 = .ok (.iconst 1, 1) := by decide +kernel
theorem dL_law_156 : decode cL_law 156 = .ok (.goto 4, 3) := by decide +kernel
theorem dL_law_159 : decode cL_law 159 = .ok (.iconst 0, 1) := by decide +kernel
theorem dL_law_160 : decode cL_law 160 = .ok (.istore_n 3, 1) := by decide +kernel
theorem dL_law_161 : decode cL_law 161 = .ok (.iload_n 3, 1) := by decide +kernel
theorem dL_law_162 : decode cL_law 162 = .ok (.ifCond .eq 23, 3) := by decide +kernel
theorem dL_law_165 : decode cL_law 165 = .ok (.aload_n 1, 1) := by decide +kernel
theorem dL_law_166 : decode cL_law 166 = .ok (.aload_n 2, 1) := by decide +kernel
theorem dL_law_167 : decode cL_law 167 = .ok (.invokestatic 160, 3) := by decide +kernel
theorem dL_law_170 : decode cL_law 170 = .ok (.ifCond .eq 15, 3) := by decide +kernel
theorem dL_law_173 : decode cL_law 173 = .ok (.aload_n 1, 1) := by decide +kernel
theorem dL_law_174 : decode cL_law 174 = .ok (.aload_n 2, 1) := by decide +kernel
theorem dL_law_175 : decode cL_law 175 = .ok (.invokestatic 152, 3) := by decide +kernel
theorem dL_law_178 : decode cL_law 178 = .ok (.ifCond .eq 7, 3) := by decide +kernel
theorem dL_law_181 : decode cL_law 181 = .ok (.iconst 1, 1) := by decide +kernel
theorem dL_law_182 : decode cL_law 182 = .ok (.goto 4, 3) := by decide +kernel
theorem dL_law_185 : decode cL_law 185 = .ok (.iconst 0, 1) := by decide +kernel
theorem dL_law_186 : decode cL_law 186 = .ok (.ireturn, 1) := by decide +kernel
abbrev vwCl : List vw_C := [(RX2, TX2, 6), (RX3, TX3, 3), (RX4, TX4, 3)]
