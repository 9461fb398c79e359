theorem dX7_init_0 : decode cX7_init 0 = .ok (.aload_n 0, 1) := by decide +kernel
theorem dX7_init_1 : decode cX7_init 1 = .ok (.invokespecial 1, 3) := by decide +kernel
theorem dX7_init_4 : decode cX7_init 4 = .ok (.aload_n 0, 1) := by decide +kernel
theorem dX7_init_5 : decode cX7_init 5 = .ok (.sipush 240, 3) := by decide +kernel
theorem dX7_init_8 : decode cX7_init 8 = .ok (.newarray .boolean, 2) := by decide +kernel
theorem dX7_init_10 : decode cX7_init 10 = .ok (.putfield 7, 3) := by decide +kernel
theorem dX7_init_13 : decode cX7_init 13 = .ok (.aload_n 0, 1) := by decide +kernel
theorem dX7_init_14 : decode cX7_init 14 = .ok (.sipush 240, 3) := by decide +kernel
theorem dX7_init_17 : decode cX7_init 17 = .ok (.newarray .int, 2) := by decide +kernel
theorem dX7_init_19 : decode cX7_init 19 = .ok (.putfield 13, 3) := by decide +kernel
theorem dX7_init_22 : decode cX7_init 22 = .ok (.aload_n 0, 1) := by decide +kernel
theorem dX7_init_23 : decode cX7_init 23 = .ok (.sipush 240, 3) := by decide +kernel
theorem dX7_init_26 : decode cX7_init 26 = .ok (.newarray .int, 2) := by decide +kernel
theorem dX7_init_28 : decode cX7_init 28 = .ok (.putfield 17, 3) := by decide +kernel
theorem dX7_init_31 : decode cX7_init 31 = .ok (.aload_n 0, 1) := by decide +kernel
theorem dX7_init_32 : decode cX7_init 32 = .ok (.iconst (-1), 1) := by decide +kernel
theorem dX7_init_33 : decode cX7_init 33 = .ok (.putfield 20, 3) := by decide +kernel
theorem dX7_init_36 : decode cX7_init 36 = .ok (.aload_n 0, 1) := by decide +kernel
theorem dX7_init_37 : decode cX7_init 37 = .ok (.bipush 20, 2) := by decide +kernel
theorem dX7_init_39 : decode cX7_init 39 = .ok (.newarray .boolean, 2) := by decide +kernel
theorem dX7_init_41 : decode cX7_init 41 = .ok (.putfield 24, 3) := by decide +kernel
theorem dX7_init_44 : decode cX7_init 44 = .ok (.aload_n 0, 1) := by decide +kernel
theorem dX7_init_45 : decode cX7_init 45 = .ok (.iconst (-1), 1) := by decide +kernel
theorem dX7_init_46 : decode cX7_init 46 = .ok (.putfield 27, 3) := by decide +kernel
theorem dX7_init_49 : decode cX7_init 49 = .ok (.aload_n 0, 1) := by decide +kernel
theorem dX7_init_50 : decode cX7_init 50 = .ok (.iconst (-1), 1) := by decide +kernel
theorem dX7_init_51 : decode cX7_init 51 = .ok (.putfield 30, 3) := by decide +kernel
theorem dX7_init_54 : decode cX7_init 54 = .ok (.aload_n 0, 1) := by decide +kernel
theorem dX7_init_55 : decode cX7_init 55 = .ok (.sipush 240, 3) := by decide +kernel
theorem dX7_init_58 : decode cX7_init 58 = .ok (.newarray .int, 2) := by decide +kernel
theorem dX7_init_60 : decode cX7_init 60 = .ok (.putfield 33, 3) := by decide +kernel
theorem dX7_init_63 : decode cX7_init 63 = .ok (.aload_n 0, 1) := by decide +kernel
theorem dX7_init_64 : decode cX7_init 64 = .ok (.sipush 240, 3) := by decide +kernel
theorem dX7_init_67 : decode cX7_init 67 = .ok (.newarray .int, 2) := by decide +kernel
theorem dX7_init_69 : decode cX7_init 69 = .ok (.putfield 36, 3) := by decide +kernel
theorem dX7_init_72 : decode cX7_init 72 = .ok (.aload_n 0, 1) := by decide +kernel
theorem dX7_init_73 : decode cX7_init 73 = .ok (.bipush 40, 2) := by decide +kernel
theorem dX7_init_75 : decode cX7_init 75 = .ok (.newarray .int, 2) := by decide +kernel
theorem dX7_init_77 : decode cX7_init 77 = .ok (.putfield 39, 3) := by decide +kernel
theorem dX7_init_80 : decode cX7_init 80 = .ok (.aload_n 0, 1) := by decide +kernel
theorem dX7_init_81 : decode cX7_init 81 = .ok (.bipush 40, 2) := by decide +kernel
theorem dX7_init_83 : decode cX7_init 83 = .ok (.newarray .boolean, 2) := by decide +kernel
theorem dX7_init_85 : decode cX7_init 85 = .ok (.putfield 42, 3) := by decide +kernel
theorem dX7_init_88 : decode cX7_init 88 = .ok (.aload_n 0, 1) := by decide +kernel
theorem dX7_init_89 : decode cX7_init 89 = .ok (.bipush 40, 2) := by decide +kernel
theorem dX7_init_91 : decode cX7_init 91 = .ok (.newarray .int, 2) := by decide +kernel
theorem dX7_init_93 : decode cX7_init 93 = .ok (.putfield 45, 3) := by decide +kernel
theorem dX7_init_96 : decode cX7_init 96 = .ok (.aload_n 0, 1) := by decide +kernel
theorem dX7_init_97 : decode cX7_init 97 = .ok (.bipush 40, 2) := by decide +kernel
theorem dX7_init_99 : decode cX7_init 99 = .ok (.newarray .int, 2) := by decide +kernel
theorem dX7_init_101 : decode cX7_init 101 = .ok (.putfield 48, 3) := by decide +kernel
theorem dX7_init_104 : decode cX7_init 104 = .ok (.aload_n 0, 1) := by decide +kernel
theorem dX7_init_105 : decode cX7_init 105 = .ok (.bipush 80, 2) := by decide +kernel
theorem dX7_init_107 : decode cX7_init 107 = .ok (.newarray .int, 2) := by decide +kernel
theorem dX7_init_109 : decode cX7_init 109 = .ok (.putfield 51, 3) := by decide +kernel
theorem dX7_init_112 : decode cX7_init 112 = .ok (.aload_n 0, 1) := by decide +kernel
theorem dX7_init_113 : decode cX7_init 113 = .ok (.bipush 80, 2) := by decide +kernel
theorem dX7_init_115 : decode cX7_init 115 = .ok (.newarray .int, 2) := by decide +kernel
theorem dX7_init_117 : decode cX7_init 117 = .ok (.putfield 54, 3) := by decide +kernel
theorem dX7_init_120 : decode cX7_init 120 = .ok (.aload_n 0, 1) := by decide +kernel
theorem dX7_init_121 : decode cX7_init 121 = .ok (.bipush 80, 2) := by decide +kernel
theorem dX7_init_123 : decode cX7_init 123 = .ok (.newarray .boolean, 2) := by decide +kernel
theorem dX7_init_125 : decode cX7_init 125 = .ok (.putfield 57, 3) := by decide +kernel
theorem dX7_init_128 : decode cX7_init 128 = .ok (.aload_n 0, 1) := by decide +kernel
theorem dX7_init_129 : decode cX7_init 129 = .ok (.bipush 80, 2) := by decide +kernel
theorem dX7_init_131 : decode cX7_init 131 = .ok (.newarray .boolean, 2) := by decide +kernel
theorem dX7_init_133 : decode cX7_init 133 = .ok (.putfield 60, 3) := by decide +kernel
theorem dX7_init_136 : decode cX7_init 136 = .ok (.aload_n 0, 1) := by decide +kernel
theorem dX7_init_137 : decode cX7_init 137 = .ok (.bipush 80, 2) := by decide +kernel
theorem dX7_init_139 : decode cX7_init 139 = .ok (.newarray .boolean, 2) := by decide +kernel
theorem dX7_init_141 : decode cX7_init 141 = .ok (.putfield 63, 3) := by decide +kernel
theorem dX7_init_144 : decode cX7_init 144 = .ok (.aload_n 0, 1) := by decide +kernel
theorem dX7_init_145 : decode cX7_init 145 = .ok (.bipush 80, 2) := by decide +kernel
theorem dX7_init_147 : decode cX7_init 147 = .ok (.newarray .int, 2) := by decide +kernel
theorem dX7_init_149 : decode cX7_init 149 = .ok (.putfield 66, 3) := by decide +kernel
theorem dX7_init_152 : decode cX7_init 152 = .ok (.aload_n 0, 1) := by decide +kernel
theorem dX7_init_153 : decode cX7_init 153 = .ok (.sipush 720, 3) := by decide +kernel
theorem dX7_init_156 : decode cX7_init 156 = .ok (.newarray .int, 2) := by decide +kernel
theorem dX7_init_158 : decode cX7_init 158 = .ok (.putfield 69, 3) := by decide +kernel
theorem dX7_init_161 : decode cX7_init 161 = .ok (.aload_n 0, 1) := by decide +kernel
theorem dX7_init_162 : decode cX7_init 162 = .ok (.sipush 720, 3) := by decide +kernel
theorem dX7_init_165 : decode cX7_init 165 = .ok (.newarray .int, 2) := by decide +kernel
theorem dX7_init_167 : decode cX7_init 167 = .ok (.putfield 72, 3) := by decide +kernel
theorem dX7_init_170 : decode cX7_init 170 = .ok (.aload_n 0, 1) := by decide +kernel
theorem dX7_init_171 : decode cX7_init 171 = .ok (.sipush 720, 3) := by decide +kernel
theorem dX7_init_174 : decode cX7_init 174 = .ok (.newarray .int, 2) := by decide +kernel
theorem dX7_init_176 : decode cX7_init 176 = .ok (.putfield 75, 3) := by decide +kernel
theorem dX7_init_179 : decode cX7_init 179 = .ok (.aload_n 0, 1) := by decide +kernel
theorem dX7_init_180 : decode cX7_init 180 = .ok (.sipush 240, 3) := by decide +kernel
theorem dX7_init_183 : decode cX7_init 183 = .ok (.newarray .int, 2) := by decide +kernel
theorem dX7_init_185 : decode cX7_init 185 = .ok (.putfield 78, 3) := by decide +kernel
theorem dX7_init_188 : decode cX7_init 188 = .ok (.aload_n 0, 1) := by decide +kernel
theorem dX7_init_189 : decode cX7_init 189 = .ok (.bipush 16, 2) := by decide +kernel
theorem dX7_init_191 : decode cX7_init 191 = .ok (.newarray .int, 2) := by decide +kernel
theorem dX7_init_193 : decode cX7_init 193 = .ok (.putfield 81, 3) := by decide +kernel
theorem dX7_init_196 : decode cX7_init 196 = .ok (.aload_n 0, 1) := by decide +kernel
theorem dX7_init_197 : decode cX7_init 197 = .ok (.bipush 16, 2) := by decide +kernel
theorem dX7_init_199 : decode cX7_init 199 = .ok (.newarray .int, 2) := by decide +kernel
theorem dX7_init_201 : decode cX7_init 201 = .ok (.putfield 84, 3) := by decide +kernel
theorem dX7_init_204 : decode cX7_init 204 = .ok (.aload_n 0, 1) := by decide +kernel
theorem dX7_init_205 : decode cX7_init 205 = .ok (.sipush 240, 3) := by decide +kernel
theorem dX7_init_208 : decode cX7_init 208 = .ok (.newarray .int, 2) := by decide +kernel
theorem dX7_init_210 : decode cX7_init 210 = .ok (.putfield 87, 3) := by decide +kernel
theorem dX7_init_213 : decode cX7_init 213 = .ok (.aload_n 0, 1) := by decide +kernel
theorem dX7_init_214 : decode cX7_init 214 = .ok (.sipush 240, 3) := by decide +kernel
theorem dX7_init_217 : decode cX7_init 217 = .ok (.newarray .int, 2) := by decide +kernel
theorem dX7_init_219 : decode cX7_init 219 = .ok (.putfield 90, 3) := by decide +kernel
theorem dX7_init_222 : decode cX7_init 222 = .ok (.aload_n 0, 1) := by decide +kernel
theorem dX7_init_223 : decode cX7_init 223 = .ok (.bipush 80, 2) := by decide +kernel
theorem dX7_init_225 : decode cX7_init 225 = .ok (.newarray .int, 2) := by decide +kernel
theorem dX7_init_227 : decode cX7_init 227 = .ok (.putfield 93, 3) := by decide +kernel
theorem dX7_init_230 : decode cX7_init 230 = .ok (.return_, 1) := by decide +kernel
theorem dX7_thrown_0 : decode cX7_thrown 0 = .ok (.aload_n 0, 1) := by decide +kernel
theorem dX7_thrown_1 : decode cX7_thrown 1 = .ok (.getfield 96, 3) := by decide +kernel
theorem dX7_thrown_4 : decode cX7_thrown 4 = .ok (.ireturn, 1) := by decide +kernel
theorem dX7_in_0 : decode cX7_in 0 = .ok (.iload_n 0, 1) := by decide +kernel
theorem dX7_in_1 : decode cX7_in 1 = .ok (.iload_n 1, 1) := by decide +kernel
theorem dX7_in_2 : decode cX7_in 2 = .ok (.if_icmp .lt 12, 3) := by decide +kernel
theorem dX7_in_5 : decode cX7_in 5 = .ok (.iload_n 0, 1) := by decide +kernel
theorem dX7_in_6 : decode cX7_in 6 = .ok (.iload_n 2, 1) := by decide +kernel
theorem dX7_in_7 : decode cX7_in 7 = .ok (.if_icmp .gt 7, 3) := by decide +kernel
theorem dX7_in_10 : decode cX7_in 10 = .ok (.iconst 1, 1) := by decide +kernel
theorem dX7_in_11 : decode cX7_in 11 = .ok (.goto 4, 3) := by decide +kernel
theorem dX7_in_14 : decode cX7_in 14 = .ok (.iconst 0, 1) := by decide +kernel
theorem dX7_in_15 : decode cX7_in 15 = .ok (.ireturn, 1) := by decide +kernel
theorem dX7_block_0 : decode cX7_block 0 = .ok (.aload_n 0, 1) := by decide +kernel
theorem dX7_block_1 : decode cX7_block 1 = .ok (.dup, 1) := by decide +kernel
theorem dX7_block_2 : decode cX7_block 2 = .ok (.getfield 99, 3) := by decide +kernel
theorem dX7_block_5 : decode cX7_block 5 = .ok (.iconst 1, 1) := by decide +kernel
theorem dX7_block_6 : decode cX7_block 6 = .ok (.iadd, 1) := by decide +kernel
theorem dX7_block_7 : decode cX7_block 7 = .ok (.putfield 99, 3) := by decide +kernel
theorem dX7_block_10 : decode cX7_block 10 = .ok (.aload_n 0, 1) := by decide +kernel
theorem dX7_block_11 : decode cX7_block 11 = .ok (.getfield 20, 3) := by decide +kernel
theorem dX7_block_14 : decode cX7_block 14 = .ok (.ifCond .ne 27, 3) := by decide +kernel
theorem dX7_block_17 : decode cX7_block 17 = .ok (.aload_n 0, 1) := by decide +kernel
theorem dX7_block_18 : decode cX7_block 18 = .ok (.iconst (-1), 1) := by decide +kernel
theorem dX7_block_19 : decode cX7_block 19 = .ok (.putfield 20, 3) := by decide +kernel
theorem dX7_block_22 : decode cX7_block 22 = .ok (.aload_n 0, 1) := by decide +kernel
theorem dX7_block_23 : decode cX7_block 23 = .ok (.iconst 1, 1) := by decide +kernel
theorem dX7_block_24 : decode cX7_block 24 = .ok (.putfield 102, 3) := by decide +kernel
theorem dX7_block_27 : decode cX7_block 27 = .ok (.aload_n 0, 1) := by decide +kernel
theorem dX7_block_28 : decode cX7_block 28 = .ok (.getfield 106, 3) := by decide +kernel
theorem dX7_block_31 : decode cX7_block 31 = .ok (.iconst 5, 1) := by decide +kernel
theorem dX7_block_32 : decode cX7_block 32 = .ok (.if_icmp .eq 7, 3) := by decide +kernel
theorem dX7_block_35 : decode cX7_block 35 = .ok (.aload_n 0, 1) := by decide +kernel
theorem dX7_block_36 : decode cX7_block 36 = .ok (.invokevirtual 109, 3) := by decide +kernel
theorem dX7_block_39 : decode cX7_block 39 = .ok (.iconst 0, 1) := by decide +kernel
theorem dX7_block_40 : decode cX7_block 40 = .ok (.ireturn, 1) := by decide +kernel
theorem dX7_block_41 : decode cX7_block 41 = .ok (.aload_n 0, 1) := by decide +kernel
theorem dX7_block_42 : decode cX7_block 42 = .ok (.aload_n 0, 1) := by decide +kernel
theorem dX7_block_43 : decode cX7_block 43 = .ok (.getfield 20, 3) := by decide +kernel
theorem dX7_block_46 : decode cX7_block 46 = .ok (.ifCond .le 12, 3) := by decide +kernel
theorem dX7_block_49 : decode cX7_block 49 = .ok (.aload_n 0, 1) := by decide +kernel
theorem dX7_block_50 : decode cX7_block 50 = .ok (.getfield 20, 3) := by decide +kernel
theorem dX7_block_53 : decode cX7_block 53 = .ok (.iconst 1, 1) := by decide +kernel
theorem dX7_block_54 : decode cX7_block 54 = .ok (.isub, 1) := by decide +kernel
theorem dX7_block_55 : decode cX7_block 55 = .ok (.goto 7, 3) := by decide +kernel
theorem dX7_block_58 : decode cX7_block 58 = .ok (.aload_n 0, 1) := by decide +kernel
theorem dX7_block_59 : decode cX7_block 59 = .ok (.getfield 20, 3) := by decide +kernel
theorem dX7_block_62 : decode cX7_block 62 = .ok (.putfield 20, 3) := by decide +kernel
theorem dX7_block_65 : decode cX7_block 65 = .ok (.iconst 1, 1) := by decide +kernel
theorem dX7_block_66 : decode cX7_block 66 = .ok (.ireturn, 1) := by decide +kernel
theorem dX7_writeBlocks_0 : decode cX7_writeBlocks 0 = .ok (.iconst 1, 1) := by decide +kernel
theorem dX7_writeBlocks_1 : decode cX7_writeBlocks 1 = .ok (.istore_n 2, 1) := by decide +kernel
theorem dX7_writeBlocks_2 : decode cX7_writeBlocks 2 = .ok (.iconst 0, 1) := by decide +kernel
theorem dX7_writeBlocks_3 : decode cX7_writeBlocks 3 = .ok (.istore_n 3, 1) := by decide +kernel
theorem dX7_writeBlocks_4 : decode cX7_writeBlocks 4 = .ok (.iload_n 3, 1) := by decide +kernel
theorem dX7_writeBlocks_5 : decode cX7_writeBlocks 5 = .ok (.iload_n 1, 1) := by decide +kernel
theorem dX7_writeBlocks_6 : decode cX7_writeBlocks 6 = .ok (.if_icmp .ge 18, 3) := by decide +kernel
theorem dX7_writeBlocks_9 : decode cX7_writeBlocks 9 = .ok (.iload_n 2, 1) := by decide +kernel
theorem dX7_writeBlocks_10 : decode cX7_writeBlocks 10 = .ok (.ifCond .eq 14, 3) := by decide +kernel
theorem dX7_writeBlocks_13 : decode cX7_writeBlocks 13 = .ok (.aload_n 0, 1) := by decide +kernel
theorem dX7_writeBlocks_14 : decode cX7_writeBlocks 14 = .ok (.invokevirtual 112, 3) := by decide +kernel
theorem dX7_writeBlocks_17 : decode cX7_writeBlocks 17 = .ok (.istore_n 2, 1) := by decide +kernel
theorem dX7_writeBlocks_18 : decode cX7_writeBlocks 18 = .ok (.iinc 3 1, 3) := by decide +kernel
theorem dX7_writeBlocks_21 : decode cX7_writeBlocks 21 = .ok (.goto (-17), 3) := by decide +kernel
theorem dX7_writeBlocks_24 : decode cX7_writeBlocks 24 = .ok (.iload_n 2, 1) := by decide +kernel
theorem dX7_writeBlocks_25 : decode cX7_writeBlocks 25 = .ok (.ireturn, 1) := by decide +kernel
theorem dX7_checkpoint_0 : decode cX7_checkpoint 0 = .ok (.iconst 1, 1) := by decide +kernel
theorem dX7_checkpoint_1 : decode cX7_checkpoint 1 = .ok (.iload_n 1, 1) := by decide +kernel
theorem dX7_checkpoint_2 : decode cX7_checkpoint 2 = .ok (.iadd, 1) := by decide +kernel
theorem dX7_checkpoint_3 : decode cX7_checkpoint 3 = .ok (.istore_n 2, 1) := by decide +kernel
theorem dX7_checkpoint_4 : decode cX7_checkpoint 4 = .ok (.iconst 0, 1) := by decide +kernel
theorem dX7_checkpoint_5 : decode cX7_checkpoint 5 = .ok (.istore_n 3, 1) := by decide +kernel
theorem dX7_checkpoint_6 : decode cX7_checkpoint 6 = .ok (.iload_n 3, 1) := by decide +kernel
theorem dX7_checkpoint_7 : decode cX7_checkpoint 7 = .ok (.bipush 20, 2) := by decide +kernel
theorem dX7_checkpoint_9 : decode cX7_checkpoint 9 = .ok (.if_icmp .ge 26, 3) := by decide +kernel
theorem dX7_checkpoint_12 : decode cX7_checkpoint 12 = .ok (.aload_n 0, 1) := by decide +kernel
theorem dX7_checkpoint_13 : decode cX7_checkpoint 13 = .ok (.getfield 24, 3) := by decide +kernel
theorem dX7_checkpoint_16 : decode cX7_checkpoint 16 = .ok (.iload_n 3, 1) := by decide +kernel
theorem dX7_checkpoint_17 : decode cX7_checkpoint 17 = .ok (.baload, 1) := by decide +kernel
theorem dX7_checkpoint_18 : decode cX7_checkpoint 18 = .ok (.ifCond .eq 9, 3) := by decide +kernel
theorem dX7_checkpoint_21 : decode cX7_checkpoint 21 = .ok (.iload_n 2, 1) := by decide +kernel
theorem dX7_checkpoint_22 : decode cX7_checkpoint 22 = .ok (.iconst 1, 1) := by decide +kernel
theorem dX7_checkpoint_23 : decode cX7_checkpoint 23 = .ok (.iadd, 1) := by decide +kernel
theorem dX7_checkpoint_24 : decode cX7_checkpoint 24 = .ok (.goto 4, 3) := by decide +kernel
theorem dX7_checkpoint_27 : decode cX7_checkpoint 27 = .ok (.iload_n 2, 1) := by decide +kernel
theorem dX7_checkpoint_28 : decode cX7_checkpoint 28 = .ok (.istore_n 2, 1) := by decide +kernel
theorem dX7_checkpoint_29 : decode cX7_checkpoint 29 = .ok (.iinc 3 1, 3) := by decide +kernel
theorem dX7_checkpoint_32 : decode cX7_checkpoint 32 = .ok (.goto (-26), 3) := by decide +kernel
theorem dX7_checkpoint_35 : decode cX7_checkpoint 35 = .ok (.aload_n 0, 1) := by decide +kernel
theorem dX7_checkpoint_36 : decode cX7_checkpoint 36 = .ok (.iload_n 2, 1) := by decide +kernel
theorem dX7_checkpoint_37 : decode cX7_checkpoint 37 = .ok (.invokevirtual 116, 3) := by decide +kernel
theorem dX7_checkpoint_40 : decode cX7_checkpoint 40 = .ok (.ifCond .ne 5, 3) := by decide +kernel
theorem dX7_checkpoint_43 : decode cX7_checkpoint 43 = .ok (.iconst 0, 1) := by decide +kernel
theorem dX7_checkpoint_44 : decode cX7_checkpoint 44 = .ok (.ireturn, 1) := by decide +kernel
theorem dX7_checkpoint_45 : decode cX7_checkpoint 45 = .ok (.aload_n 0, 1) := by decide +kernel
theorem dX7_checkpoint_46 : decode cX7_checkpoint 46 = .ok (.aload_n 0, 1) := by decide +kernel
theorem dX7_checkpoint_47 : decode cX7_checkpoint 47 = .ok (.getfield 120, 3) := by decide +kernel
theorem dX7_checkpoint_50 : decode cX7_checkpoint 50 = .ok (.iload_n 2, 1) := by decide +kernel
theorem dX7_checkpoint_51 : decode cX7_checkpoint 51 = .ok (.iadd, 1) := by decide +kernel
theorem dX7_checkpoint_52 : decode cX7_checkpoint 52 = .ok (.putfield 120, 3) := by decide +kernel
theorem dX7_checkpoint_55 : decode cX7_checkpoint 55 = .ok (.aload_n 0, 1) := by decide +kernel
theorem dX7_checkpoint_56 : decode cX7_checkpoint 56 = .ok (.dup, 1) := by decide +kernel
theorem dX7_checkpoint_57 : decode cX7_checkpoint 57 = .ok (.getfield 123, 3) := by decide +kernel
theorem dX7_checkpoint_60 : decode cX7_checkpoint 60 = .ok (.iconst 1, 1) := by decide +kernel
theorem dX7_checkpoint_61 : decode cX7_checkpoint 61 = .ok (.iadd, 1) := by decide +kernel
theorem dX7_checkpoint_62 : decode cX7_checkpoint 62 = .ok (.putfield 123, 3) := by decide +kernel
theorem dX7_checkpoint_65 : decode cX7_checkpoint 65 = .ok (.aload_n 0, 1) := by decide +kernel
theorem dX7_checkpoint_66 : decode cX7_checkpoint 66 = .ok (.iconst 0, 1) := by decide +kernel
theorem dX7_checkpoint_67 : decode cX7_checkpoint 67 = .ok (.putfield 126, 3) := by decide +kernel
theorem dX7_checkpoint_70 : decode cX7_checkpoint 70 = .ok (.iconst 0, 1) := by decide +kernel
theorem dX7_checkpoint_71 : decode cX7_checkpoint 71 = .ok (.istore_n 3, 1) := by decide +kernel
theorem dX7_checkpoint_72 : decode cX7_checkpoint 72 = .ok (.iload_n 3, 1) := by decide +kernel
theorem dX7_checkpoint_73 : decode cX7_checkpoint 73 = .ok (.bipush 20, 2) := by decide +kernel
theorem dX7_checkpoint_75 : decode cX7_checkpoint 75 = .ok (.if_icmp .ge 16, 3) := by decide +kernel
theorem dX7_checkpoint_78 : decode cX7_checkpoint 78 = .ok (.aload_n 0, 1) := by decide +kernel
theorem dX7_checkpoint_79 : decode cX7_checkpoint 79 = .ok (.getfield 24, 3) := by decide +kernel
theorem dX7_checkpoint_82 : decode cX7_checkpoint 82 = .ok (.iload_n 3, 1) := by decide +kernel
theorem dX7_checkpoint_83 : decode cX7_checkpoint 83 = .ok (.iconst 0, 1) := by decide +kernel
theorem dX7_checkpoint_84 : decode cX7_checkpoint 84 = .ok (.bastore, 1) := by decide +kernel
theorem dX7_checkpoint_85 : decode cX7_checkpoint 85 = .ok (.iinc 3 1, 3) := by decide +kernel
theorem dX7_checkpoint_88 : decode cX7_checkpoint 88 = .ok (.goto (-16), 3) := by decide +kernel
theorem dX7_checkpoint_91 : decode cX7_checkpoint 91 = .ok (.iconst 0, 1) := by decide +kernel
theorem dX7_checkpoint_92 : decode cX7_checkpoint 92 = .ok (.istore_n 3, 1) := by decide +kernel
theorem dX7_checkpoint_93 : decode cX7_checkpoint 93 = .ok (.iload_n 3, 1) := by decide +kernel
theorem dX7_checkpoint_94 : decode cX7_checkpoint 94 = .ok (.bipush 80, 2) := by decide +kernel
theorem dX7_checkpoint_96 : decode cX7_checkpoint 96 = .ok (.if_icmp .ge 16, 3) := by decide +kernel
theorem dX7_checkpoint_99 : decode cX7_checkpoint 99 = .ok (.aload_n 0, 1) := by decide +kernel
theorem dX7_checkpoint_100 : decode cX7_checkpoint 100 = .ok (.getfield 63, 3) := by decide +kernel
theorem dX7_checkpoint_103 : decode cX7_checkpoint 103 = .ok (.iload_n 3, 1) := by decide +kernel
theorem dX7_checkpoint_104 : decode cX7_checkpoint 104 = .ok (.iconst 0, 1) := by decide +kernel
theorem dX7_checkpoint_105 : decode cX7_checkpoint 105 = .ok (.bastore, 1) := by decide +kernel
theorem dX7_checkpoint_106 : decode cX7_checkpoint 106 = .ok (.iinc 3 1, 3) := by decide +kernel
theorem dX7_checkpoint_109 : decode cX7_checkpoint 109 = .ok (.goto (-16), 3) := by decide +kernel
theorem dX7_checkpoint_112 : decode cX7_checkpoint 112 = .ok (.iconst 1, 1) := by decide +kernel
theorem dX7_checkpoint_113 : decode cX7_checkpoint 113 = .ok (.ireturn, 1) := by decide +kernel
theorem dX7_dirtyNodes_0 : decode cX7_dirtyNodes 0 = .ok (.iconst 0, 1) := by decide +kernel
theorem dX7_dirtyNodes_1 : decode cX7_dirtyNodes 1 = .ok (.istore_n 1, 1) := by decide +kernel
theorem dX7_dirtyNodes_2 : decode cX7_dirtyNodes 2 = .ok (.iconst 0, 1) := by decide +kernel
theorem dX7_dirtyNodes_3 : decode cX7_dirtyNodes 3 = .ok (.istore_n 2, 1) := by decide +kernel
theorem dX7_dirtyNodes_4 : decode cX7_dirtyNodes 4 = .ok (.iload_n 2, 1) := by decide +kernel
theorem dX7_dirtyNodes_5 : decode cX7_dirtyNodes 5 = .ok (.bipush 80, 2) := by decide +kernel
theorem dX7_dirtyNodes_7 : decode cX7_dirtyNodes 7 = .ok (.if_icmp .ge 43, 3) := by decide +kernel
theorem dX7_dirtyNodes_10 : decode cX7_dirtyNodes 10 = .ok (.aload_n 0, 1) := by decide +kernel
theorem dX7_dirtyNodes_11 : decode cX7_dirtyNodes 11 = .ok (.getfield 106, 3) := by decide +kernel
theorem dX7_dirtyNodes_14 : decode cX7_dirtyNodes 14 = .ok (.iconst 5, 1) := by decide +kernel
theorem dX7_dirtyNodes_15 : decode cX7_dirtyNodes 15 = .ok (.if_icmp .ne 27, 3) := by decide +kernel
theorem dX7_dirtyNodes_18 : decode cX7_dirtyNodes 18 = .ok (.aload_n 0, 1) := by decide +kernel
theorem dX7_dirtyNodes_19 : decode cX7_dirtyNodes 19 = .ok (.getfield 57, 3) := by decide +kernel
theorem dX7_dirtyNodes_22 : decode cX7_dirtyNodes 22 = .ok (.iload_n 2, 1) := by decide +kernel
theorem dX7_dirtyNodes_23 : decode cX7_dirtyNodes 23 = .ok (.baload, 1) := by decide +kernel
theorem dX7_dirtyNodes_24 : decode cX7_dirtyNodes 24 = .ok (.ifCond .eq 18, 3) := by decide +kernel
theorem dX7_dirtyNodes_27 : decode cX7_dirtyNodes 27 = .ok (.aload_n 0, 1) := by decide +kernel
theorem dX7_dirtyNodes_28 : decode cX7_dirtyNodes 28 = .ok (.getfield 63, 3) := by decide +kernel
theorem dX7_dirtyNodes_31 : decode cX7_dirtyNodes 31 = .ok (.iload_n 2, 1) := by decide +kernel
theorem dX7_dirtyNodes_32 : decode cX7_dirtyNodes 32 = .ok (.baload, 1) := by decide +kernel
theorem dX7_dirtyNodes_33 : decode cX7_dirtyNodes 33 = .ok (.ifCond .eq 9, 3) := by decide +kernel
theorem dX7_dirtyNodes_36 : decode cX7_dirtyNodes 36 = .ok (.iload_n 1, 1) := by decide +kernel
theorem dX7_dirtyNodes_37 : decode cX7_dirtyNodes 37 = .ok (.iconst 1, 1) := by decide +kernel
theorem dX7_dirtyNodes_38 : decode cX7_dirtyNodes 38 = .ok (.iadd, 1) := by decide +kernel
theorem dX7_dirtyNodes_39 : decode cX7_dirtyNodes 39 = .ok (.goto 4, 3) := by decide +kernel
theorem dX7_dirtyNodes_42 : decode cX7_dirtyNodes 42 = .ok (.iload_n 1, 1) := by decide +kernel
theorem dX7_dirtyNodes_43 : decode cX7_dirtyNodes 43 = .ok (.istore_n 1, 1) := by decide +kernel
theorem dX7_dirtyNodes_44 : decode cX7_dirtyNodes 44 = .ok (.iinc 2 1, 3) := by decide +kernel
theorem dX7_dirtyNodes_47 : decode cX7_dirtyNodes 47 = .ok (.goto (-43), 3) := by decide +kernel
theorem dX7_dirtyNodes_50 : decode cX7_dirtyNodes 50 = .ok (.iload_n 1, 1) := by decide +kernel
theorem dX7_dirtyNodes_51 : decode cX7_dirtyNodes 51 = .ok (.ireturn, 1) := by decide +kernel
theorem dX7_writeDown_0 : decode cX7_writeDown 0 = .ok (.aload_n 0, 1) := by decide +kernel
theorem dX7_writeDown_1 : decode cX7_writeDown 1 = .ok (.getfield 126, 3) := by decide +kernel
theorem dX7_writeDown_4 : decode cX7_writeDown 4 = .ok (.bipush 30, 2) := by decide +kernel
theorem dX7_writeDown_6 : decode cX7_writeDown 6 = .ok (.if_icmp .ne 16, 3) := by decide +kernel
theorem dX7_writeDown_9 : decode cX7_writeDown 9 = .ok (.aload_n 0, 1) := by decide +kernel
theorem dX7_writeDown_10 : decode cX7_writeDown 10 = .ok (.aload_n 0, 1) := by decide +kernel
theorem dX7_writeDown_11 : decode cX7_writeDown 11 = .ok (.invokevirtual 129, 3) := by decide +kernel
theorem dX7_writeDown_14 : decode cX7_writeDown 14 = .ok (.invokevirtual 133, 3) := by decide +kernel
theorem dX7_writeDown_17 : decode cX7_writeDown 17 = .ok (.ifCond .ne 5, 3) := by decide +kernel
theorem dX7_writeDown_20 : decode cX7_writeDown 20 = .ok (.iconst 0, 1) := by decide +kernel
theorem dX7_writeDown_21 : decode cX7_writeDown 21 = .ok (.ireturn, 1) := by decide +kernel
theorem dX7_writeDown_22 : decode cX7_writeDown 22 = .ok (.aload_n 0, 1) := by decide +kernel
theorem dX7_writeDown_23 : decode cX7_writeDown 23 = .ok (.invokevirtual 112, 3) := by decide +kernel
theorem dX7_writeDown_26 : decode cX7_writeDown 26 = .ok (.ifCond .ne 5, 3) := by decide +kernel
theorem dX7_writeDown_29 : decode cX7_writeDown 29 = .ok (.iconst 0, 1) := by decide +kernel
theorem dX7_writeDown_30 : decode cX7_writeDown 30 = .ok (.ireturn, 1) := by decide +kernel
theorem dX7_writeDown_31 : decode cX7_writeDown 31 = .ok (.aload_n 0, 1) := by decide +kernel
theorem dX7_writeDown_32 : decode cX7_writeDown 32 = .ok (.dup, 1) := by decide +kernel
theorem dX7_writeDown_33 : decode cX7_writeDown 33 = .ok (.getfield 126, 3) := by decide +kernel
theorem dX7_writeDown_36 : decode cX7_writeDown 36 = .ok (.iconst 1, 1) := by decide +kernel
theorem dX7_writeDown_37 : decode cX7_writeDown 37 = .ok (.iadd, 1) := by decide +kernel
theorem dX7_writeDown_38 : decode cX7_writeDown 38 = .ok (.putfield 126, 3) := by decide +kernel
theorem dX7_writeDown_41 : decode cX7_writeDown 41 = .ok (.iconst 1, 1) := by decide +kernel
theorem dX7_writeDown_42 : decode cX7_writeDown 42 = .ok (.ireturn, 1) := by decide +kernel
theorem dX7_forget_0 : decode cX7_forget 0 = .ok (.aload_n 0, 1) := by decide +kernel
theorem dX7_forget_1 : decode cX7_forget 1 = .ok (.iconst 0, 1) := by decide +kernel
theorem dX7_forget_2 : decode cX7_forget 2 = .ok (.putfield 106, 3) := by decide +kernel
theorem dX7_forget_5 : decode cX7_forget 5 = .ok (.aload_n 0, 1) := by decide +kernel
theorem dX7_forget_6 : decode cX7_forget 6 = .ok (.iconst 0, 1) := by decide +kernel
theorem dX7_forget_7 : decode cX7_forget 7 = .ok (.putfield 136, 3) := by decide +kernel
theorem dX7_forget_10 : decode cX7_forget 10 = .ok (.aload_n 0, 1) := by decide +kernel
theorem dX7_forget_11 : decode cX7_forget 11 = .ok (.iconst (-1), 1) := by decide +kernel
theorem dX7_forget_12 : decode cX7_forget 12 = .ok (.putfield 27, 3) := by decide +kernel
theorem dX7_forget_15 : decode cX7_forget 15 = .ok (.aload_n 0, 1) := by decide +kernel
theorem dX7_forget_16 : decode cX7_forget 16 = .ok (.iconst (-1), 1) := by decide +kernel
theorem dX7_forget_17 : decode cX7_forget 17 = .ok (.putfield 30, 3) := by decide +kernel
theorem dX7_forget_20 : decode cX7_forget 20 = .ok (.aload_n 0, 1) := by decide +kernel
theorem dX7_forget_21 : decode cX7_forget 21 = .ok (.iconst 0, 1) := by decide +kernel
theorem dX7_forget_22 : decode cX7_forget 22 = .ok (.putfield 139, 3) := by decide +kernel
theorem dX7_forget_25 : decode cX7_forget 25 = .ok (.aload_n 0, 1) := by decide +kernel
theorem dX7_forget_26 : decode cX7_forget 26 = .ok (.iconst 0, 1) := by decide +kernel
theorem dX7_forget_27 : decode cX7_forget 27 = .ok (.putfield 142, 3) := by decide +kernel
theorem dX7_forget_30 : decode cX7_forget 30 = .ok (.aload_n 0, 1) := by decide +kernel
theorem dX7_forget_31 : decode cX7_forget 31 = .ok (.iconst 0, 1) := by decide +kernel
theorem dX7_forget_32 : decode cX7_forget 32 = .ok (.putfield 145, 3) := by decide +kernel
theorem dX7_forget_35 : decode cX7_forget 35 = .ok (.aload_n 0, 1) := by decide +kernel
theorem dX7_forget_36 : decode cX7_forget 36 = .ok (.iconst 0, 1) := by decide +kernel
theorem dX7_forget_37 : decode cX7_forget 37 = .ok (.putfield 148, 3) := by decide +kernel
theorem dX7_forget_40 : decode cX7_forget 40 = .ok (.aload_n 0, 1) := by decide +kernel
theorem dX7_forget_41 : decode cX7_forget 41 = .ok (.iconst 0, 1) := by decide +kernel
theorem dX7_forget_42 : decode cX7_forget 42 = .ok (.putfield 151, 3) := by decide +kernel
theorem dX7_forget_45 : decode cX7_forget 45 = .ok (.iconst 0, 1) := by decide +kernel
theorem dX7_forget_46 : decode cX7_forget 46 = .ok (.istore_n 1, 1) := by decide +kernel
theorem dX7_forget_47 : decode cX7_forget 47 = .ok (.iload_n 1, 1) := by decide +kernel
theorem dX7_forget_48 : decode cX7_forget 48 = .ok (.bipush 80, 2) := by decide +kernel
theorem dX7_forget_50 : decode cX7_forget 50 = .ok (.if_icmp .ge 23, 3) := by decide +kernel
theorem dX7_forget_53 : decode cX7_forget 53 = .ok (.aload_n 0, 1) := by decide +kernel
theorem dX7_forget_54 : decode cX7_forget 54 = .ok (.getfield 57, 3) := by decide +kernel
theorem dX7_forget_57 : decode cX7_forget 57 = .ok (.iload_n 1, 1) := by decide +kernel
theorem dX7_forget_58 : decode cX7_forget 58 = .ok (.iconst 0, 1) := by decide +kernel
theorem dX7_forget_59 : decode cX7_forget 59 = .ok (.bastore, 1) := by decide +kernel
theorem dX7_forget_60 : decode cX7_forget 60 = .ok (.aload_n 0, 1) := by decide +kernel
theorem dX7_forget_61 : decode cX7_forget 61 = .ok (.getfield 63, 3) := by decide +kernel
theorem dX7_forget_64 : decode cX7_forget 64 = .ok (.iload_n 1, 1) := by decide +kernel
theorem dX7_forget_65 : decode cX7_forget 65 = .ok (.iconst 0, 1) := by decide +kernel
theorem dX7_forget_66 : decode cX7_forget 66 = .ok (.bastore, 1) := by decide +kernel
theorem dX7_forget_67 : decode cX7_forget 67 = .ok (.iinc 1 1, 3) := by decide +kernel
theorem dX7_forget_70 : decode cX7_forget 70 = .ok (.goto (-23), 3) := by decide +kernel
theorem dX7_forget_73 : decode cX7_forget 73 = .ok (.return_, 1) := by decide +kernel
theorem dX7_stop_0 : decode cX7_stop 0 = .ok (.aload_n 0, 1) := by decide +kernel
theorem dX7_stop_1 : decode cX7_stop 1 = .ok (.getfield 154, 3) := by decide +kernel
theorem dX7_stop_4 : decode cX7_stop 4 = .ok (.istore_n 2, 1) := by decide +kernel
theorem dX7_stop_5 : decode cX7_stop 5 = .ok (.aload_n 0, 1) := by decide +kernel
theorem dX7_stop_6 : decode cX7_stop 6 = .ok (.invokevirtual 109, 3) := by decide +kernel
theorem dX7_stop_9 : decode cX7_stop 9 = .ok (.aload_n 0, 1) := by decide +kernel
theorem dX7_stop_10 : decode cX7_stop 10 = .ok (.iload_n 2, 1) := by decide +kernel
theorem dX7_stop_11 : decode cX7_stop 11 = .ok (.putfield 154, 3) := by decide +kernel
theorem dX7_stop_14 : decode cX7_stop 14 = .ok (.aload_n 0, 1) := by decide +kernel
theorem dX7_stop_15 : decode cX7_stop 15 = .ok (.bipush 6, 2) := by decide +kernel
theorem dX7_stop_17 : decode cX7_stop 17 = .ok (.putfield 106, 3) := by decide +kernel
theorem dX7_stop_20 : decode cX7_stop 20 = .ok (.aload_n 0, 1) := by decide +kernel
theorem dX7_stop_21 : decode cX7_stop 21 = .ok (.iload_n 1, 1) := by decide +kernel
theorem dX7_stop_22 : decode cX7_stop 22 = .ok (.putfield 136, 3) := by decide +kernel
theorem dX7_stop_25 : decode cX7_stop 25 = .ok (.return_, 1) := by decide +kernel
theorem dX7_newNode_0 : decode cX7_newNode 0 = .ok (.iconst 0, 1) := by decide +kernel
theorem dX7_newNode_1 : decode cX7_newNode 1 = .ok (.istore_n 2, 1) := by decide +kernel
theorem dX7_newNode_2 : decode cX7_newNode 2 = .ok (.aload_n 0, 1) := by decide +kernel
theorem dX7_newNode_3 : decode cX7_newNode 3 = .ok (.getfield 57, 3) := by decide +kernel
theorem dX7_newNode_6 : decode cX7_newNode 6 = .ok (.iload_n 2, 1) := by decide +kernel
theorem dX7_newNode_7 : decode cX7_newNode 7 = .ok (.baload, 1) := by decide +kernel
theorem dX7_newNode_8 : decode cX7_newNode 8 = .ok (.ifCond .eq 9, 3) := by decide +kernel
theorem dX7_newNode_11 : decode cX7_newNode 11 = .ok (.iinc 2 1, 3) := by decide +kernel
theorem dX7_newNode_14 : decode cX7_newNode 14 = .ok (.goto (-12), 3) := by decide +kernel
theorem dX7_newNode_17 : decode cX7_newNode 17 = .ok (.aload_n 0, 1) := by decide +kernel
theorem dX7_newNode_18 : decode cX7_newNode 18 = .ok (.getfield 57, 3) := by decide +kernel
theorem dX7_newNode_21 : decode cX7_newNode 21 = .ok (.iload_n 2, 1) := by decide +kernel
theorem dX7_newNode_22 : decode cX7_newNode 22 = .ok (.iconst 1, 1) := by decide +kernel
theorem dX7_newNode_23 : decode cX7_newNode 23 = .ok (.bastore, 1) := by decide +kernel
theorem dX7_newNode_24 : decode cX7_newNode 24 = .ok (.aload_n 0, 1) := by decide +kernel
theorem dX7_newNode_25 : decode cX7_newNode 25 = .ok (.getfield 60, 3) := by decide +kernel
theorem dX7_newNode_28 : decode cX7_newNode 28 = .ok (.iload_n 2, 1) := by decide +kernel
theorem dX7_newNode_29 : decode cX7_newNode 29 = .ok (.iload_n 1, 1) := by decide +kernel
theorem dX7_newNode_30 : decode cX7_newNode 30 = .ok (.bastore, 1) := by decide +kernel
theorem dX7_newNode_31 : decode cX7_newNode 31 = .ok (.aload_n 0, 1) := by decide +kernel
theorem dX7_newNode_32 : decode cX7_newNode 32 = .ok (.getfield 63, 3) := by decide +kernel
theorem dX7_newNode_35 : decode cX7_newNode 35 = .ok (.iload_n 2, 1) := by decide +kernel
theorem dX7_newNode_36 : decode cX7_newNode 36 = .ok (.iconst 1, 1) := by decide +kernel
theorem dX7_newNode_37 : decode cX7_newNode 37 = .ok (.bastore, 1) := by decide +kernel
theorem dX7_newNode_38 : decode cX7_newNode 38 = .ok (.aload_n 0, 1) := by decide +kernel
theorem dX7_newNode_39 : decode cX7_newNode 39 = .ok (.getfield 66, 3) := by decide +kernel
theorem dX7_newNode_42 : decode cX7_newNode 42 = .ok (.iload_n 2, 1) := by decide +kernel
theorem dX7_newNode_43 : decode cX7_newNode 43 = .ok (.iconst 0, 1) := by decide +kernel
theorem dX7_newNode_44 : decode cX7_newNode 44 = .ok (.iastore, 1) := by decide +kernel
theorem dX7_newNode_45 : decode cX7_newNode 45 = .ok (.aload_n 0, 1) := by decide +kernel
theorem dX7_newNode_46 : decode cX7_newNode 46 = .ok (.dup, 1) := by decide +kernel
theorem dX7_newNode_47 : decode cX7_newNode 47 = .ok (.getfield 151, 3) := by decide +kernel
theorem dX7_newNode_50 : decode cX7_newNode 50 = .ok (.iconst 1, 1) := by decide +kernel
theorem dX7_newNode_51 : decode cX7_newNode 51 = .ok (.iadd, 1) := by decide +kernel
theorem dX7_newNode_52 : decode cX7_newNode 52 = .ok (.putfield 151, 3) := by decide +kernel
theorem dX7_newNode_55 : decode cX7_newNode 55 = .ok (.iload_n 2, 1) := by decide +kernel
theorem dX7_newNode_56 : decode cX7_newNode 56 = .ok (.ireturn, 1) := by decide +kernel
theorem dX7_giveBack_0 : decode cX7_giveBack 0 = .ok (.aload_n 0, 1) := by decide +kernel
theorem dX7_giveBack_1 : decode cX7_giveBack 1 = .ok (.getfield 57, 3) := by decide +kernel
theorem dX7_giveBack_4 : decode cX7_giveBack 4 = .ok (.iload_n 1, 1) := by decide +kernel
theorem dX7_giveBack_5 : decode cX7_giveBack 5 = .ok (.iconst 0, 1) := by decide +kernel
theorem dX7_giveBack_6 : decode cX7_giveBack 6 = .ok (.bastore, 1) := by decide +kernel
theorem dX7_giveBack_7 : decode cX7_giveBack 7 = .ok (.aload_n 0, 1) := by decide +kernel
theorem dX7_giveBack_8 : decode cX7_giveBack 8 = .ok (.getfield 63, 3) := by decide +kernel
theorem dX7_giveBack_11 : decode cX7_giveBack 11 = .ok (.iload_n 1, 1) := by decide +kernel
theorem dX7_giveBack_12 : decode cX7_giveBack 12 = .ok (.iconst 0, 1) := by decide +kernel
theorem dX7_giveBack_13 : decode cX7_giveBack 13 = .ok (.bastore, 1) := by decide +kernel
theorem dX7_giveBack_14 : decode cX7_giveBack 14 = .ok (.aload_n 0, 1) := by decide +kernel
theorem dX7_giveBack_15 : decode cX7_giveBack 15 = .ok (.dup, 1) := by decide +kernel
theorem dX7_giveBack_16 : decode cX7_giveBack 16 = .ok (.getfield 151, 3) := by decide +kernel
theorem dX7_giveBack_19 : decode cX7_giveBack 19 = .ok (.iconst 1, 1) := by decide +kernel
theorem dX7_giveBack_20 : decode cX7_giveBack 20 = .ok (.isub, 1) := by decide +kernel
theorem dX7_giveBack_21 : decode cX7_giveBack 21 = .ok (.putfield 151, 3) := by decide +kernel
theorem dX7_giveBack_24 : decode cX7_giveBack 24 = .ok (.return_, 1) := by decide +kernel
theorem dX7_isBefore_0 : decode cX7_isBefore 0 = .ok (.iload_n 0, 1) := by decide +kernel
theorem dX7_isBefore_1 : decode cX7_isBefore 1 = .ok (.iload_n 2, 1) := by decide +kernel
theorem dX7_isBefore_2 : decode cX7_isBefore 2 = .ok (.if_icmp .lt 13, 3) := by decide +kernel
theorem dX7_isBefore_5 : decode cX7_isBefore 5 = .ok (.iload_n 0, 1) := by decide +kernel
theorem dX7_isBefore_6 : decode cX7_isBefore 6 = .ok (.iload_n 2, 1) := by decide +kernel
theorem dX7_isBefore_7 : decode cX7_isBefore 7 = .ok (.if_icmp .ne 12, 3) := by decide +kernel
theorem dX7_isBefore_10 : decode cX7_isBefore 10 = .ok (.iload_n 1, 1) := by decide +kernel
theorem dX7_isBefore_11 : decode cX7_isBefore 11 = .ok (.iload_n 3, 1) := by decide +kernel
theorem dX7_isBefore_12 : decode cX7_isBefore 12 = .ok (.if_icmp .ge 7, 3) := by decide +kernel
theorem dX7_isBefore_15 : decode cX7_isBefore 15 = .ok (.iconst 1, 1) := by decide +kernel
theorem dX7_isBefore_16 : decode cX7_isBefore 16 = .ok (.goto 4, 3) := by decide +kernel
theorem dX7_isBefore_19 : decode cX7_isBefore 19 = .ok (.iconst 0, 1) := by decide +kernel
theorem dX7_isBefore_20 : decode cX7_isBefore 20 = .ok (.ireturn, 1) := by decide +kernel
theorem dX7_firstLeaf_0 : decode cX7_firstLeaf 0 = .ok (.iload_n 1, 1) := by decide +kernel
theorem dX7_firstLeaf_1 : decode cX7_firstLeaf 1 = .ok (.istore_n 2, 1) := by decide +kernel
theorem dX7_firstLeaf_2 : decode cX7_firstLeaf 2 = .ok (.aload_n 0, 1) := by decide +kernel
theorem dX7_firstLeaf_3 : decode cX7_firstLeaf 3 = .ok (.getfield 60, 3) := by decide +kernel
theorem dX7_firstLeaf_6 : decode cX7_firstLeaf 6 = .ok (.iload_n 2, 1) := by decide +kernel
theorem dX7_firstLeaf_7 : decode cX7_firstLeaf 7 = .ok (.baload, 1) := by decide +kernel
theorem dX7_firstLeaf_8 : decode cX7_firstLeaf 8 = .ok (.ifCond .ne 16, 3) := by decide +kernel
theorem dX7_firstLeaf_11 : decode cX7_firstLeaf 11 = .ok (.aload_n 0, 1) := by decide +kernel
theorem dX7_firstLeaf_12 : decode cX7_firstLeaf 12 = .ok (.getfield 75, 3) := by decide +kernel
theorem dX7_firstLeaf_15 : decode cX7_firstLeaf 15 = .ok (.bipush 9, 2) := by decide +kernel
theorem dX7_firstLeaf_17 : decode cX7_firstLeaf 17 = .ok (.iload_n 2, 1) := by decide +kernel
theorem dX7_firstLeaf_18 : decode cX7_firstLeaf 18 = .ok (.imul, 1) := by decide +kernel
theorem dX7_firstLeaf_19 : decode cX7_firstLeaf 19 = .ok (.iaload, 1) := by decide +kernel
theorem dX7_firstLeaf_20 : decode cX7_firstLeaf 20 = .ok (.istore_n 2, 1) := by decide +kernel
theorem dX7_firstLeaf_21 : decode cX7_firstLeaf 21 = .ok (.goto (-19), 3) := by decide +kernel
theorem dX7_firstLeaf_24 : decode cX7_firstLeaf 24 = .ok (.iload_n 2, 1) := by decide +kernel
theorem dX7_firstLeaf_25 : decode cX7_firstLeaf 25 = .ok (.ireturn, 1) := by decide +kernel
theorem dX7_descend_0 : decode cX7_descend 0 = .ok (.aload_n 0, 1) := by decide +kernel
theorem dX7_descend_1 : decode cX7_descend 1 = .ok (.iconst 0, 1) := by decide +kernel
theorem dX7_descend_2 : decode cX7_descend 2 = .ok (.putfield 157, 3) := by decide +kernel
theorem dX7_descend_5 : decode cX7_descend 5 = .ok (.aload_n 0, 1) := by decide +kernel
theorem dX7_descend_6 : decode cX7_descend 6 = .ok (.getfield 160, 3) := by decide +kernel
theorem dX7_descend_9 : decode cX7_descend 9 = .ok (.istore_n 3, 1) := by decide +kernel
theorem dX7_descend_10 : decode cX7_descend 10 = .ok (.aload_n 0, 1) := by decide +kernel
theorem dX7_descend_11 : decode cX7_descend 11 = .ok (.getfield 60, 3) := by decide +kernel
theorem dX7_descend_14 : decode cX7_descend 14 = .ok (.iload_n 3, 1) := by decide +kernel
theorem dX7_descend_15 : decode cX7_descend 15 = .ok (.baload, 1) := by decide +kernel
theorem dX7_descend_16 : decode cX7_descend 16 = .ok (.ifCond .ne 128, 3) := by decide +kernel
theorem dX7_descend_19 : decode cX7_descend 19 = .ok (.iconst 0, 1) := by decide +kernel
theorem dX7_descend_20 : decode cX7_descend 20 = .ok (.istore 4, 2) := by decide +kernel
theorem dX7_descend_22 : decode cX7_descend 22 = .ok (.iconst 1, 1) := by decide +kernel
theorem dX7_descend_23 : decode cX7_descend 23 = .ok (.istore 5, 2) := by decide +kernel
theorem dX7_descend_25 : decode cX7_descend 25 = .ok (.iload 5, 2) := by decide +kernel
theorem dX7_descend_27 : decode cX7_descend 27 = .ok (.aload_n 0, 1) := by decide +kernel
theorem dX7_descend_28 : decode cX7_descend 28 = .ok (.getfield 66, 3) := by decide +kernel
theorem dX7_descend_31 : decode cX7_descend 31 = .ok (.iload_n 3, 1) := by decide +kernel
theorem dX7_descend_32 : decode cX7_descend 32 = .ok (.iaload, 1) := by decide +kernel
theorem dX7_descend_33 : decode cX7_descend 33 = .ok (.if_icmp .ge 64, 3) := by decide +kernel
theorem dX7_descend_36 : decode cX7_descend 36 = .ok (.aload_n 0, 1) := by decide +kernel
theorem dX7_descend_37 : decode cX7_descend 37 = .ok (.aload_n 0, 1) := by decide +kernel
theorem dX7_descend_38 : decode cX7_descend 38 = .ok (.getfield 75, 3) := by decide +kernel
theorem dX7_descend_41 : decode cX7_descend 41 = .ok (.bipush 9, 2) := by decide +kernel
theorem dX7_descend_43 : decode cX7_descend 43 = .ok (.iload_n 3, 1) := by decide +kernel
theorem dX7_descend_44 : decode cX7_descend 44 = .ok (.imul, 1) := by decide +kernel
theorem dX7_descend_45 : decode cX7_descend 45 = .ok (.iload 5, 2) := by decide +kernel
theorem dX7_descend_47 : decode cX7_descend 47 = .ok (.iadd, 1) := by decide +kernel
theorem dX7_descend_48 : decode cX7_descend 48 = .ok (.iaload, 1) := by decide +kernel
theorem dX7_descend_49 : decode cX7_descend 49 = .ok (.invokevirtual 163, 3) := by decide +kernel
theorem dX7_descend_52 : decode cX7_descend 52 = .ok (.istore 6, 2) := by decide +kernel
theorem dX7_descend_54 : decode cX7_descend 54 = .ok (.iload_n 1, 1) := by decide +kernel
theorem dX7_descend_55 : decode cX7_descend 55 = .ok (.iload_n 2, 1) := by decide +kernel
theorem dX7_descend_56 : decode cX7_descend 56 = .ok (.aload_n 0, 1) := by decide +kernel
theorem dX7_descend_57 : decode cX7_descend 57 = .ok (.getfield 69, 3) := by decide +kernel
theorem dX7_descend_60 : decode cX7_descend 60 = .ok (.bipush 9, 2) := by decide +kernel
theorem dX7_descend_62 : decode cX7_descend 62 = .ok (.iload 6, 2) := by decide +kernel
theorem dX7_descend_64 : decode cX7_descend 64 = .ok (.imul, 1) := by decide +kernel
theorem dX7_descend_65 : decode cX7_descend 65 = .ok (.iaload, 1) := by decide +kernel
theorem dX7_descend_66 : decode cX7_descend 66 = .ok (.aload_n 0, 1) := by decide +kernel
theorem dX7_descend_67 : decode cX7_descend 67 = .ok (.getfield 72, 3) := by decide +kernel
theorem dX7_descend_70 : decode cX7_descend 70 = .ok (.bipush 9, 2) := by decide +kernel
theorem dX7_descend_72 : decode cX7_descend 72 = .ok (.iload 6, 2) := by decide +kernel
theorem dX7_descend_74 : decode cX7_descend 74 = .ok (.imul, 1) := by decide +kernel
theorem dX7_descend_75 : decode cX7_descend 75 = .ok (.iaload, 1) := by decide +kernel
theorem dX7_descend_76 : decode cX7_descend 76 = .ok (.invokestatic 167, 3) := by decide +kernel
theorem dX7_descend_79 : decode cX7_descend 79 = .ok (.ifCond .eq 8, 3) := by decide +kernel
theorem dX7_descend_82 : decode cX7_descend 82 = .ok (.iload 4, 2) := by decide +kernel
theorem dX7_descend_84 : decode cX7_descend 84 = .ok (.goto 5, 3) := by decide +kernel
theorem dX7_descend_87 : decode cX7_descend 87 = .ok (.iload 5, 2) := by decide +kernel
theorem dX7_descend_89 : decode cX7_descend 89 = .ok (.istore 4, 2) := by decide +kernel
theorem dX7_descend_91 : decode cX7_descend 91 = .ok (.iinc 5 1, 3) := by decide +kernel
theorem dX7_descend_94 : decode cX7_descend 94 = .ok (.goto (-69), 3) := by decide +kernel
theorem dX7_descend_97 : decode cX7_descend 97 = .ok (.aload_n 0, 1) := by decide +kernel
theorem dX7_descend_98 : decode cX7_descend 98 = .ok (.getfield 81, 3) := by decide +kernel
theorem dX7_descend_101 : decode cX7_descend 101 = .ok (.aload_n 0, 1) := by decide +kernel
theorem dX7_descend_102 : decode cX7_descend 102 = .ok (.getfield 157, 3) := by decide +kernel
theorem dX7_descend_105 : decode cX7_descend 105 = .ok (.iload_n 3, 1) := by decide +kernel
theorem dX7_descend_106 : decode cX7_descend 106 = .ok (.iastore, 1) := by decide +kernel
theorem dX7_descend_107 : decode cX7_descend 107 = .ok (.aload_n 0, 1) := by decide +kernel
theorem dX7_descend_108 : decode cX7_descend 108 = .ok (.getfield 84, 3) := by decide +kernel
theorem dX7_descend_111 : decode cX7_descend 111 = .ok (.aload_n 0, 1) := by decide +kernel
theorem dX7_descend_112 : decode cX7_descend 112 = .ok (.getfield 157, 3) := by decide +kernel
theorem dX7_descend_115 : decode cX7_descend 115 = .ok (.iload 4, 2) := by decide +kernel
theorem dX7_descend_117 : decode cX7_descend 117 = .ok (.iastore, 1) := by decide +kernel
theorem dX7_descend_118 : decode cX7_descend 118 = .ok (.aload_n 0, 1) := by decide +kernel
theorem dX7_descend_119 : decode cX7_descend 119 = .ok (.dup, 1) := by decide +kernel
theorem dX7_descend_120 : decode cX7_descend 120 = .ok (.getfield 157, 3) := by decide +kernel
theorem dX7_descend_123 : decode cX7_descend 123 = .ok (.iconst 1, 1) := by decide +kernel
theorem dX7_descend_124 : decode cX7_descend 124 = .ok (.iadd, 1) := by decide +kernel
theorem dX7_descend_125 : decode cX7_descend 125 = .ok (.putfield 157, 3) := by decide +kernel
theorem dX7_descend_128 : decode cX7_descend 128 = .ok (.aload_n 0, 1) := by decide +kernel
theorem dX7_descend_129 : decode cX7_descend 129 = .ok (.getfield 75, 3) := by decide +kernel
theorem dX7_descend_132 : decode cX7_descend 132 = .ok (.bipush 9, 2) := by decide +kernel
theorem dX7_descend_134 : decode cX7_descend 134 = .ok (.iload_n 3, 1) := by decide +kernel
theorem dX7_descend_135 : decode cX7_descend 135 = .ok (.imul, 1) := by decide +kernel
theorem dX7_descend_136 : decode cX7_descend 136 = .ok (.iload 4, 2) := by decide +kernel
theorem dX7_descend_138 : decode cX7_descend 138 = .ok (.iadd, 1) := by decide +kernel
theorem dX7_descend_139 : decode cX7_descend 139 = .ok (.iaload, 1) := by decide +kernel
theorem dX7_descend_140 : decode cX7_descend 140 = .ok (.istore_n 3, 1) := by decide +kernel
theorem dX7_descend_141 : decode cX7_descend 141 = .ok (.goto (-131), 3) := by decide +kernel
theorem dX7_descend_144 : decode cX7_descend 144 = .ok (.aload_n 0, 1) := by decide +kernel
theorem dX7_descend_145 : decode cX7_descend 145 = .ok (.getfield 81, 3) := by decide +kernel
theorem dX7_descend_148 : decode cX7_descend 148 = .ok (.aload_n 0, 1) := by decide +kernel
theorem dX7_descend_149 : decode cX7_descend 149 = .ok (.getfield 157, 3) := by decide +kernel
theorem dX7_descend_152 : decode cX7_descend 152 = .ok (.iload_n 3, 1) := by decide +kernel
theorem dX7_descend_153 : decode cX7_descend 153 = .ok (.iastore, 1) := by decide +kernel
theorem dX7_descend_154 : decode cX7_descend 154 = .ok (.aload_n 0, 1) := by decide +kernel
theorem dX7_descend_155 : decode cX7_descend 155 = .ok (.getfield 84, 3) := by decide +kernel
theorem dX7_descend_158 : decode cX7_descend 158 = .ok (.aload_n 0, 1) := by decide +kernel
theorem dX7_descend_159 : decode cX7_descend 159 = .ok (.getfield 157, 3) := by decide +kernel
theorem dX7_descend_162 : decode cX7_descend 162 = .ok (.iconst 0, 1) := by decide +kernel
theorem dX7_descend_163 : decode cX7_descend 163 = .ok (.iastore, 1) := by decide +kernel
theorem dX7_descend_164 : decode cX7_descend 164 = .ok (.return_, 1) := by decide +kernel
theorem dX7_copySlot_0 : decode cX7_copySlot 0 = .ok (.aload_n 0, 1) := by decide +kernel
theorem dX7_copySlot_1 : decode cX7_copySlot 1 = .ok (.getfield 69, 3) := by decide +kernel
theorem dX7_copySlot_4 : decode cX7_copySlot 4 = .ok (.iload_n 2, 1) := by decide +kernel
theorem dX7_copySlot_5 : decode cX7_copySlot 5 = .ok (.aload_n 0, 1) := by decide +kernel
theorem dX7_copySlot_6 : decode cX7_copySlot 6 = .ok (.getfield 69, 3) := by decide +kernel
theorem dX7_copySlot_9 : decode cX7_copySlot 9 = .ok (.iload_n 1, 1) := by decide +kernel
theorem dX7_copySlot_10 : decode cX7_copySlot 10 = .ok (.iaload, 1) := by decide +kernel
theorem dX7_copySlot_11 : decode cX7_copySlot 11 = .ok (.iastore, 1) := by decide +kernel
theorem dX7_copySlot_12 : decode cX7_copySlot 12 = .ok (.aload_n 0, 1) := by decide +kernel
theorem dX7_copySlot_13 : decode cX7_copySlot 13 = .ok (.getfield 72, 3) := by decide +kernel
theorem dX7_copySlot_16 : decode cX7_copySlot 16 = .ok (.iload_n 2, 1) := by decide +kernel
theorem dX7_copySlot_17 : decode cX7_copySlot 17 = .ok (.aload_n 0, 1) := by decide +kernel
theorem dX7_copySlot_18 : decode cX7_copySlot 18 = .ok (.getfield 72, 3) := by decide +kernel
theorem dX7_copySlot_21 : decode cX7_copySlot 21 = .ok (.iload_n 1, 1) := by decide +kernel
theorem dX7_copySlot_22 : decode cX7_copySlot 22 = .ok (.iaload, 1) := by decide +kernel
theorem dX7_copySlot_23 : decode cX7_copySlot 23 = .ok (.iastore, 1) := by decide +kernel
theorem dX7_copySlot_24 : decode cX7_copySlot 24 = .ok (.aload_n 0, 1) := by decide +kernel
theorem dX7_copySlot_25 : decode cX7_copySlot 25 = .ok (.getfield 75, 3) := by decide +kernel
theorem dX7_copySlot_28 : decode cX7_copySlot 28 = .ok (.iload_n 2, 1) := by decide +kernel
theorem dX7_copySlot_29 : decode cX7_copySlot 29 = .ok (.aload_n 0, 1) := by decide +kernel
theorem dX7_copySlot_30 : decode cX7_copySlot 30 = .ok (.getfield 75, 3) := by decide +kernel
theorem dX7_copySlot_33 : decode cX7_copySlot 33 = .ok (.iload_n 1, 1) := by decide +kernel
theorem dX7_copySlot_34 : decode cX7_copySlot 34 = .ok (.iaload, 1) := by decide +kernel
theorem dX7_copySlot_35 : decode cX7_copySlot 35 = .ok (.iastore, 1) := by decide +kernel
theorem dX7_copySlot_36 : decode cX7_copySlot 36 = .ok (.return_, 1) := by decide +kernel
theorem dX7_openSlot_0 : decode cX7_openSlot 0 = .ok (.aload_n 0, 1) := by decide +kernel
theorem dX7_openSlot_1 : decode cX7_openSlot 1 = .ok (.getfield 66, 3) := by decide +kernel
theorem dX7_openSlot_4 : decode cX7_openSlot 4 = .ok (.iload_n 1, 1) := by decide +kernel
theorem dX7_openSlot_5 : decode cX7_openSlot 5 = .ok (.iaload, 1) := by decide +kernel
theorem dX7_openSlot_6 : decode cX7_openSlot 6 = .ok (.istore_n 3, 1) := by decide +kernel
theorem dX7_openSlot_7 : decode cX7_openSlot 7 = .ok (.iload_n 3, 1) := by decide +kernel
theorem dX7_openSlot_8 : decode cX7_openSlot 8 = .ok (.iload_n 2, 1) := by decide +kernel
theorem dX7_openSlot_9 : decode cX7_openSlot 9 = .ok (.if_icmp .le 27, 3) := by decide +kernel
theorem dX7_openSlot_12 : decode cX7_openSlot 12 = .ok (.aload_n 0, 1) := by decide +kernel
theorem dX7_openSlot_13 : decode cX7_openSlot 13 = .ok (.bipush 9, 2) := by decide +kernel
theorem dX7_openSlot_15 : decode cX7_openSlot 15 = .ok (.iload_n 1, 1) := by decide +kernel
theorem dX7_openSlot_16 : decode cX7_openSlot 16 = .ok (.imul, 1) := by decide +kernel
theorem dX7_openSlot_17 : decode cX7_openSlot 17 = .ok (.iload_n 3, 1) := by decide +kernel
theorem dX7_openSlot_18 : decode cX7_openSlot 18 = .ok (.iadd, 1) := by decide +kernel
theorem dX7_openSlot_19 : decode cX7_openSlot 19 = .ok (.iconst 1, 1) := by decide +kernel
theorem dX7_openSlot_20 : decode cX7_openSlot 20 = .ok (.isub, 1) := by decide +kernel
theorem dX7_openSlot_21 : decode cX7_openSlot 21 = .ok (.bipush 9, 2) := by decide +kernel
theorem dX7_openSlot_23 : decode cX7_openSlot 23 = .ok (.iload_n 1, 1) := by decide +kernel
theorem dX7_openSlot_24 : decode cX7_openSlot 24 = .ok (.imul, 1) := by decide +kernel
theorem dX7_openSlot_25 : decode cX7_openSlot 25 = .ok (.iload_n 3, 1) := by decide +kernel
theorem dX7_openSlot_26 : decode cX7_openSlot 26 = .ok (.iadd, 1) := by decide +kernel
theorem dX7_openSlot_27 : decode cX7_openSlot 27 = .ok (.invokevirtual 171, 3) := by decide +kernel
theorem dX7_openSlot_30 : decode cX7_openSlot 30 = .ok (.iinc 3 (-1), 3) := by decide +kernel
theorem dX7_openSlot_33 : decode cX7_openSlot 33 = .ok (.goto (-26), 3) := by decide +kernel
theorem dX7_openSlot_36 : decode cX7_openSlot 36 = .ok (.aload_n 0, 1) := by decide +kernel
theorem dX7_openSlot_37 : decode cX7_openSlot 37 = .ok (.getfield 66, 3) := by decide +kernel
theorem dX7_openSlot_40 : decode cX7_openSlot 40 = .ok (.iload_n 1, 1) := by decide +kernel
theorem dX7_openSlot_41 : decode cX7_openSlot 41 = .ok (.dup2, 1) := by decide +kernel
theorem dX7_openSlot_42 : decode cX7_openSlot 42 = .ok (.iaload, 1) := by decide +kernel
theorem dX7_openSlot_43 : decode cX7_openSlot 43 = .ok (.iconst 1, 1) := by decide +kernel
theorem dX7_openSlot_44 : decode cX7_openSlot 44 = .ok (.iadd, 1) := by decide +kernel
theorem dX7_openSlot_45 : decode cX7_openSlot 45 = .ok (.iastore, 1) := by decide +kernel
theorem dX7_openSlot_46 : decode cX7_openSlot 46 = .ok (.aload_n 0, 1) := by decide +kernel
theorem dX7_openSlot_47 : decode cX7_openSlot 47 = .ok (.getfield 63, 3) := by decide +kernel
theorem dX7_openSlot_50 : decode cX7_openSlot 50 = .ok (.iload_n 1, 1) := by decide +kernel
theorem dX7_openSlot_51 : decode cX7_openSlot 51 = .ok (.iconst 1, 1) := by decide +kernel
theorem dX7_openSlot_52 : decode cX7_openSlot 52 = .ok (.bastore, 1) := by decide +kernel
theorem dX7_openSlot_53 : decode cX7_openSlot 53 = .ok (.return_, 1) := by decide +kernel
theorem dX7_closeSlot_0 : decode cX7_closeSlot 0 = .ok (.aload_n 0, 1) := by decide +kernel
theorem dX7_closeSlot_1 : decode cX7_closeSlot 1 = .ok (.getfield 66, 3) := by decide +kernel
theorem dX7_closeSlot_4 : decode cX7_closeSlot 4 = .ok (.iload_n 1, 1) := by decide +kernel
theorem dX7_closeSlot_5 : decode cX7_closeSlot 5 = .ok (.dup2, 1) := by decide +kernel
theorem dX7_closeSlot_6 : decode cX7_closeSlot 6 = .ok (.iaload, 1) := by decide +kernel
theorem dX7_closeSlot_7 : decode cX7_closeSlot 7 = .ok (.iconst 1, 1) := by decide +kernel
theorem dX7_closeSlot_8 : decode cX7_closeSlot 8 = .ok (.isub, 1) := by decide +kernel
theorem dX7_closeSlot_9 : decode cX7_closeSlot 9 = .ok (.iastore, 1) := by decide +kernel
theorem dX7_closeSlot_10 : decode cX7_closeSlot 10 = .ok (.iload_n 2, 1) := by decide +kernel
theorem dX7_closeSlot_11 : decode cX7_closeSlot 11 = .ok (.istore_n 3, 1) := by decide +kernel
theorem dX7_closeSlot_12 : decode cX7_closeSlot 12 = .ok (.iload_n 3, 1) := by decide +kernel
theorem dX7_closeSlot_13 : decode cX7_closeSlot 13 = .ok (.aload_n 0, 1) := by decide +kernel
theorem dX7_closeSlot_14 : decode cX7_closeSlot 14 = .ok (.getfield 66, 3) := by decide +kernel
theorem dX7_closeSlot_17 : decode cX7_closeSlot 17 = .ok (.iload_n 1, 1) := by decide +kernel
theorem dX7_closeSlot_18 : decode cX7_closeSlot 18 = .ok (.iaload, 1) := by decide +kernel
theorem dX7_closeSlot_19 : decode cX7_closeSlot 19 = .ok (.if_icmp .ge 27, 3) := by decide +kernel
theorem dX7_closeSlot_22 : decode cX7_closeSlot 22 = .ok (.aload_n 0, 1) := by decide +kernel
theorem dX7_closeSlot_23 : decode cX7_closeSlot 23 = .ok (.bipush 9, 2) := by decide +kernel
theorem dX7_closeSlot_25 : decode cX7_closeSlot 25 = .ok (.iload_n 1, 1) := by decide +kernel
theorem dX7_closeSlot_26 : decode cX7_closeSlot 26 = .ok (.imul, 1) := by decide +kernel
theorem dX7_closeSlot_27 : decode cX7_closeSlot 27 = .ok (.iload_n 3, 1) := by decide +kernel
theorem dX7_closeSlot_28 : decode cX7_closeSlot 28 = .ok (.iadd, 1) := by decide +kernel
theorem dX7_closeSlot_29 : decode cX7_closeSlot 29 = .ok (.iconst 1, 1) := by decide +kernel
theorem dX7_closeSlot_30 : decode cX7_closeSlot 30 = .ok (.iadd, 1) := by decide +kernel
theorem dX7_closeSlot_31 : decode cX7_closeSlot 31 = .ok (.bipush 9, 2) := by decide +kernel
theorem dX7_closeSlot_33 : decode cX7_closeSlot 33 = .ok (.iload_n 1, 1) := by decide +kernel
theorem dX7_closeSlot_34 : decode cX7_closeSlot 34 = .ok (.imul, 1) := by decide +kernel
theorem dX7_closeSlot_35 : decode cX7_closeSlot 35 = .ok (.iload_n 3, 1) := by decide +kernel
theorem dX7_closeSlot_36 : decode cX7_closeSlot 36 = .ok (.iadd, 1) := by decide +kernel
theorem dX7_closeSlot_37 : decode cX7_closeSlot 37 = .ok (.invokevirtual 171, 3) := by decide +kernel
theorem dX7_closeSlot_40 : decode cX7_closeSlot 40 = .ok (.iinc 3 1, 3) := by decide +kernel
theorem dX7_closeSlot_43 : decode cX7_closeSlot 43 = .ok (.goto (-31), 3) := by decide +kernel
theorem dX7_closeSlot_46 : decode cX7_closeSlot 46 = .ok (.aload_n 0, 1) := by decide +kernel
theorem dX7_closeSlot_47 : decode cX7_closeSlot 47 = .ok (.getfield 63, 3) := by decide +kernel
theorem dX7_closeSlot_50 : decode cX7_closeSlot 50 = .ok (.iload_n 1, 1) := by decide +kernel
theorem dX7_closeSlot_51 : decode cX7_closeSlot 51 = .ok (.iconst 1, 1) := by decide +kernel
theorem dX7_closeSlot_52 : decode cX7_closeSlot 52 = .ok (.bastore, 1) := by decide +kernel
theorem dX7_closeSlot_53 : decode cX7_closeSlot 53 = .ok (.return_, 1) := by decide +kernel
theorem dX7_comes_0 : decode cX7_comes 0 = .ok (.aload_n 0, 1) := by decide +kernel
theorem dX7_comes_1 : decode cX7_comes 1 = .ok (.iload_n 1, 1) := by decide +kernel
theorem dX7_comes_2 : decode cX7_comes 2 = .ok (.iload_n 2, 1) := by decide +kernel
theorem dX7_comes_3 : decode cX7_comes 3 = .ok (.invokevirtual 175, 3) := by decide +kernel
theorem dX7_comes_6 : decode cX7_comes 6 = .ok (.aload_n 0, 1) := by decide +kernel
theorem dX7_comes_7 : decode cX7_comes 7 = .ok (.getfield 81, 3) := by decide +kernel
theorem dX7_comes_10 : decode cX7_comes 10 = .ok (.aload_n 0, 1) := by decide +kernel
theorem dX7_comes_11 : decode cX7_comes 11 = .ok (.getfield 157, 3) := by decide +kernel
theorem dX7_comes_14 : decode cX7_comes 14 = .ok (.iaload, 1) := by decide +kernel
theorem dX7_comes_15 : decode cX7_comes 15 = .ok (.istore_n 3, 1) := by decide +kernel
theorem dX7_comes_16 : decode cX7_comes 16 = .ok (.iconst 0, 1) := by decide +kernel
theorem dX7_comes_17 : decode cX7_comes 17 = .ok (.istore 4, 2) := by decide +kernel
theorem dX7_comes_19 : decode cX7_comes 19 = .ok (.iload 4, 2) := by decide +kernel
theorem dX7_comes_21 : decode cX7_comes 21 = .ok (.aload_n 0, 1) := by decide +kernel
theorem dX7_comes_22 : decode cX7_comes 22 = .ok (.getfield 66, 3) := by decide +kernel
theorem dX7_comes_25 : decode cX7_comes 25 = .ok (.iload_n 3, 1) := by decide +kernel
theorem dX7_comes_26 : decode cX7_comes 26 = .ok (.iaload, 1) := by decide +kernel
theorem dX7_comes_27 : decode cX7_comes 27 = .ok (.if_icmp .ge 41, 3) := by decide +kernel
theorem dX7_comes_30 : decode cX7_comes 30 = .ok (.aload_n 0, 1) := by decide +kernel
theorem dX7_comes_31 : decode cX7_comes 31 = .ok (.getfield 69, 3) := by decide +kernel
theorem dX7_comes_34 : decode cX7_comes 34 = .ok (.bipush 9, 2) := by decide +kernel
theorem dX7_comes_36 : decode cX7_comes 36 = .ok (.iload_n 3, 1) := by decide +kernel
theorem dX7_comes_37 : decode cX7_comes 37 = .ok (.imul, 1) := by decide +kernel
theorem dX7_comes_38 : decode cX7_comes 38 = .ok (.iload 4, 2) := by decide +kernel
theorem dX7_comes_40 : decode cX7_comes 40 = .ok (.iadd, 1) := by decide +kernel
theorem dX7_comes_41 : decode cX7_comes 41 = .ok (.iaload, 1) := by decide +kernel
theorem dX7_comes_42 : decode cX7_comes 42 = .ok (.aload_n 0, 1) := by decide +kernel
theorem dX7_comes_43 : decode cX7_comes 43 = .ok (.getfield 72, 3) := by decide +kernel
theorem dX7_comes_46 : decode cX7_comes 46 = .ok (.bipush 9, 2) := by decide +kernel
theorem dX7_comes_48 : decode cX7_comes 48 = .ok (.iload_n 3, 1) := by decide +kernel
theorem dX7_comes_49 : decode cX7_comes 49 = .ok (.imul, 1) := by decide +kernel
theorem dX7_comes_50 : decode cX7_comes 50 = .ok (.iload 4, 2) := by decide +kernel
theorem dX7_comes_52 : decode cX7_comes 52 = .ok (.iadd, 1) := by decide +kernel
theorem dX7_comes_53 : decode cX7_comes 53 = .ok (.iaload, 1) := by decide +kernel
theorem dX7_comes_54 : decode cX7_comes 54 = .ok (.iload_n 1, 1) := by decide +kernel
theorem dX7_comes_55 : decode cX7_comes 55 = .ok (.iload_n 2, 1) := by decide +kernel
theorem dX7_comes_56 : decode cX7_comes 56 = .ok (.invokestatic 167, 3) := by decide +kernel
theorem dX7_comes_59 : decode cX7_comes 59 = .ok (.ifCond .eq 9, 3) := by decide +kernel
theorem dX7_comes_62 : decode cX7_comes 62 = .ok (.iinc 4 1, 3) := by decide +kernel
theorem dX7_comes_65 : decode cX7_comes 65 = .ok (.goto (-46), 3) := by decide +kernel
theorem dX7_comes_68 : decode cX7_comes 68 = .ok (.aload_n 0, 1) := by decide +kernel
theorem dX7_comes_69 : decode cX7_comes 69 = .ok (.iload_n 3, 1) := by decide +kernel
theorem dX7_comes_70 : decode cX7_comes 70 = .ok (.iload 4, 2) := by decide +kernel
theorem dX7_comes_72 : decode cX7_comes 72 = .ok (.invokevirtual 178, 3) := by decide +kernel
theorem dX7_comes_75 : decode cX7_comes 75 = .ok (.aload_n 0, 1) := by decide +kernel
theorem dX7_comes_76 : decode cX7_comes 76 = .ok (.getfield 69, 3) := by decide +kernel
theorem dX7_comes_79 : decode cX7_comes 79 = .ok (.bipush 9, 2) := by decide +kernel
theorem dX7_comes_81 : decode cX7_comes 81 = .ok (.iload_n 3, 1) := by decide +kernel
theorem dX7_comes_82 : decode cX7_comes 82 = .ok (.imul, 1) := by decide +kernel
theorem dX7_comes_83 : decode cX7_comes 83 = .ok (.iload 4, 2) := by decide +kernel
theorem dX7_comes_85 : decode cX7_comes 85 = .ok (.iadd, 1) := by decide +kernel
theorem dX7_comes_86 : decode cX7_comes 86 = .ok (.iload_n 1, 1) := by decide +kernel
theorem dX7_comes_87 : decode cX7_comes 87 = .ok (.iastore, 1) := by decide +kernel
theorem dX7_comes_88 : decode cX7_comes 88 = .ok (.aload_n 0, 1) := by decide +kernel
theorem dX7_comes_89 : decode cX7_comes 89 = .ok (.getfield 72, 3) := by decide +kernel
theorem dX7_comes_92 : decode cX7_comes 92 = .ok (.bipush 9, 2) := by decide +kernel
theorem dX7_comes_94 : decode cX7_comes 94 = .ok (.iload_n 3, 1) := by decide +kernel
theorem dX7_comes_95 : decode cX7_comes 95 = .ok (.imul, 1) := by decide +kernel
theorem dX7_comes_96 : decode cX7_comes 96 = .ok (.iload 4, 2) := by decide +kernel
theorem dX7_comes_98 : decode cX7_comes 98 = .ok (.iadd, 1) := by decide +kernel
theorem dX7_comes_99 : decode cX7_comes 99 = .ok (.iload_n 2, 1) := by decide +kernel
theorem dX7_comes_100 : decode cX7_comes 100 = .ok (.iastore, 1) := by decide +kernel
theorem dX7_comes_101 : decode cX7_comes 101 = .ok (.aload_n 0, 1) := by decide +kernel
theorem dX7_comes_102 : decode cX7_comes 102 = .ok (.getfield 66, 3) := by decide +kernel
theorem dX7_comes_105 : decode cX7_comes 105 = .ok (.iload_n 3, 1) := by decide +kernel
theorem dX7_comes_106 : decode cX7_comes 106 = .ok (.iaload, 1) := by decide +kernel
theorem dX7_comes_107 : decode cX7_comes 107 = .ok (.bipush 8, 2) := by decide +kernel
theorem dX7_comes_109 : decode cX7_comes 109 = .ok (.if_icmp .le 190, 3) := by decide +kernel
theorem dX7_comes_112 : decode cX7_comes 112 = .ok (.aload_n 0, 1) := by decide +kernel
theorem dX7_comes_113 : decode cX7_comes 113 = .ok (.aload_n 0, 1) := by decide +kernel
theorem dX7_comes_114 : decode cX7_comes 114 = .ok (.getfield 60, 3) := by decide +kernel
theorem dX7_comes_117 : decode cX7_comes 117 = .ok (.iload_n 3, 1) := by decide +kernel
theorem dX7_comes_118 : decode cX7_comes 118 = .ok (.baload, 1) := by decide +kernel
theorem dX7_comes_119 : decode cX7_comes 119 = .ok (.invokevirtual 181, 3) := by decide +kernel
theorem dX7_comes_122 : decode cX7_comes 122 = .ok (.istore 5, 2) := by decide +kernel
theorem dX7_comes_124 : decode cX7_comes 124 = .ok (.iconst 4, 1) := by decide +kernel
theorem dX7_comes_125 : decode cX7_comes 125 = .ok (.istore 6, 2) := by decide +kernel
theorem dX7_comes_127 : decode cX7_comes 127 = .ok (.iload 6, 2) := by decide +kernel
theorem dX7_comes_129 : decode cX7_comes 129 = .ok (.bipush 9, 2) := by decide +kernel
theorem dX7_comes_131 : decode cX7_comes 131 = .ok (.if_icmp .ge 30, 3) := by decide +kernel
theorem dX7_comes_134 : decode cX7_comes 134 = .ok (.aload_n 0, 1) := by decide +kernel
theorem dX7_comes_135 : decode cX7_comes 135 = .ok (.bipush 9, 2) := by decide +kernel
theorem dX7_comes_137 : decode cX7_comes 137 = .ok (.iload_n 3, 1) := by decide +kernel
theorem dX7_comes_138 : decode cX7_comes 138 = .ok (.imul, 1) := by decide +kernel
theorem dX7_comes_139 : decode cX7_comes 139 = .ok (.iload 6, 2) := by decide +kernel
theorem dX7_comes_141 : decode cX7_comes 141 = .ok (.iadd, 1) := by decide +kernel
theorem dX7_comes_142 : decode cX7_comes 142 = .ok (.bipush 9, 2) := by decide +kernel
theorem dX7_comes_144 : decode cX7_comes 144 = .ok (.iload 5, 2) := by decide +kernel
theorem dX7_comes_146 : decode cX7_comes 146 = .ok (.imul, 1) := by decide +kernel
theorem dX7_comes_147 : decode cX7_comes 147 = .ok (.iload 6, 2) := by decide +kernel
theorem dX7_comes_149 : decode cX7_comes 149 = .ok (.iadd, 1) := by decide +kernel
theorem dX7_comes_150 : decode cX7_comes 150 = .ok (.iconst 4, 1) := by decide +kernel
theorem dX7_comes_151 : decode cX7_comes 151 = .ok (.isub, 1) := by decide +kernel
theorem dX7_comes_152 : decode cX7_comes 152 = .ok (.invokevirtual 171, 3) := by decide +kernel
theorem dX7_comes_155 : decode cX7_comes 155 = .ok (.iinc 6 1, 3) := by decide +kernel
theorem dX7_comes_158 : decode cX7_comes 158 = .ok (.goto (-31), 3) := by decide +kernel
theorem dX7_comes_161 : decode cX7_comes 161 = .ok (.aload_n 0, 1) := by decide +kernel
theorem dX7_comes_162 : decode cX7_comes 162 = .ok (.getfield 66, 3) := by decide +kernel
theorem dX7_comes_165 : decode cX7_comes 165 = .ok (.iload 5, 2) := by decide +kernel
theorem dX7_comes_167 : decode cX7_comes 167 = .ok (.iconst 5, 1) := by decide +kernel
theorem dX7_comes_168 : decode cX7_comes 168 = .ok (.iastore, 1) := by decide +kernel
theorem dX7_comes_169 : decode cX7_comes 169 = .ok (.aload_n 0, 1) := by decide +kernel
theorem dX7_comes_170 : decode cX7_comes 170 = .ok (.getfield 66, 3) := by decide +kernel
theorem dX7_comes_173 : decode cX7_comes 173 = .ok (.iload_n 3, 1) := by decide +kernel
theorem dX7_comes_174 : decode cX7_comes 174 = .ok (.iconst 4, 1) := by decide +kernel
theorem dX7_comes_175 : decode cX7_comes 175 = .ok (.iastore, 1) := by decide +kernel
theorem dX7_comes_176 : decode cX7_comes 176 = .ok (.aload_n 0, 1) := by decide +kernel
theorem dX7_comes_177 : decode cX7_comes 177 = .ok (.getfield 63, 3) := by decide +kernel
theorem dX7_comes_180 : decode cX7_comes 180 = .ok (.iload_n 3, 1) := by decide +kernel
theorem dX7_comes_181 : decode cX7_comes 181 = .ok (.iconst 1, 1) := by decide +kernel
theorem dX7_comes_182 : decode cX7_comes 182 = .ok (.bastore, 1) := by decide +kernel
theorem dX7_comes_183 : decode cX7_comes 183 = .ok (.aload_n 0, 1) := by decide +kernel
theorem dX7_comes_184 : decode cX7_comes 184 = .ok (.getfield 157, 3) := by decide +kernel
theorem dX7_comes_187 : decode cX7_comes 187 = .ok (.ifCond .ne 50, 3) := by decide +kernel
theorem dX7_comes_190 : decode cX7_comes 190 = .ok (.aload_n 0, 1) := by decide +kernel
theorem dX7_comes_191 : decode cX7_comes 191 = .ok (.iconst 0, 1) := by decide +kernel
theorem dX7_comes_192 : decode cX7_comes 192 = .ok (.invokevirtual 181, 3) := by decide +kernel
theorem dX7_comes_195 : decode cX7_comes 195 = .ok (.istore 6, 2) := by decide +kernel
theorem dX7_comes_197 : decode cX7_comes 197 = .ok (.aload_n 0, 1) := by decide +kernel
theorem dX7_comes_198 : decode cX7_comes 198 = .ok (.getfield 66, 3) := by decide +kernel
theorem dX7_comes_201 : decode cX7_comes 201 = .ok (.iload 6, 2) := by decide +kernel
theorem dX7_comes_203 : decode cX7_comes 203 = .ok (.iconst 2, 1) := by decide +kernel
theorem dX7_comes_204 : decode cX7_comes 204 = .ok (.iastore, 1) := by decide +kernel
theorem dX7_comes_205 : decode cX7_comes 205 = .ok (.aload_n 0, 1) := by decide +kernel
theorem dX7_comes_206 : decode cX7_comes 206 = .ok (.getfield 75, 3) := by decide +kernel
theorem dX7_comes_209 : decode cX7_comes 209 = .ok (.bipush 9, 2) := by decide +kernel
theorem dX7_comes_211 : decode cX7_comes 211 = .ok (.iload 6, 2) := by decide +kernel
theorem dX7_comes_213 : decode cX7_comes 213 = .ok (.imul, 1) := by decide +kernel
theorem dX7_comes_214 : decode cX7_comes 214 = .ok (.iload_n 3, 1) := by decide +kernel
theorem dX7_comes_215 : decode cX7_comes 215 = .ok (.iastore, 1) := by decide +kernel
theorem dX7_comes_216 : decode cX7_comes 216 = .ok (.aload_n 0, 1) := by decide +kernel
theorem dX7_comes_217 : decode cX7_comes 217 = .ok (.getfield 75, 3) := by decide +kernel
theorem dX7_comes_220 : decode cX7_comes 220 = .ok (.bipush 9, 2) := by decide +kernel
theorem dX7_comes_222 : decode cX7_comes 222 = .ok (.iload 6, 2) := by decide +kernel
theorem dX7_comes_224 : decode cX7_comes 224 = .ok (.imul, 1) := by decide +kernel
theorem dX7_comes_225 : decode cX7_comes 225 = .ok (.iconst 1, 1) := by decide +kernel
theorem dX7_comes_226 : decode cX7_comes 226 = .ok (.iadd, 1) := by decide +kernel
theorem dX7_comes_227 : decode cX7_comes 227 = .ok (.iload 5, 2) := by decide +kernel
theorem dX7_comes_229 : decode cX7_comes 229 = .ok (.iastore, 1) := by decide +kernel
theorem dX7_comes_230 : decode cX7_comes 230 = .ok (.aload_n 0, 1) := by decide +kernel
theorem dX7_comes_231 : decode cX7_comes 231 = .ok (.iload 6, 2) := by decide +kernel
theorem dX7_comes_233 : decode cX7_comes 233 = .ok (.putfield 160, 3) := by decide +kernel
theorem dX7_comes_236 : decode cX7_comes 236 = .ok (.return_, 1) := by decide +kernel
theorem dX7_comes_237 : decode cX7_comes 237 = .ok (.aload_n 0, 1) := by decide +kernel
theorem dX7_comes_238 : decode cX7_comes 238 = .ok (.dup, 1) := by decide +kernel
theorem dX7_comes_239 : decode cX7_comes 239 = .ok (.getfield 157, 3) := by decide +kernel
theorem dX7_comes_242 : decode cX7_comes 242 = .ok (.iconst 1, 1) := by decide +kernel
theorem dX7_comes_243 : decode cX7_comes 243 = .ok (.isub, 1) := by decide +kernel
theorem dX7_comes_244 : decode cX7_comes 244 = .ok (.putfield 157, 3) := by decide +kernel
theorem dX7_comes_247 : decode cX7_comes 247 = .ok (.aload_n 0, 1) := by decide +kernel
theorem dX7_comes_248 : decode cX7_comes 248 = .ok (.getfield 81, 3) := by decide +kernel
theorem dX7_comes_251 : decode cX7_comes 251 = .ok (.aload_n 0, 1) := by decide +kernel
theorem dX7_comes_252 : decode cX7_comes 252 = .ok (.getfield 157, 3) := by decide +kernel
theorem dX7_comes_255 : decode cX7_comes 255 = .ok (.iaload, 1) := by decide +kernel
theorem dX7_comes_256 : decode cX7_comes 256 = .ok (.istore_n 3, 1) := by decide +kernel
theorem dX7_comes_257 : decode cX7_comes 257 = .ok (.aload_n 0, 1) := by decide +kernel
theorem dX7_comes_258 : decode cX7_comes 258 = .ok (.iload_n 3, 1) := by decide +kernel
theorem dX7_comes_259 : decode cX7_comes 259 = .ok (.aload_n 0, 1) := by decide +kernel
theorem dX7_comes_260 : decode cX7_comes 260 = .ok (.getfield 84, 3) := by decide +kernel
theorem dX7_comes_263 : decode cX7_comes 263 = .ok (.aload_n 0, 1) := by decide +kernel
theorem dX7_comes_264 : decode cX7_comes 264 = .ok (.getfield 157, 3) := by decide +kernel
theorem dX7_comes_267 : decode cX7_comes 267 = .ok (.iaload, 1) := by decide +kernel
theorem dX7_comes_268 : decode cX7_comes 268 = .ok (.iconst 1, 1) := by decide +kernel
theorem dX7_comes_269 : decode cX7_comes 269 = .ok (.iadd, 1) := by decide +kernel
theorem dX7_comes_270 : decode cX7_comes 270 = .ok (.invokevirtual 178, 3) := by decide +kernel
theorem dX7_comes_273 : decode cX7_comes 273 = .ok (.aload_n 0, 1) := by decide +kernel
theorem dX7_comes_274 : decode cX7_comes 274 = .ok (.getfield 75, 3) := by decide +kernel
theorem dX7_comes_277 : decode cX7_comes 277 = .ok (.bipush 9, 2) := by decide +kernel
theorem dX7_comes_279 : decode cX7_comes 279 = .ok (.iload_n 3, 1) := by decide +kernel
theorem dX7_comes_280 : decode cX7_comes 280 = .ok (.imul, 1) := by decide +kernel
theorem dX7_comes_281 : decode cX7_comes 281 = .ok (.aload_n 0, 1) := by decide +kernel
theorem dX7_comes_282 : decode cX7_comes 282 = .ok (.getfield 84, 3) := by decide +kernel
theorem dX7_comes_285 : decode cX7_comes 285 = .ok (.aload_n 0, 1) := by decide +kernel
theorem dX7_comes_286 : decode cX7_comes 286 = .ok (.getfield 157, 3) := by decide +kernel
theorem dX7_comes_289 : decode cX7_comes 289 = .ok (.iaload, 1) := by decide +kernel
theorem dX7_comes_290 : decode cX7_comes 290 = .ok (.iadd, 1) := by decide +kernel
theorem dX7_comes_291 : decode cX7_comes 291 = .ok (.iconst 1, 1) := by decide +kernel
theorem dX7_comes_292 : decode cX7_comes 292 = .ok (.iadd, 1) := by decide +kernel
theorem dX7_comes_293 : decode cX7_comes 293 = .ok (.iload 5, 2) := by decide +kernel
theorem dX7_comes_295 : decode cX7_comes 295 = .ok (.iastore, 1) := by decide +kernel
theorem dX7_comes_296 : decode cX7_comes 296 = .ok (.goto (-195), 3) := by decide +kernel
theorem dX7_comes_299 : decode cX7_comes 299 = .ok (.return_, 1) := by decide +kernel
theorem dX7_goes_0 : decode cX7_goes 0 = .ok (.aload_n 0, 1) := by decide +kernel
theorem dX7_goes_1 : decode cX7_goes 1 = .ok (.iload_n 1, 1) := by decide +kernel
theorem dX7_goes_2 : decode cX7_goes 2 = .ok (.iload_n 2, 1) := by decide +kernel
theorem dX7_goes_3 : decode cX7_goes 3 = .ok (.invokevirtual 175, 3) := by decide +kernel
theorem dX7_goes_6 : decode cX7_goes 6 = .ok (.aload_n 0, 1) := by decide +kernel
theorem dX7_goes_7 : decode cX7_goes 7 = .ok (.getfield 81, 3) := by decide +kernel
theorem dX7_goes_10 : decode cX7_goes 10 = .ok (.aload_n 0, 1) := by decide +kernel
theorem dX7_goes_11 : decode cX7_goes 11 = .ok (.getfield 157, 3) := by decide +kernel
theorem dX7_goes_14 : decode cX7_goes 14 = .ok (.iaload, 1) := by decide +kernel
theorem dX7_goes_15 : decode cX7_goes 15 = .ok (.istore_n 3, 1) := by decide +kernel
theorem dX7_goes_16 : decode cX7_goes 16 = .ok (.iconst 0, 1) := by decide +kernel
theorem dX7_goes_17 : decode cX7_goes 17 = .ok (.istore 4, 2) := by decide +kernel
theorem dX7_goes_19 : decode cX7_goes 19 = .ok (.iload 4, 2) := by decide +kernel
theorem dX7_goes_21 : decode cX7_goes 21 = .ok (.aload_n 0, 1) := by decide +kernel
theorem dX7_goes_22 : decode cX7_goes 22 = .ok (.getfield 66, 3) := by decide +kernel
theorem dX7_goes_25 : decode cX7_goes 25 = .ok (.iload_n 3, 1) := by decide +kernel
theorem dX7_goes_26 : decode cX7_goes 26 = .ok (.iaload, 1) := by decide +kernel
theorem dX7_goes_27 : decode cX7_goes 27 = .ok (.if_icmp .ge 41, 3) := by decide +kernel
theorem dX7_goes_30 : decode cX7_goes 30 = .ok (.aload_n 0, 1) := by decide +kernel
theorem dX7_goes_31 : decode cX7_goes 31 = .ok (.getfield 69, 3) := by decide +kernel
theorem dX7_goes_34 : decode cX7_goes 34 = .ok (.bipush 9, 2) := by decide +kernel
theorem dX7_goes_36 : decode cX7_goes 36 = .ok (.iload_n 3, 1) := by decide +kernel
theorem dX7_goes_37 : decode cX7_goes 37 = .ok (.imul, 1) := by decide +kernel
theorem dX7_goes_38 : decode cX7_goes 38 = .ok (.iload 4, 2) := by decide +kernel
theorem dX7_goes_40 : decode cX7_goes 40 = .ok (.iadd, 1) := by decide +kernel
theorem dX7_goes_41 : decode cX7_goes 41 = .ok (.iaload, 1) := by decide +kernel
theorem dX7_goes_42 : decode cX7_goes 42 = .ok (.iload_n 1, 1) := by decide +kernel
theorem dX7_goes_43 : decode cX7_goes 43 = .ok (.if_icmp .ne 19, 3) := by decide +kernel
theorem dX7_goes_46 : decode cX7_goes 46 = .ok (.aload_n 0, 1) := by decide +kernel
theorem dX7_goes_47 : decode cX7_goes 47 = .ok (.getfield 72, 3) := by decide +kernel
theorem dX7_goes_50 : decode cX7_goes 50 = .ok (.bipush 9, 2) := by decide +kernel
theorem dX7_goes_52 : decode cX7_goes 52 = .ok (.iload_n 3, 1) := by decide +kernel
theorem dX7_goes_53 : decode cX7_goes 53 = .ok (.imul, 1) := by decide +kernel
theorem dX7_goes_54 : decode cX7_goes 54 = .ok (.iload 4, 2) := by decide +kernel
theorem dX7_goes_56 : decode cX7_goes 56 = .ok (.iadd, 1) := by decide +kernel
theorem dX7_goes_57 : decode cX7_goes 57 = .ok (.iaload, 1) := by decide +kernel
theorem dX7_goes_58 : decode cX7_goes 58 = .ok (.iload_n 2, 1) := by decide +kernel
theorem dX7_goes_59 : decode cX7_goes 59 = .ok (.if_icmp .eq 9, 3) := by decide +kernel
theorem dX7_goes_62 : decode cX7_goes 62 = .ok (.iinc 4 1, 3) := by decide +kernel
theorem dX7_goes_65 : decode cX7_goes 65 = .ok (.goto (-46), 3) := by decide +kernel
theorem dX7_goes_68 : decode cX7_goes 68 = .ok (.iload 4, 2) := by decide +kernel
theorem dX7_goes_70 : decode cX7_goes 70 = .ok (.aload_n 0, 1) := by decide +kernel
theorem dX7_goes_71 : decode cX7_goes 71 = .ok (.getfield 66, 3) := by decide +kernel
theorem dX7_goes_74 : decode cX7_goes 74 = .ok (.iload_n 3, 1) := by decide +kernel
theorem dX7_goes_75 : decode cX7_goes 75 = .ok (.iaload, 1) := by decide +kernel
theorem dX7_goes_76 : decode cX7_goes 76 = .ok (.if_icmp .ne 4, 3) := by decide +kernel
theorem dX7_goes_79 : decode cX7_goes 79 = .ok (.return_, 1) := by decide +kernel
theorem dX7_goes_80 : decode cX7_goes 80 = .ok (.aload_n 0, 1) := by decide +kernel
theorem dX7_goes_81 : decode cX7_goes 81 = .ok (.iload_n 3, 1) := by decide +kernel
theorem dX7_goes_82 : decode cX7_goes 82 = .ok (.iload 4, 2) := by decide +kernel
theorem dX7_goes_84 : decode cX7_goes 84 = .ok (.invokevirtual 185, 3) := by decide +kernel
theorem dX7_goes_87 : decode cX7_goes 87 = .ok (.aload_n 0, 1) := by decide +kernel
theorem dX7_goes_88 : decode cX7_goes 88 = .ok (.getfield 66, 3) := by decide +kernel
theorem dX7_goes_91 : decode cX7_goes 91 = .ok (.iload_n 3, 1) := by decide +kernel
theorem dX7_goes_92 : decode cX7_goes 92 = .ok (.iaload, 1) := by decide +kernel
theorem dX7_goes_93 : decode cX7_goes 93 = .ok (.ifCond .ne 52, 3) := by decide +kernel
theorem dX7_goes_96 : decode cX7_goes 96 = .ok (.aload_n 0, 1) := by decide +kernel
theorem dX7_goes_97 : decode cX7_goes 97 = .ok (.getfield 157, 3) := by decide +kernel
theorem dX7_goes_100 : decode cX7_goes 100 = .ok (.ifCond .le 45, 3) := by decide +kernel
theorem dX7_goes_103 : decode cX7_goes 103 = .ok (.aload_n 0, 1) := by decide +kernel
theorem dX7_goes_104 : decode cX7_goes 104 = .ok (.iload_n 3, 1) := by decide +kernel
theorem dX7_goes_105 : decode cX7_goes 105 = .ok (.invokevirtual 188, 3) := by decide +kernel
theorem dX7_goes_108 : decode cX7_goes 108 = .ok (.aload_n 0, 1) := by decide +kernel
theorem dX7_goes_109 : decode cX7_goes 109 = .ok (.dup, 1) := by decide +kernel
theorem dX7_goes_110 : decode cX7_goes 110 = .ok (.getfield 157, 3) := by decide +kernel
theorem dX7_goes_113 : decode cX7_goes 113 = .ok (.iconst 1, 1) := by decide +kernel
theorem dX7_goes_114 : decode cX7_goes 114 = .ok (.isub, 1) := by decide +kernel
theorem dX7_goes_115 : decode cX7_goes 115 = .ok (.putfield 157, 3) := by decide +kernel
theorem dX7_goes_118 : decode cX7_goes 118 = .ok (.aload_n 0, 1) := by decide +kernel
theorem dX7_goes_119 : decode cX7_goes 119 = .ok (.getfield 81, 3) := by decide +kernel
theorem dX7_goes_122 : decode cX7_goes 122 = .ok (.aload_n 0, 1) := by decide +kernel
theorem dX7_goes_123 : decode cX7_goes 123 = .ok (.getfield 157, 3) := by decide +kernel
theorem dX7_goes_126 : decode cX7_goes 126 = .ok (.iaload, 1) := by decide +kernel
theorem dX7_goes_127 : decode cX7_goes 127 = .ok (.istore_n 3, 1) := by decide +kernel
theorem dX7_goes_128 : decode cX7_goes 128 = .ok (.aload_n 0, 1) := by decide +kernel
theorem dX7_goes_129 : decode cX7_goes 129 = .ok (.iload_n 3, 1) := by decide +kernel
theorem dX7_goes_130 : decode cX7_goes 130 = .ok (.aload_n 0, 1) := by decide +kernel
theorem dX7_goes_131 : decode cX7_goes 131 = .ok (.getfield 84, 3) := by decide +kernel
theorem dX7_goes_134 : decode cX7_goes 134 = .ok (.aload_n 0, 1) := by decide +kernel
theorem dX7_goes_135 : decode cX7_goes 135 = .ok (.getfield 157, 3) := by decide +kernel
theorem dX7_goes_138 : decode cX7_goes 138 = .ok (.iaload, 1) := by decide +kernel
theorem dX7_goes_139 : decode cX7_goes 139 = .ok (.invokevirtual 185, 3) := by decide +kernel
theorem dX7_goes_142 : decode cX7_goes 142 = .ok (.goto (-55), 3) := by decide +kernel
theorem dX7_goes_145 : decode cX7_goes 145 = .ok (.aload_n 0, 1) := by decide +kernel
theorem dX7_goes_146 : decode cX7_goes 146 = .ok (.getfield 60, 3) := by decide +kernel
theorem dX7_goes_149 : decode cX7_goes 149 = .ok (.aload_n 0, 1) := by decide +kernel
theorem dX7_goes_150 : decode cX7_goes 150 = .ok (.getfield 160, 3) := by decide +kernel
theorem dX7_goes_153 : decode cX7_goes 153 = .ok (.baload, 1) := by decide +kernel
theorem dX7_goes_154 : decode cX7_goes 154 = .ok (.ifCond .ne 47, 3) := by decide +kernel
theorem dX7_goes_157 : decode cX7_goes 157 = .ok (.aload_n 0, 1) := by decide +kernel
theorem dX7_goes_158 : decode cX7_goes 158 = .ok (.getfield 66, 3) := by decide +kernel
theorem dX7_goes_161 : decode cX7_goes 161 = .ok (.aload_n 0, 1) := by decide +kernel
theorem dX7_goes_162 : decode cX7_goes 162 = .ok (.getfield 160, 3) := by decide +kernel
theorem dX7_goes_165 : decode cX7_goes 165 = .ok (.iaload, 1) := by decide +kernel
theorem dX7_goes_166 : decode cX7_goes 166 = .ok (.iconst 1, 1) := by decide +kernel
theorem dX7_goes_167 : decode cX7_goes 167 = .ok (.if_icmp .ne 34, 3) := by decide +kernel
theorem dX7_goes_170 : decode cX7_goes 170 = .ok (.aload_n 0, 1) := by decide +kernel
theorem dX7_goes_171 : decode cX7_goes 171 = .ok (.getfield 75, 3) := by decide +kernel
theorem dX7_goes_174 : decode cX7_goes 174 = .ok (.bipush 9, 2) := by decide +kernel
theorem dX7_goes_176 : decode cX7_goes 176 = .ok (.aload_n 0, 1) := by decide +kernel
theorem dX7_goes_177 : decode cX7_goes 177 = .ok (.getfield 160, 3) := by decide +kernel
theorem dX7_goes_180 : decode cX7_goes 180 = .ok (.imul, 1) := by decide +kernel
theorem dX7_goes_181 : decode cX7_goes 181 = .ok (.iaload, 1) := by decide +kernel
theorem dX7_goes_182 : decode cX7_goes 182 = .ok (.istore 5, 2) := by decide +kernel
theorem dX7_goes_184 : decode cX7_goes 184 = .ok (.aload_n 0, 1) := by decide +kernel
theorem dX7_goes_185 : decode cX7_goes 185 = .ok (.aload_n 0, 1) := by decide +kernel
theorem dX7_goes_186 : decode cX7_goes 186 = .ok (.getfield 160, 3) := by decide +kernel
theorem dX7_goes_189 : decode cX7_goes 189 = .ok (.invokevirtual 188, 3) := by decide +kernel
theorem dX7_goes_192 : decode cX7_goes 192 = .ok (.aload_n 0, 1) := by decide +kernel
theorem dX7_goes_193 : decode cX7_goes 193 = .ok (.iload 5, 2) := by decide +kernel
theorem dX7_goes_195 : decode cX7_goes 195 = .ok (.putfield 160, 3) := by decide +kernel
theorem dX7_goes_198 : decode cX7_goes 198 = .ok (.goto (-53), 3) := by decide +kernel
theorem dX7_goes_201 : decode cX7_goes 201 = .ok (.return_, 1) := by decide +kernel
theorem dX7_note_0 : decode cX7_note 0 = .ok (.aload_n 0, 1) := by decide +kernel
theorem dX7_note_1 : decode cX7_note 1 = .ok (.getfield 106, 3) := by decide +kernel
theorem dX7_note_4 : decode cX7_note 4 = .ok (.iconst 5, 1) := by decide +kernel
theorem dX7_note_5 : decode cX7_note 5 = .ok (.if_icmp .ne 39, 3) := by decide +kernel
theorem dX7_note_8 : decode cX7_note 8 = .ok (.iload_n 1, 1) := by decide +kernel
theorem dX7_note_9 : decode cX7_note 9 = .ok (.ifCond .eq 12, 3) := by decide +kernel
theorem dX7_note_12 : decode cX7_note 12 = .ok (.aload_n 0, 1) := by decide +kernel
theorem dX7_note_13 : decode cX7_note 13 = .ok (.iload_n 2, 1) := by decide +kernel
theorem dX7_note_14 : decode cX7_note 14 = .ok (.iload_n 3, 1) := by decide +kernel
theorem dX7_note_15 : decode cX7_note 15 = .ok (.invokevirtual 192, 3) := by decide +kernel
theorem dX7_note_18 : decode cX7_note 18 = .ok (.goto 9, 3) := by decide +kernel
theorem dX7_note_21 : decode cX7_note 21 = .ok (.aload_n 0, 1) := by decide +kernel
theorem dX7_note_22 : decode cX7_note 22 = .ok (.iload_n 2, 1) := by decide +kernel
theorem dX7_note_23 : decode cX7_note 23 = .ok (.iload_n 3, 1) := by decide +kernel
theorem dX7_note_24 : decode cX7_note 24 = .ok (.invokevirtual 195, 3) := by decide +kernel
theorem dX7_note_27 : decode cX7_note 27 = .ok (.aload_n 0, 1) := by decide +kernel
theorem dX7_note_28 : decode cX7_note 28 = .ok (.getfield 151, 3) := by decide +kernel
theorem dX7_note_31 : decode cX7_note 31 = .ok (.bipush 64, 2) := by decide +kernel
theorem dX7_note_33 : decode cX7_note 33 = .ok (.if_icmp .le 89, 3) := by decide +kernel
theorem dX7_note_36 : decode cX7_note 36 = .ok (.aload_n 0, 1) := by decide +kernel
theorem dX7_note_37 : decode cX7_note 37 = .ok (.iconst 2, 1) := by decide +kernel
theorem dX7_note_38 : decode cX7_note 38 = .ok (.invokevirtual 198, 3) := by decide +kernel
theorem dX7_note_41 : decode cX7_note 41 = .ok (.goto 81, 3) := by decide +kernel
theorem dX7_note_44 : decode cX7_note 44 = .ok (.aload_n 0, 1) := by decide +kernel
theorem dX7_note_45 : decode cX7_note 45 = .ok (.getfield 106, 3) := by decide +kernel
theorem dX7_note_48 : decode cX7_note 48 = .ok (.iconst 1, 1) := by decide +kernel
theorem dX7_note_49 : decode cX7_note 49 = .ok (.iconst 4, 1) := by decide +kernel
theorem dX7_note_50 : decode cX7_note 50 = .ok (.invokestatic 201, 3) := by decide +kernel
theorem dX7_note_53 : decode cX7_note 53 = .ok (.ifCond .eq 69, 3) := by decide +kernel
theorem dX7_note_56 : decode cX7_note 56 = .ok (.iload_n 3, 1) := by decide +kernel
theorem dX7_note_57 : decode cX7_note 57 = .ok (.bipush 12, 2) := by decide +kernel
theorem dX7_note_59 : decode cX7_note 59 = .ok (.idiv, 1) := by decide +kernel
theorem dX7_note_60 : decode cX7_note 60 = .ok (.aload_n 0, 1) := by decide +kernel
theorem dX7_note_61 : decode cX7_note 61 = .ok (.getfield 139, 3) := by decide +kernel
theorem dX7_note_64 : decode cX7_note 64 = .ok (.if_icmp .ge 58, 3) := by decide +kernel
theorem dX7_note_67 : decode cX7_note 67 = .ok (.aload_n 0, 1) := by decide +kernel
theorem dX7_note_68 : decode cX7_note 68 = .ok (.getfield 148, 3) := by decide +kernel
theorem dX7_note_71 : decode cX7_note 71 = .ok (.bipush 40, 2) := by decide +kernel
theorem dX7_note_73 : decode cX7_note 73 = .ok (.if_icmp .ne 9, 3) := by decide +kernel
theorem dX7_note_76 : decode cX7_note 76 = .ok (.aload_n 0, 1) := by decide +kernel
theorem dX7_note_77 : decode cX7_note 77 = .ok (.iconst 1, 1) := by decide +kernel
theorem dX7_note_78 : decode cX7_note 78 = .ok (.invokevirtual 198, 3) := by decide +kernel
theorem dX7_note_81 : decode cX7_note 81 = .ok (.return_, 1) := by decide +kernel
theorem dX7_note_82 : decode cX7_note 82 = .ok (.aload_n 0, 1) := by decide +kernel
theorem dX7_note_83 : decode cX7_note 83 = .ok (.getfield 42, 3) := by decide +kernel
theorem dX7_note_86 : decode cX7_note 86 = .ok (.aload_n 0, 1) := by decide +kernel
theorem dX7_note_87 : decode cX7_note 87 = .ok (.getfield 148, 3) := by decide +kernel
theorem dX7_note_90 : decode cX7_note 90 = .ok (.iload_n 1, 1) := by decide +kernel
theorem dX7_note_91 : decode cX7_note 91 = .ok (.bastore, 1) := by decide +kernel
theorem dX7_note_92 : decode cX7_note 92 = .ok (.aload_n 0, 1) := by decide +kernel
theorem dX7_note_93 : decode cX7_note 93 = .ok (.getfield 45, 3) := by decide +kernel
theorem dX7_note_96 : decode cX7_note 96 = .ok (.aload_n 0, 1) := by decide +kernel
theorem dX7_note_97 : decode cX7_note 97 = .ok (.getfield 148, 3) := by decide +kernel
theorem dX7_note_100 : decode cX7_note 100 = .ok (.iload_n 2, 1) := by decide +kernel
theorem dX7_note_101 : decode cX7_note 101 = .ok (.iastore, 1) := by decide +kernel
theorem dX7_note_102 : decode cX7_note 102 = .ok (.aload_n 0, 1) := by decide +kernel
theorem dX7_note_103 : decode cX7_note 103 = .ok (.getfield 48, 3) := by decide +kernel
theorem dX7_note_106 : decode cX7_note 106 = .ok (.aload_n 0, 1) := by decide +kernel
theorem dX7_note_107 : decode cX7_note 107 = .ok (.getfield 148, 3) := by decide +kernel
theorem dX7_note_110 : decode cX7_note 110 = .ok (.iload_n 3, 1) := by decide +kernel
theorem dX7_note_111 : decode cX7_note 111 = .ok (.iastore, 1) := by decide +kernel
theorem dX7_note_112 : decode cX7_note 112 = .ok (.aload_n 0, 1) := by decide +kernel
theorem dX7_note_113 : decode cX7_note 113 = .ok (.dup, 1) := by decide +kernel
theorem dX7_note_114 : decode cX7_note 114 = .ok (.getfield 148, 3) := by decide +kernel
theorem dX7_note_117 : decode cX7_note 117 = .ok (.iconst 1, 1) := by decide +kernel
theorem dX7_note_118 : decode cX7_note 118 = .ok (.iadd, 1) := by decide +kernel
theorem dX7_note_119 : decode cX7_note 119 = .ok (.putfield 148, 3) := by decide +kernel
theorem dX7_note_122 : decode cX7_note 122 = .ok (.return_, 1) := by decide +kernel
theorem dX7_clashes_0 : decode cX7_clashes 0 = .ok (.iconst 0, 1) := by decide +kernel
theorem dX7_clashes_1 : decode cX7_clashes 1 = .ok (.istore_n 3, 1) := by decide +kernel
theorem dX7_clashes_2 : decode cX7_clashes 2 = .ok (.iconst 0, 1) := by decide +kernel
theorem dX7_clashes_3 : decode cX7_clashes 3 = .ok (.istore 4, 2) := by decide +kernel
theorem dX7_clashes_5 : decode cX7_clashes 5 = .ok (.iload 4, 2) := by decide +kernel
theorem dX7_clashes_7 : decode cX7_clashes 7 = .ok (.sipush 240, 3) := by decide +kernel
theorem dX7_clashes_10 : decode cX7_clashes 10 = .ok (.if_icmp .ge 61, 3) := by decide +kernel
theorem dX7_clashes_13 : decode cX7_clashes 13 = .ok (.aload_n 0, 1) := by decide +kernel
theorem dX7_clashes_14 : decode cX7_clashes 14 = .ok (.getfield 106, 3) := by decide +kernel
theorem dX7_clashes_17 : decode cX7_clashes 17 = .ok (.iconst 5, 1) := by decide +kernel
theorem dX7_clashes_18 : decode cX7_clashes 18 = .ok (.if_icmp .ne 53, 3) := by decide +kernel
theorem dX7_clashes_21 : decode cX7_clashes 21 = .ok (.aload_n 0, 1) := by decide +kernel
theorem dX7_clashes_22 : decode cX7_clashes 22 = .ok (.getfield 154, 3) := by decide +kernel
theorem dX7_clashes_25 : decode cX7_clashes 25 = .ok (.ifCond .eq 46, 3) := by decide +kernel
theorem dX7_clashes_28 : decode cX7_clashes 28 = .ok (.iload_n 3, 1) := by decide +kernel
theorem dX7_clashes_29 : decode cX7_clashes 29 = .ok (.ifCond .ne 30, 3) := by decide +kernel
theorem dX7_clashes_32 : decode cX7_clashes 32 = .ok (.iload 4, 2) := by decide +kernel
theorem dX7_clashes_34 : decode cX7_clashes 34 = .ok (.iload_n 2, 1) := by decide +kernel
theorem dX7_clashes_35 : decode cX7_clashes 35 = .ok (.if_icmp .eq 28, 3) := by decide +kernel
theorem dX7_clashes_38 : decode cX7_clashes 38 = .ok (.aload_n 0, 1) := by decide +kernel
theorem dX7_clashes_39 : decode cX7_clashes 39 = .ok (.getfield 7, 3) := by decide +kernel
theorem dX7_clashes_42 : decode cX7_clashes 42 = .ok (.iload 4, 2) := by decide +kernel
theorem dX7_clashes_44 : decode cX7_clashes 44 = .ok (.baload, 1) := by decide +kernel
theorem dX7_clashes_45 : decode cX7_clashes 45 = .ok (.ifCond .eq 18, 3) := by decide +kernel
theorem dX7_clashes_48 : decode cX7_clashes 48 = .ok (.aload_n 0, 1) := by decide +kernel
theorem dX7_clashes_49 : decode cX7_clashes 49 = .ok (.getfield 13, 3) := by decide +kernel
theorem dX7_clashes_52 : decode cX7_clashes 52 = .ok (.iload 4, 2) := by decide +kernel
theorem dX7_clashes_54 : decode cX7_clashes 54 = .ok (.iaload, 1) := by decide +kernel
theorem dX7_clashes_55 : decode cX7_clashes 55 = .ok (.iload_n 1, 1) := by decide +kernel
theorem dX7_clashes_56 : decode cX7_clashes 56 = .ok (.if_icmp .ne 7, 3) := by decide +kernel
theorem dX7_clashes_59 : decode cX7_clashes 59 = .ok (.iconst 1, 1) := by decide +kernel
theorem dX7_clashes_60 : decode cX7_clashes 60 = .ok (.goto 4, 3) := by decide +kernel
theorem dX7_clashes_63 : decode cX7_clashes 63 = .ok (.iconst 0, 1) := by decide +kernel
theorem dX7_clashes_64 : decode cX7_clashes 64 = .ok (.istore_n 3, 1) := by decide +kernel
theorem dX7_clashes_65 : decode cX7_clashes 65 = .ok (.iinc 4 1, 3) := by decide +kernel
theorem dX7_clashes_68 : decode cX7_clashes 68 = .ok (.goto (-63), 3) := by decide +kernel
theorem dX7_clashes_71 : decode cX7_clashes 71 = .ok (.iload_n 3, 1) := by decide +kernel
theorem dX7_clashes_72 : decode cX7_clashes 72 = .ok (.ireturn, 1) := by decide +kernel
theorem dX7_add_0 : decode cX7_add 0 = .ok (.aload_n 0, 1) := by decide +kernel
theorem dX7_add_1 : decode cX7_add 1 = .ok (.iconst 0, 1) := by decide +kernel
theorem dX7_add_2 : decode cX7_add 2 = .ok (.putfield 96, 3) := by decide +kernel
theorem dX7_add_5 : decode cX7_add 5 = .ok (.aload_n 0, 1) := by decide +kernel
theorem dX7_add_6 : decode cX7_add 6 = .ok (.getfield 102, 3) := by decide +kernel
theorem dX7_add_9 : decode cX7_add 9 = .ok (.ifCond .eq 6, 3) := by decide +kernel
theorem dX7_add_12 : decode cX7_add 12 = .ok (.bipush (-100), 2) := by decide +kernel
theorem dX7_add_14 : decode cX7_add 14 = .ok (.ireturn, 1) := by decide +kernel
theorem dX7_add_15 : decode cX7_add 15 = .ok (.iconst 0, 1) := by decide +kernel
theorem dX7_add_16 : decode cX7_add 16 = .ok (.istore_n 3, 1) := by decide +kernel
theorem dX7_add_17 : decode cX7_add 17 = .ok (.iload_n 3, 1) := by decide +kernel
theorem dX7_add_18 : decode cX7_add 18 = .ok (.sipush 240, 3) := by decide +kernel
theorem dX7_add_21 : decode cX7_add 21 = .ok (.if_icmp .ge 18, 3) := by decide +kernel
theorem dX7_add_24 : decode cX7_add 24 = .ok (.aload_n 0, 1) := by decide +kernel
theorem dX7_add_25 : decode cX7_add 25 = .ok (.getfield 7, 3) := by decide +kernel
theorem dX7_add_28 : decode cX7_add 28 = .ok (.iload_n 3, 1) := by decide +kernel
theorem dX7_add_29 : decode cX7_add 29 = .ok (.baload, 1) := by decide +kernel
theorem dX7_add_30 : decode cX7_add 30 = .ok (.ifCond .eq 9, 3) := by decide +kernel
theorem dX7_add_33 : decode cX7_add 33 = .ok (.iinc 3 1, 3) := by decide +kernel
theorem dX7_add_36 : decode cX7_add 36 = .ok (.goto (-19), 3) := by decide +kernel
theorem dX7_add_39 : decode cX7_add 39 = .ok (.iload_n 3, 1) := by decide +kernel
theorem dX7_add_40 : decode cX7_add 40 = .ok (.sipush 240, 3) := by decide +kernel
theorem dX7_add_43 : decode cX7_add 43 = .ok (.if_icmp .ne 6, 3) := by decide +kernel
theorem dX7_add_46 : decode cX7_add 46 = .ok (.bipush (-104), 2) := by decide +kernel
theorem dX7_add_48 : decode cX7_add 48 = .ok (.ireturn, 1) := by decide +kernel
theorem dX7_add_49 : decode cX7_add 49 = .ok (.aload_n 0, 1) := by decide +kernel
theorem dX7_add_50 : decode cX7_add 50 = .ok (.iload_n 1, 1) := by decide +kernel
theorem dX7_add_51 : decode cX7_add 51 = .ok (.iconst (-1), 1) := by decide +kernel
theorem dX7_add_52 : decode cX7_add 52 = .ok (.invokevirtual 205, 3) := by decide +kernel
theorem dX7_add_55 : decode cX7_add 55 = .ok (.ifCond .eq 6, 3) := by decide +kernel
theorem dX7_add_58 : decode cX7_add 58 = .ok (.bipush (-105), 2) := by decide +kernel
theorem dX7_add_60 : decode cX7_add 60 = .ok (.ireturn, 1) := by decide +kernel
theorem dX7_add_61 : decode cX7_add 61 = .ok (.aload_n 0, 1) := by decide +kernel
theorem dX7_add_62 : decode cX7_add 62 = .ok (.invokevirtual 209, 3) := by decide +kernel
theorem dX7_add_65 : decode cX7_add 65 = .ok (.ifCond .ne 6, 3) := by decide +kernel
theorem dX7_add_68 : decode cX7_add 68 = .ok (.bipush (-106), 2) := by decide +kernel
theorem dX7_add_70 : decode cX7_add 70 = .ok (.ireturn, 1) := by decide +kernel
theorem dX7_add_71 : decode cX7_add 71 = .ok (.aload_n 0, 1) := by decide +kernel
theorem dX7_add_72 : decode cX7_add 72 = .ok (.getfield 7, 3) := by decide +kernel
theorem dX7_add_75 : decode cX7_add 75 = .ok (.iload_n 3, 1) := by decide +kernel
theorem dX7_add_76 : decode cX7_add 76 = .ok (.iconst 1, 1) := by decide +kernel
theorem dX7_add_77 : decode cX7_add 77 = .ok (.bastore, 1) := by decide +kernel
theorem dX7_add_78 : decode cX7_add 78 = .ok (.aload_n 0, 1) := by decide +kernel
theorem dX7_add_79 : decode cX7_add 79 = .ok (.getfield 13, 3) := by decide +kernel
theorem dX7_add_82 : decode cX7_add 82 = .ok (.iload_n 3, 1) := by decide +kernel
theorem dX7_add_83 : decode cX7_add 83 = .ok (.iload_n 1, 1) := by decide +kernel
theorem dX7_add_84 : decode cX7_add 84 = .ok (.iastore, 1) := by decide +kernel
theorem dX7_add_85 : decode cX7_add 85 = .ok (.aload_n 0, 1) := by decide +kernel
theorem dX7_add_86 : decode cX7_add 86 = .ok (.getfield 17, 3) := by decide +kernel
theorem dX7_add_89 : decode cX7_add 89 = .ok (.iload_n 3, 1) := by decide +kernel
theorem dX7_add_90 : decode cX7_add 90 = .ok (.iload_n 2, 1) := by decide +kernel
theorem dX7_add_91 : decode cX7_add 91 = .ok (.iastore, 1) := by decide +kernel
theorem dX7_add_92 : decode cX7_add 92 = .ok (.aload_n 0, 1) := by decide +kernel
theorem dX7_add_93 : decode cX7_add 93 = .ok (.getfield 24, 3) := by decide +kernel
theorem dX7_add_96 : decode cX7_add 96 = .ok (.iload_n 3, 1) := by decide +kernel
theorem dX7_add_97 : decode cX7_add 97 = .ok (.bipush 12, 2) := by decide +kernel
theorem dX7_add_99 : decode cX7_add 99 = .ok (.idiv, 1) := by decide +kernel
theorem dX7_add_100 : decode cX7_add 100 = .ok (.iconst 1, 1) := by decide +kernel
theorem dX7_add_101 : decode cX7_add 101 = .ok (.bastore, 1) := by decide +kernel
theorem dX7_add_102 : decode cX7_add 102 = .ok (.aload_n 0, 1) := by decide +kernel
theorem dX7_add_103 : decode cX7_add 103 = .ok (.iconst 1, 1) := by decide +kernel
theorem dX7_add_104 : decode cX7_add 104 = .ok (.iload_n 1, 1) := by decide +kernel
theorem dX7_add_105 : decode cX7_add 105 = .ok (.iload_n 3, 1) := by decide +kernel
theorem dX7_add_106 : decode cX7_add 106 = .ok (.invokevirtual 212, 3) := by decide +kernel
theorem dX7_add_109 : decode cX7_add 109 = .ok (.iload_n 3, 1) := by decide +kernel
theorem dX7_add_110 : decode cX7_add 110 = .ok (.ireturn, 1) := by decide +kernel
theorem dX7_isRow_0 : decode cX7_isRow 0 = .ok (.iload_n 1, 1) := by decide +kernel
theorem dX7_isRow_1 : decode cX7_isRow 1 = .ok (.iconst 0, 1) := by decide +kernel
theorem dX7_isRow_2 : decode cX7_isRow 2 = .ok (.sipush 239, 3) := by decide +kernel
theorem dX7_isRow_5 : decode cX7_isRow 5 = .ok (.invokestatic 201, 3) := by decide +kernel
theorem dX7_isRow_8 : decode cX7_isRow 8 = .ok (.ifCond .eq 16, 3) := by decide +kernel
theorem dX7_isRow_11 : decode cX7_isRow 11 = .ok (.aload_n 0, 1) := by decide +kernel
theorem dX7_isRow_12 : decode cX7_isRow 12 = .ok (.getfield 7, 3) := by decide +kernel
theorem dX7_isRow_15 : decode cX7_isRow 15 = .ok (.iload_n 1, 1) := by decide +kernel
theorem dX7_isRow_16 : decode cX7_isRow 16 = .ok (.baload, 1) := by decide +kernel
theorem dX7_isRow_17 : decode cX7_isRow 17 = .ok (.ifCond .eq 7, 3) := by decide +kernel
theorem dX7_isRow_20 : decode cX7_isRow 20 = .ok (.iconst 1, 1) := by decide +kernel
theorem dX7_isRow_21 : decode cX7_isRow 21 = .ok (.goto 4, 3) := by decide +kernel
theorem dX7_isRow_24 : decode cX7_isRow 24 = .ok (.iconst 0, 1) := by decide +kernel
theorem dX7_isRow_25 : decode cX7_isRow 25 = .ok (.ireturn, 1) := by decide +kernel
theorem dX7_change_0 : decode cX7_change 0 = .ok (.aload_n 0, 1) := by decide +kernel
theorem dX7_change_1 : decode cX7_change 1 = .ok (.iconst 0, 1) := by decide +kernel
theorem dX7_change_2 : decode cX7_change 2 = .ok (.putfield 96, 3) := by decide +kernel
theorem dX7_change_5 : decode cX7_change 5 = .ok (.aload_n 0, 1) := by decide +kernel
theorem dX7_change_6 : decode cX7_change 6 = .ok (.getfield 102, 3) := by decide +kernel
theorem dX7_change_9 : decode cX7_change 9 = .ok (.ifCond .eq 6, 3) := by decide +kernel
theorem dX7_change_12 : decode cX7_change 12 = .ok (.bipush (-100), 2) := by decide +kernel
theorem dX7_change_14 : decode cX7_change 14 = .ok (.ireturn, 1) := by decide +kernel
theorem dX7_change_15 : decode cX7_change 15 = .ok (.aload_n 0, 1) := by decide +kernel
theorem dX7_change_16 : decode cX7_change 16 = .ok (.iload_n 1, 1) := by decide +kernel
theorem dX7_change_17 : decode cX7_change 17 = .ok (.invokevirtual 216, 3) := by decide +kernel
theorem dX7_change_20 : decode cX7_change 20 = .ok (.ifCond .ne 6, 3) := by decide +kernel
theorem dX7_change_23 : decode cX7_change 23 = .ok (.bipush (-101), 2) := by decide +kernel
theorem dX7_change_25 : decode cX7_change 25 = .ok (.ireturn, 1) := by decide +kernel
theorem dX7_change_26 : decode cX7_change 26 = .ok (.aload_n 0, 1) := by decide +kernel
theorem dX7_change_27 : decode cX7_change 27 = .ok (.iload_n 2, 1) := by decide +kernel
theorem dX7_change_28 : decode cX7_change 28 = .ok (.iload_n 1, 1) := by decide +kernel
theorem dX7_change_29 : decode cX7_change 29 = .ok (.invokevirtual 205, 3) := by decide +kernel
theorem dX7_change_32 : decode cX7_change 32 = .ok (.ifCond .eq 6, 3) := by decide +kernel
theorem dX7_change_35 : decode cX7_change 35 = .ok (.bipush (-105), 2) := by decide +kernel
theorem dX7_change_37 : decode cX7_change 37 = .ok (.ireturn, 1) := by decide +kernel
theorem dX7_change_38 : decode cX7_change 38 = .ok (.aload_n 0, 1) := by decide +kernel
theorem dX7_change_39 : decode cX7_change 39 = .ok (.invokevirtual 209, 3) := by decide +kernel
theorem dX7_change_42 : decode cX7_change 42 = .ok (.ifCond .ne 6, 3) := by decide +kernel
theorem dX7_change_45 : decode cX7_change 45 = .ok (.bipush (-106), 2) := by decide +kernel
theorem dX7_change_47 : decode cX7_change 47 = .ok (.ireturn, 1) := by decide +kernel
theorem dX7_change_48 : decode cX7_change 48 = .ok (.aload_n 0, 1) := by decide +kernel
theorem dX7_change_49 : decode cX7_change 49 = .ok (.getfield 13, 3) := by decide +kernel
theorem dX7_change_52 : decode cX7_change 52 = .ok (.iload_n 1, 1) := by decide +kernel
theorem dX7_change_53 : decode cX7_change 53 = .ok (.iaload, 1) := by decide +kernel
theorem dX7_change_54 : decode cX7_change 54 = .ok (.istore 4, 2) := by decide +kernel
theorem dX7_change_56 : decode cX7_change 56 = .ok (.aload_n 0, 1) := by decide +kernel
theorem dX7_change_57 : decode cX7_change 57 = .ok (.getfield 13, 3) := by decide +kernel
theorem dX7_change_60 : decode cX7_change 60 = .ok (.iload_n 1, 1) := by decide +kernel
theorem dX7_change_61 : decode cX7_change 61 = .ok (.iload_n 2, 1) := by decide +kernel
theorem dX7_change_62 : decode cX7_change 62 = .ok (.iastore, 1) := by decide +kernel
theorem dX7_change_63 : decode cX7_change 63 = .ok (.aload_n 0, 1) := by decide +kernel
theorem dX7_change_64 : decode cX7_change 64 = .ok (.getfield 17, 3) := by decide +kernel
theorem dX7_change_67 : decode cX7_change 67 = .ok (.iload_n 1, 1) := by decide +kernel
theorem dX7_change_68 : decode cX7_change 68 = .ok (.iload_n 3, 1) := by decide +kernel
theorem dX7_change_69 : decode cX7_change 69 = .ok (.iastore, 1) := by decide +kernel
theorem dX7_change_70 : decode cX7_change 70 = .ok (.aload_n 0, 1) := by decide +kernel
theorem dX7_change_71 : decode cX7_change 71 = .ok (.getfield 24, 3) := by decide +kernel
theorem dX7_change_74 : decode cX7_change 74 = .ok (.iload_n 1, 1) := by decide +kernel
theorem dX7_change_75 : decode cX7_change 75 = .ok (.bipush 12, 2) := by decide +kernel
theorem dX7_change_77 : decode cX7_change 77 = .ok (.idiv, 1) := by decide +kernel
theorem dX7_change_78 : decode cX7_change 78 = .ok (.iconst 1, 1) := by decide +kernel
theorem dX7_change_79 : decode cX7_change 79 = .ok (.bastore, 1) := by decide +kernel
theorem dX7_change_80 : decode cX7_change 80 = .ok (.iload 4, 2) := by decide +kernel
theorem dX7_change_82 : decode cX7_change 82 = .ok (.iload_n 2, 1) := by decide +kernel
theorem dX7_change_83 : decode cX7_change 83 = .ok (.if_icmp .eq 18, 3) := by decide +kernel
theorem dX7_change_86 : decode cX7_change 86 = .ok (.aload_n 0, 1) := by decide +kernel
theorem dX7_change_87 : decode cX7_change 87 = .ok (.iconst 0, 1) := by decide +kernel
theorem dX7_change_88 : decode cX7_change 88 = .ok (.iload 4, 2) := by decide +kernel
theorem dX7_change_90 : decode cX7_change 90 = .ok (.iload_n 1, 1) := by decide +kernel
theorem dX7_change_91 : decode cX7_change 91 = .ok (.invokevirtual 212, 3) := by decide +kernel
theorem dX7_change_94 : decode cX7_change 94 = .ok (.aload_n 0, 1) := by decide +kernel
theorem dX7_change_95 : decode cX7_change 95 = .ok (.iconst 1, 1) := by decide +kernel
theorem dX7_change_96 : decode cX7_change 96 = .ok (.iload_n 2, 1) := by decide +kernel
theorem dX7_change_97 : decode cX7_change 97 = .ok (.iload_n 1, 1) := by decide +kernel
theorem dX7_change_98 : decode cX7_change 98 = .ok (.invokevirtual 212, 3) := by decide +kernel
theorem dX7_change_101 : decode cX7_change 101 = .ok (.iconst 1, 1) := by decide +kernel
theorem dX7_change_102 : decode cX7_change 102 = .ok (.ireturn, 1) := by decide +kernel
theorem dX7_remove_0 : decode cX7_remove 0 = .ok (.aload_n 0, 1) := by decide +kernel
theorem dX7_remove_1 : decode cX7_remove 1 = .ok (.iconst 0, 1) := by decide +kernel
theorem dX7_remove_2 : decode cX7_remove 2 = .ok (.putfield 96, 3) := by decide +kernel
theorem dX7_remove_5 : decode cX7_remove 5 = .ok (.aload_n 0, 1) := by decide +kernel
theorem dX7_remove_6 : decode cX7_remove 6 = .ok (.getfield 102, 3) := by decide +kernel
theorem dX7_remove_9 : decode cX7_remove 9 = .ok (.ifCond .eq 6, 3) := by decide +kernel
theorem dX7_remove_12 : decode cX7_remove 12 = .ok (.bipush (-100), 2) := by decide +kernel
theorem dX7_remove_14 : decode cX7_remove 14 = .ok (.ireturn, 1) := by decide +kernel
theorem dX7_remove_15 : decode cX7_remove 15 = .ok (.aload_n 0, 1) := by decide +kernel
theorem dX7_remove_16 : decode cX7_remove 16 = .ok (.iload_n 1, 1) := by decide +kernel
theorem dX7_remove_17 : decode cX7_remove 17 = .ok (.invokevirtual 216, 3) := by decide +kernel
theorem dX7_remove_20 : decode cX7_remove 20 = .ok (.ifCond .ne 6, 3) := by decide +kernel
theorem dX7_remove_23 : decode cX7_remove 23 = .ok (.bipush (-101), 2) := by decide +kernel
theorem dX7_remove_25 : decode cX7_remove 25 = .ok (.ireturn, 1) := by decide +kernel
theorem dX7_remove_26 : decode cX7_remove 26 = .ok (.aload_n 0, 1) := by decide +kernel
theorem dX7_remove_27 : decode cX7_remove 27 = .ok (.invokevirtual 209, 3) := by decide +kernel
theorem dX7_remove_30 : decode cX7_remove 30 = .ok (.ifCond .ne 6, 3) := by decide +kernel
theorem dX7_remove_33 : decode cX7_remove 33 = .ok (.bipush (-106), 2) := by decide +kernel
theorem dX7_remove_35 : decode cX7_remove 35 = .ok (.ireturn, 1) := by decide +kernel
theorem dX7_remove_36 : decode cX7_remove 36 = .ok (.aload_n 0, 1) := by decide +kernel
theorem dX7_remove_37 : decode cX7_remove 37 = .ok (.getfield 7, 3) := by decide +kernel
theorem dX7_remove_40 : decode cX7_remove 40 = .ok (.iload_n 1, 1) := by decide +kernel
theorem dX7_remove_41 : decode cX7_remove 41 = .ok (.iconst 0, 1) := by decide +kernel
theorem dX7_remove_42 : decode cX7_remove 42 = .ok (.bastore, 1) := by decide +kernel
theorem dX7_remove_43 : decode cX7_remove 43 = .ok (.aload_n 0, 1) := by decide +kernel
theorem dX7_remove_44 : decode cX7_remove 44 = .ok (.getfield 24, 3) := by decide +kernel
theorem dX7_remove_47 : decode cX7_remove 47 = .ok (.iload_n 1, 1) := by decide +kernel
theorem dX7_remove_48 : decode cX7_remove 48 = .ok (.bipush 12, 2) := by decide +kernel
theorem dX7_remove_50 : decode cX7_remove 50 = .ok (.idiv, 1) := by decide +kernel
theorem dX7_remove_51 : decode cX7_remove 51 = .ok (.iconst 1, 1) := by decide +kernel
theorem dX7_remove_52 : decode cX7_remove 52 = .ok (.bastore, 1) := by decide +kernel
theorem dX7_remove_53 : decode cX7_remove 53 = .ok (.aload_n 0, 1) := by decide +kernel
theorem dX7_remove_54 : decode cX7_remove 54 = .ok (.iconst 0, 1) := by decide +kernel
theorem dX7_remove_55 : decode cX7_remove 55 = .ok (.aload_n 0, 1) := by decide +kernel
theorem dX7_remove_56 : decode cX7_remove 56 = .ok (.getfield 13, 3) := by decide +kernel
theorem dX7_remove_59 : decode cX7_remove 59 = .ok (.iload_n 1, 1) := by decide +kernel
theorem dX7_remove_60 : decode cX7_remove 60 = .ok (.iaload, 1) := by decide +kernel
theorem dX7_remove_61 : decode cX7_remove 61 = .ok (.iload_n 1, 1) := by decide +kernel
theorem dX7_remove_62 : decode cX7_remove 62 = .ok (.invokevirtual 212, 3) := by decide +kernel
theorem dX7_remove_65 : decode cX7_remove 65 = .ok (.iconst 1, 1) := by decide +kernel
theorem dX7_remove_66 : decode cX7_remove 66 = .ok (.ireturn, 1) := by decide +kernel
theorem dX7_row_0 : decode cX7_row 0 = .ok (.aload_n 0, 1) := by decide +kernel
theorem dX7_row_1 : decode cX7_row 1 = .ok (.aload_n 0, 1) := by decide +kernel
theorem dX7_row_2 : decode cX7_row 2 = .ok (.getfield 102, 3) := by decide +kernel
theorem dX7_row_5 : decode cX7_row 5 = .ok (.ifCond .eq 7, 3) := by decide +kernel
theorem dX7_row_8 : decode cX7_row 8 = .ok (.iconst 1, 1) := by decide +kernel
theorem dX7_row_9 : decode cX7_row 9 = .ok (.goto 16, 3) := by decide +kernel
theorem dX7_row_12 : decode cX7_row 12 = .ok (.aload_n 0, 1) := by decide +kernel
theorem dX7_row_13 : decode cX7_row 13 = .ok (.iload_n 1, 1) := by decide +kernel
theorem dX7_row_14 : decode cX7_row 14 = .ok (.invokevirtual 216, 3) := by decide +kernel
theorem dX7_row_17 : decode cX7_row 17 = .ok (.ifCond .ne 7, 3) := by decide +kernel
theorem dX7_row_20 : decode cX7_row 20 = .ok (.iconst 2, 1) := by decide +kernel
theorem dX7_row_21 : decode cX7_row 21 = .ok (.goto 4, 3) := by decide +kernel
theorem dX7_row_24 : decode cX7_row 24 = .ok (.iconst 0, 1) := by decide +kernel
theorem dX7_row_25 : decode cX7_row 25 = .ok (.putfield 96, 3) := by decide +kernel
theorem dX7_row_28 : decode cX7_row 28 = .ok (.aload_n 0, 1) := by decide +kernel
theorem dX7_row_29 : decode cX7_row 29 = .ok (.getfield 96, 3) := by decide +kernel
theorem dX7_row_32 : decode cX7_row 32 = .ok (.ifCond .le 7, 3) := by decide +kernel
theorem dX7_row_35 : decode cX7_row 35 = .ok (.iconst 0, 1) := by decide +kernel
theorem dX7_row_36 : decode cX7_row 36 = .ok (.goto 22, 3) := by decide +kernel
theorem dX7_row_39 : decode cX7_row 39 = .ok (.iload_n 2, 1) := by decide +kernel
theorem dX7_row_40 : decode cX7_row 40 = .ok (.ifCond .eq 12, 3) := by decide +kernel
theorem dX7_row_43 : decode cX7_row 43 = .ok (.aload_n 0, 1) := by decide +kernel
theorem dX7_row_44 : decode cX7_row 44 = .ok (.getfield 17, 3) := by decide +kernel
theorem dX7_row_47 : decode cX7_row 47 = .ok (.iload_n 1, 1) := by decide +kernel
theorem dX7_row_48 : decode cX7_row 48 = .ok (.iaload, 1) := by decide +kernel
theorem dX7_row_49 : decode cX7_row 49 = .ok (.goto 9, 3) := by decide +kernel
theorem dX7_row_52 : decode cX7_row 52 = .ok (.aload_n 0, 1) := by decide +kernel
theorem dX7_row_53 : decode cX7_row 53 = .ok (.getfield 13, 3) := by decide +kernel
theorem dX7_row_56 : decode cX7_row 56 = .ok (.iload_n 1, 1) := by decide +kernel
theorem dX7_row_57 : decode cX7_row 57 = .ok (.iaload, 1) := by decide +kernel
theorem dX7_row_58 : decode cX7_row 58 = .ok (.ireturn, 1) := by decide +kernel
theorem dX7_cut_0 : decode cX7_cut 0 = .ok (.aload_n 0, 1) := by decide +kernel
theorem dX7_cut_1 : decode cX7_cut 1 = .ok (.iconst 0, 1) := by decide +kernel
theorem dX7_cut_2 : decode cX7_cut 2 = .ok (.putfield 96, 3) := by decide +kernel
theorem dX7_cut_5 : decode cX7_cut 5 = .ok (.aload_n 0, 1) := by decide +kernel
theorem dX7_cut_6 : decode cX7_cut 6 = .ok (.getfield 102, 3) := by decide +kernel
theorem dX7_cut_9 : decode cX7_cut 9 = .ok (.ifCond .eq 6, 3) := by decide +kernel
theorem dX7_cut_12 : decode cX7_cut 12 = .ok (.bipush (-100), 2) := by decide +kernel
theorem dX7_cut_14 : decode cX7_cut 14 = .ok (.ireturn, 1) := by decide +kernel
theorem dX7_cut_15 : decode cX7_cut 15 = .ok (.iload_n 1, 1) := by decide +kernel
theorem dX7_cut_16 : decode cX7_cut 16 = .ok (.iconst (-1), 1) := by decide +kernel
theorem dX7_cut_17 : decode cX7_cut 17 = .ok (.sipush 1000, 3) := by decide +kernel
theorem dX7_cut_20 : decode cX7_cut 20 = .ok (.invokestatic 201, 3) := by decide +kernel
theorem dX7_cut_23 : decode cX7_cut 23 = .ok (.ifCond .eq 13, 3) := by decide +kernel
theorem dX7_cut_26 : decode cX7_cut 26 = .ok (.iload_n 2, 1) := by decide +kernel
theorem dX7_cut_27 : decode cX7_cut 27 = .ok (.iconst 0, 1) := by decide +kernel
theorem dX7_cut_28 : decode cX7_cut 28 = .ok (.bipush 63, 2) := by decide +kernel
theorem dX7_cut_30 : decode cX7_cut 30 = .ok (.invokestatic 201, 3) := by decide +kernel
theorem dX7_cut_33 : decode cX7_cut 33 = .ok (.ifCond .ne 6, 3) := by decide +kernel
theorem dX7_cut_36 : decode cX7_cut 36 = .ok (.bipush (-102), 2) := by decide +kernel
theorem dX7_cut_38 : decode cX7_cut 38 = .ok (.ireturn, 1) := by decide +kernel
theorem dX7_cut_39 : decode cX7_cut 39 = .ok (.aload_n 0, 1) := by decide +kernel
theorem dX7_cut_40 : decode cX7_cut 40 = .ok (.iload_n 1, 1) := by decide +kernel
theorem dX7_cut_41 : decode cX7_cut 41 = .ok (.putfield 20, 3) := by decide +kernel
theorem dX7_cut_44 : decode cX7_cut 44 = .ok (.iconst 1, 1) := by decide +kernel
theorem dX7_cut_45 : decode cX7_cut 45 = .ok (.ireturn, 1) := by decide +kernel
theorem dX7_start_0 : decode cX7_start 0 = .ok (.aload_n 0, 1) := by decide +kernel
theorem dX7_start_1 : decode cX7_start 1 = .ok (.iconst 0, 1) := by decide +kernel
theorem dX7_start_2 : decode cX7_start 2 = .ok (.putfield 96, 3) := by decide +kernel
theorem dX7_start_5 : decode cX7_start 5 = .ok (.aload_n 0, 1) := by decide +kernel
theorem dX7_start_6 : decode cX7_start 6 = .ok (.getfield 102, 3) := by decide +kernel
theorem dX7_start_9 : decode cX7_start 9 = .ok (.ifCond .ne 6, 3) := by decide +kernel
theorem dX7_start_12 : decode cX7_start 12 = .ok (.bipush (-103), 2) := by decide +kernel
theorem dX7_start_14 : decode cX7_start 14 = .ok (.ireturn, 1) := by decide +kernel
theorem dX7_start_15 : decode cX7_start 15 = .ok (.aload_n 0, 1) := by decide +kernel
theorem dX7_start_16 : decode cX7_start 16 = .ok (.iconst 0, 1) := by decide +kernel
theorem dX7_start_17 : decode cX7_start 17 = .ok (.putfield 102, 3) := by decide +kernel
theorem dX7_start_20 : decode cX7_start 20 = .ok (.aload_n 0, 1) := by decide +kernel
theorem dX7_start_21 : decode cX7_start 21 = .ok (.iconst (-1), 1) := by decide +kernel
theorem dX7_start_22 : decode cX7_start 22 = .ok (.putfield 20, 3) := by decide +kernel
theorem dX7_start_25 : decode cX7_start 25 = .ok (.aload_n 0, 1) := by decide +kernel
theorem dX7_start_26 : decode cX7_start 26 = .ok (.invokevirtual 219, 3) := by decide +kernel
theorem dX7_start_29 : decode cX7_start 29 = .ok (.ireturn, 1) := by decide +kernel
theorem dX7_rowCount_0 : decode cX7_rowCount 0 = .ok (.iconst 0, 1) := by decide +kernel
theorem dX7_rowCount_1 : decode cX7_rowCount 1 = .ok (.istore_n 1, 1) := by decide +kernel
theorem dX7_rowCount_2 : decode cX7_rowCount 2 = .ok (.iconst 0, 1) := by decide +kernel
theorem dX7_rowCount_3 : decode cX7_rowCount 3 = .ok (.istore_n 2, 1) := by decide +kernel
theorem dX7_rowCount_4 : decode cX7_rowCount 4 = .ok (.iload_n 2, 1) := by decide +kernel
theorem dX7_rowCount_5 : decode cX7_rowCount 5 = .ok (.sipush 240, 3) := by decide +kernel
theorem dX7_rowCount_8 : decode cX7_rowCount 8 = .ok (.if_icmp .ge 26, 3) := by decide +kernel
theorem dX7_rowCount_11 : decode cX7_rowCount 11 = .ok (.aload_n 0, 1) := by decide +kernel
theorem dX7_rowCount_12 : decode cX7_rowCount 12 = .ok (.getfield 7, 3) := by decide +kernel
theorem dX7_rowCount_15 : decode cX7_rowCount 15 = .ok (.iload_n 2, 1) := by decide +kernel
theorem dX7_rowCount_16 : decode cX7_rowCount 16 = .ok (.baload, 1) := by decide +kernel
theorem dX7_rowCount_17 : decode cX7_rowCount 17 = .ok (.ifCond .eq 9, 3) := by decide +kernel
theorem dX7_rowCount_20 : decode cX7_rowCount 20 = .ok (.iload_n 1, 1) := by decide +kernel
theorem dX7_rowCount_21 : decode cX7_rowCount 21 = .ok (.iconst 1, 1) := by decide +kernel
theorem dX7_rowCount_22 : decode cX7_rowCount 22 = .ok (.iadd, 1) := by decide +kernel
theorem dX7_rowCount_23 : decode cX7_rowCount 23 = .ok (.goto 4, 3) := by decide +kernel
theorem dX7_rowCount_26 : decode cX7_rowCount 26 = .ok (.iload_n 1, 1) := by decide +kernel
theorem dX7_rowCount_27 : decode cX7_rowCount 27 = .ok (.istore_n 1, 1) := by decide +kernel
theorem dX7_rowCount_28 : decode cX7_rowCount 28 = .ok (.iinc 2 1, 3) := by decide +kernel
theorem dX7_rowCount_31 : decode cX7_rowCount 31 = .ok (.goto (-27), 3) := by decide +kernel
theorem dX7_rowCount_34 : decode cX7_rowCount 34 = .ok (.iload_n 1, 1) := by decide +kernel
theorem dX7_rowCount_35 : decode cX7_rowCount 35 = .ok (.ireturn, 1) := by decide +kernel
theorem dX7_build_0 : decode cX7_build 0 = .ok (.aload_n 0, 1) := by decide +kernel
theorem dX7_build_1 : decode cX7_build 1 = .ok (.iconst 0, 1) := by decide +kernel
theorem dX7_build_2 : decode cX7_build 2 = .ok (.putfield 96, 3) := by decide +kernel
theorem dX7_build_5 : decode cX7_build 5 = .ok (.aload_n 0, 1) := by decide +kernel
theorem dX7_build_6 : decode cX7_build 6 = .ok (.getfield 102, 3) := by decide +kernel
theorem dX7_build_9 : decode cX7_build 9 = .ok (.ifCond .eq 6, 3) := by decide +kernel
theorem dX7_build_12 : decode cX7_build 12 = .ok (.bipush (-100), 2) := by decide +kernel
theorem dX7_build_14 : decode cX7_build 14 = .ok (.ireturn, 1) := by decide +kernel
theorem dX7_build_15 : decode cX7_build 15 = .ok (.aload_n 0, 1) := by decide +kernel
theorem dX7_build_16 : decode cX7_build 16 = .ok (.getfield 106, 3) := by decide +kernel
theorem dX7_build_19 : decode cX7_build 19 = .ok (.iconst 1, 1) := by decide +kernel
theorem dX7_build_20 : decode cX7_build 20 = .ok (.iconst 5, 1) := by decide +kernel
theorem dX7_build_21 : decode cX7_build 21 = .ok (.invokestatic 201, 3) := by decide +kernel
theorem dX7_build_24 : decode cX7_build 24 = .ok (.ifCond .eq 6, 3) := by decide +kernel
theorem dX7_build_27 : decode cX7_build 27 = .ok (.bipush (-103), 2) := by decide +kernel
theorem dX7_build_29 : decode cX7_build 29 = .ok (.ireturn, 1) := by decide +kernel
theorem dX7_build_30 : decode cX7_build 30 = .ok (.aload_n 0, 1) := by decide +kernel
theorem dX7_build_31 : decode cX7_build 31 = .ok (.invokevirtual 109, 3) := by decide +kernel
theorem dX7_build_34 : decode cX7_build 34 = .ok (.aload_n 0, 1) := by decide +kernel
theorem dX7_build_35 : decode cX7_build 35 = .ok (.iload_n 1, 1) := by decide +kernel
theorem dX7_build_36 : decode cX7_build 36 = .ok (.putfield 154, 3) := by decide +kernel
theorem dX7_build_39 : decode cX7_build 39 = .ok (.aload_n 0, 1) := by decide +kernel
theorem dX7_build_40 : decode cX7_build 40 = .ok (.iconst 1, 1) := by decide +kernel
theorem dX7_build_41 : decode cX7_build 41 = .ok (.putfield 106, 3) := by decide +kernel
theorem dX7_build_44 : decode cX7_build 44 = .ok (.aload_n 0, 1) := by decide +kernel
theorem dX7_build_45 : decode cX7_build 45 = .ok (.iconst 0, 1) := by decide +kernel
theorem dX7_build_46 : decode cX7_build 46 = .ok (.putfield 222, 3) := by decide +kernel
theorem dX7_build_49 : decode cX7_build 49 = .ok (.aload_n 0, 1) := by decide +kernel
theorem dX7_build_50 : decode cX7_build 50 = .ok (.iconst 0, 1) := by decide +kernel
theorem dX7_build_51 : decode cX7_build 51 = .ok (.putfield 225, 3) := by decide +kernel
theorem dX7_build_54 : decode cX7_build 54 = .ok (.aload_n 0, 1) := by decide +kernel
theorem dX7_build_55 : decode cX7_build 55 = .ok (.iconst 0, 1) := by decide +kernel
theorem dX7_build_56 : decode cX7_build 56 = .ok (.putfield 228, 3) := by decide +kernel
theorem dX7_build_59 : decode cX7_build 59 = .ok (.aload_n 0, 1) := by decide +kernel
theorem dX7_build_60 : decode cX7_build 60 = .ok (.iconst 0, 1) := by decide +kernel
theorem dX7_build_61 : decode cX7_build 61 = .ok (.putfield 231, 3) := by decide +kernel
theorem dX7_build_64 : decode cX7_build 64 = .ok (.aload_n 0, 1) := by decide +kernel
theorem dX7_build_65 : decode cX7_build 65 = .ok (.iconst 0, 1) := by decide +kernel
theorem dX7_build_66 : decode cX7_build 66 = .ok (.putfield 234, 3) := by decide +kernel
theorem dX7_build_69 : decode cX7_build 69 = .ok (.iconst 1, 1) := by decide +kernel
theorem dX7_build_70 : decode cX7_build 70 = .ok (.ireturn, 1) := by decide +kernel
theorem dX7_drop_0 : decode cX7_drop 0 = .ok (.aload_n 0, 1) := by decide +kernel
theorem dX7_drop_1 : decode cX7_drop 1 = .ok (.iconst 0, 1) := by decide +kernel
theorem dX7_drop_2 : decode cX7_drop 2 = .ok (.putfield 96, 3) := by decide +kernel
theorem dX7_drop_5 : decode cX7_drop 5 = .ok (.aload_n 0, 1) := by decide +kernel
theorem dX7_drop_6 : decode cX7_drop 6 = .ok (.getfield 102, 3) := by decide +kernel
theorem dX7_drop_9 : decode cX7_drop 9 = .ok (.ifCond .eq 6, 3) := by decide +kernel
theorem dX7_drop_12 : decode cX7_drop 12 = .ok (.bipush (-100), 2) := by decide +kernel
theorem dX7_drop_14 : decode cX7_drop 14 = .ok (.ireturn, 1) := by decide +kernel
theorem dX7_drop_15 : decode cX7_drop 15 = .ok (.aload_n 0, 1) := by decide +kernel
theorem dX7_drop_16 : decode cX7_drop 16 = .ok (.getfield 106, 3) := by decide +kernel
theorem dX7_drop_19 : decode cX7_drop 19 = .ok (.istore_n 1, 1) := by decide +kernel
theorem dX7_drop_20 : decode cX7_drop 20 = .ok (.iload_n 1, 1) := by decide +kernel
theorem dX7_drop_21 : decode cX7_drop 21 = .ok (.iconst 5, 1) := by decide +kernel
theorem dX7_drop_22 : decode cX7_drop 22 = .ok (.if_icmp .ne 14, 3) := by decide +kernel
theorem dX7_drop_25 : decode cX7_drop 25 = .ok (.aload_n 0, 1) := by decide +kernel
theorem dX7_drop_26 : decode cX7_drop 26 = .ok (.iconst 0, 1) := by decide +kernel
theorem dX7_drop_27 : decode cX7_drop 27 = .ok (.invokevirtual 133, 3) := by decide +kernel
theorem dX7_drop_30 : decode cX7_drop 30 = .ok (.ifCond .ne 6, 3) := by decide +kernel
theorem dX7_drop_33 : decode cX7_drop 33 = .ok (.bipush (-106), 2) := by decide +kernel
theorem dX7_drop_35 : decode cX7_drop 35 = .ok (.ireturn, 1) := by decide +kernel
theorem dX7_drop_36 : decode cX7_drop 36 = .ok (.aload_n 0, 1) := by decide +kernel
theorem dX7_drop_37 : decode cX7_drop 37 = .ok (.invokevirtual 109, 3) := by decide +kernel
theorem dX7_drop_40 : decode cX7_drop 40 = .ok (.iload_n 1, 1) := by decide +kernel
theorem dX7_drop_41 : decode cX7_drop 41 = .ok (.ireturn, 1) := by decide +kernel
theorem dX7_runFrom_0 : decode cX7_runFrom 0 = .ok (.iload_n 1, 1) := by decide +kernel
theorem dX7_runFrom_1 : decode cX7_runFrom 1 = .ok (.ifCond .ne 7, 3) := by decide +kernel
theorem dX7_runFrom_4 : decode cX7_runFrom 4 = .ok (.iconst 0, 1) := by decide +kernel
theorem dX7_runFrom_5 : decode cX7_runFrom 5 = .ok (.goto 11, 3) := by decide +kernel
theorem dX7_runFrom_8 : decode cX7_runFrom 8 = .ok (.aload_n 0, 1) := by decide +kernel
theorem dX7_runFrom_9 : decode cX7_runFrom 9 = .ok (.getfield 39, 3) := by decide +kernel
theorem dX7_runFrom_12 : decode cX7_runFrom 12 = .ok (.iload_n 1, 1) := by decide +kernel
theorem dX7_runFrom_13 : decode cX7_runFrom 13 = .ok (.iconst 1, 1) := by decide +kernel
theorem dX7_runFrom_14 : decode cX7_runFrom 14 = .ok (.isub, 1) := by decide +kernel
theorem dX7_runFrom_15 : decode cX7_runFrom 15 = .ok (.iaload, 1) := by decide +kernel
theorem dX7_runFrom_16 : decode cX7_runFrom 16 = .ok (.ireturn, 1) := by decide +kernel
theorem dX7_sort_0 : decode cX7_sort 0 = .ok (.iload_n 1, 1) := by decide +kernel
theorem dX7_sort_1 : decode cX7_sort 1 = .ok (.iconst 1, 1) := by decide +kernel
theorem dX7_sort_2 : decode cX7_sort 2 = .ok (.iadd, 1) := by decide +kernel
theorem dX7_sort_3 : decode cX7_sort 3 = .ok (.istore_n 3, 1) := by decide +kernel
theorem dX7_sort_4 : decode cX7_sort 4 = .ok (.iload_n 3, 1) := by decide +kernel
theorem dX7_sort_5 : decode cX7_sort 5 = .ok (.iload_n 2, 1) := by decide +kernel
theorem dX7_sort_6 : decode cX7_sort 6 = .ok (.if_icmp .ge 118, 3) := by decide +kernel
theorem dX7_sort_9 : decode cX7_sort 9 = .ok (.aload_n 0, 1) := by decide +kernel
theorem dX7_sort_10 : decode cX7_sort 10 = .ok (.getfield 33, 3) := by decide +kernel
theorem dX7_sort_13 : decode cX7_sort 13 = .ok (.iload_n 3, 1) := by decide +kernel
theorem dX7_sort_14 : decode cX7_sort 14 = .ok (.iaload, 1) := by decide +kernel
theorem dX7_sort_15 : decode cX7_sort 15 = .ok (.istore 4, 2) := by decide +kernel
theorem dX7_sort_17 : decode cX7_sort 17 = .ok (.aload_n 0, 1) := by decide +kernel
theorem dX7_sort_18 : decode cX7_sort 18 = .ok (.getfield 36, 3) := by decide +kernel
theorem dX7_sort_21 : decode cX7_sort 21 = .ok (.iload_n 3, 1) := by decide +kernel
theorem dX7_sort_22 : decode cX7_sort 22 = .ok (.iaload, 1) := by decide +kernel
theorem dX7_sort_23 : decode cX7_sort 23 = .ok (.istore 5, 2) := by decide +kernel
theorem dX7_sort_25 : decode cX7_sort 25 = .ok (.iload_n 3, 1) := by decide +kernel
theorem dX7_sort_26 : decode cX7_sort 26 = .ok (.istore 6, 2) := by decide +kernel
theorem dX7_sort_28 : decode cX7_sort 28 = .ok (.iload 6, 2) := by decide +kernel
theorem dX7_sort_30 : decode cX7_sort 30 = .ok (.iload_n 1, 1) := by decide +kernel
theorem dX7_sort_31 : decode cX7_sort 31 = .ok (.if_icmp .le 69, 3) := by decide +kernel
theorem dX7_sort_34 : decode cX7_sort 34 = .ok (.iload 4, 2) := by decide +kernel
theorem dX7_sort_36 : decode cX7_sort 36 = .ok (.iload 5, 2) := by decide +kernel
theorem dX7_sort_38 : decode cX7_sort 38 = .ok (.aload_n 0, 1) := by decide +kernel
theorem dX7_sort_39 : decode cX7_sort 39 = .ok (.getfield 33, 3) := by decide +kernel
theorem dX7_sort_42 : decode cX7_sort 42 = .ok (.iload 6, 2) := by decide +kernel
theorem dX7_sort_44 : decode cX7_sort 44 = .ok (.iconst 1, 1) := by decide +kernel
theorem dX7_sort_45 : decode cX7_sort 45 = .ok (.isub, 1) := by decide +kernel
theorem dX7_sort_46 : decode cX7_sort 46 = .ok (.iaload, 1) := by decide +kernel
theorem dX7_sort_47 : decode cX7_sort 47 = .ok (.aload_n 0, 1) := by decide +kernel
theorem dX7_sort_48 : decode cX7_sort 48 = .ok (.getfield 36, 3) := by decide +kernel
theorem dX7_sort_51 : decode cX7_sort 51 = .ok (.iload 6, 2) := by decide +kernel
theorem dX7_sort_53 : decode cX7_sort 53 = .ok (.iconst 1, 1) := by decide +kernel
theorem dX7_sort_54 : decode cX7_sort 54 = .ok (.isub, 1) := by decide +kernel
theorem dX7_sort_55 : decode cX7_sort 55 = .ok (.iaload, 1) := by decide +kernel
theorem dX7_sort_56 : decode cX7_sort 56 = .ok (.invokestatic 167, 3) := by decide +kernel
theorem dX7_sort_59 : decode cX7_sort 59 = .ok (.ifCond .eq 41, 3) := by decide +kernel
theorem dX7_sort_62 : decode cX7_sort 62 = .ok (.aload_n 0, 1) := by decide +kernel
theorem dX7_sort_63 : decode cX7_sort 63 = .ok (.getfield 33, 3) := by decide +kernel
theorem dX7_sort_66 : decode cX7_sort 66 = .ok (.iload 6, 2) := by decide +kernel
theorem dX7_sort_68 : decode cX7_sort 68 = .ok (.aload_n 0, 1) := by decide +kernel
theorem dX7_sort_69 : decode cX7_sort 69 = .ok (.getfield 33, 3) := by decide +kernel
theorem dX7_sort_72 : decode cX7_sort 72 = .ok (.iload 6, 2) := by decide +kernel
theorem dX7_sort_74 : decode cX7_sort 74 = .ok (.iconst 1, 1) := by decide +kernel
theorem dX7_sort_75 : decode cX7_sort 75 = .ok (.isub, 1) := by decide +kernel
theorem dX7_sort_76 : decode cX7_sort 76 = .ok (.iaload, 1) := by decide +kernel
theorem dX7_sort_77 : decode cX7_sort 77 = .ok (.iastore, 1) := by decide +kernel
theorem dX7_sort_78 : decode cX7_sort 78 = .ok (.aload_n 0, 1) := by decide +kernel
theorem dX7_sort_79 : decode cX7_sort 79 = .ok (.getfield 36, 3) := by decide +kernel
theorem dX7_sort_82 : decode cX7_sort 82 = .ok (.iload 6, 2) := by decide +kernel
theorem dX7_sort_84 : decode cX7_sort 84 = .ok (.aload_n 0, 1) := by decide +kernel
theorem dX7_sort_85 : decode cX7_sort 85 = .ok (.getfield 36, 3) := by decide +kernel
theorem dX7_sort_88 : decode cX7_sort 88 = .ok (.iload 6, 2) := by decide +kernel
theorem dX7_sort_90 : decode cX7_sort 90 = .ok (.iconst 1, 1) := by decide +kernel
theorem dX7_sort_91 : decode cX7_sort 91 = .ok (.isub, 1) := by decide +kernel
theorem dX7_sort_92 : decode cX7_sort 92 = .ok (.iaload, 1) := by decide +kernel
theorem dX7_sort_93 : decode cX7_sort 93 = .ok (.iastore, 1) := by decide +kernel
theorem dX7_sort_94 : decode cX7_sort 94 = .ok (.iinc 6 (-1), 3) := by decide +kernel
theorem dX7_sort_97 : decode cX7_sort 97 = .ok (.goto (-69), 3) := by decide +kernel
theorem dX7_sort_100 : decode cX7_sort 100 = .ok (.aload_n 0, 1) := by decide +kernel
theorem dX7_sort_101 : decode cX7_sort 101 = .ok (.getfield 33, 3) := by decide +kernel
theorem dX7_sort_104 : decode cX7_sort 104 = .ok (.iload 6, 2) := by decide +kernel
theorem dX7_sort_106 : decode cX7_sort 106 = .ok (.iload 4, 2) := by decide +kernel
theorem dX7_sort_108 : decode cX7_sort 108 = .ok (.iastore, 1) := by decide +kernel
theorem dX7_sort_109 : decode cX7_sort 109 = .ok (.aload_n 0, 1) := by decide +kernel
theorem dX7_sort_110 : decode cX7_sort 110 = .ok (.getfield 36, 3) := by decide +kernel
theorem dX7_sort_113 : decode cX7_sort 113 = .ok (.iload 6, 2) := by decide +kernel
theorem dX7_sort_115 : decode cX7_sort 115 = .ok (.iload 5, 2) := by decide +kernel
theorem dX7_sort_117 : decode cX7_sort 117 = .ok (.iastore, 1) := by decide +kernel
theorem dX7_sort_118 : decode cX7_sort 118 = .ok (.iinc 3 1, 3) := by decide +kernel
theorem dX7_sort_121 : decode cX7_sort 121 = .ok (.goto (-117), 3) := by decide +kernel
theorem dX7_sort_124 : decode cX7_sort 124 = .ok (.return_, 1) := by decide +kernel
theorem dX7_scanStep_0 : decode cX7_scanStep 0 = .ok (.bipush 12, 2) := by decide +kernel
theorem dX7_scanStep_2 : decode cX7_scanStep 2 = .ok (.aload_n 0, 1) := by decide +kernel
theorem dX7_scanStep_3 : decode cX7_scanStep 3 = .ok (.getfield 139, 3) := by decide +kernel
theorem dX7_scanStep_6 : decode cX7_scanStep 6 = .ok (.imul, 1) := by decide +kernel
theorem dX7_scanStep_7 : decode cX7_scanStep 7 = .ok (.istore_n 1, 1) := by decide +kernel
theorem dX7_scanStep_8 : decode cX7_scanStep 8 = .ok (.iload_n 1, 1) := by decide +kernel
theorem dX7_scanStep_9 : decode cX7_scanStep 9 = .ok (.bipush 12, 2) := by decide +kernel
theorem dX7_scanStep_11 : decode cX7_scanStep 11 = .ok (.aload_n 0, 1) := by decide +kernel
theorem dX7_scanStep_12 : decode cX7_scanStep 12 = .ok (.getfield 139, 3) := by decide +kernel
theorem dX7_scanStep_15 : decode cX7_scanStep 15 = .ok (.imul, 1) := by decide +kernel
theorem dX7_scanStep_16 : decode cX7_scanStep 16 = .ok (.bipush 12, 2) := by decide +kernel
theorem dX7_scanStep_18 : decode cX7_scanStep 18 = .ok (.iadd, 1) := by decide +kernel
theorem dX7_scanStep_19 : decode cX7_scanStep 19 = .ok (.if_icmp .ge 53, 3) := by decide +kernel
theorem dX7_scanStep_22 : decode cX7_scanStep 22 = .ok (.aload_n 0, 1) := by decide +kernel
theorem dX7_scanStep_23 : decode cX7_scanStep 23 = .ok (.getfield 7, 3) := by decide +kernel
theorem dX7_scanStep_26 : decode cX7_scanStep 26 = .ok (.iload_n 1, 1) := by decide +kernel
theorem dX7_scanStep_27 : decode cX7_scanStep 27 = .ok (.baload, 1) := by decide +kernel
theorem dX7_scanStep_28 : decode cX7_scanStep 28 = .ok (.ifCond .eq 38, 3) := by decide +kernel
theorem dX7_scanStep_31 : decode cX7_scanStep 31 = .ok (.aload_n 0, 1) := by decide +kernel
theorem dX7_scanStep_32 : decode cX7_scanStep 32 = .ok (.getfield 33, 3) := by decide +kernel
theorem dX7_scanStep_35 : decode cX7_scanStep 35 = .ok (.aload_n 0, 1) := by decide +kernel
theorem dX7_scanStep_36 : decode cX7_scanStep 36 = .ok (.getfield 142, 3) := by decide +kernel
theorem dX7_scanStep_39 : decode cX7_scanStep 39 = .ok (.aload_n 0, 1) := by decide +kernel
theorem dX7_scanStep_40 : decode cX7_scanStep 40 = .ok (.getfield 13, 3) := by decide +kernel
theorem dX7_scanStep_43 : decode cX7_scanStep 43 = .ok (.iload_n 1, 1) := by decide +kernel
theorem dX7_scanStep_44 : decode cX7_scanStep 44 = .ok (.iaload, 1) := by decide +kernel
theorem dX7_scanStep_45 : decode cX7_scanStep 45 = .ok (.iastore, 1) := by decide +kernel
theorem dX7_scanStep_46 : decode cX7_scanStep 46 = .ok (.aload_n 0, 1) := by decide +kernel
theorem dX7_scanStep_47 : decode cX7_scanStep 47 = .ok (.getfield 36, 3) := by decide +kernel
theorem dX7_scanStep_50 : decode cX7_scanStep 50 = .ok (.aload_n 0, 1) := by decide +kernel
theorem dX7_scanStep_51 : decode cX7_scanStep 51 = .ok (.getfield 142, 3) := by decide +kernel
theorem dX7_scanStep_54 : decode cX7_scanStep 54 = .ok (.iload_n 1, 1) := by decide +kernel
theorem dX7_scanStep_55 : decode cX7_scanStep 55 = .ok (.iastore, 1) := by decide +kernel
theorem dX7_scanStep_56 : decode cX7_scanStep 56 = .ok (.aload_n 0, 1) := by decide +kernel
theorem dX7_scanStep_57 : decode cX7_scanStep 57 = .ok (.dup, 1) := by decide +kernel
theorem dX7_scanStep_58 : decode cX7_scanStep 58 = .ok (.getfield 142, 3) := by decide +kernel
theorem dX7_scanStep_61 : decode cX7_scanStep 61 = .ok (.iconst 1, 1) := by decide +kernel
theorem dX7_scanStep_62 : decode cX7_scanStep 62 = .ok (.iadd, 1) := by decide +kernel
theorem dX7_scanStep_63 : decode cX7_scanStep 63 = .ok (.putfield 142, 3) := by decide +kernel
theorem dX7_scanStep_66 : decode cX7_scanStep 66 = .ok (.iinc 1 1, 3) := by decide +kernel
theorem dX7_scanStep_69 : decode cX7_scanStep 69 = .ok (.goto (-61), 3) := by decide +kernel
theorem dX7_scanStep_72 : decode cX7_scanStep 72 = .ok (.aload_n 0, 1) := by decide +kernel
theorem dX7_scanStep_73 : decode cX7_scanStep 73 = .ok (.dup, 1) := by decide +kernel
theorem dX7_scanStep_74 : decode cX7_scanStep 74 = .ok (.getfield 139, 3) := by decide +kernel
theorem dX7_scanStep_77 : decode cX7_scanStep 77 = .ok (.iconst 1, 1) := by decide +kernel
theorem dX7_scanStep_78 : decode cX7_scanStep 78 = .ok (.iadd, 1) := by decide +kernel
theorem dX7_scanStep_79 : decode cX7_scanStep 79 = .ok (.putfield 139, 3) := by decide +kernel
theorem dX7_scanStep_82 : decode cX7_scanStep 82 = .ok (.aload_n 0, 1) := by decide +kernel
theorem dX7_scanStep_83 : decode cX7_scanStep 83 = .ok (.getfield 142, 3) := by decide +kernel
theorem dX7_scanStep_86 : decode cX7_scanStep 86 = .ok (.aload_n 0, 1) := by decide +kernel
theorem dX7_scanStep_87 : decode cX7_scanStep 87 = .ok (.aload_n 0, 1) := by decide +kernel
theorem dX7_scanStep_88 : decode cX7_scanStep 88 = .ok (.getfield 145, 3) := by decide +kernel
theorem dX7_scanStep_91 : decode cX7_scanStep 91 = .ok (.invokevirtual 237, 3) := by decide +kernel
theorem dX7_scanStep_94 : decode cX7_scanStep 94 = .ok (.isub, 1) := by decide +kernel
theorem dX7_scanStep_95 : decode cX7_scanStep 95 = .ok (.istore_n 1, 1) := by decide +kernel
theorem dX7_scanStep_96 : decode cX7_scanStep 96 = .ok (.iload_n 1, 1) := by decide +kernel
theorem dX7_scanStep_97 : decode cX7_scanStep 97 = .ok (.bipush 24, 2) := by decide +kernel
theorem dX7_scanStep_99 : decode cX7_scanStep 99 = .ok (.if_icmp .ge 16, 3) := by decide +kernel
theorem dX7_scanStep_102 : decode cX7_scanStep 102 = .ok (.aload_n 0, 1) := by decide +kernel
theorem dX7_scanStep_103 : decode cX7_scanStep 103 = .ok (.getfield 139, 3) := by decide +kernel
theorem dX7_scanStep_106 : decode cX7_scanStep 106 = .ok (.bipush 20, 2) := by decide +kernel
theorem dX7_scanStep_108 : decode cX7_scanStep 108 = .ok (.if_icmp .ne 62, 3) := by decide +kernel
theorem dX7_scanStep_111 : decode cX7_scanStep 111 = .ok (.iload_n 1, 1) := by decide +kernel
theorem dX7_scanStep_112 : decode cX7_scanStep 112 = .ok (.ifCond .le 58, 3) := by decide +kernel
theorem dX7_scanStep_115 : decode cX7_scanStep 115 = .ok (.aload_n 0, 1) := by decide +kernel
theorem dX7_scanStep_116 : decode cX7_scanStep 116 = .ok (.aload_n 0, 1) := by decide +kernel
theorem dX7_scanStep_117 : decode cX7_scanStep 117 = .ok (.aload_n 0, 1) := by decide +kernel
theorem dX7_scanStep_118 : decode cX7_scanStep 118 = .ok (.getfield 145, 3) := by decide +kernel
theorem dX7_scanStep_121 : decode cX7_scanStep 121 = .ok (.invokevirtual 237, 3) := by decide +kernel
theorem dX7_scanStep_124 : decode cX7_scanStep 124 = .ok (.aload_n 0, 1) := by decide +kernel
theorem dX7_scanStep_125 : decode cX7_scanStep 125 = .ok (.getfield 142, 3) := by decide +kernel
theorem dX7_scanStep_128 : decode cX7_scanStep 128 = .ok (.invokevirtual 240, 3) := by decide +kernel
theorem dX7_scanStep_131 : decode cX7_scanStep 131 = .ok (.aload_n 0, 1) := by decide +kernel
theorem dX7_scanStep_132 : decode cX7_scanStep 132 = .ok (.getfield 39, 3) := by decide +kernel
theorem dX7_scanStep_135 : decode cX7_scanStep 135 = .ok (.aload_n 0, 1) := by decide +kernel
theorem dX7_scanStep_136 : decode cX7_scanStep 136 = .ok (.getfield 145, 3) := by decide +kernel
theorem dX7_scanStep_139 : decode cX7_scanStep 139 = .ok (.aload_n 0, 1) := by decide +kernel
theorem dX7_scanStep_140 : decode cX7_scanStep 140 = .ok (.getfield 142, 3) := by decide +kernel
theorem dX7_scanStep_143 : decode cX7_scanStep 143 = .ok (.iastore, 1) := by decide +kernel
theorem dX7_scanStep_144 : decode cX7_scanStep 144 = .ok (.aload_n 0, 1) := by decide +kernel
theorem dX7_scanStep_145 : decode cX7_scanStep 145 = .ok (.dup, 1) := by decide +kernel
theorem dX7_scanStep_146 : decode cX7_scanStep 146 = .ok (.getfield 145, 3) := by decide +kernel
theorem dX7_scanStep_149 : decode cX7_scanStep 149 = .ok (.iconst 1, 1) := by decide +kernel
theorem dX7_scanStep_150 : decode cX7_scanStep 150 = .ok (.iadd, 1) := by decide +kernel
theorem dX7_scanStep_151 : decode cX7_scanStep 151 = .ok (.putfield 145, 3) := by decide +kernel
theorem dX7_scanStep_154 : decode cX7_scanStep 154 = .ok (.aload_n 0, 1) := by decide +kernel
theorem dX7_scanStep_155 : decode cX7_scanStep 155 = .ok (.iload_n 1, 1) := by decide +kernel
theorem dX7_scanStep_156 : decode cX7_scanStep 156 = .ok (.bipush 7, 2) := by decide +kernel
theorem dX7_scanStep_158 : decode cX7_scanStep 158 = .ok (.iadd, 1) := by decide +kernel
theorem dX7_scanStep_159 : decode cX7_scanStep 159 = .ok (.bipush 8, 2) := by decide +kernel
theorem dX7_scanStep_161 : decode cX7_scanStep 161 = .ok (.idiv, 1) := by decide +kernel
theorem dX7_scanStep_162 : decode cX7_scanStep 162 = .ok (.invokevirtual 116, 3) := by decide +kernel
theorem dX7_scanStep_165 : decode cX7_scanStep 165 = .ok (.ifCond .ne 5, 3) := by decide +kernel
theorem dX7_scanStep_168 : decode cX7_scanStep 168 = .ok (.iconst 0, 1) := by decide +kernel
theorem dX7_scanStep_169 : decode cX7_scanStep 169 = .ok (.ireturn, 1) := by decide +kernel
theorem dX7_scanStep_170 : decode cX7_scanStep 170 = .ok (.aload_n 0, 1) := by decide +kernel
theorem dX7_scanStep_171 : decode cX7_scanStep 171 = .ok (.aload_n 0, 1) := by decide +kernel
theorem dX7_scanStep_172 : decode cX7_scanStep 172 = .ok (.getfield 139, 3) := by decide +kernel
theorem dX7_scanStep_175 : decode cX7_scanStep 175 = .ok (.bipush 20, 2) := by decide +kernel
theorem dX7_scanStep_177 : decode cX7_scanStep 177 = .ok (.if_icmp .ne 7, 3) := by decide +kernel
theorem dX7_scanStep_180 : decode cX7_scanStep 180 = .ok (.iconst 2, 1) := by decide +kernel
theorem dX7_scanStep_181 : decode cX7_scanStep 181 = .ok (.goto 4, 3) := by decide +kernel
theorem dX7_scanStep_184 : decode cX7_scanStep 184 = .ok (.iconst 1, 1) := by decide +kernel
theorem dX7_scanStep_185 : decode cX7_scanStep 185 = .ok (.putfield 106, 3) := by decide +kernel
theorem dX7_scanStep_188 : decode cX7_scanStep 188 = .ok (.iconst 1, 1) := by decide +kernel
theorem dX7_scanStep_189 : decode cX7_scanStep 189 = .ok (.ireturn, 1) := by decide +kernel
theorem dX7_mergeStep_0 : decode cX7_mergeStep 0 = .ok (.aload_n 0, 1) := by decide +kernel
theorem dX7_mergeStep_1 : decode cX7_mergeStep 1 = .ok (.getfield 145, 3) := by decide +kernel
theorem dX7_mergeStep_4 : decode cX7_mergeStep 4 = .ok (.iconst 2, 1) := by decide +kernel
theorem dX7_mergeStep_5 : decode cX7_mergeStep 5 = .ok (.if_icmp .ge 10, 3) := by decide +kernel
theorem dX7_mergeStep_8 : decode cX7_mergeStep 8 = .ok (.aload_n 0, 1) := by decide +kernel
theorem dX7_mergeStep_9 : decode cX7_mergeStep 9 = .ok (.iconst 3, 1) := by decide +kernel
theorem dX7_mergeStep_10 : decode cX7_mergeStep 10 = .ok (.putfield 106, 3) := by decide +kernel
theorem dX7_mergeStep_13 : decode cX7_mergeStep 13 = .ok (.iconst 1, 1) := by decide +kernel
theorem dX7_mergeStep_14 : decode cX7_mergeStep 14 = .ok (.ireturn, 1) := by decide +kernel
theorem dX7_mergeStep_15 : decode cX7_mergeStep 15 = .ok (.aload_n 0, 1) := by decide +kernel
theorem dX7_mergeStep_16 : decode cX7_mergeStep 16 = .ok (.getfield 39, 3) := by decide +kernel
theorem dX7_mergeStep_19 : decode cX7_mergeStep 19 = .ok (.iconst 1, 1) := by decide +kernel
theorem dX7_mergeStep_20 : decode cX7_mergeStep 20 = .ok (.iaload, 1) := by decide +kernel
theorem dX7_mergeStep_21 : decode cX7_mergeStep 21 = .ok (.istore_n 1, 1) := by decide +kernel
theorem dX7_mergeStep_22 : decode cX7_mergeStep 22 = .ok (.aload_n 0, 1) := by decide +kernel
theorem dX7_mergeStep_23 : decode cX7_mergeStep 23 = .ok (.iconst 0, 1) := by decide +kernel
theorem dX7_mergeStep_24 : decode cX7_mergeStep 24 = .ok (.iload_n 1, 1) := by decide +kernel
theorem dX7_mergeStep_25 : decode cX7_mergeStep 25 = .ok (.invokevirtual 240, 3) := by decide +kernel
theorem dX7_mergeStep_28 : decode cX7_mergeStep 28 = .ok (.iconst 0, 1) := by decide +kernel
theorem dX7_mergeStep_29 : decode cX7_mergeStep 29 = .ok (.istore_n 2, 1) := by decide +kernel
theorem dX7_mergeStep_30 : decode cX7_mergeStep 30 = .ok (.iload_n 2, 1) := by decide +kernel
theorem dX7_mergeStep_31 : decode cX7_mergeStep 31 = .ok (.aload_n 0, 1) := by decide +kernel
theorem dX7_mergeStep_32 : decode cX7_mergeStep 32 = .ok (.getfield 142, 3) := by decide +kernel
theorem dX7_mergeStep_35 : decode cX7_mergeStep 35 = .ok (.if_icmp .ge 53, 3) := by decide +kernel
theorem dX7_mergeStep_38 : decode cX7_mergeStep 38 = .ok (.iload_n 2, 1) := by decide +kernel
theorem dX7_mergeStep_39 : decode cX7_mergeStep 39 = .ok (.iload_n 1, 1) := by decide +kernel
theorem dX7_mergeStep_40 : decode cX7_mergeStep 40 = .ok (.if_icmp .ge 14, 3) := by decide +kernel
theorem dX7_mergeStep_43 : decode cX7_mergeStep 43 = .ok (.aload_n 0, 1) := by decide +kernel
theorem dX7_mergeStep_44 : decode cX7_mergeStep 44 = .ok (.getfield 142, 3) := by decide +kernel
theorem dX7_mergeStep_47 : decode cX7_mergeStep 47 = .ok (.iload_n 1, 1) := by decide +kernel
theorem dX7_mergeStep_48 : decode cX7_mergeStep 48 = .ok (.isub, 1) := by decide +kernel
theorem dX7_mergeStep_49 : decode cX7_mergeStep 49 = .ok (.iload_n 2, 1) := by decide +kernel
theorem dX7_mergeStep_50 : decode cX7_mergeStep 50 = .ok (.iadd, 1) := by decide +kernel
theorem dX7_mergeStep_51 : decode cX7_mergeStep 51 = .ok (.goto 6, 3) := by decide +kernel
theorem dX7_mergeStep_54 : decode cX7_mergeStep 54 = .ok (.iload_n 2, 1) := by decide +kernel
theorem dX7_mergeStep_55 : decode cX7_mergeStep 55 = .ok (.iload_n 1, 1) := by decide +kernel
theorem dX7_mergeStep_56 : decode cX7_mergeStep 56 = .ok (.isub, 1) := by decide +kernel
theorem dX7_mergeStep_57 : decode cX7_mergeStep 57 = .ok (.istore_n 3, 1) := by decide +kernel
theorem dX7_mergeStep_58 : decode cX7_mergeStep 58 = .ok (.aload_n 0, 1) := by decide +kernel
theorem dX7_mergeStep_59 : decode cX7_mergeStep 59 = .ok (.getfield 87, 3) := by decide +kernel
theorem dX7_mergeStep_62 : decode cX7_mergeStep 62 = .ok (.iload_n 3, 1) := by decide +kernel
theorem dX7_mergeStep_63 : decode cX7_mergeStep 63 = .ok (.aload_n 0, 1) := by decide +kernel
theorem dX7_mergeStep_64 : decode cX7_mergeStep 64 = .ok (.getfield 33, 3) := by decide +kernel
theorem dX7_mergeStep_67 : decode cX7_mergeStep 67 = .ok (.iload_n 2, 1) := by decide +kernel
theorem dX7_mergeStep_68 : decode cX7_mergeStep 68 = .ok (.iaload, 1) := by decide +kernel
theorem dX7_mergeStep_69 : decode cX7_mergeStep 69 = .ok (.iastore, 1) := by decide +kernel
theorem dX7_mergeStep_70 : decode cX7_mergeStep 70 = .ok (.aload_n 0, 1) := by decide +kernel
theorem dX7_mergeStep_71 : decode cX7_mergeStep 71 = .ok (.getfield 90, 3) := by decide +kernel
theorem dX7_mergeStep_74 : decode cX7_mergeStep 74 = .ok (.iload_n 3, 1) := by decide +kernel
theorem dX7_mergeStep_75 : decode cX7_mergeStep 75 = .ok (.aload_n 0, 1) := by decide +kernel
theorem dX7_mergeStep_76 : decode cX7_mergeStep 76 = .ok (.getfield 36, 3) := by decide +kernel
theorem dX7_mergeStep_79 : decode cX7_mergeStep 79 = .ok (.iload_n 2, 1) := by decide +kernel
theorem dX7_mergeStep_80 : decode cX7_mergeStep 80 = .ok (.iaload, 1) := by decide +kernel
theorem dX7_mergeStep_81 : decode cX7_mergeStep 81 = .ok (.iastore, 1) := by decide +kernel
theorem dX7_mergeStep_82 : decode cX7_mergeStep 82 = .ok (.iinc 2 1, 3) := by decide +kernel
theorem dX7_mergeStep_85 : decode cX7_mergeStep 85 = .ok (.goto (-55), 3) := by decide +kernel
theorem dX7_mergeStep_88 : decode cX7_mergeStep 88 = .ok (.iconst 0, 1) := by decide +kernel
theorem dX7_mergeStep_89 : decode cX7_mergeStep 89 = .ok (.istore_n 2, 1) := by decide +kernel
theorem dX7_mergeStep_90 : decode cX7_mergeStep 90 = .ok (.iload_n 2, 1) := by decide +kernel
theorem dX7_mergeStep_91 : decode cX7_mergeStep 91 = .ok (.aload_n 0, 1) := by decide +kernel
theorem dX7_mergeStep_92 : decode cX7_mergeStep 92 = .ok (.getfield 142, 3) := by decide +kernel
theorem dX7_mergeStep_95 : decode cX7_mergeStep 95 = .ok (.if_icmp .ge 33, 3) := by decide +kernel
theorem dX7_mergeStep_98 : decode cX7_mergeStep 98 = .ok (.aload_n 0, 1) := by decide +kernel
theorem dX7_mergeStep_99 : decode cX7_mergeStep 99 = .ok (.getfield 33, 3) := by decide +kernel
theorem dX7_mergeStep_102 : decode cX7_mergeStep 102 = .ok (.iload_n 2, 1) := by decide +kernel
theorem dX7_mergeStep_103 : decode cX7_mergeStep 103 = .ok (.aload_n 0, 1) := by decide +kernel
theorem dX7_mergeStep_104 : decode cX7_mergeStep 104 = .ok (.getfield 87, 3) := by decide +kernel
theorem dX7_mergeStep_107 : decode cX7_mergeStep 107 = .ok (.iload_n 2, 1) := by decide +kernel
theorem dX7_mergeStep_108 : decode cX7_mergeStep 108 = .ok (.iaload, 1) := by decide +kernel
theorem dX7_mergeStep_109 : decode cX7_mergeStep 109 = .ok (.iastore, 1) := by decide +kernel
theorem dX7_mergeStep_110 : decode cX7_mergeStep 110 = .ok (.aload_n 0, 1) := by decide +kernel
theorem dX7_mergeStep_111 : decode cX7_mergeStep 111 = .ok (.getfield 36, 3) := by decide +kernel
theorem dX7_mergeStep_114 : decode cX7_mergeStep 114 = .ok (.iload_n 2, 1) := by decide +kernel
theorem dX7_mergeStep_115 : decode cX7_mergeStep 115 = .ok (.aload_n 0, 1) := by decide +kernel
theorem dX7_mergeStep_116 : decode cX7_mergeStep 116 = .ok (.getfield 90, 3) := by decide +kernel
theorem dX7_mergeStep_119 : decode cX7_mergeStep 119 = .ok (.iload_n 2, 1) := by decide +kernel
theorem dX7_mergeStep_120 : decode cX7_mergeStep 120 = .ok (.iaload, 1) := by decide +kernel
theorem dX7_mergeStep_121 : decode cX7_mergeStep 121 = .ok (.iastore, 1) := by decide +kernel
theorem dX7_mergeStep_122 : decode cX7_mergeStep 122 = .ok (.iinc 2 1, 3) := by decide +kernel
theorem dX7_mergeStep_125 : decode cX7_mergeStep 125 = .ok (.goto (-35), 3) := by decide +kernel
theorem dX7_mergeStep_128 : decode cX7_mergeStep 128 = .ok (.aload_n 0, 1) := by decide +kernel
theorem dX7_mergeStep_129 : decode cX7_mergeStep 129 = .ok (.dup, 1) := by decide +kernel
theorem dX7_mergeStep_130 : decode cX7_mergeStep 130 = .ok (.getfield 145, 3) := by decide +kernel
theorem dX7_mergeStep_133 : decode cX7_mergeStep 133 = .ok (.iconst 1, 1) := by decide +kernel
theorem dX7_mergeStep_134 : decode cX7_mergeStep 134 = .ok (.isub, 1) := by decide +kernel
theorem dX7_mergeStep_135 : decode cX7_mergeStep 135 = .ok (.putfield 145, 3) := by decide +kernel
theorem dX7_mergeStep_138 : decode cX7_mergeStep 138 = .ok (.iconst 0, 1) := by decide +kernel
theorem dX7_mergeStep_139 : decode cX7_mergeStep 139 = .ok (.istore_n 2, 1) := by decide +kernel
theorem dX7_mergeStep_140 : decode cX7_mergeStep 140 = .ok (.iload_n 2, 1) := by decide +kernel
theorem dX7_mergeStep_141 : decode cX7_mergeStep 141 = .ok (.aload_n 0, 1) := by decide +kernel
theorem dX7_mergeStep_142 : decode cX7_mergeStep 142 = .ok (.getfield 145, 3) := by decide +kernel
theorem dX7_mergeStep_145 : decode cX7_mergeStep 145 = .ok (.iconst 1, 1) := by decide +kernel
theorem dX7_mergeStep_146 : decode cX7_mergeStep 146 = .ok (.isub, 1) := by decide +kernel
theorem dX7_mergeStep_147 : decode cX7_mergeStep 147 = .ok (.if_icmp .ge 25, 3) := by decide +kernel
theorem dX7_mergeStep_150 : decode cX7_mergeStep 150 = .ok (.aload_n 0, 1) := by decide +kernel
theorem dX7_mergeStep_151 : decode cX7_mergeStep 151 = .ok (.getfield 39, 3) := by decide +kernel
theorem dX7_mergeStep_154 : decode cX7_mergeStep 154 = .ok (.iload_n 2, 1) := by decide +kernel
theorem dX7_mergeStep_155 : decode cX7_mergeStep 155 = .ok (.aload_n 0, 1) := by decide +kernel
theorem dX7_mergeStep_156 : decode cX7_mergeStep 156 = .ok (.getfield 39, 3) := by decide +kernel
theorem dX7_mergeStep_159 : decode cX7_mergeStep 159 = .ok (.iload_n 2, 1) := by decide +kernel
theorem dX7_mergeStep_160 : decode cX7_mergeStep 160 = .ok (.iconst 2, 1) := by decide +kernel
theorem dX7_mergeStep_161 : decode cX7_mergeStep 161 = .ok (.iadd, 1) := by decide +kernel
theorem dX7_mergeStep_162 : decode cX7_mergeStep 162 = .ok (.iaload, 1) := by decide +kernel
theorem dX7_mergeStep_163 : decode cX7_mergeStep 163 = .ok (.iload_n 1, 1) := by decide +kernel
theorem dX7_mergeStep_164 : decode cX7_mergeStep 164 = .ok (.isub, 1) := by decide +kernel
theorem dX7_mergeStep_165 : decode cX7_mergeStep 165 = .ok (.iastore, 1) := by decide +kernel
theorem dX7_mergeStep_166 : decode cX7_mergeStep 166 = .ok (.iinc 2 1, 3) := by decide +kernel
theorem dX7_mergeStep_169 : decode cX7_mergeStep 169 = .ok (.goto (-29), 3) := by decide +kernel
theorem dX7_mergeStep_172 : decode cX7_mergeStep 172 = .ok (.aload_n 0, 1) := by decide +kernel
theorem dX7_mergeStep_173 : decode cX7_mergeStep 173 = .ok (.getfield 39, 3) := by decide +kernel
theorem dX7_mergeStep_176 : decode cX7_mergeStep 176 = .ok (.aload_n 0, 1) := by decide +kernel
theorem dX7_mergeStep_177 : decode cX7_mergeStep 177 = .ok (.getfield 145, 3) := by decide +kernel
theorem dX7_mergeStep_180 : decode cX7_mergeStep 180 = .ok (.iconst 1, 1) := by decide +kernel
theorem dX7_mergeStep_181 : decode cX7_mergeStep 181 = .ok (.isub, 1) := by decide +kernel
theorem dX7_mergeStep_182 : decode cX7_mergeStep 182 = .ok (.aload_n 0, 1) := by decide +kernel
theorem dX7_mergeStep_183 : decode cX7_mergeStep 183 = .ok (.getfield 142, 3) := by decide +kernel
theorem dX7_mergeStep_186 : decode cX7_mergeStep 186 = .ok (.iastore, 1) := by decide +kernel
theorem dX7_mergeStep_187 : decode cX7_mergeStep 187 = .ok (.aload_n 0, 1) := by decide +kernel
theorem dX7_mergeStep_188 : decode cX7_mergeStep 188 = .ok (.iload_n 1, 1) := by decide +kernel
theorem dX7_mergeStep_189 : decode cX7_mergeStep 189 = .ok (.bipush 7, 2) := by decide +kernel
theorem dX7_mergeStep_191 : decode cX7_mergeStep 191 = .ok (.iadd, 1) := by decide +kernel
theorem dX7_mergeStep_192 : decode cX7_mergeStep 192 = .ok (.bipush 8, 2) := by decide +kernel
theorem dX7_mergeStep_194 : decode cX7_mergeStep 194 = .ok (.idiv, 1) := by decide +kernel
theorem dX7_mergeStep_195 : decode cX7_mergeStep 195 = .ok (.invokevirtual 116, 3) := by decide +kernel
theorem dX7_mergeStep_198 : decode cX7_mergeStep 198 = .ok (.ireturn, 1) := by decide +kernel
theorem dX7_loadStep_0 : decode cX7_loadStep 0 = .ok (.aload_n 0, 1) := by decide +kernel
theorem dX7_loadStep_1 : decode cX7_loadStep 1 = .ok (.aload_n 0, 1) := by decide +kernel
theorem dX7_loadStep_2 : decode cX7_loadStep 2 = .ok (.getfield 225, 3) := by decide +kernel
theorem dX7_loadStep_5 : decode cX7_loadStep 5 = .ok (.ifCond .ne 7, 3) := by decide +kernel
theorem dX7_loadStep_8 : decode cX7_loadStep 8 = .ok (.iconst 1, 1) := by decide +kernel
theorem dX7_loadStep_9 : decode cX7_loadStep 9 = .ok (.goto 4, 3) := by decide +kernel
theorem dX7_loadStep_12 : decode cX7_loadStep 12 = .ok (.iconst 0, 1) := by decide +kernel
theorem dX7_loadStep_13 : decode cX7_loadStep 13 = .ok (.invokevirtual 181, 3) := by decide +kernel
theorem dX7_loadStep_16 : decode cX7_loadStep 16 = .ok (.istore_n 1, 1) := by decide +kernel
theorem dX7_loadStep_17 : decode cX7_loadStep 17 = .ok (.aload_n 0, 1) := by decide +kernel
theorem dX7_loadStep_18 : decode cX7_loadStep 18 = .ok (.getfield 225, 3) := by decide +kernel
theorem dX7_loadStep_21 : decode cX7_loadStep 21 = .ok (.ifCond .ne 98, 3) := by decide +kernel
theorem dX7_loadStep_24 : decode cX7_loadStep 24 = .ok (.aload_n 0, 1) := by decide +kernel
theorem dX7_loadStep_25 : decode cX7_loadStep 25 = .ok (.getfield 66, 3) := by decide +kernel
theorem dX7_loadStep_28 : decode cX7_loadStep 28 = .ok (.iload_n 1, 1) := by decide +kernel
theorem dX7_loadStep_29 : decode cX7_loadStep 29 = .ok (.iaload, 1) := by decide +kernel
theorem dX7_loadStep_30 : decode cX7_loadStep 30 = .ok (.bipush 6, 2) := by decide +kernel
theorem dX7_loadStep_32 : decode cX7_loadStep 32 = .ok (.if_icmp .ge 157, 3) := by decide +kernel
theorem dX7_loadStep_35 : decode cX7_loadStep 35 = .ok (.aload_n 0, 1) := by decide +kernel
theorem dX7_loadStep_36 : decode cX7_loadStep 36 = .ok (.getfield 222, 3) := by decide +kernel
theorem dX7_loadStep_39 : decode cX7_loadStep 39 = .ok (.aload_n 0, 1) := by decide +kernel
theorem dX7_loadStep_40 : decode cX7_loadStep 40 = .ok (.getfield 142, 3) := by decide +kernel
theorem dX7_loadStep_43 : decode cX7_loadStep 43 = .ok (.if_icmp .ge 146, 3) := by decide +kernel
theorem dX7_loadStep_46 : decode cX7_loadStep 46 = .ok (.aload_n 0, 1) := by decide +kernel
theorem dX7_loadStep_47 : decode cX7_loadStep 47 = .ok (.getfield 69, 3) := by decide +kernel
theorem dX7_loadStep_50 : decode cX7_loadStep 50 = .ok (.bipush 9, 2) := by decide +kernel
theorem dX7_loadStep_52 : decode cX7_loadStep 52 = .ok (.iload_n 1, 1) := by decide +kernel
theorem dX7_loadStep_53 : decode cX7_loadStep 53 = .ok (.imul, 1) := by decide +kernel
theorem dX7_loadStep_54 : decode cX7_loadStep 54 = .ok (.aload_n 0, 1) := by decide +kernel
theorem dX7_loadStep_55 : decode cX7_loadStep 55 = .ok (.getfield 66, 3) := by decide +kernel
theorem dX7_loadStep_58 : decode cX7_loadStep 58 = .ok (.iload_n 1, 1) := by decide +kernel
theorem dX7_loadStep_59 : decode cX7_loadStep 59 = .ok (.iaload, 1) := by decide +kernel
theorem dX7_loadStep_60 : decode cX7_loadStep 60 = .ok (.iadd, 1) := by decide +kernel
theorem dX7_loadStep_61 : decode cX7_loadStep 61 = .ok (.aload_n 0, 1) := by decide +kernel
theorem dX7_loadStep_62 : decode cX7_loadStep 62 = .ok (.getfield 33, 3) := by decide +kernel
theorem dX7_loadStep_65 : decode cX7_loadStep 65 = .ok (.aload_n 0, 1) := by decide +kernel
theorem dX7_loadStep_66 : decode cX7_loadStep 66 = .ok (.getfield 222, 3) := by decide +kernel
theorem dX7_loadStep_69 : decode cX7_loadStep 69 = .ok (.iaload, 1) := by decide +kernel
theorem dX7_loadStep_70 : decode cX7_loadStep 70 = .ok (.iastore, 1) := by decide +kernel
theorem dX7_loadStep_71 : decode cX7_loadStep 71 = .ok (.aload_n 0, 1) := by decide +kernel
theorem dX7_loadStep_72 : decode cX7_loadStep 72 = .ok (.getfield 72, 3) := by decide +kernel
theorem dX7_loadStep_75 : decode cX7_loadStep 75 = .ok (.bipush 9, 2) := by decide +kernel
theorem dX7_loadStep_77 : decode cX7_loadStep 77 = .ok (.iload_n 1, 1) := by decide +kernel
theorem dX7_loadStep_78 : decode cX7_loadStep 78 = .ok (.imul, 1) := by decide +kernel
theorem dX7_loadStep_79 : decode cX7_loadStep 79 = .ok (.aload_n 0, 1) := by decide +kernel
theorem dX7_loadStep_80 : decode cX7_loadStep 80 = .ok (.getfield 66, 3) := by decide +kernel
theorem dX7_loadStep_83 : decode cX7_loadStep 83 = .ok (.iload_n 1, 1) := by decide +kernel
theorem dX7_loadStep_84 : decode cX7_loadStep 84 = .ok (.iaload, 1) := by decide +kernel
theorem dX7_loadStep_85 : decode cX7_loadStep 85 = .ok (.iadd, 1) := by decide +kernel
theorem dX7_loadStep_86 : decode cX7_loadStep 86 = .ok (.aload_n 0, 1) := by decide +kernel
theorem dX7_loadStep_87 : decode cX7_loadStep 87 = .ok (.getfield 36, 3) := by decide +kernel
theorem dX7_loadStep_90 : decode cX7_loadStep 90 = .ok (.aload_n 0, 1) := by decide +kernel
theorem dX7_loadStep_91 : decode cX7_loadStep 91 = .ok (.getfield 222, 3) := by decide +kernel
theorem dX7_loadStep_94 : decode cX7_loadStep 94 = .ok (.iaload, 1) := by decide +kernel
theorem dX7_loadStep_95 : decode cX7_loadStep 95 = .ok (.iastore, 1) := by decide +kernel
theorem dX7_loadStep_96 : decode cX7_loadStep 96 = .ok (.aload_n 0, 1) := by decide +kernel
theorem dX7_loadStep_97 : decode cX7_loadStep 97 = .ok (.getfield 66, 3) := by decide +kernel
theorem dX7_loadStep_100 : decode cX7_loadStep 100 = .ok (.iload_n 1, 1) := by decide +kernel
theorem dX7_loadStep_101 : decode cX7_loadStep 101 = .ok (.dup2, 1) := by decide +kernel
theorem dX7_loadStep_102 : decode cX7_loadStep 102 = .ok (.iaload, 1) := by decide +kernel
theorem dX7_loadStep_103 : decode cX7_loadStep 103 = .ok (.iconst 1, 1) := by decide +kernel
theorem dX7_loadStep_104 : decode cX7_loadStep 104 = .ok (.iadd, 1) := by decide +kernel
theorem dX7_loadStep_105 : decode cX7_loadStep 105 = .ok (.iastore, 1) := by decide +kernel
theorem dX7_loadStep_106 : decode cX7_loadStep 106 = .ok (.aload_n 0, 1) := by decide +kernel
theorem dX7_loadStep_107 : decode cX7_loadStep 107 = .ok (.dup, 1) := by decide +kernel
theorem dX7_loadStep_108 : decode cX7_loadStep 108 = .ok (.getfield 222, 3) := by decide +kernel
theorem dX7_loadStep_111 : decode cX7_loadStep 111 = .ok (.iconst 1, 1) := by decide +kernel
theorem dX7_loadStep_112 : decode cX7_loadStep 112 = .ok (.iadd, 1) := by decide +kernel
theorem dX7_loadStep_113 : decode cX7_loadStep 113 = .ok (.putfield 222, 3) := by decide +kernel
theorem dX7_loadStep_116 : decode cX7_loadStep 116 = .ok (.goto (-92), 3) := by decide +kernel
theorem dX7_loadStep_119 : decode cX7_loadStep 119 = .ok (.aload_n 0, 1) := by decide +kernel
theorem dX7_loadStep_120 : decode cX7_loadStep 120 = .ok (.getfield 66, 3) := by decide +kernel
theorem dX7_loadStep_123 : decode cX7_loadStep 123 = .ok (.iload_n 1, 1) := by decide +kernel
theorem dX7_loadStep_124 : decode cX7_loadStep 124 = .ok (.iaload, 1) := by decide +kernel
theorem dX7_loadStep_125 : decode cX7_loadStep 125 = .ok (.bipush 6, 2) := by decide +kernel
theorem dX7_loadStep_127 : decode cX7_loadStep 127 = .ok (.if_icmp .ge 62, 3) := by decide +kernel
theorem dX7_loadStep_130 : decode cX7_loadStep 130 = .ok (.aload_n 0, 1) := by decide +kernel
theorem dX7_loadStep_131 : decode cX7_loadStep 131 = .ok (.getfield 234, 3) := by decide +kernel
theorem dX7_loadStep_134 : decode cX7_loadStep 134 = .ok (.aload_n 0, 1) := by decide +kernel
theorem dX7_loadStep_135 : decode cX7_loadStep 135 = .ok (.getfield 231, 3) := by decide +kernel
theorem dX7_loadStep_138 : decode cX7_loadStep 138 = .ok (.if_icmp .ge 51, 3) := by decide +kernel
theorem dX7_loadStep_141 : decode cX7_loadStep 141 = .ok (.aload_n 0, 1) := by decide +kernel
theorem dX7_loadStep_142 : decode cX7_loadStep 142 = .ok (.getfield 75, 3) := by decide +kernel
theorem dX7_loadStep_145 : decode cX7_loadStep 145 = .ok (.bipush 9, 2) := by decide +kernel
theorem dX7_loadStep_147 : decode cX7_loadStep 147 = .ok (.iload_n 1, 1) := by decide +kernel
theorem dX7_loadStep_148 : decode cX7_loadStep 148 = .ok (.imul, 1) := by decide +kernel
theorem dX7_loadStep_149 : decode cX7_loadStep 149 = .ok (.aload_n 0, 1) := by decide +kernel
theorem dX7_loadStep_150 : decode cX7_loadStep 150 = .ok (.getfield 66, 3) := by decide +kernel
theorem dX7_loadStep_153 : decode cX7_loadStep 153 = .ok (.iload_n 1, 1) := by decide +kernel
theorem dX7_loadStep_154 : decode cX7_loadStep 154 = .ok (.iaload, 1) := by decide +kernel
theorem dX7_loadStep_155 : decode cX7_loadStep 155 = .ok (.iadd, 1) := by decide +kernel
theorem dX7_loadStep_156 : decode cX7_loadStep 156 = .ok (.aload_n 0, 1) := by decide +kernel
theorem dX7_loadStep_157 : decode cX7_loadStep 157 = .ok (.getfield 51, 3) := by decide +kernel
theorem dX7_loadStep_160 : decode cX7_loadStep 160 = .ok (.aload_n 0, 1) := by decide +kernel
theorem dX7_loadStep_161 : decode cX7_loadStep 161 = .ok (.getfield 234, 3) := by decide +kernel
theorem dX7_loadStep_164 : decode cX7_loadStep 164 = .ok (.iaload, 1) := by decide +kernel
theorem dX7_loadStep_165 : decode cX7_loadStep 165 = .ok (.iastore, 1) := by decide +kernel
theorem dX7_loadStep_166 : decode cX7_loadStep 166 = .ok (.aload_n 0, 1) := by decide +kernel
theorem dX7_loadStep_167 : decode cX7_loadStep 167 = .ok (.getfield 66, 3) := by decide +kernel
theorem dX7_loadStep_170 : decode cX7_loadStep 170 = .ok (.iload_n 1, 1) := by decide +kernel
theorem dX7_loadStep_171 : decode cX7_loadStep 171 = .ok (.dup2, 1) := by decide +kernel
theorem dX7_loadStep_172 : decode cX7_loadStep 172 = .ok (.iaload, 1) := by decide +kernel
theorem dX7_loadStep_173 : decode cX7_loadStep 173 = .ok (.iconst 1, 1) := by decide +kernel
theorem dX7_loadStep_174 : decode cX7_loadStep 174 = .ok (.iadd, 1) := by decide +kernel
theorem dX7_loadStep_175 : decode cX7_loadStep 175 = .ok (.iastore, 1) := by decide +kernel
theorem dX7_loadStep_176 : decode cX7_loadStep 176 = .ok (.aload_n 0, 1) := by decide +kernel
theorem dX7_loadStep_177 : decode cX7_loadStep 177 = .ok (.dup, 1) := by decide +kernel
theorem dX7_loadStep_178 : decode cX7_loadStep 178 = .ok (.getfield 234, 3) := by decide +kernel
theorem dX7_loadStep_181 : decode cX7_loadStep 181 = .ok (.iconst 1, 1) := by decide +kernel
theorem dX7_loadStep_182 : decode cX7_loadStep 182 = .ok (.iadd, 1) := by decide +kernel
theorem dX7_loadStep_183 : decode cX7_loadStep 183 = .ok (.putfield 234, 3) := by decide +kernel
theorem dX7_loadStep_186 : decode cX7_loadStep 186 = .ok (.goto (-67), 3) := by decide +kernel
theorem dX7_loadStep_189 : decode cX7_loadStep 189 = .ok (.aload_n 0, 1) := by decide +kernel
theorem dX7_loadStep_190 : decode cX7_loadStep 190 = .ok (.getfield 151, 3) := by decide +kernel
theorem dX7_loadStep_193 : decode cX7_loadStep 193 = .ok (.bipush 64, 2) := by decide +kernel
theorem dX7_loadStep_195 : decode cX7_loadStep 195 = .ok (.if_icmp .le 10, 3) := by decide +kernel
theorem dX7_loadStep_198 : decode cX7_loadStep 198 = .ok (.aload_n 0, 1) := by decide +kernel
theorem dX7_loadStep_199 : decode cX7_loadStep 199 = .ok (.iconst 2, 1) := by decide +kernel
theorem dX7_loadStep_200 : decode cX7_loadStep 200 = .ok (.invokevirtual 198, 3) := by decide +kernel
theorem dX7_loadStep_203 : decode cX7_loadStep 203 = .ok (.iconst 1, 1) := by decide +kernel
theorem dX7_loadStep_204 : decode cX7_loadStep 204 = .ok (.ireturn, 1) := by decide +kernel
theorem dX7_loadStep_205 : decode cX7_loadStep 205 = .ok (.aload_n 0, 1) := by decide +kernel
theorem dX7_loadStep_206 : decode cX7_loadStep 206 = .ok (.invokevirtual 112, 3) := by decide +kernel
theorem dX7_loadStep_209 : decode cX7_loadStep 209 = .ok (.ifCond .ne 5, 3) := by decide +kernel
theorem dX7_loadStep_212 : decode cX7_loadStep 212 = .ok (.iconst 0, 1) := by decide +kernel
theorem dX7_loadStep_213 : decode cX7_loadStep 213 = .ok (.ireturn, 1) := by decide +kernel
theorem dX7_loadStep_214 : decode cX7_loadStep 214 = .ok (.aload_n 0, 1) := by decide +kernel
theorem dX7_loadStep_215 : decode cX7_loadStep 215 = .ok (.getfield 54, 3) := by decide +kernel
theorem dX7_loadStep_218 : decode cX7_loadStep 218 = .ok (.aload_n 0, 1) := by decide +kernel
theorem dX7_loadStep_219 : decode cX7_loadStep 219 = .ok (.getfield 228, 3) := by decide +kernel
theorem dX7_loadStep_222 : decode cX7_loadStep 222 = .ok (.iload_n 1, 1) := by decide +kernel
theorem dX7_loadStep_223 : decode cX7_loadStep 223 = .ok (.iastore, 1) := by decide +kernel
theorem dX7_loadStep_224 : decode cX7_loadStep 224 = .ok (.aload_n 0, 1) := by decide +kernel
theorem dX7_loadStep_225 : decode cX7_loadStep 225 = .ok (.dup, 1) := by decide +kernel
theorem dX7_loadStep_226 : decode cX7_loadStep 226 = .ok (.getfield 228, 3) := by decide +kernel
theorem dX7_loadStep_229 : decode cX7_loadStep 229 = .ok (.iconst 1, 1) := by decide +kernel
theorem dX7_loadStep_230 : decode cX7_loadStep 230 = .ok (.iadd, 1) := by decide +kernel
theorem dX7_loadStep_231 : decode cX7_loadStep 231 = .ok (.putfield 228, 3) := by decide +kernel
theorem dX7_loadStep_234 : decode cX7_loadStep 234 = .ok (.aload_n 0, 1) := by decide +kernel
theorem dX7_loadStep_235 : decode cX7_loadStep 235 = .ok (.getfield 225, 3) := by decide +kernel
theorem dX7_loadStep_238 : decode cX7_loadStep 238 = .ok (.ifCond .eq 22, 3) := by decide +kernel
theorem dX7_loadStep_241 : decode cX7_loadStep 241 = .ok (.aload_n 0, 1) := by decide +kernel
theorem dX7_loadStep_242 : decode cX7_loadStep 242 = .ok (.getfield 234, 3) := by decide +kernel
theorem dX7_loadStep_245 : decode cX7_loadStep 245 = .ok (.aload_n 0, 1) := by decide +kernel
theorem dX7_loadStep_246 : decode cX7_loadStep 246 = .ok (.getfield 231, 3) := by decide +kernel
theorem dX7_loadStep_249 : decode cX7_loadStep 249 = .ok (.if_icmp .ne 7, 3) := by decide +kernel
theorem dX7_loadStep_252 : decode cX7_loadStep 252 = .ok (.iconst 1, 1) := by decide +kernel
theorem dX7_loadStep_253 : decode cX7_loadStep 253 = .ok (.goto 23, 3) := by decide +kernel
theorem dX7_loadStep_256 : decode cX7_loadStep 256 = .ok (.iconst 0, 1) := by decide +kernel
theorem dX7_loadStep_257 : decode cX7_loadStep 257 = .ok (.goto 19, 3) := by decide +kernel
theorem dX7_loadStep_260 : decode cX7_loadStep 260 = .ok (.aload_n 0, 1) := by decide +kernel
theorem dX7_loadStep_261 : decode cX7_loadStep 261 = .ok (.getfield 222, 3) := by decide +kernel
theorem dX7_loadStep_264 : decode cX7_loadStep 264 = .ok (.aload_n 0, 1) := by decide +kernel
theorem dX7_loadStep_265 : decode cX7_loadStep 265 = .ok (.getfield 142, 3) := by decide +kernel
theorem dX7_loadStep_268 : decode cX7_loadStep 268 = .ok (.if_icmp .ne 7, 3) := by decide +kernel
theorem dX7_loadStep_271 : decode cX7_loadStep 271 = .ok (.iconst 1, 1) := by decide +kernel
theorem dX7_loadStep_272 : decode cX7_loadStep 272 = .ok (.goto 4, 3) := by decide +kernel
theorem dX7_loadStep_275 : decode cX7_loadStep 275 = .ok (.iconst 0, 1) := by decide +kernel
theorem dX7_loadStep_276 : decode cX7_loadStep 276 = .ok (.istore_n 2, 1) := by decide +kernel
theorem dX7_loadStep_277 : decode cX7_loadStep 277 = .ok (.iload_n 2, 1) := by decide +kernel
theorem dX7_loadStep_278 : decode cX7_loadStep 278 = .ok (.ifCond .eq 72, 3) := by decide +kernel
theorem dX7_loadStep_281 : decode cX7_loadStep 281 = .ok (.aload_n 0, 1) := by decide +kernel
theorem dX7_loadStep_282 : decode cX7_loadStep 282 = .ok (.getfield 228, 3) := by decide +kernel
theorem dX7_loadStep_285 : decode cX7_loadStep 285 = .ok (.iconst 1, 1) := by decide +kernel
theorem dX7_loadStep_286 : decode cX7_loadStep 286 = .ok (.if_icmp .ne 13, 3) := by decide +kernel
theorem dX7_loadStep_289 : decode cX7_loadStep 289 = .ok (.aload_n 0, 1) := by decide +kernel
theorem dX7_loadStep_290 : decode cX7_loadStep 290 = .ok (.iload_n 1, 1) := by decide +kernel
theorem dX7_loadStep_291 : decode cX7_loadStep 291 = .ok (.putfield 160, 3) := by decide +kernel
theorem dX7_loadStep_294 : decode cX7_loadStep 294 = .ok (.aload_n 0, 1) := by decide +kernel
theorem dX7_loadStep_295 : decode cX7_loadStep 295 = .ok (.iconst 4, 1) := by decide +kernel
theorem dX7_loadStep_296 : decode cX7_loadStep 296 = .ok (.putfield 106, 3) := by decide +kernel
theorem dX7_loadStep_299 : decode cX7_loadStep 299 = .ok (.aload_n 0, 1) := by decide +kernel
theorem dX7_loadStep_300 : decode cX7_loadStep 300 = .ok (.iconst 1, 1) := by decide +kernel
theorem dX7_loadStep_301 : decode cX7_loadStep 301 = .ok (.putfield 225, 3) := by decide +kernel
theorem dX7_loadStep_304 : decode cX7_loadStep 304 = .ok (.aload_n 0, 1) := by decide +kernel
theorem dX7_loadStep_305 : decode cX7_loadStep 305 = .ok (.aload_n 0, 1) := by decide +kernel
theorem dX7_loadStep_306 : decode cX7_loadStep 306 = .ok (.getfield 228, 3) := by decide +kernel
theorem dX7_loadStep_309 : decode cX7_loadStep 309 = .ok (.putfield 231, 3) := by decide +kernel
theorem dX7_loadStep_312 : decode cX7_loadStep 312 = .ok (.iconst 0, 1) := by decide +kernel
theorem dX7_loadStep_313 : decode cX7_loadStep 313 = .ok (.istore_n 3, 1) := by decide +kernel
theorem dX7_loadStep_314 : decode cX7_loadStep 314 = .ok (.iload_n 3, 1) := by decide +kernel
theorem dX7_loadStep_315 : decode cX7_loadStep 315 = .ok (.aload_n 0, 1) := by decide +kernel
theorem dX7_loadStep_316 : decode cX7_loadStep 316 = .ok (.getfield 228, 3) := by decide +kernel
theorem dX7_loadStep_319 : decode cX7_loadStep 319 = .ok (.if_icmp .ge 21, 3) := by decide +kernel
theorem dX7_loadStep_322 : decode cX7_loadStep 322 = .ok (.aload_n 0, 1) := by decide +kernel
theorem dX7_loadStep_323 : decode cX7_loadStep 323 = .ok (.getfield 51, 3) := by decide +kernel
theorem dX7_loadStep_326 : decode cX7_loadStep 326 = .ok (.iload_n 3, 1) := by decide +kernel
theorem dX7_loadStep_327 : decode cX7_loadStep 327 = .ok (.aload_n 0, 1) := by decide +kernel
theorem dX7_loadStep_328 : decode cX7_loadStep 328 = .ok (.getfield 54, 3) := by decide +kernel
theorem dX7_loadStep_331 : decode cX7_loadStep 331 = .ok (.iload_n 3, 1) := by decide +kernel
theorem dX7_loadStep_332 : decode cX7_loadStep 332 = .ok (.iaload, 1) := by decide +kernel
theorem dX7_loadStep_333 : decode cX7_loadStep 333 = .ok (.iastore, 1) := by decide +kernel
theorem dX7_loadStep_334 : decode cX7_loadStep 334 = .ok (.iinc 3 1, 3) := by decide +kernel
theorem dX7_loadStep_337 : decode cX7_loadStep 337 = .ok (.goto (-23), 3) := by decide +kernel
theorem dX7_loadStep_340 : decode cX7_loadStep 340 = .ok (.aload_n 0, 1) := by decide +kernel
theorem dX7_loadStep_341 : decode cX7_loadStep 341 = .ok (.iconst 0, 1) := by decide +kernel
theorem dX7_loadStep_342 : decode cX7_loadStep 342 = .ok (.putfield 234, 3) := by decide +kernel
theorem dX7_loadStep_345 : decode cX7_loadStep 345 = .ok (.aload_n 0, 1) := by decide +kernel
theorem dX7_loadStep_346 : decode cX7_loadStep 346 = .ok (.iconst 0, 1) := by decide +kernel
theorem dX7_loadStep_347 : decode cX7_loadStep 347 = .ok (.putfield 228, 3) := by decide +kernel
theorem dX7_loadStep_350 : decode cX7_loadStep 350 = .ok (.iconst 1, 1) := by decide +kernel
theorem dX7_loadStep_351 : decode cX7_loadStep 351 = .ok (.ireturn, 1) := by decide +kernel
theorem dX7_catchStep_0 : decode cX7_catchStep 0 = .ok (.aload_n 0, 1) := by decide +kernel
theorem dX7_catchStep_1 : decode cX7_catchStep 1 = .ok (.getfield 148, 3) := by decide +kernel
theorem dX7_catchStep_4 : decode cX7_catchStep 4 = .ok (.ifCond .le 135, 3) := by decide +kernel
theorem dX7_catchStep_7 : decode cX7_catchStep 7 = .ok (.aload_n 0, 1) := by decide +kernel
theorem dX7_catchStep_8 : decode cX7_catchStep 8 = .ok (.getfield 42, 3) := by decide +kernel
theorem dX7_catchStep_11 : decode cX7_catchStep 11 = .ok (.iconst 0, 1) := by decide +kernel
theorem dX7_catchStep_12 : decode cX7_catchStep 12 = .ok (.baload, 1) := by decide +kernel
theorem dX7_catchStep_13 : decode cX7_catchStep 13 = .ok (.istore_n 1, 1) := by decide +kernel
theorem dX7_catchStep_14 : decode cX7_catchStep 14 = .ok (.aload_n 0, 1) := by decide +kernel
theorem dX7_catchStep_15 : decode cX7_catchStep 15 = .ok (.getfield 45, 3) := by decide +kernel
theorem dX7_catchStep_18 : decode cX7_catchStep 18 = .ok (.iconst 0, 1) := by decide +kernel
theorem dX7_catchStep_19 : decode cX7_catchStep 19 = .ok (.iaload, 1) := by decide +kernel
theorem dX7_catchStep_20 : decode cX7_catchStep 20 = .ok (.istore_n 2, 1) := by decide +kernel
theorem dX7_catchStep_21 : decode cX7_catchStep 21 = .ok (.aload_n 0, 1) := by decide +kernel
theorem dX7_catchStep_22 : decode cX7_catchStep 22 = .ok (.getfield 48, 3) := by decide +kernel
theorem dX7_catchStep_25 : decode cX7_catchStep 25 = .ok (.iconst 0, 1) := by decide +kernel
theorem dX7_catchStep_26 : decode cX7_catchStep 26 = .ok (.iaload, 1) := by decide +kernel
theorem dX7_catchStep_27 : decode cX7_catchStep 27 = .ok (.istore_n 3, 1) := by decide +kernel
theorem dX7_catchStep_28 : decode cX7_catchStep 28 = .ok (.aload_n 0, 1) := by decide +kernel
theorem dX7_catchStep_29 : decode cX7_catchStep 29 = .ok (.dup, 1) := by decide +kernel
theorem dX7_catchStep_30 : decode cX7_catchStep 30 = .ok (.getfield 148, 3) := by decide +kernel
theorem dX7_catchStep_33 : decode cX7_catchStep 33 = .ok (.iconst 1, 1) := by decide +kernel
theorem dX7_catchStep_34 : decode cX7_catchStep 34 = .ok (.isub, 1) := by decide +kernel
theorem dX7_catchStep_35 : decode cX7_catchStep 35 = .ok (.putfield 148, 3) := by decide +kernel
theorem dX7_catchStep_38 : decode cX7_catchStep 38 = .ok (.iconst 0, 1) := by decide +kernel
theorem dX7_catchStep_39 : decode cX7_catchStep 39 = .ok (.istore 4, 2) := by decide +kernel
theorem dX7_catchStep_41 : decode cX7_catchStep 41 = .ok (.iload 4, 2) := by decide +kernel
theorem dX7_catchStep_43 : decode cX7_catchStep 43 = .ok (.aload_n 0, 1) := by decide +kernel
theorem dX7_catchStep_44 : decode cX7_catchStep 44 = .ok (.getfield 148, 3) := by decide +kernel
theorem dX7_catchStep_47 : decode cX7_catchStep 47 = .ok (.if_icmp .ge 57, 3) := by decide +kernel
theorem dX7_catchStep_50 : decode cX7_catchStep 50 = .ok (.aload_n 0, 1) := by decide +kernel
theorem dX7_catchStep_51 : decode cX7_catchStep 51 = .ok (.getfield 42, 3) := by decide +kernel
theorem dX7_catchStep_54 : decode cX7_catchStep 54 = .ok (.iload 4, 2) := by decide +kernel
theorem dX7_catchStep_56 : decode cX7_catchStep 56 = .ok (.aload_n 0, 1) := by decide +kernel
theorem dX7_catchStep_57 : decode cX7_catchStep 57 = .ok (.getfield 42, 3) := by decide +kernel
theorem dX7_catchStep_60 : decode cX7_catchStep 60 = .ok (.iload 4, 2) := by decide +kernel
theorem dX7_catchStep_62 : decode cX7_catchStep 62 = .ok (.iconst 1, 1) := by decide +kernel
theorem dX7_catchStep_63 : decode cX7_catchStep 63 = .ok (.iadd, 1) := by decide +kernel
theorem dX7_catchStep_64 : decode cX7_catchStep 64 = .ok (.baload, 1) := by decide +kernel
theorem dX7_catchStep_65 : decode cX7_catchStep 65 = .ok (.bastore, 1) := by decide +kernel
theorem dX7_catchStep_66 : decode cX7_catchStep 66 = .ok (.aload_n 0, 1) := by decide +kernel
theorem dX7_catchStep_67 : decode cX7_catchStep 67 = .ok (.getfield 45, 3) := by decide +kernel
theorem dX7_catchStep_70 : decode cX7_catchStep 70 = .ok (.iload 4, 2) := by decide +kernel
theorem dX7_catchStep_72 : decode cX7_catchStep 72 = .ok (.aload_n 0, 1) := by decide +kernel
theorem dX7_catchStep_73 : decode cX7_catchStep 73 = .ok (.getfield 45, 3) := by decide +kernel
theorem dX7_catchStep_76 : decode cX7_catchStep 76 = .ok (.iload 4, 2) := by decide +kernel
theorem dX7_catchStep_78 : decode cX7_catchStep 78 = .ok (.iconst 1, 1) := by decide +kernel
theorem dX7_catchStep_79 : decode cX7_catchStep 79 = .ok (.iadd, 1) := by decide +kernel
theorem dX7_catchStep_80 : decode cX7_catchStep 80 = .ok (.iaload, 1) := by decide +kernel
theorem dX7_catchStep_81 : decode cX7_catchStep 81 = .ok (.iastore, 1) := by decide +kernel
theorem dX7_catchStep_82 : decode cX7_catchStep 82 = .ok (.aload_n 0, 1) := by decide +kernel
theorem dX7_catchStep_83 : decode cX7_catchStep 83 = .ok (.getfield 48, 3) := by decide +kernel
theorem dX7_catchStep_86 : decode cX7_catchStep 86 = .ok (.iload 4, 2) := by decide +kernel
theorem dX7_catchStep_88 : decode cX7_catchStep 88 = .ok (.aload_n 0, 1) := by decide +kernel
theorem dX7_catchStep_89 : decode cX7_catchStep 89 = .ok (.getfield 48, 3) := by decide +kernel
theorem dX7_catchStep_92 : decode cX7_catchStep 92 = .ok (.iload 4, 2) := by decide +kernel
theorem dX7_catchStep_94 : decode cX7_catchStep 94 = .ok (.iconst 1, 1) := by decide +kernel
theorem dX7_catchStep_95 : decode cX7_catchStep 95 = .ok (.iadd, 1) := by decide +kernel
theorem dX7_catchStep_96 : decode cX7_catchStep 96 = .ok (.iaload, 1) := by decide +kernel
theorem dX7_catchStep_97 : decode cX7_catchStep 97 = .ok (.iastore, 1) := by decide +kernel
theorem dX7_catchStep_98 : decode cX7_catchStep 98 = .ok (.iinc 4 1, 3) := by decide +kernel
theorem dX7_catchStep_101 : decode cX7_catchStep 101 = .ok (.goto (-60), 3) := by decide +kernel
theorem dX7_catchStep_104 : decode cX7_catchStep 104 = .ok (.iload_n 1, 1) := by decide +kernel
theorem dX7_catchStep_105 : decode cX7_catchStep 105 = .ok (.ifCond .eq 12, 3) := by decide +kernel
theorem dX7_catchStep_108 : decode cX7_catchStep 108 = .ok (.aload_n 0, 1) := by decide +kernel
theorem dX7_catchStep_109 : decode cX7_catchStep 109 = .ok (.iload_n 2, 1) := by decide +kernel
theorem dX7_catchStep_110 : decode cX7_catchStep 110 = .ok (.iload_n 3, 1) := by decide +kernel
theorem dX7_catchStep_111 : decode cX7_catchStep 111 = .ok (.invokevirtual 192, 3) := by decide +kernel
theorem dX7_catchStep_114 : decode cX7_catchStep 114 = .ok (.goto 9, 3) := by decide +kernel
theorem dX7_catchStep_117 : decode cX7_catchStep 117 = .ok (.aload_n 0, 1) := by decide +kernel
theorem dX7_catchStep_118 : decode cX7_catchStep 118 = .ok (.iload_n 2, 1) := by decide +kernel
theorem dX7_catchStep_119 : decode cX7_catchStep 119 = .ok (.iload_n 3, 1) := by decide +kernel
theorem dX7_catchStep_120 : decode cX7_catchStep 120 = .ok (.invokevirtual 195, 3) := by decide +kernel
theorem dX7_catchStep_123 : decode cX7_catchStep 123 = .ok (.aload_n 0, 1) := by decide +kernel
theorem dX7_catchStep_124 : decode cX7_catchStep 124 = .ok (.getfield 151, 3) := by decide +kernel
theorem dX7_catchStep_127 : decode cX7_catchStep 127 = .ok (.bipush 64, 2) := by decide +kernel
theorem dX7_catchStep_129 : decode cX7_catchStep 129 = .ok (.if_icmp .le 8, 3) := by decide +kernel
theorem dX7_catchStep_132 : decode cX7_catchStep 132 = .ok (.aload_n 0, 1) := by decide +kernel
theorem dX7_catchStep_133 : decode cX7_catchStep 133 = .ok (.iconst 2, 1) := by decide +kernel
theorem dX7_catchStep_134 : decode cX7_catchStep 134 = .ok (.invokevirtual 198, 3) := by decide +kernel
theorem dX7_catchStep_137 : decode cX7_catchStep 137 = .ok (.iconst 1, 1) := by decide +kernel
theorem dX7_catchStep_138 : decode cX7_catchStep 138 = .ok (.ireturn, 1) := by decide +kernel
theorem dX7_catchStep_139 : decode cX7_catchStep 139 = .ok (.aload_n 0, 1) := by decide +kernel
theorem dX7_catchStep_140 : decode cX7_catchStep 140 = .ok (.getfield 154, 3) := by decide +kernel
theorem dX7_catchStep_143 : decode cX7_catchStep 143 = .ok (.ifCond .eq 12, 3) := by decide +kernel
theorem dX7_catchStep_146 : decode cX7_catchStep 146 = .ok (.aload_n 0, 1) := by decide +kernel
theorem dX7_catchStep_147 : decode cX7_catchStep 147 = .ok (.invokevirtual 243, 3) := by decide +kernel
theorem dX7_catchStep_150 : decode cX7_catchStep 150 = .ok (.ifCond .eq 5, 3) := by decide +kernel
theorem dX7_catchStep_153 : decode cX7_catchStep 153 = .ok (.iconst 1, 1) := by decide +kernel
theorem dX7_catchStep_154 : decode cX7_catchStep 154 = .ok (.ireturn, 1) := by decide +kernel
theorem dX7_catchStep_155 : decode cX7_catchStep 155 = .ok (.aload_n 0, 1) := by decide +kernel
theorem dX7_catchStep_156 : decode cX7_catchStep 156 = .ok (.aload_n 0, 1) := by decide +kernel
theorem dX7_catchStep_157 : decode cX7_catchStep 157 = .ok (.getfield 151, 3) := by decide +kernel
theorem dX7_catchStep_160 : decode cX7_catchStep 160 = .ok (.invokevirtual 133, 3) := by decide +kernel
theorem dX7_catchStep_163 : decode cX7_catchStep 163 = .ok (.ifCond .ne 5, 3) := by decide +kernel
theorem dX7_catchStep_166 : decode cX7_catchStep 166 = .ok (.iconst 0, 1) := by decide +kernel
theorem dX7_catchStep_167 : decode cX7_catchStep 167 = .ok (.ireturn, 1) := by decide +kernel
theorem dX7_catchStep_168 : decode cX7_catchStep 168 = .ok (.aload_n 0, 1) := by decide +kernel
theorem dX7_catchStep_169 : decode cX7_catchStep 169 = .ok (.iconst 5, 1) := by decide +kernel
theorem dX7_catchStep_170 : decode cX7_catchStep 170 = .ok (.putfield 106, 3) := by decide +kernel
theorem dX7_catchStep_173 : decode cX7_catchStep 173 = .ok (.iconst 1, 1) := by decide +kernel
theorem dX7_catchStep_174 : decode cX7_catchStep 174 = .ok (.ireturn, 1) := by decide +kernel
theorem dX7_findClash_0 : decode cX7_findClash 0 = .ok (.iconst (-1), 1) := by decide +kernel
theorem dX7_findClash_1 : decode cX7_findClash 1 = .ok (.istore_n 1, 1) := by decide +kernel
theorem dX7_findClash_2 : decode cX7_findClash 2 = .ok (.iconst (-1), 1) := by decide +kernel
theorem dX7_findClash_3 : decode cX7_findClash 3 = .ok (.istore_n 2, 1) := by decide +kernel
theorem dX7_findClash_4 : decode cX7_findClash 4 = .ok (.iconst 0, 1) := by decide +kernel
theorem dX7_findClash_5 : decode cX7_findClash 5 = .ok (.istore_n 3, 1) := by decide +kernel
theorem dX7_findClash_6 : decode cX7_findClash 6 = .ok (.iload_n 3, 1) := by decide +kernel
theorem dX7_findClash_7 : decode cX7_findClash 7 = .ok (.sipush 240, 3) := by decide +kernel
theorem dX7_findClash_10 : decode cX7_findClash 10 = .ok (.if_icmp .ge 88, 3) := by decide +kernel
theorem dX7_findClash_13 : decode cX7_findClash 13 = .ok (.iload_n 3, 1) := by decide +kernel
theorem dX7_findClash_14 : decode cX7_findClash 14 = .ok (.iconst 1, 1) := by decide +kernel
theorem dX7_findClash_15 : decode cX7_findClash 15 = .ok (.iadd, 1) := by decide +kernel
theorem dX7_findClash_16 : decode cX7_findClash 16 = .ok (.istore 4, 2) := by decide +kernel
theorem dX7_findClash_18 : decode cX7_findClash 18 = .ok (.iload 4, 2) := by decide +kernel
theorem dX7_findClash_20 : decode cX7_findClash 20 = .ok (.sipush 240, 3) := by decide +kernel
theorem dX7_findClash_23 : decode cX7_findClash 23 = .ok (.if_icmp .ge 69, 3) := by decide +kernel
theorem dX7_findClash_26 : decode cX7_findClash 26 = .ok (.aload_n 0, 1) := by decide +kernel
theorem dX7_findClash_27 : decode cX7_findClash 27 = .ok (.getfield 7, 3) := by decide +kernel
theorem dX7_findClash_30 : decode cX7_findClash 30 = .ok (.iload_n 3, 1) := by decide +kernel
theorem dX7_findClash_31 : decode cX7_findClash 31 = .ok (.baload, 1) := by decide +kernel
theorem dX7_findClash_32 : decode cX7_findClash 32 = .ok (.ifCond .eq 60, 3) := by decide +kernel
theorem dX7_findClash_35 : decode cX7_findClash 35 = .ok (.aload_n 0, 1) := by decide +kernel
theorem dX7_findClash_36 : decode cX7_findClash 36 = .ok (.getfield 7, 3) := by decide +kernel
theorem dX7_findClash_39 : decode cX7_findClash 39 = .ok (.iload 4, 2) := by decide +kernel
theorem dX7_findClash_41 : decode cX7_findClash 41 = .ok (.baload, 1) := by decide +kernel
theorem dX7_findClash_42 : decode cX7_findClash 42 = .ok (.ifCond .eq 44, 3) := by decide +kernel
theorem dX7_findClash_45 : decode cX7_findClash 45 = .ok (.aload_n 0, 1) := by decide +kernel
theorem dX7_findClash_46 : decode cX7_findClash 46 = .ok (.getfield 13, 3) := by decide +kernel
theorem dX7_findClash_49 : decode cX7_findClash 49 = .ok (.iload_n 3, 1) := by decide +kernel
theorem dX7_findClash_50 : decode cX7_findClash 50 = .ok (.iaload, 1) := by decide +kernel
theorem dX7_findClash_51 : decode cX7_findClash 51 = .ok (.aload_n 0, 1) := by decide +kernel
theorem dX7_findClash_52 : decode cX7_findClash 52 = .ok (.getfield 13, 3) := by decide +kernel
theorem dX7_findClash_55 : decode cX7_findClash 55 = .ok (.iload 4, 2) := by decide +kernel
theorem dX7_findClash_57 : decode cX7_findClash 57 = .ok (.iaload, 1) := by decide +kernel
theorem dX7_findClash_58 : decode cX7_findClash 58 = .ok (.if_icmp .ne 28, 3) := by decide +kernel
theorem dX7_findClash_61 : decode cX7_findClash 61 = .ok (.iload_n 1, 1) := by decide +kernel
theorem dX7_findClash_62 : decode cX7_findClash 62 = .ok (.iconst (-1), 1) := by decide +kernel
theorem dX7_findClash_63 : decode cX7_findClash 63 = .ok (.if_icmp .eq 18, 3) := by decide +kernel
theorem dX7_findClash_66 : decode cX7_findClash 66 = .ok (.aload_n 0, 1) := by decide +kernel
theorem dX7_findClash_67 : decode cX7_findClash 67 = .ok (.getfield 13, 3) := by decide +kernel
theorem dX7_findClash_70 : decode cX7_findClash 70 = .ok (.iload_n 3, 1) := by decide +kernel
theorem dX7_findClash_71 : decode cX7_findClash 71 = .ok (.iaload, 1) := by decide +kernel
theorem dX7_findClash_72 : decode cX7_findClash 72 = .ok (.aload_n 0, 1) := by decide +kernel
theorem dX7_findClash_73 : decode cX7_findClash 73 = .ok (.getfield 13, 3) := by decide +kernel
theorem dX7_findClash_76 : decode cX7_findClash 76 = .ok (.iload_n 1, 1) := by decide +kernel
theorem dX7_findClash_77 : decode cX7_findClash 77 = .ok (.iaload, 1) := by decide +kernel
theorem dX7_findClash_78 : decode cX7_findClash 78 = .ok (.if_icmp .ge 8, 3) := by decide +kernel
theorem dX7_findClash_81 : decode cX7_findClash 81 = .ok (.iload_n 3, 1) := by decide +kernel
theorem dX7_findClash_82 : decode cX7_findClash 82 = .ok (.istore_n 1, 1) := by decide +kernel
theorem dX7_findClash_83 : decode cX7_findClash 83 = .ok (.iload 4, 2) := by decide +kernel
theorem dX7_findClash_85 : decode cX7_findClash 85 = .ok (.istore_n 2, 1) := by decide +kernel
theorem dX7_findClash_86 : decode cX7_findClash 86 = .ok (.iinc 4 1, 3) := by decide +kernel
theorem dX7_findClash_89 : decode cX7_findClash 89 = .ok (.goto (-71), 3) := by decide +kernel
theorem dX7_findClash_92 : decode cX7_findClash 92 = .ok (.iinc 3 1, 3) := by decide +kernel
theorem dX7_findClash_95 : decode cX7_findClash 95 = .ok (.goto (-89), 3) := by decide +kernel
theorem dX7_findClash_98 : decode cX7_findClash 98 = .ok (.iload_n 1, 1) := by decide +kernel
theorem dX7_findClash_99 : decode cX7_findClash 99 = .ok (.iconst (-1), 1) := by decide +kernel
theorem dX7_findClash_100 : decode cX7_findClash 100 = .ok (.if_icmp .ne 5, 3) := by decide +kernel
theorem dX7_findClash_103 : decode cX7_findClash 103 = .ok (.iconst 0, 1) := by decide +kernel
theorem dX7_findClash_104 : decode cX7_findClash 104 = .ok (.ireturn, 1) := by decide +kernel
theorem dX7_findClash_105 : decode cX7_findClash 105 = .ok (.aload_n 0, 1) := by decide +kernel
theorem dX7_findClash_106 : decode cX7_findClash 106 = .ok (.iconst 3, 1) := by decide +kernel
theorem dX7_findClash_107 : decode cX7_findClash 107 = .ok (.invokevirtual 198, 3) := by decide +kernel
theorem dX7_findClash_110 : decode cX7_findClash 110 = .ok (.aload_n 0, 1) := by decide +kernel
theorem dX7_findClash_111 : decode cX7_findClash 111 = .ok (.iload_n 1, 1) := by decide +kernel
theorem dX7_findClash_112 : decode cX7_findClash 112 = .ok (.putfield 27, 3) := by decide +kernel
theorem dX7_findClash_115 : decode cX7_findClash 115 = .ok (.aload_n 0, 1) := by decide +kernel
theorem dX7_findClash_116 : decode cX7_findClash 116 = .ok (.iload_n 2, 1) := by decide +kernel
theorem dX7_findClash_117 : decode cX7_findClash 117 = .ok (.putfield 30, 3) := by decide +kernel
theorem dX7_findClash_120 : decode cX7_findClash 120 = .ok (.iconst 1, 1) := by decide +kernel
theorem dX7_findClash_121 : decode cX7_findClash 121 = .ok (.ireturn, 1) := by decide +kernel
theorem dX7_step_0 : decode cX7_step 0 = .ok (.aload_n 0, 1) := by decide +kernel
theorem dX7_step_1 : decode cX7_step 1 = .ok (.iconst 0, 1) := by decide +kernel
theorem dX7_step_2 : decode cX7_step 2 = .ok (.putfield 96, 3) := by decide +kernel
theorem dX7_step_5 : decode cX7_step 5 = .ok (.aload_n 0, 1) := by decide +kernel
theorem dX7_step_6 : decode cX7_step 6 = .ok (.getfield 102, 3) := by decide +kernel
theorem dX7_step_9 : decode cX7_step 9 = .ok (.ifCond .eq 6, 3) := by decide +kernel
theorem dX7_step_12 : decode cX7_step 12 = .ok (.bipush (-100), 2) := by decide +kernel
theorem dX7_step_14 : decode cX7_step 14 = .ok (.ireturn, 1) := by decide +kernel
theorem dX7_step_15 : decode cX7_step 15 = .ok (.iload_n 1, 1) := by decide +kernel
theorem dX7_step_16 : decode cX7_step 16 = .ok (.iconst 1, 1) := by decide +kernel
theorem dX7_step_17 : decode cX7_step 17 = .ok (.sipush 1000, 3) := by decide +kernel
theorem dX7_step_20 : decode cX7_step 20 = .ok (.invokestatic 201, 3) := by decide +kernel
theorem dX7_step_23 : decode cX7_step 23 = .ok (.ifCond .ne 6, 3) := by decide +kernel
theorem dX7_step_26 : decode cX7_step 26 = .ok (.bipush (-102), 2) := by decide +kernel
theorem dX7_step_28 : decode cX7_step 28 = .ok (.ireturn, 1) := by decide +kernel
theorem dX7_step_29 : decode cX7_step 29 = .ok (.iconst 0, 1) := by decide +kernel
theorem dX7_step_30 : decode cX7_step 30 = .ok (.istore_n 2, 1) := by decide +kernel
theorem dX7_step_31 : decode cX7_step 31 = .ok (.iload_n 2, 1) := by decide +kernel
theorem dX7_step_32 : decode cX7_step 32 = .ok (.iload_n 1, 1) := by decide +kernel
theorem dX7_step_33 : decode cX7_step 33 = .ok (.if_icmp .ge 78, 3) := by decide +kernel
theorem dX7_step_36 : decode cX7_step 36 = .ok (.aload_n 0, 1) := by decide +kernel
theorem dX7_step_37 : decode cX7_step 37 = .ok (.getfield 106, 3) := by decide +kernel
theorem dX7_step_40 : decode cX7_step 40 = .ok (.iconst 1, 1) := by decide +kernel
theorem dX7_step_41 : decode cX7_step 41 = .ok (.iconst 4, 1) := by decide +kernel
theorem dX7_step_42 : decode cX7_step 42 = .ok (.invokestatic 201, 3) := by decide +kernel
theorem dX7_step_45 : decode cX7_step 45 = .ok (.ifCond .eq 66, 3) := by decide +kernel
theorem dX7_step_48 : decode cX7_step 48 = .ok (.aload_n 0, 1) := by decide +kernel
theorem dX7_step_49 : decode cX7_step 49 = .ok (.getfield 106, 3) := by decide +kernel
theorem dX7_step_52 : decode cX7_step 52 = .ok (.iconst 1, 1) := by decide +kernel
theorem dX7_step_53 : decode cX7_step 53 = .ok (.if_icmp .ne 10, 3) := by decide +kernel
theorem dX7_step_56 : decode cX7_step 56 = .ok (.aload_n 0, 1) := by decide +kernel
theorem dX7_step_57 : decode cX7_step 57 = .ok (.invokevirtual 246, 3) := by decide +kernel
theorem dX7_step_60 : decode cX7_step 60 = .ok (.goto 37, 3) := by decide +kernel
theorem dX7_step_63 : decode cX7_step 63 = .ok (.aload_n 0, 1) := by decide +kernel
theorem dX7_step_64 : decode cX7_step 64 = .ok (.getfield 106, 3) := by decide +kernel
theorem dX7_step_67 : decode cX7_step 67 = .ok (.iconst 2, 1) := by decide +kernel
theorem dX7_step_68 : decode cX7_step 68 = .ok (.if_icmp .ne 10, 3) := by decide +kernel
theorem dX7_step_71 : decode cX7_step 71 = .ok (.aload_n 0, 1) := by decide +kernel
theorem dX7_step_72 : decode cX7_step 72 = .ok (.invokevirtual 249, 3) := by decide +kernel
theorem dX7_step_75 : decode cX7_step 75 = .ok (.goto 22, 3) := by decide +kernel
theorem dX7_step_78 : decode cX7_step 78 = .ok (.aload_n 0, 1) := by decide +kernel
theorem dX7_step_79 : decode cX7_step 79 = .ok (.getfield 106, 3) := by decide +kernel
theorem dX7_step_82 : decode cX7_step 82 = .ok (.iconst 3, 1) := by decide +kernel
theorem dX7_step_83 : decode cX7_step 83 = .ok (.if_icmp .ne 10, 3) := by decide +kernel
theorem dX7_step_86 : decode cX7_step 86 = .ok (.aload_n 0, 1) := by decide +kernel
theorem dX7_step_87 : decode cX7_step 87 = .ok (.invokevirtual 252, 3) := by decide +kernel
theorem dX7_step_90 : decode cX7_step 90 = .ok (.goto 7, 3) := by decide +kernel
theorem dX7_step_93 : decode cX7_step 93 = .ok (.aload_n 0, 1) := by decide +kernel
theorem dX7_step_94 : decode cX7_step 94 = .ok (.invokevirtual 255, 3) := by decide +kernel
theorem dX7_step_97 : decode cX7_step 97 = .ok (.istore_n 3, 1) := by decide +kernel
theorem dX7_step_98 : decode cX7_step 98 = .ok (.iload_n 3, 1) := by decide +kernel
theorem dX7_step_99 : decode cX7_step 99 = .ok (.ifCond .ne 6, 3) := by decide +kernel
theorem dX7_step_102 : decode cX7_step 102 = .ok (.bipush (-106), 2) := by decide +kernel
theorem dX7_step_104 : decode cX7_step 104 = .ok (.ireturn, 1) := by decide +kernel
theorem dX7_step_105 : decode cX7_step 105 = .ok (.iinc 2 1, 3) := by decide +kernel
theorem dX7_step_108 : decode cX7_step 108 = .ok (.goto (-77), 3) := by decide +kernel
theorem dX7_step_111 : decode cX7_step 111 = .ok (.aload_n 0, 1) := by decide +kernel
theorem dX7_step_112 : decode cX7_step 112 = .ok (.getfield 106, 3) := by decide +kernel
theorem dX7_step_115 : decode cX7_step 115 = .ok (.ireturn, 1) := by decide +kernel
theorem dX7_height_0 : decode cX7_height 0 = .ok (.iconst 1, 1) := by decide +kernel
theorem dX7_height_1 : decode cX7_height 1 = .ok (.istore_n 1, 1) := by decide +kernel
theorem dX7_height_2 : decode cX7_height 2 = .ok (.aload_n 0, 1) := by decide +kernel
theorem dX7_height_3 : decode cX7_height 3 = .ok (.getfield 160, 3) := by decide +kernel
theorem dX7_height_6 : decode cX7_height 6 = .ok (.istore_n 2, 1) := by decide +kernel
theorem dX7_height_7 : decode cX7_height 7 = .ok (.aload_n 0, 1) := by decide +kernel
theorem dX7_height_8 : decode cX7_height 8 = .ok (.getfield 60, 3) := by decide +kernel
theorem dX7_height_11 : decode cX7_height 11 = .ok (.iload_n 2, 1) := by decide +kernel
theorem dX7_height_12 : decode cX7_height 12 = .ok (.baload, 1) := by decide +kernel
theorem dX7_height_13 : decode cX7_height 13 = .ok (.ifCond .ne 19, 3) := by decide +kernel
theorem dX7_height_16 : decode cX7_height 16 = .ok (.aload_n 0, 1) := by decide +kernel
theorem dX7_height_17 : decode cX7_height 17 = .ok (.getfield 75, 3) := by decide +kernel
theorem dX7_height_20 : decode cX7_height 20 = .ok (.bipush 9, 2) := by decide +kernel
theorem dX7_height_22 : decode cX7_height 22 = .ok (.iload_n 2, 1) := by decide +kernel
theorem dX7_height_23 : decode cX7_height 23 = .ok (.imul, 1) := by decide +kernel
theorem dX7_height_24 : decode cX7_height 24 = .ok (.iaload, 1) := by decide +kernel
theorem dX7_height_25 : decode cX7_height 25 = .ok (.istore_n 2, 1) := by decide +kernel
theorem dX7_height_26 : decode cX7_height 26 = .ok (.iinc 1 1, 3) := by decide +kernel
theorem dX7_height_29 : decode cX7_height 29 = .ok (.goto (-22), 3) := by decide +kernel
theorem dX7_height_32 : decode cX7_height 32 = .ok (.iload_n 1, 1) := by decide +kernel
theorem dX7_height_33 : decode cX7_height 33 = .ok (.ireturn, 1) := by decide +kernel
theorem dX7_goThrough_0 : decode cX7_goThrough 0 = .ok (.aload_n 0, 1) := by decide +kernel
theorem dX7_goThrough_1 : decode cX7_goThrough 1 = .ok (.iconst 0, 1) := by decide +kernel
theorem dX7_goThrough_2 : decode cX7_goThrough 2 = .ok (.putfield 258, 3) := by decide +kernel
theorem dX7_goThrough_5 : decode cX7_goThrough 5 = .ok (.aload_n 0, 1) := by decide +kernel
theorem dX7_goThrough_6 : decode cX7_goThrough 6 = .ok (.getfield 106, 3) := by decide +kernel
theorem dX7_goThrough_9 : decode cX7_goThrough 9 = .ok (.iconst 4, 1) := by decide +kernel
theorem dX7_goThrough_10 : decode cX7_goThrough 10 = .ok (.if_icmp .eq 12, 3) := by decide +kernel
theorem dX7_goThrough_13 : decode cX7_goThrough 13 = .ok (.aload_n 0, 1) := by decide +kernel
theorem dX7_goThrough_14 : decode cX7_goThrough 14 = .ok (.getfield 106, 3) := by decide +kernel
theorem dX7_goThrough_17 : decode cX7_goThrough 17 = .ok (.iconst 5, 1) := by decide +kernel
theorem dX7_goThrough_18 : decode cX7_goThrough 18 = .ok (.if_icmp .eq 4, 3) := by decide +kernel
theorem dX7_goThrough_21 : decode cX7_goThrough 21 = .ok (.return_, 1) := by decide +kernel
theorem dX7_goThrough_22 : decode cX7_goThrough 22 = .ok (.aload_n 0, 1) := by decide +kernel
theorem dX7_goThrough_23 : decode cX7_goThrough 23 = .ok (.iconst 0, 1) := by decide +kernel
theorem dX7_goThrough_24 : decode cX7_goThrough 24 = .ok (.putfield 157, 3) := by decide +kernel
theorem dX7_goThrough_27 : decode cX7_goThrough 27 = .ok (.aload_n 0, 1) := by decide +kernel
theorem dX7_goThrough_28 : decode cX7_goThrough 28 = .ok (.getfield 81, 3) := by decide +kernel
theorem dX7_goThrough_31 : decode cX7_goThrough 31 = .ok (.iconst 0, 1) := by decide +kernel
theorem dX7_goThrough_32 : decode cX7_goThrough 32 = .ok (.aload_n 0, 1) := by decide +kernel
theorem dX7_goThrough_33 : decode cX7_goThrough 33 = .ok (.getfield 160, 3) := by decide +kernel
theorem dX7_goThrough_36 : decode cX7_goThrough 36 = .ok (.iastore, 1) := by decide +kernel
theorem dX7_goThrough_37 : decode cX7_goThrough 37 = .ok (.aload_n 0, 1) := by decide +kernel
theorem dX7_goThrough_38 : decode cX7_goThrough 38 = .ok (.getfield 84, 3) := by decide +kernel
theorem dX7_goThrough_41 : decode cX7_goThrough 41 = .ok (.iconst 0, 1) := by decide +kernel
theorem dX7_goThrough_42 : decode cX7_goThrough 42 = .ok (.iconst 0, 1) := by decide +kernel
theorem dX7_goThrough_43 : decode cX7_goThrough 43 = .ok (.iastore, 1) := by decide +kernel
theorem dX7_goThrough_44 : decode cX7_goThrough 44 = .ok (.aload_n 0, 1) := by decide +kernel
theorem dX7_goThrough_45 : decode cX7_goThrough 45 = .ok (.getfield 157, 3) := by decide +kernel
theorem dX7_goThrough_48 : decode cX7_goThrough 48 = .ok (.ifCond .lt 152, 3) := by decide +kernel
theorem dX7_goThrough_51 : decode cX7_goThrough 51 = .ok (.aload_n 0, 1) := by decide +kernel
theorem dX7_goThrough_52 : decode cX7_goThrough 52 = .ok (.getfield 81, 3) := by decide +kernel
theorem dX7_goThrough_55 : decode cX7_goThrough 55 = .ok (.aload_n 0, 1) := by decide +kernel
theorem dX7_goThrough_56 : decode cX7_goThrough 56 = .ok (.getfield 157, 3) := by decide +kernel
theorem dX7_goThrough_59 : decode cX7_goThrough 59 = .ok (.iaload, 1) := by decide +kernel
theorem dX7_goThrough_60 : decode cX7_goThrough 60 = .ok (.istore_n 1, 1) := by decide +kernel
theorem dX7_goThrough_61 : decode cX7_goThrough 61 = .ok (.aload_n 0, 1) := by decide +kernel
theorem dX7_goThrough_62 : decode cX7_goThrough 62 = .ok (.getfield 60, 3) := by decide +kernel
theorem dX7_goThrough_65 : decode cX7_goThrough 65 = .ok (.iload_n 1, 1) := by decide +kernel
theorem dX7_goThrough_66 : decode cX7_goThrough 66 = .ok (.baload, 1) := by decide +kernel
theorem dX7_goThrough_67 : decode cX7_goThrough 67 = .ok (.ifCond .eq 36, 3) := by decide +kernel
theorem dX7_goThrough_70 : decode cX7_goThrough 70 = .ok (.aload_n 0, 1) := by decide +kernel
theorem dX7_goThrough_71 : decode cX7_goThrough 71 = .ok (.getfield 93, 3) := by decide +kernel
theorem dX7_goThrough_74 : decode cX7_goThrough 74 = .ok (.aload_n 0, 1) := by decide +kernel
theorem dX7_goThrough_75 : decode cX7_goThrough 75 = .ok (.getfield 258, 3) := by decide +kernel
theorem dX7_goThrough_78 : decode cX7_goThrough 78 = .ok (.iload_n 1, 1) := by decide +kernel
theorem dX7_goThrough_79 : decode cX7_goThrough 79 = .ok (.iastore, 1) := by decide +kernel
theorem dX7_goThrough_80 : decode cX7_goThrough 80 = .ok (.aload_n 0, 1) := by decide +kernel
theorem dX7_goThrough_81 : decode cX7_goThrough 81 = .ok (.dup, 1) := by decide +kernel
theorem dX7_goThrough_82 : decode cX7_goThrough 82 = .ok (.getfield 258, 3) := by decide +kernel
theorem dX7_goThrough_85 : decode cX7_goThrough 85 = .ok (.iconst 1, 1) := by decide +kernel
theorem dX7_goThrough_86 : decode cX7_goThrough 86 = .ok (.iadd, 1) := by decide +kernel
theorem dX7_goThrough_87 : decode cX7_goThrough 87 = .ok (.putfield 258, 3) := by decide +kernel
theorem dX7_goThrough_90 : decode cX7_goThrough 90 = .ok (.aload_n 0, 1) := by decide +kernel
theorem dX7_goThrough_91 : decode cX7_goThrough 91 = .ok (.dup, 1) := by decide +kernel
theorem dX7_goThrough_92 : decode cX7_goThrough 92 = .ok (.getfield 157, 3) := by decide +kernel
theorem dX7_goThrough_95 : decode cX7_goThrough 95 = .ok (.iconst 1, 1) := by decide +kernel
theorem dX7_goThrough_96 : decode cX7_goThrough 96 = .ok (.isub, 1) := by decide +kernel
theorem dX7_goThrough_97 : decode cX7_goThrough 97 = .ok (.putfield 157, 3) := by decide +kernel
theorem dX7_goThrough_100 : decode cX7_goThrough 100 = .ok (.goto 97, 3) := by decide +kernel
theorem dX7_goThrough_103 : decode cX7_goThrough 103 = .ok (.aload_n 0, 1) := by decide +kernel
theorem dX7_goThrough_104 : decode cX7_goThrough 104 = .ok (.getfield 84, 3) := by decide +kernel
theorem dX7_goThrough_107 : decode cX7_goThrough 107 = .ok (.aload_n 0, 1) := by decide +kernel
theorem dX7_goThrough_108 : decode cX7_goThrough 108 = .ok (.getfield 157, 3) := by decide +kernel
theorem dX7_goThrough_111 : decode cX7_goThrough 111 = .ok (.iaload, 1) := by decide +kernel
theorem dX7_goThrough_112 : decode cX7_goThrough 112 = .ok (.aload_n 0, 1) := by decide +kernel
theorem dX7_goThrough_113 : decode cX7_goThrough 113 = .ok (.getfield 66, 3) := by decide +kernel
theorem dX7_goThrough_116 : decode cX7_goThrough 116 = .ok (.iload_n 1, 1) := by decide +kernel
theorem dX7_goThrough_117 : decode cX7_goThrough 117 = .ok (.iaload, 1) := by decide +kernel
theorem dX7_goThrough_118 : decode cX7_goThrough 118 = .ok (.if_icmp .ge 69, 3) := by decide +kernel
theorem dX7_goThrough_121 : decode cX7_goThrough 121 = .ok (.aload_n 0, 1) := by decide +kernel
theorem dX7_goThrough_122 : decode cX7_goThrough 122 = .ok (.getfield 75, 3) := by decide +kernel
theorem dX7_goThrough_125 : decode cX7_goThrough 125 = .ok (.bipush 9, 2) := by decide +kernel
theorem dX7_goThrough_127 : decode cX7_goThrough 127 = .ok (.iload_n 1, 1) := by decide +kernel
theorem dX7_goThrough_128 : decode cX7_goThrough 128 = .ok (.imul, 1) := by decide +kernel
theorem dX7_goThrough_129 : decode cX7_goThrough 129 = .ok (.aload_n 0, 1) := by decide +kernel
theorem dX7_goThrough_130 : decode cX7_goThrough 130 = .ok (.getfield 84, 3) := by decide +kernel
theorem dX7_goThrough_133 : decode cX7_goThrough 133 = .ok (.aload_n 0, 1) := by decide +kernel
theorem dX7_goThrough_134 : decode cX7_goThrough 134 = .ok (.getfield 157, 3) := by decide +kernel
theorem dX7_goThrough_137 : decode cX7_goThrough 137 = .ok (.iaload, 1) := by decide +kernel
theorem dX7_goThrough_138 : decode cX7_goThrough 138 = .ok (.iadd, 1) := by decide +kernel
theorem dX7_goThrough_139 : decode cX7_goThrough 139 = .ok (.iaload, 1) := by decide +kernel
theorem dX7_goThrough_140 : decode cX7_goThrough 140 = .ok (.istore_n 2, 1) := by decide +kernel
theorem dX7_goThrough_141 : decode cX7_goThrough 141 = .ok (.aload_n 0, 1) := by decide +kernel
theorem dX7_goThrough_142 : decode cX7_goThrough 142 = .ok (.getfield 84, 3) := by decide +kernel
theorem dX7_goThrough_145 : decode cX7_goThrough 145 = .ok (.aload_n 0, 1) := by decide +kernel
theorem dX7_goThrough_146 : decode cX7_goThrough 146 = .ok (.getfield 157, 3) := by decide +kernel
theorem dX7_goThrough_149 : decode cX7_goThrough 149 = .ok (.dup2, 1) := by decide +kernel
theorem dX7_goThrough_150 : decode cX7_goThrough 150 = .ok (.iaload, 1) := by decide +kernel
theorem dX7_goThrough_151 : decode cX7_goThrough 151 = .ok (.iconst 1, 1) := by decide +kernel
theorem dX7_goThrough_152 : decode cX7_goThrough 152 = .ok (.iadd, 1) := by decide +kernel
theorem dX7_goThrough_153 : decode cX7_goThrough 153 = .ok (.iastore, 1) := by decide +kernel
theorem dX7_goThrough_154 : decode cX7_goThrough 154 = .ok (.aload_n 0, 1) := by decide +kernel
theorem dX7_goThrough_155 : decode cX7_goThrough 155 = .ok (.dup, 1) := by decide +kernel
theorem dX7_goThrough_156 : decode cX7_goThrough 156 = .ok (.getfield 157, 3) := by decide +kernel
theorem dX7_goThrough_159 : decode cX7_goThrough 159 = .ok (.iconst 1, 1) := by decide +kernel
theorem dX7_goThrough_160 : decode cX7_goThrough 160 = .ok (.iadd, 1) := by decide +kernel
theorem dX7_goThrough_161 : decode cX7_goThrough 161 = .ok (.putfield 157, 3) := by decide +kernel
theorem dX7_goThrough_164 : decode cX7_goThrough 164 = .ok (.aload_n 0, 1) := by decide +kernel
theorem dX7_goThrough_165 : decode cX7_goThrough 165 = .ok (.getfield 81, 3) := by decide +kernel
theorem dX7_goThrough_168 : decode cX7_goThrough 168 = .ok (.aload_n 0, 1) := by decide +kernel
theorem dX7_goThrough_169 : decode cX7_goThrough 169 = .ok (.getfield 157, 3) := by decide +kernel
theorem dX7_goThrough_172 : decode cX7_goThrough 172 = .ok (.iload_n 2, 1) := by decide +kernel
theorem dX7_goThrough_173 : decode cX7_goThrough 173 = .ok (.iastore, 1) := by decide +kernel
theorem dX7_goThrough_174 : decode cX7_goThrough 174 = .ok (.aload_n 0, 1) := by decide +kernel
theorem dX7_goThrough_175 : decode cX7_goThrough 175 = .ok (.getfield 84, 3) := by decide +kernel
theorem dX7_goThrough_178 : decode cX7_goThrough 178 = .ok (.aload_n 0, 1) := by decide +kernel
theorem dX7_goThrough_179 : decode cX7_goThrough 179 = .ok (.getfield 157, 3) := by decide +kernel
theorem dX7_goThrough_182 : decode cX7_goThrough 182 = .ok (.iconst 0, 1) := by decide +kernel
theorem dX7_goThrough_183 : decode cX7_goThrough 183 = .ok (.iastore, 1) := by decide +kernel
theorem dX7_goThrough_184 : decode cX7_goThrough 184 = .ok (.goto 13, 3) := by decide +kernel
theorem dX7_goThrough_187 : decode cX7_goThrough 187 = .ok (.aload_n 0, 1) := by decide +kernel
theorem dX7_goThrough_188 : decode cX7_goThrough 188 = .ok (.dup, 1) := by decide +kernel
theorem dX7_goThrough_189 : decode cX7_goThrough 189 = .ok (.getfield 157, 3) := by decide +kernel
theorem dX7_goThrough_192 : decode cX7_goThrough 192 = .ok (.iconst 1, 1) := by decide +kernel
theorem dX7_goThrough_193 : decode cX7_goThrough 193 = .ok (.isub, 1) := by decide +kernel
theorem dX7_goThrough_194 : decode cX7_goThrough 194 = .ok (.putfield 157, 3) := by decide +kernel
theorem dX7_goThrough_197 : decode cX7_goThrough 197 = .ok (.goto (-153), 3) := by decide +kernel
theorem dX7_goThrough_200 : decode cX7_goThrough 200 = .ok (.return_, 1) := by decide +kernel
theorem dX7_entries_0 : decode cX7_entries 0 = .ok (.aload_n 0, 1) := by decide +kernel
theorem dX7_entries_1 : decode cX7_entries 1 = .ok (.invokevirtual 261, 3) := by decide +kernel
theorem dX7_entries_4 : decode cX7_entries 4 = .ok (.iconst 0, 1) := by decide +kernel
theorem dX7_entries_5 : decode cX7_entries 5 = .ok (.istore_n 1, 1) := by decide +kernel
theorem dX7_entries_6 : decode cX7_entries 6 = .ok (.iconst 0, 1) := by decide +kernel
theorem dX7_entries_7 : decode cX7_entries 7 = .ok (.istore_n 2, 1) := by decide +kernel
theorem dX7_entries_8 : decode cX7_entries 8 = .ok (.iload_n 2, 1) := by decide +kernel
theorem dX7_entries_9 : decode cX7_entries 9 = .ok (.aload_n 0, 1) := by decide +kernel
theorem dX7_entries_10 : decode cX7_entries 10 = .ok (.getfield 258, 3) := by decide +kernel
theorem dX7_entries_13 : decode cX7_entries 13 = .ok (.if_icmp .ge 23, 3) := by decide +kernel
theorem dX7_entries_16 : decode cX7_entries 16 = .ok (.iload_n 1, 1) := by decide +kernel
theorem dX7_entries_17 : decode cX7_entries 17 = .ok (.aload_n 0, 1) := by decide +kernel
theorem dX7_entries_18 : decode cX7_entries 18 = .ok (.getfield 66, 3) := by decide +kernel
theorem dX7_entries_21 : decode cX7_entries 21 = .ok (.aload_n 0, 1) := by decide +kernel
theorem dX7_entries_22 : decode cX7_entries 22 = .ok (.getfield 93, 3) := by decide +kernel
theorem dX7_entries_25 : decode cX7_entries 25 = .ok (.iload_n 2, 1) := by decide +kernel
theorem dX7_entries_26 : decode cX7_entries 26 = .ok (.iaload, 1) := by decide +kernel
theorem dX7_entries_27 : decode cX7_entries 27 = .ok (.iaload, 1) := by decide +kernel
theorem dX7_entries_28 : decode cX7_entries 28 = .ok (.iadd, 1) := by decide +kernel
theorem dX7_entries_29 : decode cX7_entries 29 = .ok (.istore_n 1, 1) := by decide +kernel
theorem dX7_entries_30 : decode cX7_entries 30 = .ok (.iinc 2 1, 3) := by decide +kernel
theorem dX7_entries_33 : decode cX7_entries 33 = .ok (.goto (-25), 3) := by decide +kernel
theorem dX7_entries_36 : decode cX7_entries 36 = .ok (.iload_n 1, 1) := by decide +kernel
theorem dX7_entries_37 : decode cX7_entries 37 = .ok (.ireturn, 1) := by decide +kernel
theorem dX7_info_0 : decode cX7_info 0 = .ok (.aload_n 0, 1) := by decide +kernel
theorem dX7_info_1 : decode cX7_info 1 = .ok (.iconst 0, 1) := by decide +kernel
theorem dX7_info_2 : decode cX7_info 2 = .ok (.putfield 96, 3) := by decide +kernel
theorem dX7_info_5 : decode cX7_info 5 = .ok (.aload_n 0, 1) := by decide +kernel
theorem dX7_info_6 : decode cX7_info 6 = .ok (.getfield 102, 3) := by decide +kernel
theorem dX7_info_9 : decode cX7_info 9 = .ok (.ifCond .eq 6, 3) := by decide +kernel
theorem dX7_info_12 : decode cX7_info 12 = .ok (.bipush (-100), 2) := by decide +kernel
theorem dX7_info_14 : decode cX7_info 14 = .ok (.ireturn, 1) := by decide +kernel
theorem dX7_info_15 : decode cX7_info 15 = .ok (.aload_n 0, 1) := by decide +kernel
theorem dX7_info_16 : decode cX7_info 16 = .ok (.getfield 106, 3) := by decide +kernel
theorem dX7_info_19 : decode cX7_info 19 = .ok (.iconst 1, 1) := by decide +kernel
theorem dX7_info_20 : decode cX7_info 20 = .ok (.iconst 4, 1) := by decide +kernel
theorem dX7_info_21 : decode cX7_info 21 = .ok (.invokestatic 201, 3) := by decide +kernel
theorem dX7_info_24 : decode cX7_info 24 = .ok (.istore_n 2, 1) := by decide +kernel
theorem dX7_info_25 : decode cX7_info 25 = .ok (.aload_n 0, 1) := by decide +kernel
theorem dX7_info_26 : decode cX7_info 26 = .ok (.getfield 106, 3) := by decide +kernel
theorem dX7_info_29 : decode cX7_info 29 = .ok (.iconst 4, 1) := by decide +kernel
theorem dX7_info_30 : decode cX7_info 30 = .ok (.if_icmp .eq 11, 3) := by decide +kernel
theorem dX7_info_33 : decode cX7_info 33 = .ok (.aload_n 0, 1) := by decide +kernel
theorem dX7_info_34 : decode cX7_info 34 = .ok (.getfield 106, 3) := by decide +kernel
theorem dX7_info_37 : decode cX7_info 37 = .ok (.iconst 5, 1) := by decide +kernel
theorem dX7_info_38 : decode cX7_info 38 = .ok (.if_icmp .ne 7, 3) := by decide +kernel
theorem dX7_info_41 : decode cX7_info 41 = .ok (.iconst 1, 1) := by decide +kernel
theorem dX7_info_42 : decode cX7_info 42 = .ok (.goto 4, 3) := by decide +kernel
theorem dX7_info_45 : decode cX7_info 45 = .ok (.iconst 0, 1) := by decide +kernel
theorem dX7_info_46 : decode cX7_info 46 = .ok (.istore_n 3, 1) := by decide +kernel
theorem dX7_info_47 : decode cX7_info 47 = .ok (.iload_n 1, 1) := by decide +kernel
theorem dX7_info_48 : decode cX7_info 48 = .ok (.tableswitch 204 0 11 #[64, 69, 89, 102, 115, 137, 150, 171, 184, 189, 194, 199], 64) := by decide +kernel
theorem dX7_info_112 : decode cX7_info 112 = .ok (.aload_n 0, 1) := by decide +kernel
theorem dX7_info_113 : decode cX7_info 113 = .ok (.getfield 106, 3) := by decide +kernel
theorem dX7_info_116 : decode cX7_info 116 = .ok (.ireturn, 1) := by decide +kernel
theorem dX7_info_117 : decode cX7_info 117 = .ok (.aload_n 0, 1) := by decide +kernel
theorem dX7_info_118 : decode cX7_info 118 = .ok (.getfield 106, 3) := by decide +kernel
theorem dX7_info_121 : decode cX7_info 121 = .ok (.ifCond .eq 14, 3) := by decide +kernel
theorem dX7_info_124 : decode cX7_info 124 = .ok (.aload_n 0, 1) := by decide +kernel
theorem dX7_info_125 : decode cX7_info 125 = .ok (.getfield 154, 3) := by decide +kernel
theorem dX7_info_128 : decode cX7_info 128 = .ok (.ifCond .eq 7, 3) := by decide +kernel
theorem dX7_info_131 : decode cX7_info 131 = .ok (.iconst 1, 1) := by decide +kernel
theorem dX7_info_132 : decode cX7_info 132 = .ok (.goto 4, 3) := by decide +kernel
theorem dX7_info_135 : decode cX7_info 135 = .ok (.iconst 0, 1) := by decide +kernel
theorem dX7_info_136 : decode cX7_info 136 = .ok (.ireturn, 1) := by decide +kernel
theorem dX7_info_137 : decode cX7_info 137 = .ok (.iload_n 2, 1) := by decide +kernel
theorem dX7_info_138 : decode cX7_info 138 = .ok (.ifCond .eq 10, 3) := by decide +kernel
theorem dX7_info_141 : decode cX7_info 141 = .ok (.aload_n 0, 1) := by decide +kernel
theorem dX7_info_142 : decode cX7_info 142 = .ok (.getfield 139, 3) := by decide +kernel
theorem dX7_info_145 : decode cX7_info 145 = .ok (.goto 4, 3) := by decide +kernel
theorem dX7_info_148 : decode cX7_info 148 = .ok (.iconst 0, 1) := by decide +kernel
theorem dX7_info_149 : decode cX7_info 149 = .ok (.ireturn, 1) := by decide +kernel
theorem dX7_info_150 : decode cX7_info 150 = .ok (.iload_n 2, 1) := by decide +kernel
theorem dX7_info_151 : decode cX7_info 151 = .ok (.ifCond .eq 10, 3) := by decide +kernel
theorem dX7_info_154 : decode cX7_info 154 = .ok (.aload_n 0, 1) := by decide +kernel
theorem dX7_info_155 : decode cX7_info 155 = .ok (.getfield 145, 3) := by decide +kernel
theorem dX7_info_158 : decode cX7_info 158 = .ok (.goto 4, 3) := by decide +kernel
theorem dX7_info_161 : decode cX7_info 161 = .ok (.iconst 0, 1) := by decide +kernel
theorem dX7_info_162 : decode cX7_info 162 = .ok (.ireturn, 1) := by decide +kernel
theorem dX7_info_163 : decode cX7_info 163 = .ok (.iload_n 2, 1) := by decide +kernel
theorem dX7_info_164 : decode cX7_info 164 = .ok (.ifCond .eq 19, 3) := by decide +kernel
theorem dX7_info_167 : decode cX7_info 167 = .ok (.aload_n 0, 1) := by decide +kernel
theorem dX7_info_168 : decode cX7_info 168 = .ok (.getfield 142, 3) := by decide +kernel
theorem dX7_info_171 : decode cX7_info 171 = .ok (.aload_n 0, 1) := by decide +kernel
theorem dX7_info_172 : decode cX7_info 172 = .ok (.aload_n 0, 1) := by decide +kernel
theorem dX7_info_173 : decode cX7_info 173 = .ok (.getfield 145, 3) := by decide +kernel
theorem dX7_info_176 : decode cX7_info 176 = .ok (.invokevirtual 237, 3) := by decide +kernel
theorem dX7_info_179 : decode cX7_info 179 = .ok (.isub, 1) := by decide +kernel
theorem dX7_info_180 : decode cX7_info 180 = .ok (.goto 4, 3) := by decide +kernel
theorem dX7_info_183 : decode cX7_info 183 = .ok (.iconst 0, 1) := by decide +kernel
theorem dX7_info_184 : decode cX7_info 184 = .ok (.ireturn, 1) := by decide +kernel
theorem dX7_info_185 : decode cX7_info 185 = .ok (.iload_n 2, 1) := by decide +kernel
theorem dX7_info_186 : decode cX7_info 186 = .ok (.ifCond .eq 10, 3) := by decide +kernel
theorem dX7_info_189 : decode cX7_info 189 = .ok (.aload_n 0, 1) := by decide +kernel
theorem dX7_info_190 : decode cX7_info 190 = .ok (.getfield 148, 3) := by decide +kernel
theorem dX7_info_193 : decode cX7_info 193 = .ok (.goto 4, 3) := by decide +kernel
theorem dX7_info_196 : decode cX7_info 196 = .ok (.iconst 0, 1) := by decide +kernel
theorem dX7_info_197 : decode cX7_info 197 = .ok (.ireturn, 1) := by decide +kernel
theorem dX7_info_198 : decode cX7_info 198 = .ok (.iload_n 3, 1) := by decide +kernel
theorem dX7_info_199 : decode cX7_info 199 = .ok (.ifCond .ne 11, 3) := by decide +kernel
theorem dX7_info_202 : decode cX7_info 202 = .ok (.aload_n 0, 1) := by decide +kernel
theorem dX7_info_203 : decode cX7_info 203 = .ok (.getfield 106, 3) := by decide +kernel
theorem dX7_info_206 : decode cX7_info 206 = .ok (.iconst 3, 1) := by decide +kernel
theorem dX7_info_207 : decode cX7_info 207 = .ok (.if_icmp .ne 10, 3) := by decide +kernel
theorem dX7_info_210 : decode cX7_info 210 = .ok (.aload_n 0, 1) := by decide +kernel
theorem dX7_info_211 : decode cX7_info 211 = .ok (.getfield 151, 3) := by decide +kernel
theorem dX7_info_214 : decode cX7_info 214 = .ok (.goto 4, 3) := by decide +kernel
theorem dX7_info_217 : decode cX7_info 217 = .ok (.iconst 0, 1) := by decide +kernel
theorem dX7_info_218 : decode cX7_info 218 = .ok (.ireturn, 1) := by decide +kernel
theorem dX7_info_219 : decode cX7_info 219 = .ok (.iload_n 3, 1) := by decide +kernel
theorem dX7_info_220 : decode cX7_info 220 = .ok (.ifCond .eq 10, 3) := by decide +kernel
theorem dX7_info_223 : decode cX7_info 223 = .ok (.aload_n 0, 1) := by decide +kernel
theorem dX7_info_224 : decode cX7_info 224 = .ok (.invokevirtual 264, 3) := by decide +kernel
theorem dX7_info_227 : decode cX7_info 227 = .ok (.goto 4, 3) := by decide +kernel
theorem dX7_info_230 : decode cX7_info 230 = .ok (.iconst 0, 1) := by decide +kernel
theorem dX7_info_231 : decode cX7_info 231 = .ok (.ireturn, 1) := by decide +kernel
theorem dX7_info_232 : decode cX7_info 232 = .ok (.aload_n 0, 1) := by decide +kernel
theorem dX7_info_233 : decode cX7_info 233 = .ok (.invokevirtual 267, 3) := by decide +kernel
theorem dX7_info_236 : decode cX7_info 236 = .ok (.ireturn, 1) := by decide +kernel
theorem dX7_info_237 : decode cX7_info 237 = .ok (.aload_n 0, 1) := by decide +kernel
theorem dX7_info_238 : decode cX7_info 238 = .ok (.getfield 136, 3) := by decide +kernel
theorem dX7_info_241 : decode cX7_info 241 = .ok (.ireturn, 1) := by decide +kernel
theorem dX7_info_242 : decode cX7_info 242 = .ok (.aload_n 0, 1) := by decide +kernel
theorem dX7_info_243 : decode cX7_info 243 = .ok (.getfield 27, 3) := by decide +kernel
theorem dX7_info_246 : decode cX7_info 246 = .ok (.ireturn, 1) := by decide +kernel
theorem dX7_info_247 : decode cX7_info 247 = .ok (.aload_n 0, 1) := by decide +kernel
theorem dX7_info_248 : decode cX7_info 248 = .ok (.getfield 30, 3) := by decide +kernel
theorem dX7_info_251 : decode cX7_info 251 = .ok (.ireturn, 1) := by decide +kernel
theorem dX7_info_252 : decode cX7_info 252 = .ok (.bipush (-102), 2) := by decide +kernel
theorem dX7_info_254 : decode cX7_info 254 = .ok (.ireturn, 1) := by decide +kernel
theorem dX7_slotOf_0 : decode cX7_slotOf 0 = .ok (.aload_n 0, 1) := by decide +kernel
theorem dX7_slotOf_1 : decode cX7_slotOf 1 = .ok (.invokevirtual 261, 3) := by decide +kernel
theorem dX7_slotOf_4 : decode cX7_slotOf 4 = .ok (.iload_n 1, 1) := by decide +kernel
theorem dX7_slotOf_5 : decode cX7_slotOf 5 = .ok (.istore_n 2, 1) := by decide +kernel
theorem dX7_slotOf_6 : decode cX7_slotOf 6 = .ok (.iconst 0, 1) := by decide +kernel
theorem dX7_slotOf_7 : decode cX7_slotOf 7 = .ok (.istore_n 3, 1) := by decide +kernel
theorem dX7_slotOf_8 : decode cX7_slotOf 8 = .ok (.iload_n 3, 1) := by decide +kernel
theorem dX7_slotOf_9 : decode cX7_slotOf 9 = .ok (.aload_n 0, 1) := by decide +kernel
theorem dX7_slotOf_10 : decode cX7_slotOf 10 = .ok (.getfield 258, 3) := by decide +kernel
theorem dX7_slotOf_13 : decode cX7_slotOf 13 = .ok (.if_icmp .ge 50, 3) := by decide +kernel
theorem dX7_slotOf_16 : decode cX7_slotOf 16 = .ok (.iload_n 1, 1) := by decide +kernel
theorem dX7_slotOf_17 : decode cX7_slotOf 17 = .ok (.ifCond .lt 46, 3) := by decide +kernel
theorem dX7_slotOf_20 : decode cX7_slotOf 20 = .ok (.aload_n 0, 1) := by decide +kernel
theorem dX7_slotOf_21 : decode cX7_slotOf 21 = .ok (.getfield 93, 3) := by decide +kernel
theorem dX7_slotOf_24 : decode cX7_slotOf 24 = .ok (.iload_n 3, 1) := by decide +kernel
theorem dX7_slotOf_25 : decode cX7_slotOf 25 = .ok (.iaload, 1) := by decide +kernel
theorem dX7_slotOf_26 : decode cX7_slotOf 26 = .ok (.istore 4, 2) := by decide +kernel
theorem dX7_slotOf_28 : decode cX7_slotOf 28 = .ok (.iload_n 2, 1) := by decide +kernel
theorem dX7_slotOf_29 : decode cX7_slotOf 29 = .ok (.aload_n 0, 1) := by decide +kernel
theorem dX7_slotOf_30 : decode cX7_slotOf 30 = .ok (.getfield 66, 3) := by decide +kernel
theorem dX7_slotOf_33 : decode cX7_slotOf 33 = .ok (.iload 4, 2) := by decide +kernel
theorem dX7_slotOf_35 : decode cX7_slotOf 35 = .ok (.iaload, 1) := by decide +kernel
theorem dX7_slotOf_36 : decode cX7_slotOf 36 = .ok (.if_icmp .ge 11, 3) := by decide +kernel
theorem dX7_slotOf_39 : decode cX7_slotOf 39 = .ok (.bipush 9, 2) := by decide +kernel
theorem dX7_slotOf_41 : decode cX7_slotOf 41 = .ok (.iload 4, 2) := by decide +kernel
theorem dX7_slotOf_43 : decode cX7_slotOf 43 = .ok (.imul, 1) := by decide +kernel
theorem dX7_slotOf_44 : decode cX7_slotOf 44 = .ok (.iload_n 2, 1) := by decide +kernel
theorem dX7_slotOf_45 : decode cX7_slotOf 45 = .ok (.iadd, 1) := by decide +kernel
theorem dX7_slotOf_46 : decode cX7_slotOf 46 = .ok (.ireturn, 1) := by decide +kernel
theorem dX7_slotOf_47 : decode cX7_slotOf 47 = .ok (.iload_n 2, 1) := by decide +kernel
theorem dX7_slotOf_48 : decode cX7_slotOf 48 = .ok (.aload_n 0, 1) := by decide +kernel
theorem dX7_slotOf_49 : decode cX7_slotOf 49 = .ok (.getfield 66, 3) := by decide +kernel
theorem dX7_slotOf_52 : decode cX7_slotOf 52 = .ok (.iload 4, 2) := by decide +kernel
theorem dX7_slotOf_54 : decode cX7_slotOf 54 = .ok (.iaload, 1) := by decide +kernel
theorem dX7_slotOf_55 : decode cX7_slotOf 55 = .ok (.isub, 1) := by decide +kernel
theorem dX7_slotOf_56 : decode cX7_slotOf 56 = .ok (.istore_n 2, 1) := by decide +kernel
theorem dX7_slotOf_57 : decode cX7_slotOf 57 = .ok (.iinc 3 1, 3) := by decide +kernel
theorem dX7_slotOf_60 : decode cX7_slotOf 60 = .ok (.goto (-52), 3) := by decide +kernel
theorem dX7_slotOf_63 : decode cX7_slotOf 63 = .ok (.iconst (-1), 1) := by decide +kernel
theorem dX7_slotOf_64 : decode cX7_slotOf 64 = .ok (.ireturn, 1) := by decide +kernel
theorem dX7_entry_0 : decode cX7_entry 0 = .ok (.aload_n 0, 1) := by decide +kernel
theorem dX7_entry_1 : decode cX7_entry 1 = .ok (.getfield 102, 3) := by decide +kernel
theorem dX7_entry_4 : decode cX7_entry 4 = .ok (.ifCond .eq 7, 3) := by decide +kernel
theorem dX7_entry_7 : decode cX7_entry 7 = .ok (.iconst (-1), 1) := by decide +kernel
theorem dX7_entry_8 : decode cX7_entry 8 = .ok (.goto 8, 3) := by decide +kernel
theorem dX7_entry_11 : decode cX7_entry 11 = .ok (.aload_n 0, 1) := by decide +kernel
theorem dX7_entry_12 : decode cX7_entry 12 = .ok (.iload_n 1, 1) := by decide +kernel
theorem dX7_entry_13 : decode cX7_entry 13 = .ok (.invokevirtual 270, 3) := by decide +kernel
theorem dX7_entry_16 : decode cX7_entry 16 = .ok (.istore_n 3, 1) := by decide +kernel
theorem dX7_entry_17 : decode cX7_entry 17 = .ok (.aload_n 0, 1) := by decide +kernel
theorem dX7_entry_18 : decode cX7_entry 18 = .ok (.aload_n 0, 1) := by decide +kernel
theorem dX7_entry_19 : decode cX7_entry 19 = .ok (.getfield 102, 3) := by decide +kernel
theorem dX7_entry_22 : decode cX7_entry 22 = .ok (.ifCond .eq 7, 3) := by decide +kernel
theorem dX7_entry_25 : decode cX7_entry 25 = .ok (.iconst 1, 1) := by decide +kernel
theorem dX7_entry_26 : decode cX7_entry 26 = .ok (.goto 13, 3) := by decide +kernel
theorem dX7_entry_29 : decode cX7_entry 29 = .ok (.iload_n 3, 1) := by decide +kernel
theorem dX7_entry_30 : decode cX7_entry 30 = .ok (.iconst (-1), 1) := by decide +kernel
theorem dX7_entry_31 : decode cX7_entry 31 = .ok (.if_icmp .ne 7, 3) := by decide +kernel
theorem dX7_entry_34 : decode cX7_entry 34 = .ok (.iconst 2, 1) := by decide +kernel
theorem dX7_entry_35 : decode cX7_entry 35 = .ok (.goto 4, 3) := by decide +kernel
theorem dX7_entry_38 : decode cX7_entry 38 = .ok (.iconst 0, 1) := by decide +kernel
theorem dX7_entry_39 : decode cX7_entry 39 = .ok (.putfield 96, 3) := by decide +kernel
theorem dX7_entry_42 : decode cX7_entry 42 = .ok (.aload_n 0, 1) := by decide +kernel
theorem dX7_entry_43 : decode cX7_entry 43 = .ok (.getfield 96, 3) := by decide +kernel
theorem dX7_entry_46 : decode cX7_entry 46 = .ok (.ifCond .le 7, 3) := by decide +kernel
theorem dX7_entry_49 : decode cX7_entry 49 = .ok (.iconst 0, 1) := by decide +kernel
theorem dX7_entry_50 : decode cX7_entry 50 = .ok (.goto 22, 3) := by decide +kernel
theorem dX7_entry_53 : decode cX7_entry 53 = .ok (.iload_n 2, 1) := by decide +kernel
theorem dX7_entry_54 : decode cX7_entry 54 = .ok (.ifCond .eq 12, 3) := by decide +kernel
theorem dX7_entry_57 : decode cX7_entry 57 = .ok (.aload_n 0, 1) := by decide +kernel
theorem dX7_entry_58 : decode cX7_entry 58 = .ok (.getfield 72, 3) := by decide +kernel
theorem dX7_entry_61 : decode cX7_entry 61 = .ok (.iload_n 3, 1) := by decide +kernel
theorem dX7_entry_62 : decode cX7_entry 62 = .ok (.iaload, 1) := by decide +kernel
theorem dX7_entry_63 : decode cX7_entry 63 = .ok (.goto 9, 3) := by decide +kernel
theorem dX7_entry_66 : decode cX7_entry 66 = .ok (.aload_n 0, 1) := by decide +kernel
theorem dX7_entry_67 : decode cX7_entry 67 = .ok (.getfield 69, 3) := by decide +kernel
theorem dX7_entry_70 : decode cX7_entry 70 = .ok (.iload_n 3, 1) := by decide +kernel
theorem dX7_entry_71 : decode cX7_entry 71 = .ok (.iaload, 1) := by decide +kernel
theorem dX7_entry_72 : decode cX7_entry 72 = .ok (.ireturn, 1) := by decide +kernel
theorem dX7_leaf_0 : decode cX7_leaf 0 = .ok (.aload_n 0, 1) := by decide +kernel
theorem dX7_leaf_1 : decode cX7_leaf 1 = .ok (.iconst 0, 1) := by decide +kernel
theorem dX7_leaf_2 : decode cX7_leaf 2 = .ok (.putfield 96, 3) := by decide +kernel
theorem dX7_leaf_5 : decode cX7_leaf 5 = .ok (.aload_n 0, 1) := by decide +kernel
theorem dX7_leaf_6 : decode cX7_leaf 6 = .ok (.getfield 102, 3) := by decide +kernel
theorem dX7_leaf_9 : decode cX7_leaf 9 = .ok (.ifCond .eq 6, 3) := by decide +kernel
theorem dX7_leaf_12 : decode cX7_leaf 12 = .ok (.bipush (-100), 2) := by decide +kernel
theorem dX7_leaf_14 : decode cX7_leaf 14 = .ok (.ireturn, 1) := by decide +kernel
theorem dX7_leaf_15 : decode cX7_leaf 15 = .ok (.aload_n 0, 1) := by decide +kernel
theorem dX7_leaf_16 : decode cX7_leaf 16 = .ok (.iload_n 1, 1) := by decide +kernel
theorem dX7_leaf_17 : decode cX7_leaf 17 = .ok (.invokevirtual 270, 3) := by decide +kernel
theorem dX7_leaf_20 : decode cX7_leaf 20 = .ok (.istore_n 2, 1) := by decide +kernel
theorem dX7_leaf_21 : decode cX7_leaf 21 = .ok (.iload_n 2, 1) := by decide +kernel
theorem dX7_leaf_22 : decode cX7_leaf 22 = .ok (.iconst (-1), 1) := by decide +kernel
theorem dX7_leaf_23 : decode cX7_leaf 23 = .ok (.if_icmp .ne 8, 3) := by decide +kernel
theorem dX7_leaf_26 : decode cX7_leaf 26 = .ok (.bipush (-101), 2) := by decide +kernel
theorem dX7_leaf_28 : decode cX7_leaf 28 = .ok (.goto 12, 3) := by decide +kernel
theorem dX7_leaf_31 : decode cX7_leaf 31 = .ok (.aload_n 0, 1) := by decide +kernel
theorem dX7_leaf_32 : decode cX7_leaf 32 = .ok (.getfield 66, 3) := by decide +kernel
theorem dX7_leaf_35 : decode cX7_leaf 35 = .ok (.iload_n 2, 1) := by decide +kernel
theorem dX7_leaf_36 : decode cX7_leaf 36 = .ok (.bipush 9, 2) := by decide +kernel
theorem dX7_leaf_38 : decode cX7_leaf 38 = .ok (.idiv, 1) := by decide +kernel
theorem dX7_leaf_39 : decode cX7_leaf 39 = .ok (.iaload, 1) := by decide +kernel
theorem dX7_leaf_40 : decode cX7_leaf 40 = .ok (.ireturn, 1) := by decide +kernel
theorem dX7_ask_0 : decode cX7_ask 0 = .ok (.aload_n 0, 1) := by decide +kernel
theorem dX7_ask_1 : decode cX7_ask 1 = .ok (.iconst 0, 1) := by decide +kernel
theorem dX7_ask_2 : decode cX7_ask 2 = .ok (.putfield 96, 3) := by decide +kernel
theorem dX7_ask_5 : decode cX7_ask 5 = .ok (.aload_n 0, 1) := by decide +kernel
theorem dX7_ask_6 : decode cX7_ask 6 = .ok (.getfield 102, 3) := by decide +kernel
theorem dX7_ask_9 : decode cX7_ask 9 = .ok (.ifCond .eq 6, 3) := by decide +kernel
theorem dX7_ask_12 : decode cX7_ask 12 = .ok (.bipush (-100), 2) := by decide +kernel
theorem dX7_ask_14 : decode cX7_ask 14 = .ok (.ireturn, 1) := by decide +kernel
theorem dX7_ask_15 : decode cX7_ask 15 = .ok (.aload_n 0, 1) := by decide +kernel
theorem dX7_ask_16 : decode cX7_ask 16 = .ok (.iconst 0, 1) := by decide +kernel
theorem dX7_ask_17 : decode cX7_ask 17 = .ok (.putfield 273, 3) := by decide +kernel
theorem dX7_ask_20 : decode cX7_ask 20 = .ok (.aload_n 0, 1) := by decide +kernel
theorem dX7_ask_21 : decode cX7_ask 21 = .ok (.getfield 106, 3) := by decide +kernel
theorem dX7_ask_24 : decode cX7_ask 24 = .ok (.iconst 5, 1) := by decide +kernel
theorem dX7_ask_25 : decode cX7_ask 25 = .ok (.if_icmp .eq 72, 3) := by decide +kernel
theorem dX7_ask_28 : decode cX7_ask 28 = .ok (.aload_n 0, 1) := by decide +kernel
theorem dX7_ask_29 : decode cX7_ask 29 = .ok (.bipush 20, 2) := by decide +kernel
theorem dX7_ask_31 : decode cX7_ask 31 = .ok (.putfield 276, 3) := by decide +kernel
theorem dX7_ask_34 : decode cX7_ask 34 = .ok (.iconst 0, 1) := by decide +kernel
theorem dX7_ask_35 : decode cX7_ask 35 = .ok (.istore_n 3, 1) := by decide +kernel
theorem dX7_ask_36 : decode cX7_ask 36 = .ok (.iload_n 3, 1) := by decide +kernel
theorem dX7_ask_37 : decode cX7_ask 37 = .ok (.sipush 240, 3) := by decide +kernel
theorem dX7_ask_40 : decode cX7_ask 40 = .ok (.if_icmp .ge 52, 3) := by decide +kernel
theorem dX7_ask_43 : decode cX7_ask 43 = .ok (.aload_n 0, 1) := by decide +kernel
theorem dX7_ask_44 : decode cX7_ask 44 = .ok (.getfield 7, 3) := by decide +kernel
theorem dX7_ask_47 : decode cX7_ask 47 = .ok (.iload_n 3, 1) := by decide +kernel
theorem dX7_ask_48 : decode cX7_ask 48 = .ok (.baload, 1) := by decide +kernel
theorem dX7_ask_49 : decode cX7_ask 49 = .ok (.ifCond .eq 37, 3) := by decide +kernel
theorem dX7_ask_52 : decode cX7_ask 52 = .ok (.aload_n 0, 1) := by decide +kernel
theorem dX7_ask_53 : decode cX7_ask 53 = .ok (.getfield 13, 3) := by decide +kernel
theorem dX7_ask_56 : decode cX7_ask 56 = .ok (.iload_n 3, 1) := by decide +kernel
theorem dX7_ask_57 : decode cX7_ask 57 = .ok (.iaload, 1) := by decide +kernel
theorem dX7_ask_58 : decode cX7_ask 58 = .ok (.iload_n 1, 1) := by decide +kernel
theorem dX7_ask_59 : decode cX7_ask 59 = .ok (.iload_n 2, 1) := by decide +kernel
theorem dX7_ask_60 : decode cX7_ask 60 = .ok (.invokestatic 201, 3) := by decide +kernel
theorem dX7_ask_63 : decode cX7_ask 63 = .ok (.ifCond .eq 23, 3) := by decide +kernel
theorem dX7_ask_66 : decode cX7_ask 66 = .ok (.aload_n 0, 1) := by decide +kernel
theorem dX7_ask_67 : decode cX7_ask 67 = .ok (.getfield 78, 3) := by decide +kernel
theorem dX7_ask_70 : decode cX7_ask 70 = .ok (.aload_n 0, 1) := by decide +kernel
theorem dX7_ask_71 : decode cX7_ask 71 = .ok (.getfield 273, 3) := by decide +kernel
theorem dX7_ask_74 : decode cX7_ask 74 = .ok (.iload_n 3, 1) := by decide +kernel
theorem dX7_ask_75 : decode cX7_ask 75 = .ok (.iastore, 1) := by decide +kernel
theorem dX7_ask_76 : decode cX7_ask 76 = .ok (.aload_n 0, 1) := by decide +kernel
theorem dX7_ask_77 : decode cX7_ask 77 = .ok (.dup, 1) := by decide +kernel
theorem dX7_ask_78 : decode cX7_ask 78 = .ok (.getfield 273, 3) := by decide +kernel
theorem dX7_ask_81 : decode cX7_ask 81 = .ok (.iconst 1, 1) := by decide +kernel
theorem dX7_ask_82 : decode cX7_ask 82 = .ok (.iadd, 1) := by decide +kernel
theorem dX7_ask_83 : decode cX7_ask 83 = .ok (.putfield 273, 3) := by decide +kernel
theorem dX7_ask_86 : decode cX7_ask 86 = .ok (.iinc 3 1, 3) := by decide +kernel
theorem dX7_ask_89 : decode cX7_ask 89 = .ok (.goto (-53), 3) := by decide +kernel
theorem dX7_ask_92 : decode cX7_ask 92 = .ok (.aload_n 0, 1) := by decide +kernel
theorem dX7_ask_93 : decode cX7_ask 93 = .ok (.getfield 273, 3) := by decide +kernel
theorem dX7_ask_96 : decode cX7_ask 96 = .ok (.ireturn, 1) := by decide +kernel
theorem dX7_ask_97 : decode cX7_ask 97 = .ok (.aload_n 0, 1) := by decide +kernel
theorem dX7_ask_98 : decode cX7_ask 98 = .ok (.iload_n 1, 1) := by decide +kernel
theorem dX7_ask_99 : decode cX7_ask 99 = .ok (.iconst 0, 1) := by decide +kernel
theorem dX7_ask_100 : decode cX7_ask 100 = .ok (.invokevirtual 175, 3) := by decide +kernel
theorem dX7_ask_103 : decode cX7_ask 103 = .ok (.aload_n 0, 1) := by decide +kernel
theorem dX7_ask_104 : decode cX7_ask 104 = .ok (.aload_n 0, 1) := by decide +kernel
theorem dX7_ask_105 : decode cX7_ask 105 = .ok (.getfield 157, 3) := by decide +kernel
theorem dX7_ask_108 : decode cX7_ask 108 = .ok (.iconst 1, 1) := by decide +kernel
theorem dX7_ask_109 : decode cX7_ask 109 = .ok (.iadd, 1) := by decide +kernel
theorem dX7_ask_110 : decode cX7_ask 110 = .ok (.putfield 276, 3) := by decide +kernel
theorem dX7_ask_113 : decode cX7_ask 113 = .ok (.aload_n 0, 1) := by decide +kernel
theorem dX7_ask_114 : decode cX7_ask 114 = .ok (.getfield 81, 3) := by decide +kernel
theorem dX7_ask_117 : decode cX7_ask 117 = .ok (.aload_n 0, 1) := by decide +kernel
theorem dX7_ask_118 : decode cX7_ask 118 = .ok (.getfield 157, 3) := by decide +kernel
theorem dX7_ask_121 : decode cX7_ask 121 = .ok (.iaload, 1) := by decide +kernel
theorem dX7_ask_122 : decode cX7_ask 122 = .ok (.istore_n 3, 1) := by decide +kernel
theorem dX7_ask_123 : decode cX7_ask 123 = .ok (.iconst 0, 1) := by decide +kernel
theorem dX7_ask_124 : decode cX7_ask 124 = .ok (.istore 4, 2) := by decide +kernel
theorem dX7_ask_126 : decode cX7_ask 126 = .ok (.aload_n 0, 1) := by decide +kernel
theorem dX7_ask_127 : decode cX7_ask 127 = .ok (.invokevirtual 261, 3) := by decide +kernel
theorem dX7_ask_130 : decode cX7_ask 130 = .ok (.iconst 0, 1) := by decide +kernel
theorem dX7_ask_131 : decode cX7_ask 131 = .ok (.istore 5, 2) := by decide +kernel
theorem dX7_ask_133 : decode cX7_ask 133 = .ok (.iload 5, 2) := by decide +kernel
theorem dX7_ask_135 : decode cX7_ask 135 = .ok (.aload_n 0, 1) := by decide +kernel
theorem dX7_ask_136 : decode cX7_ask 136 = .ok (.getfield 258, 3) := by decide +kernel
theorem dX7_ask_139 : decode cX7_ask 139 = .ok (.if_icmp .ge 154, 3) := by decide +kernel
theorem dX7_ask_142 : decode cX7_ask 142 = .ok (.aload_n 0, 1) := by decide +kernel
theorem dX7_ask_143 : decode cX7_ask 143 = .ok (.getfield 93, 3) := by decide +kernel
theorem dX7_ask_146 : decode cX7_ask 146 = .ok (.iload 5, 2) := by decide +kernel
theorem dX7_ask_148 : decode cX7_ask 148 = .ok (.iaload, 1) := by decide +kernel
theorem dX7_ask_149 : decode cX7_ask 149 = .ok (.istore 6, 2) := by decide +kernel
theorem dX7_ask_151 : decode cX7_ask 151 = .ok (.aload_n 0, 1) := by decide +kernel
theorem dX7_ask_152 : decode cX7_ask 152 = .ok (.iload 4, 2) := by decide +kernel
theorem dX7_ask_154 : decode cX7_ask 154 = .ok (.ifCond .eq 36, 3) := by decide +kernel
theorem dX7_ask_157 : decode cX7_ask 157 = .ok (.aload_n 0, 1) := by decide +kernel
theorem dX7_ask_158 : decode cX7_ask 158 = .ok (.getfield 66, 3) := by decide +kernel
theorem dX7_ask_161 : decode cX7_ask 161 = .ok (.iload 6, 2) := by decide +kernel
theorem dX7_ask_163 : decode cX7_ask 163 = .ok (.iaload, 1) := by decide +kernel
theorem dX7_ask_164 : decode cX7_ask 164 = .ok (.ifCond .le 26, 3) := by decide +kernel
theorem dX7_ask_167 : decode cX7_ask 167 = .ok (.aload_n 0, 1) := by decide +kernel
theorem dX7_ask_168 : decode cX7_ask 168 = .ok (.getfield 69, 3) := by decide +kernel
theorem dX7_ask_171 : decode cX7_ask 171 = .ok (.bipush 9, 2) := by decide +kernel
theorem dX7_ask_173 : decode cX7_ask 173 = .ok (.iload 6, 2) := by decide +kernel
theorem dX7_ask_175 : decode cX7_ask 175 = .ok (.imul, 1) := by decide +kernel
theorem dX7_ask_176 : decode cX7_ask 176 = .ok (.iaload, 1) := by decide +kernel
theorem dX7_ask_177 : decode cX7_ask 177 = .ok (.iload_n 2, 1) := by decide +kernel
theorem dX7_ask_178 : decode cX7_ask 178 = .ok (.if_icmp .gt 12, 3) := by decide +kernel
theorem dX7_ask_181 : decode cX7_ask 181 = .ok (.aload_n 0, 1) := by decide +kernel
theorem dX7_ask_182 : decode cX7_ask 182 = .ok (.getfield 276, 3) := by decide +kernel
theorem dX7_ask_185 : decode cX7_ask 185 = .ok (.iconst 1, 1) := by decide +kernel
theorem dX7_ask_186 : decode cX7_ask 186 = .ok (.iadd, 1) := by decide +kernel
theorem dX7_ask_187 : decode cX7_ask 187 = .ok (.goto 7, 3) := by decide +kernel
theorem dX7_ask_190 : decode cX7_ask 190 = .ok (.aload_n 0, 1) := by decide +kernel
theorem dX7_ask_191 : decode cX7_ask 191 = .ok (.getfield 276, 3) := by decide +kernel
theorem dX7_ask_194 : decode cX7_ask 194 = .ok (.putfield 276, 3) := by decide +kernel
theorem dX7_ask_197 : decode cX7_ask 197 = .ok (.iload 4, 2) := by decide +kernel
theorem dX7_ask_199 : decode cX7_ask 199 = .ok (.ifCond .ne 9, 3) := by decide +kernel
theorem dX7_ask_202 : decode cX7_ask 202 = .ok (.iload 6, 2) := by decide +kernel
theorem dX7_ask_204 : decode cX7_ask 204 = .ok (.iload_n 3, 1) := by decide +kernel
theorem dX7_ask_205 : decode cX7_ask 205 = .ok (.if_icmp .ne 7, 3) := by decide +kernel
theorem dX7_ask_208 : decode cX7_ask 208 = .ok (.iconst 1, 1) := by decide +kernel
theorem dX7_ask_209 : decode cX7_ask 209 = .ok (.goto 4, 3) := by decide +kernel
theorem dX7_ask_212 : decode cX7_ask 212 = .ok (.iconst 0, 1) := by decide +kernel
theorem dX7_ask_213 : decode cX7_ask 213 = .ok (.istore 4, 2) := by decide +kernel
theorem dX7_ask_215 : decode cX7_ask 215 = .ok (.bipush 9, 2) := by decide +kernel
theorem dX7_ask_217 : decode cX7_ask 217 = .ok (.iload 6, 2) := by decide +kernel
theorem dX7_ask_219 : decode cX7_ask 219 = .ok (.imul, 1) := by decide +kernel
theorem dX7_ask_220 : decode cX7_ask 220 = .ok (.istore 7, 2) := by decide +kernel
theorem dX7_ask_222 : decode cX7_ask 222 = .ok (.iload 7, 2) := by decide +kernel
theorem dX7_ask_224 : decode cX7_ask 224 = .ok (.bipush 9, 2) := by decide +kernel
theorem dX7_ask_226 : decode cX7_ask 226 = .ok (.iload 6, 2) := by decide +kernel
theorem dX7_ask_228 : decode cX7_ask 228 = .ok (.imul, 1) := by decide +kernel
theorem dX7_ask_229 : decode cX7_ask 229 = .ok (.aload_n 0, 1) := by decide +kernel
theorem dX7_ask_230 : decode cX7_ask 230 = .ok (.getfield 66, 3) := by decide +kernel
theorem dX7_ask_233 : decode cX7_ask 233 = .ok (.iload 6, 2) := by decide +kernel
theorem dX7_ask_235 : decode cX7_ask 235 = .ok (.iaload, 1) := by decide +kernel
theorem dX7_ask_236 : decode cX7_ask 236 = .ok (.iadd, 1) := by decide +kernel
theorem dX7_ask_237 : decode cX7_ask 237 = .ok (.if_icmp .ge 50, 3) := by decide +kernel
theorem dX7_ask_240 : decode cX7_ask 240 = .ok (.aload_n 0, 1) := by decide +kernel
theorem dX7_ask_241 : decode cX7_ask 241 = .ok (.getfield 69, 3) := by decide +kernel
theorem dX7_ask_244 : decode cX7_ask 244 = .ok (.iload 7, 2) := by decide +kernel
theorem dX7_ask_246 : decode cX7_ask 246 = .ok (.iaload, 1) := by decide +kernel
theorem dX7_ask_247 : decode cX7_ask 247 = .ok (.iload_n 1, 1) := by decide +kernel
theorem dX7_ask_248 : decode cX7_ask 248 = .ok (.iload_n 2, 1) := by decide +kernel
theorem dX7_ask_249 : decode cX7_ask 249 = .ok (.invokestatic 201, 3) := by decide +kernel
theorem dX7_ask_252 : decode cX7_ask 252 = .ok (.ifCond .eq 29, 3) := by decide +kernel
theorem dX7_ask_255 : decode cX7_ask 255 = .ok (.aload_n 0, 1) := by decide +kernel
theorem dX7_ask_256 : decode cX7_ask 256 = .ok (.getfield 78, 3) := by decide +kernel
theorem dX7_ask_259 : decode cX7_ask 259 = .ok (.aload_n 0, 1) := by decide +kernel
theorem dX7_ask_260 : decode cX7_ask 260 = .ok (.getfield 273, 3) := by decide +kernel
theorem dX7_ask_263 : decode cX7_ask 263 = .ok (.aload_n 0, 1) := by decide +kernel
theorem dX7_ask_264 : decode cX7_ask 264 = .ok (.getfield 72, 3) := by decide +kernel
theorem dX7_ask_267 : decode cX7_ask 267 = .ok (.iload 7, 2) := by decide +kernel
theorem dX7_ask_269 : decode cX7_ask 269 = .ok (.iaload, 1) := by decide +kernel
theorem dX7_ask_270 : decode cX7_ask 270 = .ok (.iastore, 1) := by decide +kernel
theorem dX7_ask_271 : decode cX7_ask 271 = .ok (.aload_n 0, 1) := by decide +kernel
theorem dX7_ask_272 : decode cX7_ask 272 = .ok (.dup, 1) := by decide +kernel
theorem dX7_ask_273 : decode cX7_ask 273 = .ok (.getfield 273, 3) := by decide +kernel
theorem dX7_ask_276 : decode cX7_ask 276 = .ok (.iconst 1, 1) := by decide +kernel
theorem dX7_ask_277 : decode cX7_ask 277 = .ok (.iadd, 1) := by decide +kernel
theorem dX7_ask_278 : decode cX7_ask 278 = .ok (.putfield 273, 3) := by decide +kernel
theorem dX7_ask_281 : decode cX7_ask 281 = .ok (.iinc 7 1, 3) := by decide +kernel
theorem dX7_ask_284 : decode cX7_ask 284 = .ok (.goto (-62), 3) := by decide +kernel
theorem dX7_ask_287 : decode cX7_ask 287 = .ok (.iinc 5 1, 3) := by decide +kernel
theorem dX7_ask_290 : decode cX7_ask 290 = .ok (.goto (-157), 3) := by decide +kernel
theorem dX7_ask_293 : decode cX7_ask 293 = .ok (.aload_n 0, 1) := by decide +kernel
theorem dX7_ask_294 : decode cX7_ask 294 = .ok (.getfield 273, 3) := by decide +kernel
theorem dX7_ask_297 : decode cX7_ask 297 = .ok (.ireturn, 1) := by decide +kernel
theorem dX7_answer_0 : decode cX7_answer 0 = .ok (.aload_n 0, 1) := by decide +kernel
theorem dX7_answer_1 : decode cX7_answer 1 = .ok (.iconst 0, 1) := by decide +kernel
theorem dX7_answer_2 : decode cX7_answer 2 = .ok (.putfield 96, 3) := by decide +kernel
theorem dX7_answer_5 : decode cX7_answer 5 = .ok (.iload_n 1, 1) := by decide +kernel
theorem dX7_answer_6 : decode cX7_answer 6 = .ok (.iconst 0, 1) := by decide +kernel
theorem dX7_answer_7 : decode cX7_answer 7 = .ok (.aload_n 0, 1) := by decide +kernel
theorem dX7_answer_8 : decode cX7_answer 8 = .ok (.getfield 273, 3) := by decide +kernel
theorem dX7_answer_11 : decode cX7_answer 11 = .ok (.iconst 1, 1) := by decide +kernel
theorem dX7_answer_12 : decode cX7_answer 12 = .ok (.isub, 1) := by decide +kernel
theorem dX7_answer_13 : decode cX7_answer 13 = .ok (.invokestatic 201, 3) := by decide +kernel
theorem dX7_answer_16 : decode cX7_answer 16 = .ok (.ifCond .eq 12, 3) := by decide +kernel
theorem dX7_answer_19 : decode cX7_answer 19 = .ok (.aload_n 0, 1) := by decide +kernel
theorem dX7_answer_20 : decode cX7_answer 20 = .ok (.getfield 78, 3) := by decide +kernel
theorem dX7_answer_23 : decode cX7_answer 23 = .ok (.iload_n 1, 1) := by decide +kernel
theorem dX7_answer_24 : decode cX7_answer 24 = .ok (.iaload, 1) := by decide +kernel
theorem dX7_answer_25 : decode cX7_answer 25 = .ok (.goto 4, 3) := by decide +kernel
theorem dX7_answer_28 : decode cX7_answer 28 = .ok (.iconst (-1), 1) := by decide +kernel
theorem dX7_answer_29 : decode cX7_answer 29 = .ok (.ireturn, 1) := by decide +kernel
theorem dX7_cost_0 : decode cX7_cost 0 = .ok (.aload_n 0, 1) := by decide +kernel
theorem dX7_cost_1 : decode cX7_cost 1 = .ok (.iconst 0, 1) := by decide +kernel
theorem dX7_cost_2 : decode cX7_cost 2 = .ok (.putfield 96, 3) := by decide +kernel
theorem dX7_cost_5 : decode cX7_cost 5 = .ok (.aload_n 0, 1) := by decide +kernel
theorem dX7_cost_6 : decode cX7_cost 6 = .ok (.getfield 276, 3) := by decide +kernel
theorem dX7_cost_9 : decode cX7_cost 9 = .ok (.ireturn, 1) := by decide +kernel
theorem dX7_blocks_0 : decode cX7_blocks 0 = .ok (.aload_n 0, 1) := by decide +kernel
theorem dX7_blocks_1 : decode cX7_blocks 1 = .ok (.iconst 0, 1) := by decide +kernel
theorem dX7_blocks_2 : decode cX7_blocks 2 = .ok (.putfield 96, 3) := by decide +kernel
theorem dX7_blocks_5 : decode cX7_blocks 5 = .ok (.iload_n 1, 1) := by decide +kernel
theorem dX7_blocks_6 : decode cX7_blocks 6 = .ok (.ifCond .ne 10, 3) := by decide +kernel
theorem dX7_blocks_9 : decode cX7_blocks 9 = .ok (.aload_n 0, 1) := by decide +kernel
theorem dX7_blocks_10 : decode cX7_blocks 10 = .ok (.getfield 99, 3) := by decide +kernel
theorem dX7_blocks_13 : decode cX7_blocks 13 = .ok (.goto 41, 3) := by decide +kernel
theorem dX7_blocks_16 : decode cX7_blocks 16 = .ok (.iload_n 1, 1) := by decide +kernel
theorem dX7_blocks_17 : decode cX7_blocks 17 = .ok (.iconst 1, 1) := by decide +kernel
theorem dX7_blocks_18 : decode cX7_blocks 18 = .ok (.if_icmp .ne 10, 3) := by decide +kernel
theorem dX7_blocks_21 : decode cX7_blocks 21 = .ok (.aload_n 0, 1) := by decide +kernel
theorem dX7_blocks_22 : decode cX7_blocks 22 = .ok (.getfield 120, 3) := by decide +kernel
theorem dX7_blocks_25 : decode cX7_blocks 25 = .ok (.goto 29, 3) := by decide +kernel
theorem dX7_blocks_28 : decode cX7_blocks 28 = .ok (.iload_n 1, 1) := by decide +kernel
theorem dX7_blocks_29 : decode cX7_blocks 29 = .ok (.iconst 2, 1) := by decide +kernel
theorem dX7_blocks_30 : decode cX7_blocks 30 = .ok (.if_icmp .ne 10, 3) := by decide +kernel
theorem dX7_blocks_33 : decode cX7_blocks 33 = .ok (.aload_n 0, 1) := by decide +kernel
theorem dX7_blocks_34 : decode cX7_blocks 34 = .ok (.getfield 123, 3) := by decide +kernel
theorem dX7_blocks_37 : decode cX7_blocks 37 = .ok (.goto 17, 3) := by decide +kernel
theorem dX7_blocks_40 : decode cX7_blocks 40 = .ok (.iload_n 1, 1) := by decide +kernel
theorem dX7_blocks_41 : decode cX7_blocks 41 = .ok (.iconst 3, 1) := by decide +kernel
theorem dX7_blocks_42 : decode cX7_blocks 42 = .ok (.if_icmp .ne 10, 3) := by decide +kernel
theorem dX7_blocks_45 : decode cX7_blocks 45 = .ok (.aload_n 0, 1) := by decide +kernel
theorem dX7_blocks_46 : decode cX7_blocks 46 = .ok (.getfield 126, 3) := by decide +kernel
theorem dX7_blocks_49 : decode cX7_blocks 49 = .ok (.goto 5, 3) := by decide +kernel
theorem dX7_blocks_52 : decode cX7_blocks 52 = .ok (.bipush (-102), 2) := by decide +kernel
theorem dX7_blocks_54 : decode cX7_blocks 54 = .ok (.ireturn, 1) := by decide +kernel
theorem dX7_rows_0 : decode cX7_rows 0 = .ok (.aload_n 0, 1) := by decide +kernel
theorem dX7_rows_1 : decode cX7_rows 1 = .ok (.iconst 0, 1) := by decide +kernel
theorem dX7_rows_2 : decode cX7_rows 2 = .ok (.putfield 96, 3) := by decide +kernel
theorem dX7_rows_5 : decode cX7_rows 5 = .ok (.aload_n 0, 1) := by decide +kernel
theorem dX7_rows_6 : decode cX7_rows 6 = .ok (.getfield 102, 3) := by decide +kernel
theorem dX7_rows_9 : decode cX7_rows 9 = .ok (.ifCond .eq 8, 3) := by decide +kernel
theorem dX7_rows_12 : decode cX7_rows 12 = .ok (.bipush (-100), 2) := by decide +kernel
theorem dX7_rows_14 : decode cX7_rows 14 = .ok (.goto 7, 3) := by decide +kernel
theorem dX7_rows_17 : decode cX7_rows 17 = .ok (.aload_n 0, 1) := by decide +kernel
theorem dX7_rows_18 : decode cX7_rows 18 = .ok (.invokevirtual 219, 3) := by decide +kernel
theorem dX7_rows_21 : decode cX7_rows 21 = .ok (.ireturn, 1) := by decide +kernel
theorem dX7_audit_0 : decode cX7_audit 0 = .ok (.aload_n 0, 1) := by decide +kernel
theorem dX7_audit_1 : decode cX7_audit 1 = .ok (.iconst 0, 1) := by decide +kernel
theorem dX7_audit_2 : decode cX7_audit 2 = .ok (.putfield 96, 3) := by decide +kernel
theorem dX7_audit_5 : decode cX7_audit 5 = .ok (.aload_n 0, 1) := by decide +kernel
theorem dX7_audit_6 : decode cX7_audit 6 = .ok (.getfield 102, 3) := by decide +kernel
theorem dX7_audit_9 : decode cX7_audit 9 = .ok (.ifCond .eq 6, 3) := by decide +kernel
theorem dX7_audit_12 : decode cX7_audit 12 = .ok (.bipush (-100), 2) := by decide +kernel
theorem dX7_audit_14 : decode cX7_audit 14 = .ok (.ireturn, 1) := by decide +kernel
theorem dX7_audit_15 : decode cX7_audit 15 = .ok (.aload_n 0, 1) := by decide +kernel
theorem dX7_audit_16 : decode cX7_audit 16 = .ok (.getfield 106, 3) := by decide +kernel
theorem dX7_audit_19 : decode cX7_audit 19 = .ok (.iconst 5, 1) := by decide +kernel
theorem dX7_audit_20 : decode cX7_audit 20 = .ok (.if_icmp .ne 18, 3) := by decide +kernel
theorem dX7_audit_23 : decode cX7_audit 23 = .ok (.aload_n 0, 1) := by decide +kernel
theorem dX7_audit_24 : decode cX7_audit 24 = .ok (.invokevirtual 267, 3) := by decide +kernel
theorem dX7_audit_27 : decode cX7_audit 27 = .ok (.aload_n 0, 1) := by decide +kernel
theorem dX7_audit_28 : decode cX7_audit 28 = .ok (.invokevirtual 219, 3) := by decide +kernel
theorem dX7_audit_31 : decode cX7_audit 31 = .ok (.if_icmp .eq 7, 3) := by decide +kernel
theorem dX7_audit_34 : decode cX7_audit 34 = .ok (.iconst 1, 1) := by decide +kernel
theorem dX7_audit_35 : decode cX7_audit 35 = .ok (.goto 4, 3) := by decide +kernel
theorem dX7_audit_38 : decode cX7_audit 38 = .ok (.iconst 0, 1) := by decide +kernel
theorem dX7_audit_39 : decode cX7_audit 39 = .ok (.ireturn, 1) := by decide +kernel
