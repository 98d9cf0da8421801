theorem dX12_init_0 : decode cX12_init 0 = .ok (.aload_n 0, 1) := by decide +kernel
theorem dX12_init_1 : decode cX12_init 1 = .ok (.invokespecial 1, 3) := by decide +kernel
theorem dX12_init_4 : decode cX12_init 4 = .ok (.aload_n 0, 1) := by decide +kernel
theorem dX12_init_5 : decode cX12_init 5 = .ok (.bipush 8, 2) := by decide +kernel
theorem dX12_init_7 : decode cX12_init 7 = .ok (.newarray .long, 2) := by decide +kernel
theorem dX12_init_9 : decode cX12_init 9 = .ok (.putfield 7, 3) := by decide +kernel
theorem dX12_init_12 : decode cX12_init 12 = .ok (.aload_n 0, 1) := by decide +kernel
theorem dX12_init_13 : decode cX12_init 13 = .ok (.bipush 80, 2) := by decide +kernel
theorem dX12_init_15 : decode cX12_init 15 = .ok (.newarray .long, 2) := by decide +kernel
theorem dX12_init_17 : decode cX12_init 17 = .ok (.putfield 13, 3) := by decide +kernel
theorem dX12_init_20 : decode cX12_init 20 = .ok (.aload_n 0, 1) := by decide +kernel
theorem dX12_init_21 : decode cX12_init 21 = .ok (.bipush 120, 2) := by decide +kernel
theorem dX12_init_23 : decode cX12_init 23 = .ok (.newarray .byte, 2) := by decide +kernel
theorem dX12_init_25 : decode cX12_init 25 = .ok (.putfield 16, 3) := by decide +kernel
theorem dX12_init_28 : decode cX12_init 28 = .ok (.aload_n 0, 1) := by decide +kernel
theorem dX12_init_29 : decode cX12_init 29 = .ok (.bipush 81, 2) := by decide +kernel
theorem dX12_init_31 : decode cX12_init 31 = .ok (.newarray .int, 2) := by decide +kernel
theorem dX12_init_33 : decode cX12_init 33 = .ok (.putfield 20, 3) := by decide +kernel
theorem dX12_init_36 : decode cX12_init 36 = .ok (.aload_n 0, 1) := by decide +kernel
theorem dX12_init_37 : decode cX12_init 37 = .ok (.bipush 81, 2) := by decide +kernel
theorem dX12_init_39 : decode cX12_init 39 = .ok (.newarray .int, 2) := by decide +kernel
theorem dX12_init_41 : decode cX12_init 41 = .ok (.putfield 24, 3) := by decide +kernel
theorem dX12_init_44 : decode cX12_init 44 = .ok (.aload_n 0, 1) := by decide +kernel
theorem dX12_init_45 : decode cX12_init 45 = .ok (.sipush 576, 3) := by decide +kernel
theorem dX12_init_48 : decode cX12_init 48 = .ok (.newarray .boolean, 2) := by decide +kernel
theorem dX12_init_50 : decode cX12_init 50 = .ok (.putfield 27, 3) := by decide +kernel
theorem dX12_init_53 : decode cX12_init 53 = .ok (.aload_n 0, 1) := by decide +kernel
theorem dX12_init_54 : decode cX12_init 54 = .ok (.sipush 1600, 3) := by decide +kernel
theorem dX12_init_57 : decode cX12_init 57 = .ok (.newarray .long, 2) := by decide +kernel
theorem dX12_init_59 : decode cX12_init 59 = .ok (.putfield 31, 3) := by decide +kernel
theorem dX12_init_62 : decode cX12_init 62 = .ok (.aload_n 0, 1) := by decide +kernel
theorem dX12_init_63 : decode cX12_init 63 = .ok (.sipush 400, 3) := by decide +kernel
theorem dX12_init_66 : decode cX12_init 66 = .ok (.newarray .long, 2) := by decide +kernel
theorem dX12_init_68 : decode cX12_init 68 = .ok (.putfield 34, 3) := by decide +kernel
theorem dX12_init_71 : decode cX12_init 71 = .ok (.aload_n 0, 1) := by decide +kernel
theorem dX12_init_72 : decode cX12_init 72 = .ok (.bipush 25, 2) := by decide +kernel
theorem dX12_init_74 : decode cX12_init 74 = .ok (.newarray .int, 2) := by decide +kernel
theorem dX12_init_76 : decode cX12_init 76 = .ok (.putfield 37, 3) := by decide +kernel
theorem dX12_init_79 : decode cX12_init 79 = .ok (.aload_n 0, 1) := by decide +kernel
theorem dX12_init_80 : decode cX12_init 80 = .ok (.bipush 60, 2) := by decide +kernel
theorem dX12_init_82 : decode cX12_init 82 = .ok (.newarray .int, 2) := by decide +kernel
theorem dX12_init_84 : decode cX12_init 84 = .ok (.putfield 40, 3) := by decide +kernel
theorem dX12_init_87 : decode cX12_init 87 = .ok (.aload_n 0, 1) := by decide +kernel
theorem dX12_init_88 : decode cX12_init 88 = .ok (.bipush 110, 2) := by decide +kernel
theorem dX12_init_90 : decode cX12_init 90 = .ok (.newarray .int, 2) := by decide +kernel
theorem dX12_init_92 : decode cX12_init 92 = .ok (.putfield 43, 3) := by decide +kernel
theorem dX12_init_95 : decode cX12_init 95 = .ok (.aload_n 0, 1) := by decide +kernel
theorem dX12_init_96 : decode cX12_init 96 = .ok (.bipush 110, 2) := by decide +kernel
theorem dX12_init_98 : decode cX12_init 98 = .ok (.newarray .int, 2) := by decide +kernel
theorem dX12_init_100 : decode cX12_init 100 = .ok (.putfield 46, 3) := by decide +kernel
theorem dX12_init_103 : decode cX12_init 103 = .ok (.aload_n 0, 1) := by decide +kernel
theorem dX12_init_104 : decode cX12_init 104 = .ok (.bipush 60, 2) := by decide +kernel
theorem dX12_init_106 : decode cX12_init 106 = .ok (.newarray .int, 2) := by decide +kernel
theorem dX12_init_108 : decode cX12_init 108 = .ok (.putfield 49, 3) := by decide +kernel
theorem dX12_init_111 : decode cX12_init 111 = .ok (.aload_n 0, 1) := by decide +kernel
theorem dX12_init_112 : decode cX12_init 112 = .ok (.bipush 61, 2) := by decide +kernel
theorem dX12_init_114 : decode cX12_init 114 = .ok (.newarray .int, 2) := by decide +kernel
theorem dX12_init_116 : decode cX12_init 116 = .ok (.putfield 52, 3) := by decide +kernel
theorem dX12_init_119 : decode cX12_init 119 = .ok (.aload_n 0, 1) := by decide +kernel
theorem dX12_init_120 : decode cX12_init 120 = .ok (.bipush 61, 2) := by decide +kernel
theorem dX12_init_122 : decode cX12_init 122 = .ok (.newarray .int, 2) := by decide +kernel
theorem dX12_init_124 : decode cX12_init 124 = .ok (.putfield 55, 3) := by decide +kernel
theorem dX12_init_127 : decode cX12_init 127 = .ok (.aload_n 0, 1) := by decide +kernel
theorem dX12_init_128 : decode cX12_init 128 = .ok (.bipush 64, 2) := by decide +kernel
theorem dX12_init_130 : decode cX12_init 130 = .ok (.newarray .long, 2) := by decide +kernel
theorem dX12_init_132 : decode cX12_init 132 = .ok (.putfield 58, 3) := by decide +kernel
theorem dX12_init_135 : decode cX12_init 135 = .ok (.aload_n 0, 1) := by decide +kernel
theorem dX12_init_136 : decode cX12_init 136 = .ok (.bipush 37, 2) := by decide +kernel
theorem dX12_init_138 : decode cX12_init 138 = .ok (.newarray .long, 2) := by decide +kernel
theorem dX12_init_140 : decode cX12_init 140 = .ok (.putfield 61, 3) := by decide +kernel
theorem dX12_init_143 : decode cX12_init 143 = .ok (.aload_n 0, 1) := by decide +kernel
theorem dX12_init_144 : decode cX12_init 144 = .ok (.bipush 37, 2) := by decide +kernel
theorem dX12_init_146 : decode cX12_init 146 = .ok (.newarray .int, 2) := by decide +kernel
theorem dX12_init_148 : decode cX12_init 148 = .ok (.putfield 64, 3) := by decide +kernel
theorem dX12_init_151 : decode cX12_init 151 = .ok (.aload_n 0, 1) := by decide +kernel
theorem dX12_init_152 : decode cX12_init 152 = .ok (.bipush 12, 2) := by decide +kernel
theorem dX12_init_154 : decode cX12_init 154 = .ok (.newarray .int, 2) := by decide +kernel
theorem dX12_init_156 : decode cX12_init 156 = .ok (.putfield 67, 3) := by decide +kernel
theorem dX12_init_159 : decode cX12_init 159 = .ok (.aload_n 0, 1) := by decide +kernel
theorem dX12_init_160 : decode cX12_init 160 = .ok (.bipush 12, 2) := by decide +kernel
theorem dX12_init_162 : decode cX12_init 162 = .ok (.newarray .int, 2) := by decide +kernel
theorem dX12_init_164 : decode cX12_init 164 = .ok (.putfield 70, 3) := by decide +kernel
theorem dX12_init_167 : decode cX12_init 167 = .ok (.aload_n 0, 1) := by decide +kernel
theorem dX12_init_168 : decode cX12_init 168 = .ok (.sipush 144, 3) := by decide +kernel
theorem dX12_init_171 : decode cX12_init 171 = .ok (.newarray .int, 2) := by decide +kernel
theorem dX12_init_173 : decode cX12_init 173 = .ok (.putfield 73, 3) := by decide +kernel
theorem dX12_init_176 : decode cX12_init 176 = .ok (.aload_n 0, 1) := by decide +kernel
theorem dX12_init_177 : decode cX12_init 177 = .ok (.sipush 4096, 3) := by decide +kernel
theorem dX12_init_180 : decode cX12_init 180 = .ok (.newarray .long, 2) := by decide +kernel
theorem dX12_init_182 : decode cX12_init 182 = .ok (.putfield 76, 3) := by decide +kernel
theorem dX12_init_185 : decode cX12_init 185 = .ok (.aload_n 0, 1) := by decide +kernel
theorem dX12_init_186 : decode cX12_init 186 = .ok (.invokevirtual 79, 3) := by decide +kernel
theorem dX12_init_189 : decode cX12_init 189 = .ok (.return_, 1) := by decide +kernel
theorem dX12_in_0 : decode cX12_in 0 = .ok (.iload_n 0, 1) := by decide +kernel
theorem dX12_in_1 : decode cX12_in 1 = .ok (.iload_n 1, 1) := by decide +kernel
theorem dX12_in_2 : decode cX12_in 2 = .ok (.if_icmp .lt 12, 3) := by decide +kernel
theorem dX12_in_5 : decode cX12_in 5 = .ok (.iload_n 0, 1) := by decide +kernel
theorem dX12_in_6 : decode cX12_in 6 = .ok (.iload_n 2, 1) := by decide +kernel
theorem dX12_in_7 : decode cX12_in 7 = .ok (.if_icmp .gt 7, 3) := by decide +kernel
theorem dX12_in_10 : decode cX12_in 10 = .ok (.iconst 1, 1) := by decide +kernel
theorem dX12_in_11 : decode cX12_in 11 = .ok (.goto 4, 3) := by decide +kernel
theorem dX12_in_14 : decode cX12_in 14 = .ok (.iconst 0, 1) := by decide +kernel
theorem dX12_in_15 : decode cX12_in 15 = .ok (.ireturn, 1) := by decide +kernel
theorem dX12_has_0 : decode cX12_has 0 = .ok (.lload_n 0, 1) := by decide +kernel
theorem dX12_has_1 : decode cX12_has 1 = .ok (.iload_n 2, 1) := by decide +kernel
theorem dX12_has_2 : decode cX12_has 2 = .ok (.lshr, 1) := by decide +kernel
theorem dX12_has_3 : decode cX12_has 3 = .ok (.lconst 1, 1) := by decide +kernel
theorem dX12_has_4 : decode cX12_has 4 = .ok (.land, 1) := by decide +kernel
theorem dX12_has_5 : decode cX12_has 5 = .ok (.lconst 1, 1) := by decide +kernel
theorem dX12_has_6 : decode cX12_has 6 = .ok (.lcmp, 1) := by decide +kernel
theorem dX12_has_7 : decode cX12_has 7 = .ok (.ifCond .ne 7, 3) := by decide +kernel
theorem dX12_has_10 : decode cX12_has 10 = .ok (.iconst 1, 1) := by decide +kernel
theorem dX12_has_11 : decode cX12_has 11 = .ok (.goto 4, 3) := by decide +kernel
theorem dX12_has_14 : decode cX12_has 14 = .ok (.iconst 0, 1) := by decide +kernel
theorem dX12_has_15 : decode cX12_has 15 = .ok (.ireturn, 1) := by decide +kernel
theorem dX12_bits_0 : decode cX12_bits 0 = .ok (.iconst 0, 1) := by decide +kernel
theorem dX12_bits_1 : decode cX12_bits 1 = .ok (.istore_n 2, 1) := by decide +kernel
theorem dX12_bits_2 : decode cX12_bits 2 = .ok (.lload_n 0, 1) := by decide +kernel
theorem dX12_bits_3 : decode cX12_bits 3 = .ok (.lstore_n 3, 1) := by decide +kernel
theorem dX12_bits_4 : decode cX12_bits 4 = .ok (.lload_n 3, 1) := by decide +kernel
theorem dX12_bits_5 : decode cX12_bits 5 = .ok (.lconst 0, 1) := by decide +kernel
theorem dX12_bits_6 : decode cX12_bits 6 = .ok (.lcmp, 1) := by decide +kernel
theorem dX12_bits_7 : decode cX12_bits 7 = .ok (.ifCond .eq 16, 3) := by decide +kernel
theorem dX12_bits_10 : decode cX12_bits 10 = .ok (.iload_n 2, 1) := by decide +kernel
theorem dX12_bits_11 : decode cX12_bits 11 = .ok (.iconst 1, 1) := by decide +kernel
theorem dX12_bits_12 : decode cX12_bits 12 = .ok (.iadd, 1) := by decide +kernel
theorem dX12_bits_13 : decode cX12_bits 13 = .ok (.istore_n 2, 1) := by decide +kernel
theorem dX12_bits_14 : decode cX12_bits 14 = .ok (.lload_n 3, 1) := by decide +kernel
theorem dX12_bits_15 : decode cX12_bits 15 = .ok (.lload_n 3, 1) := by decide +kernel
theorem dX12_bits_16 : decode cX12_bits 16 = .ok (.lconst 1, 1) := by decide +kernel
theorem dX12_bits_17 : decode cX12_bits 17 = .ok (.lsub, 1) := by decide +kernel
theorem dX12_bits_18 : decode cX12_bits 18 = .ok (.land, 1) := by decide +kernel
theorem dX12_bits_19 : decode cX12_bits 19 = .ok (.lstore_n 3, 1) := by decide +kernel
theorem dX12_bits_20 : decode cX12_bits 20 = .ok (.goto (-16), 3) := by decide +kernel
theorem dX12_bits_23 : decode cX12_bits 23 = .ok (.iload_n 2, 1) := by decide +kernel
theorem dX12_bits_24 : decode cX12_bits 24 = .ok (.ireturn, 1) := by decide +kernel
theorem dX12_lowest_0 : decode cX12_lowest 0 = .ok (.iconst 0, 1) := by decide +kernel
theorem dX12_lowest_1 : decode cX12_lowest 1 = .ok (.istore_n 2, 1) := by decide +kernel
theorem dX12_lowest_2 : decode cX12_lowest 2 = .ok (.lload_n 0, 1) := by decide +kernel
theorem dX12_lowest_3 : decode cX12_lowest 3 = .ok (.iload_n 2, 1) := by decide +kernel
theorem dX12_lowest_4 : decode cX12_lowest 4 = .ok (.lshr, 1) := by decide +kernel
theorem dX12_lowest_5 : decode cX12_lowest 5 = .ok (.lconst 1, 1) := by decide +kernel
theorem dX12_lowest_6 : decode cX12_lowest 6 = .ok (.land, 1) := by decide +kernel
theorem dX12_lowest_7 : decode cX12_lowest 7 = .ok (.lconst 0, 1) := by decide +kernel
theorem dX12_lowest_8 : decode cX12_lowest 8 = .ok (.lcmp, 1) := by decide +kernel
theorem dX12_lowest_9 : decode cX12_lowest 9 = .ok (.ifCond .ne 10, 3) := by decide +kernel
theorem dX12_lowest_12 : decode cX12_lowest 12 = .ok (.iload_n 2, 1) := by decide +kernel
theorem dX12_lowest_13 : decode cX12_lowest 13 = .ok (.iconst 1, 1) := by decide +kernel
theorem dX12_lowest_14 : decode cX12_lowest 14 = .ok (.iadd, 1) := by decide +kernel
theorem dX12_lowest_15 : decode cX12_lowest 15 = .ok (.istore_n 2, 1) := by decide +kernel
theorem dX12_lowest_16 : decode cX12_lowest 16 = .ok (.goto (-14), 3) := by decide +kernel
theorem dX12_lowest_19 : decode cX12_lowest 19 = .ok (.iload_n 2, 1) := by decide +kernel
theorem dX12_lowest_20 : decode cX12_lowest 20 = .ok (.ireturn, 1) := by decide +kernel
theorem dX12_cellBit_0 : decode cX12_cellBit 0 = .ok (.lconst 1, 1) := by decide +kernel
theorem dX12_cellBit_1 : decode cX12_cellBit 1 = .ok (.bipush 8, 2) := by decide +kernel
theorem dX12_cellBit_3 : decode cX12_cellBit 3 = .ok (.iload_n 1, 1) := by decide +kernel
theorem dX12_cellBit_4 : decode cX12_cellBit 4 = .ok (.imul, 1) := by decide +kernel
theorem dX12_cellBit_5 : decode cX12_cellBit 5 = .ok (.iload_n 0, 1) := by decide +kernel
theorem dX12_cellBit_6 : decode cX12_cellBit 6 = .ok (.iadd, 1) := by decide +kernel
theorem dX12_cellBit_7 : decode cX12_cellBit 7 = .ok (.lshl, 1) := by decide +kernel
theorem dX12_cellBit_8 : decode cX12_cellBit 8 = .ok (.lreturn, 1) := by decide +kernel
theorem dX12_isCell_0 : decode cX12_isCell 0 = .ok (.iload_n 2, 1) := by decide +kernel
theorem dX12_isCell_1 : decode cX12_isCell 1 = .ok (.iconst 0, 1) := by decide +kernel
theorem dX12_isCell_2 : decode cX12_isCell 2 = .ok (.bipush 7, 2) := by decide +kernel
theorem dX12_isCell_4 : decode cX12_isCell 4 = .ok (.invokestatic 82, 3) := by decide +kernel
theorem dX12_isCell_7 : decode cX12_isCell 7 = .ok (.ifCond .eq 30, 3) := by decide +kernel
theorem dX12_isCell_10 : decode cX12_isCell 10 = .ok (.iload_n 3, 1) := by decide +kernel
theorem dX12_isCell_11 : decode cX12_isCell 11 = .ok (.iconst 0, 1) := by decide +kernel
theorem dX12_isCell_12 : decode cX12_isCell 12 = .ok (.bipush 7, 2) := by decide +kernel
theorem dX12_isCell_14 : decode cX12_isCell 14 = .ok (.invokestatic 82, 3) := by decide +kernel
theorem dX12_isCell_17 : decode cX12_isCell 17 = .ok (.ifCond .eq 20, 3) := by decide +kernel
theorem dX12_isCell_20 : decode cX12_isCell 20 = .ok (.lload_n 0, 1) := by decide +kernel
theorem dX12_isCell_21 : decode cX12_isCell 21 = .ok (.bipush 8, 2) := by decide +kernel
theorem dX12_isCell_23 : decode cX12_isCell 23 = .ok (.iload_n 3, 1) := by decide +kernel
theorem dX12_isCell_24 : decode cX12_isCell 24 = .ok (.imul, 1) := by decide +kernel
theorem dX12_isCell_25 : decode cX12_isCell 25 = .ok (.iload_n 2, 1) := by decide +kernel
theorem dX12_isCell_26 : decode cX12_isCell 26 = .ok (.iadd, 1) := by decide +kernel
theorem dX12_isCell_27 : decode cX12_isCell 27 = .ok (.invokestatic 86, 3) := by decide +kernel
theorem dX12_isCell_30 : decode cX12_isCell 30 = .ok (.ifCond .eq 7, 3) := by decide +kernel
theorem dX12_isCell_33 : decode cX12_isCell 33 = .ok (.iconst 1, 1) := by decide +kernel
theorem dX12_isCell_34 : decode cX12_isCell 34 = .ok (.goto 4, 3) := by decide +kernel
theorem dX12_isCell_37 : decode cX12_isCell 37 = .ok (.iconst 0, 1) := by decide +kernel
theorem dX12_isCell_38 : decode cX12_isCell 38 = .ok (.ireturn, 1) := by decide +kernel
theorem dX12_moved_0 : decode cX12_moved 0 = .ok (.lload_n 0, 1) := by decide +kernel
theorem dX12_moved_1 : decode cX12_moved 1 = .ok (.lstore_n 2, 1) := by decide +kernel
theorem dX12_moved_2 : decode cX12_moved 2 = .ok (.lload_n 2, 1) := by decide +kernel
theorem dX12_moved_3 : decode cX12_moved 3 = .ok (.ldc2_w 90, 3) := by decide +kernel
theorem dX12_moved_6 : decode cX12_moved 6 = .ok (.land, 1) := by decide +kernel
theorem dX12_moved_7 : decode cX12_moved 7 = .ok (.lconst 0, 1) := by decide +kernel
theorem dX12_moved_8 : decode cX12_moved 8 = .ok (.lcmp, 1) := by decide +kernel
theorem dX12_moved_9 : decode cX12_moved 9 = .ok (.ifCond .ne 11, 3) := by decide +kernel
theorem dX12_moved_12 : decode cX12_moved 12 = .ok (.lload_n 2, 1) := by decide +kernel
theorem dX12_moved_13 : decode cX12_moved 13 = .ok (.bipush 8, 2) := by decide +kernel
theorem dX12_moved_15 : decode cX12_moved 15 = .ok (.lushr, 1) := by decide +kernel
theorem dX12_moved_16 : decode cX12_moved 16 = .ok (.lstore_n 2, 1) := by decide +kernel
theorem dX12_moved_17 : decode cX12_moved 17 = .ok (.goto (-15), 3) := by decide +kernel
theorem dX12_moved_20 : decode cX12_moved 20 = .ok (.lload_n 2, 1) := by decide +kernel
theorem dX12_moved_21 : decode cX12_moved 21 = .ok (.ldc2_w 92, 3) := by decide +kernel
theorem dX12_moved_24 : decode cX12_moved 24 = .ok (.land, 1) := by decide +kernel
theorem dX12_moved_25 : decode cX12_moved 25 = .ok (.lconst 0, 1) := by decide +kernel
theorem dX12_moved_26 : decode cX12_moved 26 = .ok (.lcmp, 1) := by decide +kernel
theorem dX12_moved_27 : decode cX12_moved 27 = .ok (.ifCond .ne 10, 3) := by decide +kernel
theorem dX12_moved_30 : decode cX12_moved 30 = .ok (.lload_n 2, 1) := by decide +kernel
theorem dX12_moved_31 : decode cX12_moved 31 = .ok (.iconst 1, 1) := by decide +kernel
theorem dX12_moved_32 : decode cX12_moved 32 = .ok (.lushr, 1) := by decide +kernel
theorem dX12_moved_33 : decode cX12_moved 33 = .ok (.lstore_n 2, 1) := by decide +kernel
theorem dX12_moved_34 : decode cX12_moved 34 = .ok (.goto (-14), 3) := by decide +kernel
theorem dX12_moved_37 : decode cX12_moved 37 = .ok (.lload_n 2, 1) := by decide +kernel
theorem dX12_moved_38 : decode cX12_moved 38 = .ok (.lreturn, 1) := by decide +kernel
theorem dX12_around_0 : decode cX12_around 0 = .ok (.lload_n 0, 1) := by decide +kernel
theorem dX12_around_1 : decode cX12_around 1 = .ok (.iconst 1, 1) := by decide +kernel
theorem dX12_around_2 : decode cX12_around 2 = .ok (.lushr, 1) := by decide +kernel
theorem dX12_around_3 : decode cX12_around 3 = .ok (.ldc2_w 94, 3) := by decide +kernel
theorem dX12_around_6 : decode cX12_around 6 = .ok (.land, 1) := by decide +kernel
theorem dX12_around_7 : decode cX12_around 7 = .ok (.lstore_n 2, 1) := by decide +kernel
theorem dX12_around_8 : decode cX12_around 8 = .ok (.lload_n 0, 1) := by decide +kernel
theorem dX12_around_9 : decode cX12_around 9 = .ok (.iconst 1, 1) := by decide +kernel
theorem dX12_around_10 : decode cX12_around 10 = .ok (.lshl, 1) := by decide +kernel
theorem dX12_around_11 : decode cX12_around 11 = .ok (.ldc2_w 96, 3) := by decide +kernel
theorem dX12_around_14 : decode cX12_around 14 = .ok (.land, 1) := by decide +kernel
theorem dX12_around_15 : decode cX12_around 15 = .ok (.lstore 4, 2) := by decide +kernel
theorem dX12_around_17 : decode cX12_around 17 = .ok (.lload_n 2, 1) := by decide +kernel
theorem dX12_around_18 : decode cX12_around 18 = .ok (.lload 4, 2) := by decide +kernel
theorem dX12_around_20 : decode cX12_around 20 = .ok (.lor, 1) := by decide +kernel
theorem dX12_around_21 : decode cX12_around 21 = .ok (.lload_n 0, 1) := by decide +kernel
theorem dX12_around_22 : decode cX12_around 22 = .ok (.bipush 8, 2) := by decide +kernel
theorem dX12_around_24 : decode cX12_around 24 = .ok (.lushr, 1) := by decide +kernel
theorem dX12_around_25 : decode cX12_around 25 = .ok (.lor, 1) := by decide +kernel
theorem dX12_around_26 : decode cX12_around 26 = .ok (.lload_n 0, 1) := by decide +kernel
theorem dX12_around_27 : decode cX12_around 27 = .ok (.bipush 8, 2) := by decide +kernel
theorem dX12_around_29 : decode cX12_around 29 = .ok (.lshl, 1) := by decide +kernel
theorem dX12_around_30 : decode cX12_around 30 = .ok (.lor, 1) := by decide +kernel
theorem dX12_around_31 : decode cX12_around 31 = .ok (.lload_n 0, 1) := by decide +kernel
theorem dX12_around_32 : decode cX12_around 32 = .ok (.ldc2_w 98, 3) := by decide +kernel
theorem dX12_around_35 : decode cX12_around 35 = .ok (.lxor, 1) := by decide +kernel
theorem dX12_around_36 : decode cX12_around 36 = .ok (.land, 1) := by decide +kernel
theorem dX12_around_37 : decode cX12_around 37 = .ok (.lreturn, 1) := by decide +kernel
theorem dX12_hangs_0 : decode cX12_hangs 0 = .ok (.lload_n 0, 1) := by decide +kernel
theorem dX12_hangs_1 : decode cX12_hangs 1 = .ok (.lconst 0, 1) := by decide +kernel
theorem dX12_hangs_2 : decode cX12_hangs 2 = .ok (.lcmp, 1) := by decide +kernel
theorem dX12_hangs_3 : decode cX12_hangs 3 = .ok (.ifCond .ne 5, 3) := by decide +kernel
theorem dX12_hangs_6 : decode cX12_hangs 6 = .ok (.iconst 0, 1) := by decide +kernel
theorem dX12_hangs_7 : decode cX12_hangs 7 = .ok (.ireturn, 1) := by decide +kernel
theorem dX12_hangs_8 : decode cX12_hangs 8 = .ok (.lload_n 0, 1) := by decide +kernel
theorem dX12_hangs_9 : decode cX12_hangs 9 = .ok (.lload_n 0, 1) := by decide +kernel
theorem dX12_hangs_10 : decode cX12_hangs 10 = .ok (.lneg, 1) := by decide +kernel
theorem dX12_hangs_11 : decode cX12_hangs 11 = .ok (.land, 1) := by decide +kernel
theorem dX12_hangs_12 : decode cX12_hangs 12 = .ok (.lstore_n 2, 1) := by decide +kernel
theorem dX12_hangs_13 : decode cX12_hangs 13 = .ok (.lload_n 2, 1) := by decide +kernel
theorem dX12_hangs_14 : decode cX12_hangs 14 = .ok (.lload_n 2, 1) := by decide +kernel
theorem dX12_hangs_15 : decode cX12_hangs 15 = .ok (.invokestatic 100, 3) := by decide +kernel
theorem dX12_hangs_18 : decode cX12_hangs 18 = .ok (.lload_n 0, 1) := by decide +kernel
theorem dX12_hangs_19 : decode cX12_hangs 19 = .ok (.land, 1) := by decide +kernel
theorem dX12_hangs_20 : decode cX12_hangs 20 = .ok (.lor, 1) := by decide +kernel
theorem dX12_hangs_21 : decode cX12_hangs 21 = .ok (.lstore 4, 2) := by decide +kernel
theorem dX12_hangs_23 : decode cX12_hangs 23 = .ok (.lload 4, 2) := by decide +kernel
theorem dX12_hangs_25 : decode cX12_hangs 25 = .ok (.lload_n 2, 1) := by decide +kernel
theorem dX12_hangs_26 : decode cX12_hangs 26 = .ok (.lcmp, 1) := by decide +kernel
theorem dX12_hangs_27 : decode cX12_hangs 27 = .ok (.ifCond .eq 19, 3) := by decide +kernel
theorem dX12_hangs_30 : decode cX12_hangs 30 = .ok (.lload 4, 2) := by decide +kernel
theorem dX12_hangs_32 : decode cX12_hangs 32 = .ok (.lstore_n 2, 1) := by decide +kernel
theorem dX12_hangs_33 : decode cX12_hangs 33 = .ok (.lload_n 2, 1) := by decide +kernel
theorem dX12_hangs_34 : decode cX12_hangs 34 = .ok (.lload_n 2, 1) := by decide +kernel
theorem dX12_hangs_35 : decode cX12_hangs 35 = .ok (.invokestatic 100, 3) := by decide +kernel
theorem dX12_hangs_38 : decode cX12_hangs 38 = .ok (.lload_n 0, 1) := by decide +kernel
theorem dX12_hangs_39 : decode cX12_hangs 39 = .ok (.land, 1) := by decide +kernel
theorem dX12_hangs_40 : decode cX12_hangs 40 = .ok (.lor, 1) := by decide +kernel
theorem dX12_hangs_41 : decode cX12_hangs 41 = .ok (.lstore 4, 2) := by decide +kernel
theorem dX12_hangs_43 : decode cX12_hangs 43 = .ok (.goto (-20), 3) := by decide +kernel
theorem dX12_hangs_46 : decode cX12_hangs 46 = .ok (.lload_n 2, 1) := by decide +kernel
theorem dX12_hangs_47 : decode cX12_hangs 47 = .ok (.lload_n 0, 1) := by decide +kernel
theorem dX12_hangs_48 : decode cX12_hangs 48 = .ok (.lcmp, 1) := by decide +kernel
theorem dX12_hangs_49 : decode cX12_hangs 49 = .ok (.ifCond .ne 7, 3) := by decide +kernel
theorem dX12_hangs_52 : decode cX12_hangs 52 = .ok (.iconst 1, 1) := by decide +kernel
theorem dX12_hangs_53 : decode cX12_hangs 53 = .ok (.goto 4, 3) := by decide +kernel
theorem dX12_hangs_56 : decode cX12_hangs 56 = .ok (.iconst 0, 1) := by decide +kernel
theorem dX12_hangs_57 : decode cX12_hangs 57 = .ok (.ireturn, 1) := by decide +kernel
theorem dX12_isFigure_0 : decode cX12_isFigure 0 = .ok (.lload_n 0, 1) := by decide +kernel
theorem dX12_isFigure_1 : decode cX12_isFigure 1 = .ok (.ldc2_w 104, 3) := by decide +kernel
theorem dX12_isFigure_4 : decode cX12_isFigure 4 = .ok (.land, 1) := by decide +kernel
theorem dX12_isFigure_5 : decode cX12_isFigure 5 = .ok (.lconst 0, 1) := by decide +kernel
theorem dX12_isFigure_6 : decode cX12_isFigure 6 = .ok (.lcmp, 1) := by decide +kernel
theorem dX12_isFigure_7 : decode cX12_isFigure 7 = .ok (.ifCond .ne 36, 3) := by decide +kernel
theorem dX12_isFigure_10 : decode cX12_isFigure 10 = .ok (.lload_n 0, 1) := by decide +kernel
theorem dX12_isFigure_11 : decode cX12_isFigure 11 = .ok (.invokestatic 106, 3) := by decide +kernel
theorem dX12_isFigure_14 : decode cX12_isFigure 14 = .ok (.iconst 1, 1) := by decide +kernel
theorem dX12_isFigure_15 : decode cX12_isFigure 15 = .ok (.bipush 12, 2) := by decide +kernel
theorem dX12_isFigure_17 : decode cX12_isFigure 17 = .ok (.invokestatic 82, 3) := by decide +kernel
theorem dX12_isFigure_20 : decode cX12_isFigure 20 = .ok (.ifCond .eq 23, 3) := by decide +kernel
theorem dX12_isFigure_23 : decode cX12_isFigure 23 = .ok (.lload_n 0, 1) := by decide +kernel
theorem dX12_isFigure_24 : decode cX12_isFigure 24 = .ok (.invokestatic 110, 3) := by decide +kernel
theorem dX12_isFigure_27 : decode cX12_isFigure 27 = .ok (.ifCond .eq 16, 3) := by decide +kernel
theorem dX12_isFigure_30 : decode cX12_isFigure 30 = .ok (.lload_n 0, 1) := by decide +kernel
theorem dX12_isFigure_31 : decode cX12_isFigure 31 = .ok (.invokestatic 114, 3) := by decide +kernel
theorem dX12_isFigure_34 : decode cX12_isFigure 34 = .ok (.lload_n 0, 1) := by decide +kernel
theorem dX12_isFigure_35 : decode cX12_isFigure 35 = .ok (.lcmp, 1) := by decide +kernel
theorem dX12_isFigure_36 : decode cX12_isFigure 36 = .ok (.ifCond .ne 7, 3) := by decide +kernel
theorem dX12_isFigure_39 : decode cX12_isFigure 39 = .ok (.iconst 1, 1) := by decide +kernel
theorem dX12_isFigure_40 : decode cX12_isFigure 40 = .ok (.goto 4, 3) := by decide +kernel
theorem dX12_isFigure_43 : decode cX12_isFigure 43 = .ok (.iconst 0, 1) := by decide +kernel
theorem dX12_isFigure_44 : decode cX12_isFigure 44 = .ok (.ireturn, 1) := by decide +kernel
theorem dX12_wide_0 : decode cX12_wide 0 = .ok (.iconst 0, 1) := by decide +kernel
theorem dX12_wide_1 : decode cX12_wide 1 = .ok (.istore_n 2, 1) := by decide +kernel
theorem dX12_wide_2 : decode cX12_wide 2 = .ok (.iconst 0, 1) := by decide +kernel
theorem dX12_wide_3 : decode cX12_wide 3 = .ok (.istore_n 3, 1) := by decide +kernel
theorem dX12_wide_4 : decode cX12_wide 4 = .ok (.iload_n 3, 1) := by decide +kernel
theorem dX12_wide_5 : decode cX12_wide 5 = .ok (.bipush 8, 2) := by decide +kernel
theorem dX12_wide_7 : decode cX12_wide 7 = .ok (.if_icmp .ge 25, 3) := by decide +kernel
theorem dX12_wide_10 : decode cX12_wide 10 = .ok (.lload_n 0, 1) := by decide +kernel
theorem dX12_wide_11 : decode cX12_wide 11 = .ok (.ldc2_w 92, 3) := by decide +kernel
theorem dX12_wide_14 : decode cX12_wide 14 = .ok (.iload_n 3, 1) := by decide +kernel
theorem dX12_wide_15 : decode cX12_wide 15 = .ok (.lshl, 1) := by decide +kernel
theorem dX12_wide_16 : decode cX12_wide 16 = .ok (.land, 1) := by decide +kernel
theorem dX12_wide_17 : decode cX12_wide 17 = .ok (.lconst 0, 1) := by decide +kernel
theorem dX12_wide_18 : decode cX12_wide 18 = .ok (.lcmp, 1) := by decide +kernel
theorem dX12_wide_19 : decode cX12_wide 19 = .ok (.ifCond .eq 7, 3) := by decide +kernel
theorem dX12_wide_22 : decode cX12_wide 22 = .ok (.iload_n 3, 1) := by decide +kernel
theorem dX12_wide_23 : decode cX12_wide 23 = .ok (.iconst 1, 1) := by decide +kernel
theorem dX12_wide_24 : decode cX12_wide 24 = .ok (.iadd, 1) := by decide +kernel
theorem dX12_wide_25 : decode cX12_wide 25 = .ok (.istore_n 2, 1) := by decide +kernel
theorem dX12_wide_26 : decode cX12_wide 26 = .ok (.iinc 3 1, 3) := by decide +kernel
theorem dX12_wide_29 : decode cX12_wide 29 = .ok (.goto (-25), 3) := by decide +kernel
theorem dX12_wide_32 : decode cX12_wide 32 = .ok (.iload_n 2, 1) := by decide +kernel
theorem dX12_wide_33 : decode cX12_wide 33 = .ok (.ireturn, 1) := by decide +kernel
theorem dX12_high_0 : decode cX12_high 0 = .ok (.iconst 0, 1) := by decide +kernel
theorem dX12_high_1 : decode cX12_high 1 = .ok (.istore_n 2, 1) := by decide +kernel
theorem dX12_high_2 : decode cX12_high 2 = .ok (.iconst 0, 1) := by decide +kernel
theorem dX12_high_3 : decode cX12_high 3 = .ok (.istore_n 3, 1) := by decide +kernel
theorem dX12_high_4 : decode cX12_high 4 = .ok (.iload_n 3, 1) := by decide +kernel
theorem dX12_high_5 : decode cX12_high 5 = .ok (.bipush 8, 2) := by decide +kernel
theorem dX12_high_7 : decode cX12_high 7 = .ok (.if_icmp .ge 28, 3) := by decide +kernel
theorem dX12_high_10 : decode cX12_high 10 = .ok (.lload_n 0, 1) := by decide +kernel
theorem dX12_high_11 : decode cX12_high 11 = .ok (.bipush 8, 2) := by decide +kernel
theorem dX12_high_13 : decode cX12_high 13 = .ok (.iload_n 3, 1) := by decide +kernel
theorem dX12_high_14 : decode cX12_high 14 = .ok (.imul, 1) := by decide +kernel
theorem dX12_high_15 : decode cX12_high 15 = .ok (.lshr, 1) := by decide +kernel
theorem dX12_high_16 : decode cX12_high 16 = .ok (.ldc2_w 90, 3) := by decide +kernel
theorem dX12_high_19 : decode cX12_high 19 = .ok (.land, 1) := by decide +kernel
theorem dX12_high_20 : decode cX12_high 20 = .ok (.lconst 0, 1) := by decide +kernel
theorem dX12_high_21 : decode cX12_high 21 = .ok (.lcmp, 1) := by decide +kernel
theorem dX12_high_22 : decode cX12_high 22 = .ok (.ifCond .eq 7, 3) := by decide +kernel
theorem dX12_high_25 : decode cX12_high 25 = .ok (.iload_n 3, 1) := by decide +kernel
theorem dX12_high_26 : decode cX12_high 26 = .ok (.iconst 1, 1) := by decide +kernel
theorem dX12_high_27 : decode cX12_high 27 = .ok (.iadd, 1) := by decide +kernel
theorem dX12_high_28 : decode cX12_high 28 = .ok (.istore_n 2, 1) := by decide +kernel
theorem dX12_high_29 : decode cX12_high 29 = .ok (.iinc 3 1, 3) := by decide +kernel
theorem dX12_high_32 : decode cX12_high 32 = .ok (.goto (-28), 3) := by decide +kernel
theorem dX12_high_35 : decode cX12_high 35 = .ok (.iload_n 2, 1) := by decide +kernel
theorem dX12_high_36 : decode cX12_high 36 = .ok (.ireturn, 1) := by decide +kernel
theorem dX12_quarter_0 : decode cX12_quarter 0 = .ok (.lconst 0, 1) := by decide +kernel
theorem dX12_quarter_1 : decode cX12_quarter 1 = .ok (.lstore_n 2, 1) := by decide +kernel
theorem dX12_quarter_2 : decode cX12_quarter 2 = .ok (.iconst 0, 1) := by decide +kernel
theorem dX12_quarter_3 : decode cX12_quarter 3 = .ok (.istore 4, 2) := by decide +kernel
theorem dX12_quarter_5 : decode cX12_quarter 5 = .ok (.iload 4, 2) := by decide +kernel
theorem dX12_quarter_7 : decode cX12_quarter 7 = .ok (.bipush 7, 2) := by decide +kernel
theorem dX12_quarter_9 : decode cX12_quarter 9 = .ok (.if_icmp .ge 53, 3) := by decide +kernel
theorem dX12_quarter_12 : decode cX12_quarter 12 = .ok (.iconst 0, 1) := by decide +kernel
theorem dX12_quarter_13 : decode cX12_quarter 13 = .ok (.istore 5, 2) := by decide +kernel
theorem dX12_quarter_15 : decode cX12_quarter 15 = .ok (.iload 5, 2) := by decide +kernel
theorem dX12_quarter_17 : decode cX12_quarter 17 = .ok (.bipush 7, 2) := by decide +kernel
theorem dX12_quarter_19 : decode cX12_quarter 19 = .ok (.if_icmp .ge 37, 3) := by decide +kernel
theorem dX12_quarter_22 : decode cX12_quarter 22 = .ok (.lload_n 0, 1) := by decide +kernel
theorem dX12_quarter_23 : decode cX12_quarter 23 = .ok (.bipush 8, 2) := by decide +kernel
theorem dX12_quarter_25 : decode cX12_quarter 25 = .ok (.iload 4, 2) := by decide +kernel
theorem dX12_quarter_27 : decode cX12_quarter 27 = .ok (.imul, 1) := by decide +kernel
theorem dX12_quarter_28 : decode cX12_quarter 28 = .ok (.iload 5, 2) := by decide +kernel
theorem dX12_quarter_30 : decode cX12_quarter 30 = .ok (.iadd, 1) := by decide +kernel
theorem dX12_quarter_31 : decode cX12_quarter 31 = .ok (.invokestatic 86, 3) := by decide +kernel
theorem dX12_quarter_34 : decode cX12_quarter 34 = .ok (.ifCond .eq 16, 3) := by decide +kernel
theorem dX12_quarter_37 : decode cX12_quarter 37 = .ok (.lload_n 2, 1) := by decide +kernel
theorem dX12_quarter_38 : decode cX12_quarter 38 = .ok (.bipush 6, 2) := by decide +kernel
theorem dX12_quarter_40 : decode cX12_quarter 40 = .ok (.iload 4, 2) := by decide +kernel
theorem dX12_quarter_42 : decode cX12_quarter 42 = .ok (.isub, 1) := by decide +kernel
theorem dX12_quarter_43 : decode cX12_quarter 43 = .ok (.iload 5, 2) := by decide +kernel
theorem dX12_quarter_45 : decode cX12_quarter 45 = .ok (.invokestatic 117, 3) := by decide +kernel
theorem dX12_quarter_48 : decode cX12_quarter 48 = .ok (.lor, 1) := by decide +kernel
theorem dX12_quarter_49 : decode cX12_quarter 49 = .ok (.lstore_n 2, 1) := by decide +kernel
theorem dX12_quarter_50 : decode cX12_quarter 50 = .ok (.iinc 5 1, 3) := by decide +kernel
theorem dX12_quarter_53 : decode cX12_quarter 53 = .ok (.goto (-38), 3) := by decide +kernel
theorem dX12_quarter_56 : decode cX12_quarter 56 = .ok (.iinc 4 1, 3) := by decide +kernel
theorem dX12_quarter_59 : decode cX12_quarter 59 = .ok (.goto (-54), 3) := by decide +kernel
theorem dX12_quarter_62 : decode cX12_quarter 62 = .ok (.lload_n 2, 1) := by decide +kernel
theorem dX12_quarter_63 : decode cX12_quarter 63 = .ok (.invokestatic 114, 3) := by decide +kernel
theorem dX12_quarter_66 : decode cX12_quarter 66 = .ok (.lreturn, 1) := by decide +kernel
theorem dX12_mirrored_0 : decode cX12_mirrored 0 = .ok (.lconst 0, 1) := by decide +kernel
theorem dX12_mirrored_1 : decode cX12_mirrored 1 = .ok (.lstore_n 2, 1) := by decide +kernel
theorem dX12_mirrored_2 : decode cX12_mirrored 2 = .ok (.iconst 0, 1) := by decide +kernel
theorem dX12_mirrored_3 : decode cX12_mirrored 3 = .ok (.istore 4, 2) := by decide +kernel
theorem dX12_mirrored_5 : decode cX12_mirrored 5 = .ok (.iload 4, 2) := by decide +kernel
theorem dX12_mirrored_7 : decode cX12_mirrored 7 = .ok (.bipush 7, 2) := by decide +kernel
theorem dX12_mirrored_9 : decode cX12_mirrored 9 = .ok (.if_icmp .ge 53, 3) := by decide +kernel
theorem dX12_mirrored_12 : decode cX12_mirrored 12 = .ok (.iconst 0, 1) := by decide +kernel
theorem dX12_mirrored_13 : decode cX12_mirrored 13 = .ok (.istore 5, 2) := by decide +kernel
theorem dX12_mirrored_15 : decode cX12_mirrored 15 = .ok (.iload 5, 2) := by decide +kernel
theorem dX12_mirrored_17 : decode cX12_mirrored 17 = .ok (.bipush 7, 2) := by decide +kernel
theorem dX12_mirrored_19 : decode cX12_mirrored 19 = .ok (.if_icmp .ge 37, 3) := by decide +kernel
theorem dX12_mirrored_22 : decode cX12_mirrored 22 = .ok (.lload_n 0, 1) := by decide +kernel
theorem dX12_mirrored_23 : decode cX12_mirrored 23 = .ok (.bipush 8, 2) := by decide +kernel
theorem dX12_mirrored_25 : decode cX12_mirrored 25 = .ok (.iload 4, 2) := by decide +kernel
theorem dX12_mirrored_27 : decode cX12_mirrored 27 = .ok (.imul, 1) := by decide +kernel
theorem dX12_mirrored_28 : decode cX12_mirrored 28 = .ok (.iload 5, 2) := by decide +kernel
theorem dX12_mirrored_30 : decode cX12_mirrored 30 = .ok (.iadd, 1) := by decide +kernel
theorem dX12_mirrored_31 : decode cX12_mirrored 31 = .ok (.invokestatic 86, 3) := by decide +kernel
theorem dX12_mirrored_34 : decode cX12_mirrored 34 = .ok (.ifCond .eq 16, 3) := by decide +kernel
theorem dX12_mirrored_37 : decode cX12_mirrored 37 = .ok (.lload_n 2, 1) := by decide +kernel
theorem dX12_mirrored_38 : decode cX12_mirrored 38 = .ok (.bipush 6, 2) := by decide +kernel
theorem dX12_mirrored_40 : decode cX12_mirrored 40 = .ok (.iload 5, 2) := by decide +kernel
theorem dX12_mirrored_42 : decode cX12_mirrored 42 = .ok (.isub, 1) := by decide +kernel
theorem dX12_mirrored_43 : decode cX12_mirrored 43 = .ok (.iload 4, 2) := by decide +kernel
theorem dX12_mirrored_45 : decode cX12_mirrored 45 = .ok (.invokestatic 117, 3) := by decide +kernel
theorem dX12_mirrored_48 : decode cX12_mirrored 48 = .ok (.lor, 1) := by decide +kernel
theorem dX12_mirrored_49 : decode cX12_mirrored 49 = .ok (.lstore_n 2, 1) := by decide +kernel
theorem dX12_mirrored_50 : decode cX12_mirrored 50 = .ok (.iinc 5 1, 3) := by decide +kernel
theorem dX12_mirrored_53 : decode cX12_mirrored 53 = .ok (.goto (-38), 3) := by decide +kernel
theorem dX12_mirrored_56 : decode cX12_mirrored 56 = .ok (.iinc 4 1, 3) := by decide +kernel
theorem dX12_mirrored_59 : decode cX12_mirrored 59 = .ok (.goto (-54), 3) := by decide +kernel
theorem dX12_mirrored_62 : decode cX12_mirrored 62 = .ok (.lload_n 2, 1) := by decide +kernel
theorem dX12_mirrored_63 : decode cX12_mirrored 63 = .ok (.invokestatic 114, 3) := by decide +kernel
theorem dX12_mirrored_66 : decode cX12_mirrored 66 = .ok (.lreturn, 1) := by decide +kernel
theorem dX12_turned_0 : decode cX12_turned 0 = .ok (.iload_n 2, 1) := by decide +kernel
theorem dX12_turned_1 : decode cX12_turned 1 = .ok (.iconst 3, 1) := by decide +kernel
theorem dX12_turned_2 : decode cX12_turned 2 = .ok (.if_icmp .le 10, 3) := by decide +kernel
theorem dX12_turned_5 : decode cX12_turned 5 = .ok (.lload_n 0, 1) := by decide +kernel
theorem dX12_turned_6 : decode cX12_turned 6 = .ok (.invokestatic 121, 3) := by decide +kernel
theorem dX12_turned_9 : decode cX12_turned 9 = .ok (.goto 4, 3) := by decide +kernel
theorem dX12_turned_12 : decode cX12_turned 12 = .ok (.lload_n 0, 1) := by decide +kernel
theorem dX12_turned_13 : decode cX12_turned 13 = .ok (.lstore_n 3, 1) := by decide +kernel
theorem dX12_turned_14 : decode cX12_turned 14 = .ok (.iconst 0, 1) := by decide +kernel
theorem dX12_turned_15 : decode cX12_turned 15 = .ok (.istore 5, 2) := by decide +kernel
theorem dX12_turned_17 : decode cX12_turned 17 = .ok (.iload 5, 2) := by decide +kernel
theorem dX12_turned_19 : decode cX12_turned 19 = .ok (.iload_n 2, 1) := by decide +kernel
theorem dX12_turned_20 : decode cX12_turned 20 = .ok (.iconst 4, 1) := by decide +kernel
theorem dX12_turned_21 : decode cX12_turned 21 = .ok (.irem, 1) := by decide +kernel
theorem dX12_turned_22 : decode cX12_turned 22 = .ok (.if_icmp .ge 14, 3) := by decide +kernel
theorem dX12_turned_25 : decode cX12_turned 25 = .ok (.lload_n 3, 1) := by decide +kernel
theorem dX12_turned_26 : decode cX12_turned 26 = .ok (.invokestatic 124, 3) := by decide +kernel
theorem dX12_turned_29 : decode cX12_turned 29 = .ok (.lstore_n 3, 1) := by decide +kernel
theorem dX12_turned_30 : decode cX12_turned 30 = .ok (.iinc 5 1, 3) := by decide +kernel
theorem dX12_turned_33 : decode cX12_turned 33 = .ok (.goto (-16), 3) := by decide +kernel
theorem dX12_turned_36 : decode cX12_turned 36 = .ok (.lload_n 3, 1) := by decide +kernel
theorem dX12_turned_37 : decode cX12_turned 37 = .ok (.lreturn, 1) := by decide +kernel
theorem dX12_ownOf_0 : decode cX12_ownOf 0 = .ok (.iload_n 2, 1) := by decide +kernel
theorem dX12_ownOf_1 : decode cX12_ownOf 1 = .ok (.ifCond .ne 5, 3) := by decide +kernel
theorem dX12_ownOf_4 : decode cX12_ownOf 4 = .ok (.lload_n 0, 1) := by decide +kernel
theorem dX12_ownOf_5 : decode cX12_ownOf 5 = .ok (.lreturn, 1) := by decide +kernel
theorem dX12_ownOf_6 : decode cX12_ownOf 6 = .ok (.lload_n 0, 1) := by decide +kernel
theorem dX12_ownOf_7 : decode cX12_ownOf 7 = .ok (.lstore_n 3, 1) := by decide +kernel
theorem dX12_ownOf_8 : decode cX12_ownOf 8 = .ok (.lload_n 0, 1) := by decide +kernel
theorem dX12_ownOf_9 : decode cX12_ownOf 9 = .ok (.lstore 5, 2) := by decide +kernel
theorem dX12_ownOf_11 : decode cX12_ownOf 11 = .ok (.iconst 0, 1) := by decide +kernel
theorem dX12_ownOf_12 : decode cX12_ownOf 12 = .ok (.istore 7, 2) := by decide +kernel
theorem dX12_ownOf_14 : decode cX12_ownOf 14 = .ok (.iload 7, 2) := by decide +kernel
theorem dX12_ownOf_16 : decode cX12_ownOf 16 = .ok (.iload_n 2, 1) := by decide +kernel
theorem dX12_ownOf_17 : decode cX12_ownOf 17 = .ok (.iconst 1, 1) := by decide +kernel
theorem dX12_ownOf_18 : decode cX12_ownOf 18 = .ok (.if_icmp .ne 7, 3) := by decide +kernel
theorem dX12_ownOf_21 : decode cX12_ownOf 21 = .ok (.iconst 4, 1) := by decide +kernel
theorem dX12_ownOf_22 : decode cX12_ownOf 22 = .ok (.goto 5, 3) := by decide +kernel
theorem dX12_ownOf_25 : decode cX12_ownOf 25 = .ok (.bipush 8, 2) := by decide +kernel
theorem dX12_ownOf_27 : decode cX12_ownOf 27 = .ok (.if_icmp .ge 43, 3) := by decide +kernel
theorem dX12_ownOf_30 : decode cX12_ownOf 30 = .ok (.iload 7, 2) := by decide +kernel
theorem dX12_ownOf_32 : decode cX12_ownOf 32 = .ok (.iconst 4, 1) := by decide +kernel
theorem dX12_ownOf_33 : decode cX12_ownOf 33 = .ok (.if_icmp .ne 10, 3) := by decide +kernel
theorem dX12_ownOf_36 : decode cX12_ownOf 36 = .ok (.lload 5, 2) := by decide +kernel
theorem dX12_ownOf_38 : decode cX12_ownOf 38 = .ok (.invokestatic 121, 3) := by decide +kernel
theorem dX12_ownOf_41 : decode cX12_ownOf 41 = .ok (.lstore 5, 2) := by decide +kernel
theorem dX12_ownOf_43 : decode cX12_ownOf 43 = .ok (.lload 5, 2) := by decide +kernel
theorem dX12_ownOf_45 : decode cX12_ownOf 45 = .ok (.lload_n 3, 1) := by decide +kernel
theorem dX12_ownOf_46 : decode cX12_ownOf 46 = .ok (.lcmp, 1) := by decide +kernel
theorem dX12_ownOf_47 : decode cX12_ownOf 47 = .ok (.ifCond .ge 8, 3) := by decide +kernel
theorem dX12_ownOf_50 : decode cX12_ownOf 50 = .ok (.lload 5, 2) := by decide +kernel
theorem dX12_ownOf_52 : decode cX12_ownOf 52 = .ok (.goto 4, 3) := by decide +kernel
theorem dX12_ownOf_55 : decode cX12_ownOf 55 = .ok (.lload_n 3, 1) := by decide +kernel
theorem dX12_ownOf_56 : decode cX12_ownOf 56 = .ok (.lstore_n 3, 1) := by decide +kernel
theorem dX12_ownOf_57 : decode cX12_ownOf 57 = .ok (.lload 5, 2) := by decide +kernel
theorem dX12_ownOf_59 : decode cX12_ownOf 59 = .ok (.invokestatic 124, 3) := by decide +kernel
theorem dX12_ownOf_62 : decode cX12_ownOf 62 = .ok (.lstore 5, 2) := by decide +kernel
theorem dX12_ownOf_64 : decode cX12_ownOf 64 = .ok (.iinc 7 1, 3) := by decide +kernel
theorem dX12_ownOf_67 : decode cX12_ownOf 67 = .ok (.goto (-53), 3) := by decide +kernel
theorem dX12_ownOf_70 : decode cX12_ownOf 70 = .ok (.lload_n 3, 1) := by decide +kernel
theorem dX12_ownOf_71 : decode cX12_ownOf 71 = .ok (.lreturn, 1) := by decide +kernel
theorem dX12_isDrawer_0 : decode cX12_isDrawer 0 = .ok (.iload_n 0, 1) := by decide +kernel
theorem dX12_isDrawer_1 : decode cX12_isDrawer 1 = .ok (.iconst 0, 1) := by decide +kernel
theorem dX12_isDrawer_2 : decode cX12_isDrawer 2 = .ok (.bipush 7, 2) := by decide +kernel
theorem dX12_isDrawer_4 : decode cX12_isDrawer 4 = .ok (.invokestatic 82, 3) := by decide +kernel
theorem dX12_isDrawer_7 : decode cX12_isDrawer 7 = .ok (.ireturn, 1) := by decide +kernel
theorem dX12_typed4_0 : decode cX12_typed4 0 = .ok (.iconst 3, 1) := by decide +kernel
theorem dX12_typed4_1 : decode cX12_typed4 1 = .ok (.istore_n 2, 1) := by decide +kernel
theorem dX12_typed4_2 : decode cX12_typed4 2 = .ok (.iload_n 2, 1) := by decide +kernel
theorem dX12_typed4_3 : decode cX12_typed4 3 = .ok (.ifCond .lt 35, 3) := by decide +kernel
theorem dX12_typed4_6 : decode cX12_typed4 6 = .ok (.aload_n 0, 1) := by decide +kernel
theorem dX12_typed4_7 : decode cX12_typed4 7 = .ok (.getfield 16, 3) := by decide +kernel
theorem dX12_typed4_10 : decode cX12_typed4 10 = .ok (.aload_n 0, 1) := by decide +kernel
theorem dX12_typed4_11 : decode cX12_typed4 11 = .ok (.getfield 127, 3) := by decide +kernel
theorem dX12_typed4_14 : decode cX12_typed4 14 = .ok (.iload_n 1, 1) := by decide +kernel
theorem dX12_typed4_15 : decode cX12_typed4 15 = .ok (.bipush 8, 2) := by decide +kernel
theorem dX12_typed4_17 : decode cX12_typed4 17 = .ok (.iload_n 2, 1) := by decide +kernel
theorem dX12_typed4_18 : decode cX12_typed4 18 = .ok (.imul, 1) := by decide +kernel
theorem dX12_typed4_19 : decode cX12_typed4 19 = .ok (.ishr, 1) := by decide +kernel
theorem dX12_typed4_20 : decode cX12_typed4 20 = .ok (.i2b, 1) := by decide +kernel
theorem dX12_typed4_21 : decode cX12_typed4 21 = .ok (.bastore, 1) := by decide +kernel
theorem dX12_typed4_22 : decode cX12_typed4 22 = .ok (.aload_n 0, 1) := by decide +kernel
theorem dX12_typed4_23 : decode cX12_typed4 23 = .ok (.aload_n 0, 1) := by decide +kernel
theorem dX12_typed4_24 : decode cX12_typed4 24 = .ok (.getfield 127, 3) := by decide +kernel
theorem dX12_typed4_27 : decode cX12_typed4 27 = .ok (.iconst 1, 1) := by decide +kernel
theorem dX12_typed4_28 : decode cX12_typed4 28 = .ok (.iadd, 1) := by decide +kernel
theorem dX12_typed4_29 : decode cX12_typed4 29 = .ok (.putfield 127, 3) := by decide +kernel
theorem dX12_typed4_32 : decode cX12_typed4 32 = .ok (.iinc 2 (-1), 3) := by decide +kernel
theorem dX12_typed4_35 : decode cX12_typed4 35 = .ok (.goto (-33), 3) := by decide +kernel
theorem dX12_typed4_38 : decode cX12_typed4 38 = .ok (.return_, 1) := by decide +kernel
theorem dX12_feed_0 : decode cX12_feed 0 = .ok (.aload_n 0, 1) := by decide +kernel
theorem dX12_feed_1 : decode cX12_feed 1 = .ok (.getfield 127, 3) := by decide +kernel
theorem dX12_feed_4 : decode cX12_feed 4 = .ok (.bipush 20, 2) := by decide +kernel
theorem dX12_feed_6 : decode cX12_feed 6 = .ok (.iadd, 1) := by decide +kernel
theorem dX12_feed_7 : decode cX12_feed 7 = .ok (.bipush 120, 2) := by decide +kernel
theorem dX12_feed_9 : decode cX12_feed 9 = .ok (.if_icmp .le 5, 3) := by decide +kernel
theorem dX12_feed_12 : decode cX12_feed 12 = .ok (.iconst (-1), 1) := by decide +kernel
theorem dX12_feed_13 : decode cX12_feed 13 = .ok (.ireturn, 1) := by decide +kernel
theorem dX12_feed_14 : decode cX12_feed 14 = .ok (.aload_n 0, 1) := by decide +kernel
theorem dX12_feed_15 : decode cX12_feed 15 = .ok (.iload_n 1, 1) := by decide +kernel
theorem dX12_feed_16 : decode cX12_feed 16 = .ok (.invokevirtual 131, 3) := by decide +kernel
theorem dX12_feed_19 : decode cX12_feed 19 = .ok (.aload_n 0, 1) := by decide +kernel
theorem dX12_feed_20 : decode cX12_feed 20 = .ok (.iload_n 2, 1) := by decide +kernel
theorem dX12_feed_21 : decode cX12_feed 21 = .ok (.invokevirtual 131, 3) := by decide +kernel
theorem dX12_feed_24 : decode cX12_feed 24 = .ok (.aload_n 0, 1) := by decide +kernel
theorem dX12_feed_25 : decode cX12_feed 25 = .ok (.iload_n 3, 1) := by decide +kernel
theorem dX12_feed_26 : decode cX12_feed 26 = .ok (.invokevirtual 131, 3) := by decide +kernel
theorem dX12_feed_29 : decode cX12_feed 29 = .ok (.aload_n 0, 1) := by decide +kernel
theorem dX12_feed_30 : decode cX12_feed 30 = .ok (.iload 4, 2) := by decide +kernel
theorem dX12_feed_32 : decode cX12_feed 32 = .ok (.invokevirtual 131, 3) := by decide +kernel
theorem dX12_feed_35 : decode cX12_feed 35 = .ok (.aload_n 0, 1) := by decide +kernel
theorem dX12_feed_36 : decode cX12_feed 36 = .ok (.iload 5, 2) := by decide +kernel
theorem dX12_feed_38 : decode cX12_feed 38 = .ok (.invokevirtual 131, 3) := by decide +kernel
theorem dX12_feed_41 : decode cX12_feed 41 = .ok (.aload_n 0, 1) := by decide +kernel
theorem dX12_feed_42 : decode cX12_feed 42 = .ok (.getfield 127, 3) := by decide +kernel
theorem dX12_feed_45 : decode cX12_feed 45 = .ok (.ireturn, 1) := by decide +kernel
theorem dX12_figure_0 : decode cX12_figure 0 = .ok (.iload_n 1, 1) := by decide +kernel
theorem dX12_figure_1 : decode cX12_figure 1 = .ok (.invokestatic 135, 3) := by decide +kernel
theorem dX12_figure_4 : decode cX12_figure 4 = .ok (.ifCond .eq 21, 3) := by decide +kernel
theorem dX12_figure_7 : decode cX12_figure 7 = .ok (.iload_n 2, 1) := by decide +kernel
theorem dX12_figure_8 : decode cX12_figure 8 = .ok (.iconst 1, 1) := by decide +kernel
theorem dX12_figure_9 : decode cX12_figure 9 = .ok (.bipush 60, 2) := by decide +kernel
theorem dX12_figure_11 : decode cX12_figure 11 = .ok (.invokestatic 82, 3) := by decide +kernel
theorem dX12_figure_14 : decode cX12_figure 14 = .ok (.ifCond .eq 11, 3) := by decide +kernel
theorem dX12_figure_17 : decode cX12_figure 17 = .ok (.iload_n 2, 1) := by decide +kernel
theorem dX12_figure_18 : decode cX12_figure 18 = .ok (.aload_n 0, 1) := by decide +kernel
theorem dX12_figure_19 : decode cX12_figure 19 = .ok (.getfield 127, 3) := by decide +kernel
theorem dX12_figure_22 : decode cX12_figure 22 = .ok (.if_icmp .le 5, 3) := by decide +kernel
theorem dX12_figure_25 : decode cX12_figure 25 = .ok (.iconst (-1), 1) := by decide +kernel
theorem dX12_figure_26 : decode cX12_figure 26 = .ok (.ireturn, 1) := by decide +kernel
theorem dX12_figure_27 : decode cX12_figure 27 = .ok (.aload_n 0, 1) := by decide +kernel
theorem dX12_figure_28 : decode cX12_figure 28 = .ok (.iconst 0, 1) := by decide +kernel
theorem dX12_figure_29 : decode cX12_figure 29 = .ok (.putfield 127, 3) := by decide +kernel
theorem dX12_figure_32 : decode cX12_figure 32 = .ok (.lconst 0, 1) := by decide +kernel
theorem dX12_figure_33 : decode cX12_figure 33 = .ok (.lstore_n 3, 1) := by decide +kernel
theorem dX12_figure_34 : decode cX12_figure 34 = .ok (.iconst 0, 1) := by decide +kernel
theorem dX12_figure_35 : decode cX12_figure 35 = .ok (.istore 5, 2) := by decide +kernel
theorem dX12_figure_37 : decode cX12_figure 37 = .ok (.iconst 0, 1) := by decide +kernel
theorem dX12_figure_38 : decode cX12_figure 38 = .ok (.istore 6, 2) := by decide +kernel
theorem dX12_figure_40 : decode cX12_figure 40 = .ok (.iconst 0, 1) := by decide +kernel
theorem dX12_figure_41 : decode cX12_figure 41 = .ok (.istore 7, 2) := by decide +kernel
theorem dX12_figure_43 : decode cX12_figure 43 = .ok (.iconst 0, 1) := by decide +kernel
theorem dX12_figure_44 : decode cX12_figure 44 = .ok (.istore 8, 2) := by decide +kernel
theorem dX12_figure_46 : decode cX12_figure 46 = .ok (.iload 8, 2) := by decide +kernel
theorem dX12_figure_48 : decode cX12_figure 48 = .ok (.iload_n 2, 1) := by decide +kernel
theorem dX12_figure_49 : decode cX12_figure 49 = .ok (.if_icmp .ge 153, 3) := by decide +kernel
theorem dX12_figure_52 : decode cX12_figure 52 = .ok (.aload_n 0, 1) := by decide +kernel
theorem dX12_figure_53 : decode cX12_figure 53 = .ok (.getfield 16, 3) := by decide +kernel
theorem dX12_figure_56 : decode cX12_figure 56 = .ok (.iload 8, 2) := by decide +kernel
theorem dX12_figure_58 : decode cX12_figure 58 = .ok (.baload, 1) := by decide +kernel
theorem dX12_figure_59 : decode cX12_figure 59 = .ok (.istore 9, 2) := by decide +kernel
theorem dX12_figure_61 : decode cX12_figure 61 = .ok (.iload 9, 2) := by decide +kernel
theorem dX12_figure_63 : decode cX12_figure 63 = .ok (.bipush 35, 2) := by decide +kernel
theorem dX12_figure_65 : decode cX12_figure 65 = .ok (.if_icmp .eq 31, 3) := by decide +kernel
theorem dX12_figure_68 : decode cX12_figure 68 = .ok (.iload 9, 2) := by decide +kernel
theorem dX12_figure_70 : decode cX12_figure 70 = .ok (.bipush 46, 2) := by decide +kernel
theorem dX12_figure_72 : decode cX12_figure 72 = .ok (.if_icmp .eq 24, 3) := by decide +kernel
theorem dX12_figure_75 : decode cX12_figure 75 = .ok (.iload 9, 2) := by decide +kernel
theorem dX12_figure_77 : decode cX12_figure 77 = .ok (.bipush 47, 2) := by decide +kernel
theorem dX12_figure_79 : decode cX12_figure 79 = .ok (.if_icmp .eq 17, 3) := by decide +kernel
theorem dX12_figure_82 : decode cX12_figure 82 = .ok (.iload 9, 2) := by decide +kernel
theorem dX12_figure_84 : decode cX12_figure 84 = .ok (.bipush 32, 2) := by decide +kernel
theorem dX12_figure_86 : decode cX12_figure 86 = .ok (.if_icmp .eq 10, 3) := by decide +kernel
theorem dX12_figure_89 : decode cX12_figure 89 = .ok (.sipush (-1000), 3) := by decide +kernel
theorem dX12_figure_92 : decode cX12_figure 92 = .ok (.iload 8, 2) := by decide +kernel
theorem dX12_figure_94 : decode cX12_figure 94 = .ok (.isub, 1) := by decide +kernel
theorem dX12_figure_95 : decode cX12_figure 95 = .ok (.ireturn, 1) := by decide +kernel
theorem dX12_figure_96 : decode cX12_figure 96 = .ok (.iload 9, 2) := by decide +kernel
theorem dX12_figure_98 : decode cX12_figure 98 = .ok (.bipush 32, 2) := by decide +kernel
theorem dX12_figure_100 : decode cX12_figure 100 = .ok (.if_icmp .ne 6, 3) := by decide +kernel
theorem dX12_figure_103 : decode cX12_figure 103 = .ok (.goto 93, 3) := by decide +kernel
theorem dX12_figure_106 : decode cX12_figure 106 = .ok (.iload 9, 2) := by decide +kernel
theorem dX12_figure_108 : decode cX12_figure 108 = .ok (.bipush 47, 2) := by decide +kernel
theorem dX12_figure_110 : decode cX12_figure 110 = .ok (.if_icmp .ne 29, 3) := by decide +kernel
theorem dX12_figure_113 : decode cX12_figure 113 = .ok (.iload 6, 2) := by decide +kernel
theorem dX12_figure_115 : decode cX12_figure 115 = .ok (.bipush 6, 2) := by decide +kernel
theorem dX12_figure_117 : decode cX12_figure 117 = .ok (.if_icmp .ne 10, 3) := by decide +kernel
theorem dX12_figure_120 : decode cX12_figure 120 = .ok (.sipush (-3000), 3) := by decide +kernel
theorem dX12_figure_123 : decode cX12_figure 123 = .ok (.iload 8, 2) := by decide +kernel
theorem dX12_figure_125 : decode cX12_figure 125 = .ok (.isub, 1) := by decide +kernel
theorem dX12_figure_126 : decode cX12_figure 126 = .ok (.ireturn, 1) := by decide +kernel
theorem dX12_figure_127 : decode cX12_figure 127 = .ok (.iload 6, 2) := by decide +kernel
theorem dX12_figure_129 : decode cX12_figure 129 = .ok (.iconst 1, 1) := by decide +kernel
theorem dX12_figure_130 : decode cX12_figure 130 = .ok (.iadd, 1) := by decide +kernel
theorem dX12_figure_131 : decode cX12_figure 131 = .ok (.istore 6, 2) := by decide +kernel
theorem dX12_figure_133 : decode cX12_figure 133 = .ok (.iconst 0, 1) := by decide +kernel
theorem dX12_figure_134 : decode cX12_figure 134 = .ok (.istore 5, 2) := by decide +kernel
theorem dX12_figure_136 : decode cX12_figure 136 = .ok (.goto 60, 3) := by decide +kernel
theorem dX12_figure_139 : decode cX12_figure 139 = .ok (.iload 5, 2) := by decide +kernel
theorem dX12_figure_141 : decode cX12_figure 141 = .ok (.bipush 7, 2) := by decide +kernel
theorem dX12_figure_143 : decode cX12_figure 143 = .ok (.if_icmp .ne 10, 3) := by decide +kernel
theorem dX12_figure_146 : decode cX12_figure 146 = .ok (.sipush (-2000), 3) := by decide +kernel
theorem dX12_figure_149 : decode cX12_figure 149 = .ok (.iload 8, 2) := by decide +kernel
theorem dX12_figure_151 : decode cX12_figure 151 = .ok (.isub, 1) := by decide +kernel
theorem dX12_figure_152 : decode cX12_figure 152 = .ok (.ireturn, 1) := by decide +kernel
theorem dX12_figure_153 : decode cX12_figure 153 = .ok (.iload 9, 2) := by decide +kernel
theorem dX12_figure_155 : decode cX12_figure 155 = .ok (.bipush 35, 2) := by decide +kernel
theorem dX12_figure_157 : decode cX12_figure 157 = .ok (.if_icmp .ne 33, 3) := by decide +kernel
theorem dX12_figure_160 : decode cX12_figure 160 = .ok (.iload 7, 2) := by decide +kernel
theorem dX12_figure_162 : decode cX12_figure 162 = .ok (.bipush 12, 2) := by decide +kernel
theorem dX12_figure_164 : decode cX12_figure 164 = .ok (.if_icmp .ne 10, 3) := by decide +kernel
theorem dX12_figure_167 : decode cX12_figure 167 = .ok (.sipush (-4000), 3) := by decide +kernel
theorem dX12_figure_170 : decode cX12_figure 170 = .ok (.iload 8, 2) := by decide +kernel
theorem dX12_figure_172 : decode cX12_figure 172 = .ok (.isub, 1) := by decide +kernel
theorem dX12_figure_173 : decode cX12_figure 173 = .ok (.ireturn, 1) := by decide +kernel
theorem dX12_figure_174 : decode cX12_figure 174 = .ok (.lload_n 3, 1) := by decide +kernel
theorem dX12_figure_175 : decode cX12_figure 175 = .ok (.iload 5, 2) := by decide +kernel
theorem dX12_figure_177 : decode cX12_figure 177 = .ok (.iload 6, 2) := by decide +kernel
theorem dX12_figure_179 : decode cX12_figure 179 = .ok (.invokestatic 117, 3) := by decide +kernel
theorem dX12_figure_182 : decode cX12_figure 182 = .ok (.lor, 1) := by decide +kernel
theorem dX12_figure_183 : decode cX12_figure 183 = .ok (.lstore_n 3, 1) := by decide +kernel
theorem dX12_figure_184 : decode cX12_figure 184 = .ok (.iload 7, 2) := by decide +kernel
theorem dX12_figure_186 : decode cX12_figure 186 = .ok (.iconst 1, 1) := by decide +kernel
theorem dX12_figure_187 : decode cX12_figure 187 = .ok (.iadd, 1) := by decide +kernel
theorem dX12_figure_188 : decode cX12_figure 188 = .ok (.istore 7, 2) := by decide +kernel
theorem dX12_figure_190 : decode cX12_figure 190 = .ok (.iload 5, 2) := by decide +kernel
theorem dX12_figure_192 : decode cX12_figure 192 = .ok (.iconst 1, 1) := by decide +kernel
theorem dX12_figure_193 : decode cX12_figure 193 = .ok (.iadd, 1) := by decide +kernel
theorem dX12_figure_194 : decode cX12_figure 194 = .ok (.istore 5, 2) := by decide +kernel
theorem dX12_figure_196 : decode cX12_figure 196 = .ok (.iinc 8 1, 3) := by decide +kernel
theorem dX12_figure_199 : decode cX12_figure 199 = .ok (.goto (-153), 3) := by decide +kernel
theorem dX12_figure_202 : decode cX12_figure 202 = .ok (.lload_n 3, 1) := by decide +kernel
theorem dX12_figure_203 : decode cX12_figure 203 = .ok (.invokestatic 110, 3) := by decide +kernel
theorem dX12_figure_206 : decode cX12_figure 206 = .ok (.ifCond .ne 9, 3) := by decide +kernel
theorem dX12_figure_209 : decode cX12_figure 209 = .ok (.sipush (-5000), 3) := by decide +kernel
theorem dX12_figure_212 : decode cX12_figure 212 = .ok (.iload_n 2, 1) := by decide +kernel
theorem dX12_figure_213 : decode cX12_figure 213 = .ok (.isub, 1) := by decide +kernel
theorem dX12_figure_214 : decode cX12_figure 214 = .ok (.ireturn, 1) := by decide +kernel
theorem dX12_figure_215 : decode cX12_figure 215 = .ok (.aload_n 0, 1) := by decide +kernel
theorem dX12_figure_216 : decode cX12_figure 216 = .ok (.getfield 7, 3) := by decide +kernel
theorem dX12_figure_219 : decode cX12_figure 219 = .ok (.iload_n 1, 1) := by decide +kernel
theorem dX12_figure_220 : decode cX12_figure 220 = .ok (.lload_n 3, 1) := by decide +kernel
theorem dX12_figure_221 : decode cX12_figure 221 = .ok (.invokestatic 114, 3) := by decide +kernel
theorem dX12_figure_224 : decode cX12_figure 224 = .ok (.lastore, 1) := by decide +kernel
theorem dX12_figure_225 : decode cX12_figure 225 = .ok (.iload 7, 2) := by decide +kernel
theorem dX12_figure_227 : decode cX12_figure 227 = .ok (.ireturn, 1) := by decide +kernel
theorem dX12_put_0 : decode cX12_put 0 = .ok (.iload_n 1, 1) := by decide +kernel
theorem dX12_put_1 : decode cX12_put 1 = .ok (.invokestatic 135, 3) := by decide +kernel
theorem dX12_put_4 : decode cX12_put 4 = .ok (.ifCond .eq 10, 3) := by decide +kernel
theorem dX12_put_7 : decode cX12_put 7 = .ok (.lload_n 2, 1) := by decide +kernel
theorem dX12_put_8 : decode cX12_put 8 = .ok (.invokestatic 139, 3) := by decide +kernel
theorem dX12_put_11 : decode cX12_put 11 = .ok (.ifCond .ne 5, 3) := by decide +kernel
theorem dX12_put_14 : decode cX12_put 14 = .ok (.iconst 0, 1) := by decide +kernel
theorem dX12_put_15 : decode cX12_put 15 = .ok (.ireturn, 1) := by decide +kernel
theorem dX12_put_16 : decode cX12_put 16 = .ok (.aload_n 0, 1) := by decide +kernel
theorem dX12_put_17 : decode cX12_put 17 = .ok (.getfield 7, 3) := by decide +kernel
theorem dX12_put_20 : decode cX12_put 20 = .ok (.iload_n 1, 1) := by decide +kernel
theorem dX12_put_21 : decode cX12_put 21 = .ok (.lload_n 2, 1) := by decide +kernel
theorem dX12_put_22 : decode cX12_put 22 = .ok (.lastore, 1) := by decide +kernel
theorem dX12_put_23 : decode cX12_put 23 = .ok (.iconst 1, 1) := by decide +kernel
theorem dX12_put_24 : decode cX12_put 24 = .ok (.ireturn, 1) := by decide +kernel
theorem dX12_take_0 : decode cX12_take 0 = .ok (.iload_n 1, 1) := by decide +kernel
theorem dX12_take_1 : decode cX12_take 1 = .ok (.invokestatic 135, 3) := by decide +kernel
theorem dX12_take_4 : decode cX12_take 4 = .ok (.ifCond .ne 5, 3) := by decide +kernel
theorem dX12_take_7 : decode cX12_take 7 = .ok (.iconst (-1), 1) := by decide +kernel
theorem dX12_take_8 : decode cX12_take 8 = .ok (.ireturn, 1) := by decide +kernel
theorem dX12_take_9 : decode cX12_take 9 = .ok (.aload_n 0, 1) := by decide +kernel
theorem dX12_take_10 : decode cX12_take 10 = .ok (.getfield 7, 3) := by decide +kernel
theorem dX12_take_13 : decode cX12_take 13 = .ok (.iload_n 1, 1) := by decide +kernel
theorem dX12_take_14 : decode cX12_take 14 = .ok (.laload, 1) := by decide +kernel
theorem dX12_take_15 : decode cX12_take 15 = .ok (.lconst 0, 1) := by decide +kernel
theorem dX12_take_16 : decode cX12_take 16 = .ok (.lcmp, 1) := by decide +kernel
theorem dX12_take_17 : decode cX12_take 17 = .ok (.ifCond .ne 7, 3) := by decide +kernel
theorem dX12_take_20 : decode cX12_take 20 = .ok (.iconst 0, 1) := by decide +kernel
theorem dX12_take_21 : decode cX12_take 21 = .ok (.goto 4, 3) := by decide +kernel
theorem dX12_take_24 : decode cX12_take 24 = .ok (.iconst 1, 1) := by decide +kernel
theorem dX12_take_25 : decode cX12_take 25 = .ok (.istore_n 2, 1) := by decide +kernel
theorem dX12_take_26 : decode cX12_take 26 = .ok (.aload_n 0, 1) := by decide +kernel
theorem dX12_take_27 : decode cX12_take 27 = .ok (.getfield 7, 3) := by decide +kernel
theorem dX12_take_30 : decode cX12_take 30 = .ok (.iload_n 1, 1) := by decide +kernel
theorem dX12_take_31 : decode cX12_take 31 = .ok (.lconst 0, 1) := by decide +kernel
theorem dX12_take_32 : decode cX12_take 32 = .ok (.lastore, 1) := by decide +kernel
theorem dX12_take_33 : decode cX12_take 33 = .ok (.iload_n 2, 1) := by decide +kernel
theorem dX12_take_34 : decode cX12_take 34 = .ok (.ireturn, 1) := by decide +kernel
theorem dX12_comes_0 : decode cX12_comes 0 = .ok (.iload_n 3, 1) := by decide +kernel
theorem dX12_comes_1 : decode cX12_comes 1 = .ok (.iconst 0, 1) := by decide +kernel
theorem dX12_comes_2 : decode cX12_comes 2 = .ok (.bipush 8, 2) := by decide +kernel
theorem dX12_comes_4 : decode cX12_comes 4 = .ok (.invokestatic 82, 3) := by decide +kernel
theorem dX12_comes_7 : decode cX12_comes 7 = .ok (.ifCond .eq 44, 3) := by decide +kernel
theorem dX12_comes_10 : decode cX12_comes 10 = .ok (.iload 4, 2) := by decide +kernel
theorem dX12_comes_12 : decode cX12_comes 12 = .ok (.iconst 0, 1) := by decide +kernel
theorem dX12_comes_13 : decode cX12_comes 13 = .ok (.bipush 8, 2) := by decide +kernel
theorem dX12_comes_15 : decode cX12_comes 15 = .ok (.invokestatic 82, 3) := by decide +kernel
theorem dX12_comes_18 : decode cX12_comes 18 = .ok (.ifCond .eq 33, 3) := by decide +kernel
theorem dX12_comes_21 : decode cX12_comes 21 = .ok (.aload_n 0, 1) := by decide +kernel
theorem dX12_comes_22 : decode cX12_comes 22 = .ok (.getfield 20, 3) := by decide +kernel
theorem dX12_comes_25 : decode cX12_comes 25 = .ok (.bipush 9, 2) := by decide +kernel
theorem dX12_comes_27 : decode cX12_comes 27 = .ok (.iload 4, 2) := by decide +kernel
theorem dX12_comes_29 : decode cX12_comes 29 = .ok (.imul, 1) := by decide +kernel
theorem dX12_comes_30 : decode cX12_comes 30 = .ok (.iload_n 3, 1) := by decide +kernel
theorem dX12_comes_31 : decode cX12_comes 31 = .ok (.iadd, 1) := by decide +kernel
theorem dX12_comes_32 : decode cX12_comes 32 = .ok (.iaload, 1) := by decide +kernel
theorem dX12_comes_33 : decode cX12_comes 33 = .ok (.iconst (-1), 1) := by decide +kernel
theorem dX12_comes_34 : decode cX12_comes 34 = .ok (.if_icmp .ne 17, 3) := by decide +kernel
theorem dX12_comes_37 : decode cX12_comes 37 = .ok (.lload_n 1, 1) := by decide +kernel
theorem dX12_comes_38 : decode cX12_comes 38 = .ok (.iload_n 3, 1) := by decide +kernel
theorem dX12_comes_39 : decode cX12_comes 39 = .ok (.iconst 1, 1) := by decide +kernel
theorem dX12_comes_40 : decode cX12_comes 40 = .ok (.isub, 1) := by decide +kernel
theorem dX12_comes_41 : decode cX12_comes 41 = .ok (.iload 4, 2) := by decide +kernel
theorem dX12_comes_43 : decode cX12_comes 43 = .ok (.iconst 1, 1) := by decide +kernel
theorem dX12_comes_44 : decode cX12_comes 44 = .ok (.isub, 1) := by decide +kernel
theorem dX12_comes_45 : decode cX12_comes 45 = .ok (.invokestatic 142, 3) := by decide +kernel
theorem dX12_comes_48 : decode cX12_comes 48 = .ok (.ifCond .eq 4, 3) := by decide +kernel
theorem dX12_comes_51 : decode cX12_comes 51 = .ok (.return_, 1) := by decide +kernel
theorem dX12_comes_52 : decode cX12_comes 52 = .ok (.aload_n 0, 1) := by decide +kernel
theorem dX12_comes_53 : decode cX12_comes 53 = .ok (.getfield 20, 3) := by decide +kernel
theorem dX12_comes_56 : decode cX12_comes 56 = .ok (.bipush 9, 2) := by decide +kernel
theorem dX12_comes_58 : decode cX12_comes 58 = .ok (.iload 4, 2) := by decide +kernel
theorem dX12_comes_60 : decode cX12_comes 60 = .ok (.imul, 1) := by decide +kernel
theorem dX12_comes_61 : decode cX12_comes 61 = .ok (.iload_n 3, 1) := by decide +kernel
theorem dX12_comes_62 : decode cX12_comes 62 = .ok (.iadd, 1) := by decide +kernel
theorem dX12_comes_63 : decode cX12_comes 63 = .ok (.iload 5, 2) := by decide +kernel
theorem dX12_comes_65 : decode cX12_comes 65 = .ok (.iastore, 1) := by decide +kernel
theorem dX12_comes_66 : decode cX12_comes 66 = .ok (.aload_n 0, 1) := by decide +kernel
theorem dX12_comes_67 : decode cX12_comes 67 = .ok (.getfield 24, 3) := by decide +kernel
theorem dX12_comes_70 : decode cX12_comes 70 = .ok (.aload_n 0, 1) := by decide +kernel
theorem dX12_comes_71 : decode cX12_comes 71 = .ok (.getfield 146, 3) := by decide +kernel
theorem dX12_comes_74 : decode cX12_comes 74 = .ok (.bipush 9, 2) := by decide +kernel
theorem dX12_comes_76 : decode cX12_comes 76 = .ok (.iload 4, 2) := by decide +kernel
theorem dX12_comes_78 : decode cX12_comes 78 = .ok (.imul, 1) := by decide +kernel
theorem dX12_comes_79 : decode cX12_comes 79 = .ok (.iload_n 3, 1) := by decide +kernel
theorem dX12_comes_80 : decode cX12_comes 80 = .ok (.iadd, 1) := by decide +kernel
theorem dX12_comes_81 : decode cX12_comes 81 = .ok (.iastore, 1) := by decide +kernel
theorem dX12_comes_82 : decode cX12_comes 82 = .ok (.aload_n 0, 1) := by decide +kernel
theorem dX12_comes_83 : decode cX12_comes 83 = .ok (.aload_n 0, 1) := by decide +kernel
theorem dX12_comes_84 : decode cX12_comes 84 = .ok (.getfield 146, 3) := by decide +kernel
theorem dX12_comes_87 : decode cX12_comes 87 = .ok (.iconst 1, 1) := by decide +kernel
theorem dX12_comes_88 : decode cX12_comes 88 = .ok (.iadd, 1) := by decide +kernel
theorem dX12_comes_89 : decode cX12_comes 89 = .ok (.putfield 146, 3) := by decide +kernel
theorem dX12_comes_92 : decode cX12_comes 92 = .ok (.return_, 1) := by decide +kernel
theorem dX12_laysHoles_0 : decode cX12_laysHoles 0 = .ok (.iconst 0, 1) := by decide +kernel
theorem dX12_laysHoles_1 : decode cX12_laysHoles 1 = .ok (.istore_n 3, 1) := by decide +kernel
theorem dX12_laysHoles_2 : decode cX12_laysHoles 2 = .ok (.iload_n 3, 1) := by decide +kernel
theorem dX12_laysHoles_3 : decode cX12_laysHoles 3 = .ok (.bipush 81, 2) := by decide +kernel
theorem dX12_laysHoles_5 : decode cX12_laysHoles 5 = .ok (.if_icmp .ge 16, 3) := by decide +kernel
theorem dX12_laysHoles_8 : decode cX12_laysHoles 8 = .ok (.aload_n 0, 1) := by decide +kernel
theorem dX12_laysHoles_9 : decode cX12_laysHoles 9 = .ok (.getfield 20, 3) := by decide +kernel
theorem dX12_laysHoles_12 : decode cX12_laysHoles 12 = .ok (.iload_n 3, 1) := by decide +kernel
theorem dX12_laysHoles_13 : decode cX12_laysHoles 13 = .ok (.iconst (-1), 1) := by decide +kernel
theorem dX12_laysHoles_14 : decode cX12_laysHoles 14 = .ok (.iastore, 1) := by decide +kernel
theorem dX12_laysHoles_15 : decode cX12_laysHoles 15 = .ok (.iinc 3 1, 3) := by decide +kernel
theorem dX12_laysHoles_18 : decode cX12_laysHoles 18 = .ok (.goto (-16), 3) := by decide +kernel
theorem dX12_laysHoles_21 : decode cX12_laysHoles 21 = .ok (.iconst 0, 1) := by decide +kernel
theorem dX12_laysHoles_22 : decode cX12_laysHoles 22 = .ok (.istore_n 3, 1) := by decide +kernel
theorem dX12_laysHoles_23 : decode cX12_laysHoles 23 = .ok (.iconst 0, 1) := by decide +kernel
theorem dX12_laysHoles_24 : decode cX12_laysHoles 24 = .ok (.istore 4, 2) := by decide +kernel
theorem dX12_laysHoles_26 : decode cX12_laysHoles 26 = .ok (.iload 4, 2) := by decide +kernel
theorem dX12_laysHoles_28 : decode cX12_laysHoles 28 = .ok (.bipush 81, 2) := by decide +kernel
theorem dX12_laysHoles_30 : decode cX12_laysHoles 30 = .ok (.if_icmp .ge 134, 3) := by decide +kernel
theorem dX12_laysHoles_33 : decode cX12_laysHoles 33 = .ok (.aload_n 0, 1) := by decide +kernel
theorem dX12_laysHoles_34 : decode cX12_laysHoles 34 = .ok (.iconst 0, 1) := by decide +kernel
theorem dX12_laysHoles_35 : decode cX12_laysHoles 35 = .ok (.putfield 146, 3) := by decide +kernel
theorem dX12_laysHoles_38 : decode cX12_laysHoles 38 = .ok (.aload_n 0, 1) := by decide +kernel
theorem dX12_laysHoles_39 : decode cX12_laysHoles 39 = .ok (.lload_n 1, 1) := by decide +kernel
theorem dX12_laysHoles_40 : decode cX12_laysHoles 40 = .ok (.iload 4, 2) := by decide +kernel
theorem dX12_laysHoles_42 : decode cX12_laysHoles 42 = .ok (.bipush 9, 2) := by decide +kernel
theorem dX12_laysHoles_44 : decode cX12_laysHoles 44 = .ok (.irem, 1) := by decide +kernel
theorem dX12_laysHoles_45 : decode cX12_laysHoles 45 = .ok (.iload 4, 2) := by decide +kernel
theorem dX12_laysHoles_47 : decode cX12_laysHoles 47 = .ok (.bipush 9, 2) := by decide +kernel
theorem dX12_laysHoles_49 : decode cX12_laysHoles 49 = .ok (.idiv, 1) := by decide +kernel
theorem dX12_laysHoles_50 : decode cX12_laysHoles 50 = .ok (.iload_n 3, 1) := by decide +kernel
theorem dX12_laysHoles_51 : decode cX12_laysHoles 51 = .ok (.invokevirtual 149, 3) := by decide +kernel
theorem dX12_laysHoles_54 : decode cX12_laysHoles 54 = .ok (.aload_n 0, 1) := by decide +kernel
theorem dX12_laysHoles_55 : decode cX12_laysHoles 55 = .ok (.getfield 146, 3) := by decide +kernel
theorem dX12_laysHoles_58 : decode cX12_laysHoles 58 = .ok (.ifCond .ne 6, 3) := by decide +kernel
theorem dX12_laysHoles_61 : decode cX12_laysHoles 61 = .ok (.goto 97, 3) := by decide +kernel
theorem dX12_laysHoles_64 : decode cX12_laysHoles 64 = .ok (.iconst 0, 1) := by decide +kernel
theorem dX12_laysHoles_65 : decode cX12_laysHoles 65 = .ok (.istore 5, 2) := by decide +kernel
theorem dX12_laysHoles_67 : decode cX12_laysHoles 67 = .ok (.iload 5, 2) := by decide +kernel
theorem dX12_laysHoles_69 : decode cX12_laysHoles 69 = .ok (.aload_n 0, 1) := by decide +kernel
theorem dX12_laysHoles_70 : decode cX12_laysHoles 70 = .ok (.getfield 146, 3) := by decide +kernel
theorem dX12_laysHoles_73 : decode cX12_laysHoles 73 = .ok (.if_icmp .ge 81, 3) := by decide +kernel
theorem dX12_laysHoles_76 : decode cX12_laysHoles 76 = .ok (.aload_n 0, 1) := by decide +kernel
theorem dX12_laysHoles_77 : decode cX12_laysHoles 77 = .ok (.getfield 24, 3) := by decide +kernel
theorem dX12_laysHoles_80 : decode cX12_laysHoles 80 = .ok (.iload 5, 2) := by decide +kernel
theorem dX12_laysHoles_82 : decode cX12_laysHoles 82 = .ok (.iaload, 1) := by decide +kernel
theorem dX12_laysHoles_83 : decode cX12_laysHoles 83 = .ok (.bipush 9, 2) := by decide +kernel
theorem dX12_laysHoles_85 : decode cX12_laysHoles 85 = .ok (.irem, 1) := by decide +kernel
theorem dX12_laysHoles_86 : decode cX12_laysHoles 86 = .ok (.istore 6, 2) := by decide +kernel
theorem dX12_laysHoles_88 : decode cX12_laysHoles 88 = .ok (.aload_n 0, 1) := by decide +kernel
theorem dX12_laysHoles_89 : decode cX12_laysHoles 89 = .ok (.getfield 24, 3) := by decide +kernel
theorem dX12_laysHoles_92 : decode cX12_laysHoles 92 = .ok (.iload 5, 2) := by decide +kernel
theorem dX12_laysHoles_94 : decode cX12_laysHoles 94 = .ok (.iaload, 1) := by decide +kernel
theorem dX12_laysHoles_95 : decode cX12_laysHoles 95 = .ok (.bipush 9, 2) := by decide +kernel
theorem dX12_laysHoles_97 : decode cX12_laysHoles 97 = .ok (.idiv, 1) := by decide +kernel
theorem dX12_laysHoles_98 : decode cX12_laysHoles 98 = .ok (.istore 7, 2) := by decide +kernel
theorem dX12_laysHoles_100 : decode cX12_laysHoles 100 = .ok (.aload_n 0, 1) := by decide +kernel
theorem dX12_laysHoles_101 : decode cX12_laysHoles 101 = .ok (.lload_n 1, 1) := by decide +kernel
theorem dX12_laysHoles_102 : decode cX12_laysHoles 102 = .ok (.iload 6, 2) := by decide +kernel
theorem dX12_laysHoles_104 : decode cX12_laysHoles 104 = .ok (.iconst 1, 1) := by decide +kernel
theorem dX12_laysHoles_105 : decode cX12_laysHoles 105 = .ok (.iadd, 1) := by decide +kernel
theorem dX12_laysHoles_106 : decode cX12_laysHoles 106 = .ok (.iload 7, 2) := by decide +kernel
theorem dX12_laysHoles_108 : decode cX12_laysHoles 108 = .ok (.iload_n 3, 1) := by decide +kernel
theorem dX12_laysHoles_109 : decode cX12_laysHoles 109 = .ok (.invokevirtual 149, 3) := by decide +kernel
theorem dX12_laysHoles_112 : decode cX12_laysHoles 112 = .ok (.aload_n 0, 1) := by decide +kernel
theorem dX12_laysHoles_113 : decode cX12_laysHoles 113 = .ok (.lload_n 1, 1) := by decide +kernel
theorem dX12_laysHoles_114 : decode cX12_laysHoles 114 = .ok (.iload 6, 2) := by decide +kernel
theorem dX12_laysHoles_116 : decode cX12_laysHoles 116 = .ok (.iconst 1, 1) := by decide +kernel
theorem dX12_laysHoles_117 : decode cX12_laysHoles 117 = .ok (.isub, 1) := by decide +kernel
theorem dX12_laysHoles_118 : decode cX12_laysHoles 118 = .ok (.iload 7, 2) := by decide +kernel
theorem dX12_laysHoles_120 : decode cX12_laysHoles 120 = .ok (.iload_n 3, 1) := by decide +kernel
theorem dX12_laysHoles_121 : decode cX12_laysHoles 121 = .ok (.invokevirtual 149, 3) := by decide +kernel
theorem dX12_laysHoles_124 : decode cX12_laysHoles 124 = .ok (.aload_n 0, 1) := by decide +kernel
theorem dX12_laysHoles_125 : decode cX12_laysHoles 125 = .ok (.lload_n 1, 1) := by decide +kernel
theorem dX12_laysHoles_126 : decode cX12_laysHoles 126 = .ok (.iload 6, 2) := by decide +kernel
theorem dX12_laysHoles_128 : decode cX12_laysHoles 128 = .ok (.iload 7, 2) := by decide +kernel
theorem dX12_laysHoles_130 : decode cX12_laysHoles 130 = .ok (.iconst 1, 1) := by decide +kernel
theorem dX12_laysHoles_131 : decode cX12_laysHoles 131 = .ok (.iadd, 1) := by decide +kernel
theorem dX12_laysHoles_132 : decode cX12_laysHoles 132 = .ok (.iload_n 3, 1) := by decide +kernel
theorem dX12_laysHoles_133 : decode cX12_laysHoles 133 = .ok (.invokevirtual 149, 3) := by decide +kernel
theorem dX12_laysHoles_136 : decode cX12_laysHoles 136 = .ok (.aload_n 0, 1) := by decide +kernel
theorem dX12_laysHoles_137 : decode cX12_laysHoles 137 = .ok (.lload_n 1, 1) := by decide +kernel
theorem dX12_laysHoles_138 : decode cX12_laysHoles 138 = .ok (.iload 6, 2) := by decide +kernel
theorem dX12_laysHoles_140 : decode cX12_laysHoles 140 = .ok (.iload 7, 2) := by decide +kernel
theorem dX12_laysHoles_142 : decode cX12_laysHoles 142 = .ok (.iconst 1, 1) := by decide +kernel
theorem dX12_laysHoles_143 : decode cX12_laysHoles 143 = .ok (.isub, 1) := by decide +kernel
theorem dX12_laysHoles_144 : decode cX12_laysHoles 144 = .ok (.iload_n 3, 1) := by decide +kernel
theorem dX12_laysHoles_145 : decode cX12_laysHoles 145 = .ok (.invokevirtual 149, 3) := by decide +kernel
theorem dX12_laysHoles_148 : decode cX12_laysHoles 148 = .ok (.iinc 5 1, 3) := by decide +kernel
theorem dX12_laysHoles_151 : decode cX12_laysHoles 151 = .ok (.goto (-84), 3) := by decide +kernel
theorem dX12_laysHoles_154 : decode cX12_laysHoles 154 = .ok (.iload_n 3, 1) := by decide +kernel
theorem dX12_laysHoles_155 : decode cX12_laysHoles 155 = .ok (.iconst 1, 1) := by decide +kernel
theorem dX12_laysHoles_156 : decode cX12_laysHoles 156 = .ok (.iadd, 1) := by decide +kernel
theorem dX12_laysHoles_157 : decode cX12_laysHoles 157 = .ok (.istore_n 3, 1) := by decide +kernel
theorem dX12_laysHoles_158 : decode cX12_laysHoles 158 = .ok (.iinc 4 1, 3) := by decide +kernel
theorem dX12_laysHoles_161 : decode cX12_laysHoles 161 = .ok (.goto (-135), 3) := by decide +kernel
theorem dX12_laysHoles_164 : decode cX12_laysHoles 164 = .ok (.iload_n 3, 1) := by decide +kernel
theorem dX12_laysHoles_165 : decode cX12_laysHoles 165 = .ok (.iconst 1, 1) := by decide +kernel
theorem dX12_laysHoles_166 : decode cX12_laysHoles 166 = .ok (.isub, 1) := by decide +kernel
theorem dX12_laysHoles_167 : decode cX12_laysHoles 167 = .ok (.ireturn, 1) := by decide +kernel
theorem dX12_inHoles_0 : decode cX12_inHoles 0 = .ok (.aload_n 0, 1) := by decide +kernel
theorem dX12_inHoles_1 : decode cX12_inHoles 1 = .ok (.lload_n 1, 1) := by decide +kernel
theorem dX12_inHoles_2 : decode cX12_inHoles 2 = .ok (.invokevirtual 153, 3) := by decide +kernel
theorem dX12_inHoles_5 : decode cX12_inHoles 5 = .ok (.pop, 1) := by decide +kernel
theorem dX12_inHoles_6 : decode cX12_inHoles 6 = .ok (.iconst 0, 1) := by decide +kernel
theorem dX12_inHoles_7 : decode cX12_inHoles 7 = .ok (.istore_n 3, 1) := by decide +kernel
theorem dX12_inHoles_8 : decode cX12_inHoles 8 = .ok (.iconst 0, 1) := by decide +kernel
theorem dX12_inHoles_9 : decode cX12_inHoles 9 = .ok (.istore 4, 2) := by decide +kernel
theorem dX12_inHoles_11 : decode cX12_inHoles 11 = .ok (.iload 4, 2) := by decide +kernel
theorem dX12_inHoles_13 : decode cX12_inHoles 13 = .ok (.bipush 81, 2) := by decide +kernel
theorem dX12_inHoles_15 : decode cX12_inHoles 15 = .ok (.if_icmp .ge 27, 3) := by decide +kernel
theorem dX12_inHoles_18 : decode cX12_inHoles 18 = .ok (.iload_n 3, 1) := by decide +kernel
theorem dX12_inHoles_19 : decode cX12_inHoles 19 = .ok (.aload_n 0, 1) := by decide +kernel
theorem dX12_inHoles_20 : decode cX12_inHoles 20 = .ok (.getfield 20, 3) := by decide +kernel
theorem dX12_inHoles_23 : decode cX12_inHoles 23 = .ok (.iload 4, 2) := by decide +kernel
theorem dX12_inHoles_25 : decode cX12_inHoles 25 = .ok (.iaload, 1) := by decide +kernel
theorem dX12_inHoles_26 : decode cX12_inHoles 26 = .ok (.ifCond .le 7, 3) := by decide +kernel
theorem dX12_inHoles_29 : decode cX12_inHoles 29 = .ok (.iconst 1, 1) := by decide +kernel
theorem dX12_inHoles_30 : decode cX12_inHoles 30 = .ok (.goto 4, 3) := by decide +kernel
theorem dX12_inHoles_33 : decode cX12_inHoles 33 = .ok (.iconst 0, 1) := by decide +kernel
theorem dX12_inHoles_34 : decode cX12_inHoles 34 = .ok (.iadd, 1) := by decide +kernel
theorem dX12_inHoles_35 : decode cX12_inHoles 35 = .ok (.istore_n 3, 1) := by decide +kernel
theorem dX12_inHoles_36 : decode cX12_inHoles 36 = .ok (.iinc 4 1, 3) := by decide +kernel
theorem dX12_inHoles_39 : decode cX12_inHoles 39 = .ok (.goto (-28), 3) := by decide +kernel
theorem dX12_inHoles_42 : decode cX12_inHoles 42 = .ok (.iload_n 3, 1) := by decide +kernel
theorem dX12_inHoles_43 : decode cX12_inHoles 43 = .ok (.ireturn, 1) := by decide +kernel
theorem dX12_twos_0 : decode cX12_twos 0 = .ok (.lload_n 0, 1) := by decide +kernel
theorem dX12_twos_1 : decode cX12_twos 1 = .ok (.lload_n 0, 1) := by decide +kernel
theorem dX12_twos_2 : decode cX12_twos 2 = .ok (.iconst 1, 1) := by decide +kernel
theorem dX12_twos_3 : decode cX12_twos 3 = .ok (.lushr, 1) := by decide +kernel
theorem dX12_twos_4 : decode cX12_twos 4 = .ok (.land, 1) := by decide +kernel
theorem dX12_twos_5 : decode cX12_twos 5 = .ok (.ldc2_w 94, 3) := by decide +kernel
theorem dX12_twos_8 : decode cX12_twos 8 = .ok (.land, 1) := by decide +kernel
theorem dX12_twos_9 : decode cX12_twos 9 = .ok (.invokestatic 106, 3) := by decide +kernel
theorem dX12_twos_12 : decode cX12_twos 12 = .ok (.lload_n 0, 1) := by decide +kernel
theorem dX12_twos_13 : decode cX12_twos 13 = .ok (.lload_n 0, 1) := by decide +kernel
theorem dX12_twos_14 : decode cX12_twos 14 = .ok (.bipush 8, 2) := by decide +kernel
theorem dX12_twos_16 : decode cX12_twos 16 = .ok (.lushr, 1) := by decide +kernel
theorem dX12_twos_17 : decode cX12_twos 17 = .ok (.land, 1) := by decide +kernel
theorem dX12_twos_18 : decode cX12_twos 18 = .ok (.invokestatic 106, 3) := by decide +kernel
theorem dX12_twos_21 : decode cX12_twos 21 = .ok (.iadd, 1) := by decide +kernel
theorem dX12_twos_22 : decode cX12_twos 22 = .ok (.ireturn, 1) := by decide +kernel
theorem dX12_cutCells_0 : decode cX12_cutCells 0 = .ok (.iconst 0, 1) := by decide +kernel
theorem dX12_cutCells_1 : decode cX12_cutCells 1 = .ok (.istore_n 2, 1) := by decide +kernel
theorem dX12_cutCells_2 : decode cX12_cutCells 2 = .ok (.lload_n 0, 1) := by decide +kernel
theorem dX12_cutCells_3 : decode cX12_cutCells 3 = .ok (.lstore_n 3, 1) := by decide +kernel
theorem dX12_cutCells_4 : decode cX12_cutCells 4 = .ok (.lload_n 3, 1) := by decide +kernel
theorem dX12_cutCells_5 : decode cX12_cutCells 5 = .ok (.lconst 0, 1) := by decide +kernel
theorem dX12_cutCells_6 : decode cX12_cutCells 6 = .ok (.lcmp, 1) := by decide +kernel
theorem dX12_cutCells_7 : decode cX12_cutCells 7 = .ok (.ifCond .eq 47, 3) := by decide +kernel
theorem dX12_cutCells_10 : decode cX12_cutCells 10 = .ok (.lload_n 0, 1) := by decide +kernel
theorem dX12_cutCells_11 : decode cX12_cutCells 11 = .ok (.lload_n 3, 1) := by decide +kernel
theorem dX12_cutCells_12 : decode cX12_cutCells 12 = .ok (.lload_n 3, 1) := by decide +kernel
theorem dX12_cutCells_13 : decode cX12_cutCells 13 = .ok (.lneg, 1) := by decide +kernel
theorem dX12_cutCells_14 : decode cX12_cutCells 14 = .ok (.land, 1) := by decide +kernel
theorem dX12_cutCells_15 : decode cX12_cutCells 15 = .ok (.ldc2_w 98, 3) := by decide +kernel
theorem dX12_cutCells_18 : decode cX12_cutCells 18 = .ok (.lxor, 1) := by decide +kernel
theorem dX12_cutCells_19 : decode cX12_cutCells 19 = .ok (.land, 1) := by decide +kernel
theorem dX12_cutCells_20 : decode cX12_cutCells 20 = .ok (.lstore 5, 2) := by decide +kernel
theorem dX12_cutCells_22 : decode cX12_cutCells 22 = .ok (.iload_n 2, 1) := by decide +kernel
theorem dX12_cutCells_23 : decode cX12_cutCells 23 = .ok (.lload 5, 2) := by decide +kernel
theorem dX12_cutCells_25 : decode cX12_cutCells 25 = .ok (.lconst 0, 1) := by decide +kernel
theorem dX12_cutCells_26 : decode cX12_cutCells 26 = .ok (.lcmp, 1) := by decide +kernel
theorem dX12_cutCells_27 : decode cX12_cutCells 27 = .ok (.ifCond .eq 15, 3) := by decide +kernel
theorem dX12_cutCells_30 : decode cX12_cutCells 30 = .ok (.lload 5, 2) := by decide +kernel
theorem dX12_cutCells_32 : decode cX12_cutCells 32 = .ok (.invokestatic 110, 3) := by decide +kernel
theorem dX12_cutCells_35 : decode cX12_cutCells 35 = .ok (.ifCond .ne 7, 3) := by decide +kernel
theorem dX12_cutCells_38 : decode cX12_cutCells 38 = .ok (.iconst 1, 1) := by decide +kernel
theorem dX12_cutCells_39 : decode cX12_cutCells 39 = .ok (.goto 4, 3) := by decide +kernel
theorem dX12_cutCells_42 : decode cX12_cutCells 42 = .ok (.iconst 0, 1) := by decide +kernel
theorem dX12_cutCells_43 : decode cX12_cutCells 43 = .ok (.iadd, 1) := by decide +kernel
theorem dX12_cutCells_44 : decode cX12_cutCells 44 = .ok (.istore_n 2, 1) := by decide +kernel
theorem dX12_cutCells_45 : decode cX12_cutCells 45 = .ok (.lload_n 3, 1) := by decide +kernel
theorem dX12_cutCells_46 : decode cX12_cutCells 46 = .ok (.lload_n 3, 1) := by decide +kernel
theorem dX12_cutCells_47 : decode cX12_cutCells 47 = .ok (.lconst 1, 1) := by decide +kernel
theorem dX12_cutCells_48 : decode cX12_cutCells 48 = .ok (.lsub, 1) := by decide +kernel
theorem dX12_cutCells_49 : decode cX12_cutCells 49 = .ok (.land, 1) := by decide +kernel
theorem dX12_cutCells_50 : decode cX12_cutCells 50 = .ok (.lstore_n 3, 1) := by decide +kernel
theorem dX12_cutCells_51 : decode cX12_cutCells 51 = .ok (.goto (-47), 3) := by decide +kernel
theorem dX12_cutCells_54 : decode cX12_cutCells 54 = .ok (.iload_n 2, 1) := by decide +kernel
theorem dX12_cutCells_55 : decode cX12_cutCells 55 = .ok (.ireturn, 1) := by decide +kernel
theorem dX12_besideOf_0 : decode cX12_besideOf 0 = .ok (.iconst 0, 1) := by decide +kernel
theorem dX12_besideOf_1 : decode cX12_besideOf 1 = .ok (.istore_n 2, 1) := by decide +kernel
theorem dX12_besideOf_2 : decode cX12_besideOf 2 = .ok (.iconst (-1), 1) := by decide +kernel
theorem dX12_besideOf_3 : decode cX12_besideOf 3 = .ok (.istore_n 3, 1) := by decide +kernel
theorem dX12_besideOf_4 : decode cX12_besideOf 4 = .ok (.iload_n 3, 1) := by decide +kernel
theorem dX12_besideOf_5 : decode cX12_besideOf 5 = .ok (.bipush 8, 2) := by decide +kernel
theorem dX12_besideOf_7 : decode cX12_besideOf 7 = .ok (.if_icmp .ge 43, 3) := by decide +kernel
theorem dX12_besideOf_10 : decode cX12_besideOf 10 = .ok (.iconst (-1), 1) := by decide +kernel
theorem dX12_besideOf_11 : decode cX12_besideOf 11 = .ok (.istore 4, 2) := by decide +kernel
theorem dX12_besideOf_13 : decode cX12_besideOf 13 = .ok (.iload 4, 2) := by decide +kernel
theorem dX12_besideOf_15 : decode cX12_besideOf 15 = .ok (.bipush 8, 2) := by decide +kernel
theorem dX12_besideOf_17 : decode cX12_besideOf 17 = .ok (.if_icmp .ge 27, 3) := by decide +kernel
theorem dX12_besideOf_20 : decode cX12_besideOf 20 = .ok (.iload_n 2, 1) := by decide +kernel
theorem dX12_besideOf_21 : decode cX12_besideOf 21 = .ok (.lload_n 0, 1) := by decide +kernel
theorem dX12_besideOf_22 : decode cX12_besideOf 22 = .ok (.iload 4, 2) := by decide +kernel
theorem dX12_besideOf_24 : decode cX12_besideOf 24 = .ok (.iload_n 3, 1) := by decide +kernel
theorem dX12_besideOf_25 : decode cX12_besideOf 25 = .ok (.invokestatic 156, 3) := by decide +kernel
theorem dX12_besideOf_28 : decode cX12_besideOf 28 = .ok (.ifCond .eq 7, 3) := by decide +kernel
theorem dX12_besideOf_31 : decode cX12_besideOf 31 = .ok (.iconst 1, 1) := by decide +kernel
theorem dX12_besideOf_32 : decode cX12_besideOf 32 = .ok (.goto 4, 3) := by decide +kernel
theorem dX12_besideOf_35 : decode cX12_besideOf 35 = .ok (.iconst 0, 1) := by decide +kernel
theorem dX12_besideOf_36 : decode cX12_besideOf 36 = .ok (.iadd, 1) := by decide +kernel
theorem dX12_besideOf_37 : decode cX12_besideOf 37 = .ok (.istore_n 2, 1) := by decide +kernel
theorem dX12_besideOf_38 : decode cX12_besideOf 38 = .ok (.iinc 4 1, 3) := by decide +kernel
theorem dX12_besideOf_41 : decode cX12_besideOf 41 = .ok (.goto (-28), 3) := by decide +kernel
theorem dX12_besideOf_44 : decode cX12_besideOf 44 = .ok (.iinc 3 1, 3) := by decide +kernel
theorem dX12_besideOf_47 : decode cX12_besideOf 47 = .ok (.goto (-43), 3) := by decide +kernel
theorem dX12_besideOf_50 : decode cX12_besideOf 50 = .ok (.iload_n 2, 1) := by decide +kernel
theorem dX12_besideOf_51 : decode cX12_besideOf 51 = .ok (.ireturn, 1) := by decide +kernel
theorem dX12_isBeside_0 : decode cX12_isBeside 0 = .ok (.lload_n 0, 1) := by decide +kernel
theorem dX12_isBeside_1 : decode cX12_isBeside 1 = .ok (.iload_n 2, 1) := by decide +kernel
theorem dX12_isBeside_2 : decode cX12_isBeside 2 = .ok (.iload_n 3, 1) := by decide +kernel
theorem dX12_isBeside_3 : decode cX12_isBeside 3 = .ok (.invokestatic 142, 3) := by decide +kernel
theorem dX12_isBeside_6 : decode cX12_isBeside 6 = .ok (.ifCond .ne 51, 3) := by decide +kernel
theorem dX12_isBeside_9 : decode cX12_isBeside 9 = .ok (.lload_n 0, 1) := by decide +kernel
theorem dX12_isBeside_10 : decode cX12_isBeside 10 = .ok (.iload_n 2, 1) := by decide +kernel
theorem dX12_isBeside_11 : decode cX12_isBeside 11 = .ok (.iconst 1, 1) := by decide +kernel
theorem dX12_isBeside_12 : decode cX12_isBeside 12 = .ok (.iadd, 1) := by decide +kernel
theorem dX12_isBeside_13 : decode cX12_isBeside 13 = .ok (.iload_n 3, 1) := by decide +kernel
theorem dX12_isBeside_14 : decode cX12_isBeside 14 = .ok (.invokestatic 142, 3) := by decide +kernel
theorem dX12_isBeside_17 : decode cX12_isBeside 17 = .ok (.ifCond .ne 36, 3) := by decide +kernel
theorem dX12_isBeside_20 : decode cX12_isBeside 20 = .ok (.lload_n 0, 1) := by decide +kernel
theorem dX12_isBeside_21 : decode cX12_isBeside 21 = .ok (.iload_n 2, 1) := by decide +kernel
theorem dX12_isBeside_22 : decode cX12_isBeside 22 = .ok (.iconst 1, 1) := by decide +kernel
theorem dX12_isBeside_23 : decode cX12_isBeside 23 = .ok (.isub, 1) := by decide +kernel
theorem dX12_isBeside_24 : decode cX12_isBeside 24 = .ok (.iload_n 3, 1) := by decide +kernel
theorem dX12_isBeside_25 : decode cX12_isBeside 25 = .ok (.invokestatic 142, 3) := by decide +kernel
theorem dX12_isBeside_28 : decode cX12_isBeside 28 = .ok (.ifCond .ne 25, 3) := by decide +kernel
theorem dX12_isBeside_31 : decode cX12_isBeside 31 = .ok (.lload_n 0, 1) := by decide +kernel
theorem dX12_isBeside_32 : decode cX12_isBeside 32 = .ok (.iload_n 2, 1) := by decide +kernel
theorem dX12_isBeside_33 : decode cX12_isBeside 33 = .ok (.iload_n 3, 1) := by decide +kernel
theorem dX12_isBeside_34 : decode cX12_isBeside 34 = .ok (.iconst 1, 1) := by decide +kernel
theorem dX12_isBeside_35 : decode cX12_isBeside 35 = .ok (.iadd, 1) := by decide +kernel
theorem dX12_isBeside_36 : decode cX12_isBeside 36 = .ok (.invokestatic 142, 3) := by decide +kernel
theorem dX12_isBeside_39 : decode cX12_isBeside 39 = .ok (.ifCond .ne 14, 3) := by decide +kernel
theorem dX12_isBeside_42 : decode cX12_isBeside 42 = .ok (.lload_n 0, 1) := by decide +kernel
theorem dX12_isBeside_43 : decode cX12_isBeside 43 = .ok (.iload_n 2, 1) := by decide +kernel
theorem dX12_isBeside_44 : decode cX12_isBeside 44 = .ok (.iload_n 3, 1) := by decide +kernel
theorem dX12_isBeside_45 : decode cX12_isBeside 45 = .ok (.iconst 1, 1) := by decide +kernel
theorem dX12_isBeside_46 : decode cX12_isBeside 46 = .ok (.isub, 1) := by decide +kernel
theorem dX12_isBeside_47 : decode cX12_isBeside 47 = .ok (.invokestatic 142, 3) := by decide +kernel
theorem dX12_isBeside_50 : decode cX12_isBeside 50 = .ok (.ifCond .eq 7, 3) := by decide +kernel
theorem dX12_isBeside_53 : decode cX12_isBeside 53 = .ok (.iconst 1, 1) := by decide +kernel
theorem dX12_isBeside_54 : decode cX12_isBeside 54 = .ok (.goto 4, 3) := by decide +kernel
theorem dX12_isBeside_57 : decode cX12_isBeside 57 = .ok (.iconst 0, 1) := by decide +kernel
theorem dX12_isBeside_58 : decode cX12_isBeside 58 = .ok (.ireturn, 1) := by decide +kernel
theorem dX12_pointsOf_0 : decode cX12_pointsOf 0 = .ok (.iconst 0, 1) := by decide +kernel
theorem dX12_pointsOf_1 : decode cX12_pointsOf 1 = .ok (.istore_n 3, 1) := by decide +kernel
theorem dX12_pointsOf_2 : decode cX12_pointsOf 2 = .ok (.iconst 0, 1) := by decide +kernel
theorem dX12_pointsOf_3 : decode cX12_pointsOf 3 = .ok (.istore 4, 2) := by decide +kernel
theorem dX12_pointsOf_5 : decode cX12_pointsOf 5 = .ok (.iload 4, 2) := by decide +kernel
theorem dX12_pointsOf_7 : decode cX12_pointsOf 7 = .ok (.bipush 8, 2) := by decide +kernel
theorem dX12_pointsOf_9 : decode cX12_pointsOf 9 = .ok (.if_icmp .ge 216, 3) := by decide +kernel
theorem dX12_pointsOf_12 : decode cX12_pointsOf 12 = .ok (.iconst 0, 1) := by decide +kernel
theorem dX12_pointsOf_13 : decode cX12_pointsOf 13 = .ok (.istore 5, 2) := by decide +kernel
theorem dX12_pointsOf_15 : decode cX12_pointsOf 15 = .ok (.iload 5, 2) := by decide +kernel
theorem dX12_pointsOf_17 : decode cX12_pointsOf 17 = .ok (.bipush 8, 2) := by decide +kernel
theorem dX12_pointsOf_19 : decode cX12_pointsOf 19 = .ok (.if_icmp .ge 200, 3) := by decide +kernel
theorem dX12_pointsOf_22 : decode cX12_pointsOf 22 = .ok (.lload_n 0, 1) := by decide +kernel
theorem dX12_pointsOf_23 : decode cX12_pointsOf 23 = .ok (.iload 5, 2) := by decide +kernel
theorem dX12_pointsOf_25 : decode cX12_pointsOf 25 = .ok (.iconst 1, 1) := by decide +kernel
theorem dX12_pointsOf_26 : decode cX12_pointsOf 26 = .ok (.isub, 1) := by decide +kernel
theorem dX12_pointsOf_27 : decode cX12_pointsOf 27 = .ok (.iload 4, 2) := by decide +kernel
theorem dX12_pointsOf_29 : decode cX12_pointsOf 29 = .ok (.iconst 1, 1) := by decide +kernel
theorem dX12_pointsOf_30 : decode cX12_pointsOf 30 = .ok (.isub, 1) := by decide +kernel
theorem dX12_pointsOf_31 : decode cX12_pointsOf 31 = .ok (.invokestatic 142, 3) := by decide +kernel
theorem dX12_pointsOf_34 : decode cX12_pointsOf 34 = .ok (.istore 6, 2) := by decide +kernel
theorem dX12_pointsOf_36 : decode cX12_pointsOf 36 = .ok (.lload_n 0, 1) := by decide +kernel
theorem dX12_pointsOf_37 : decode cX12_pointsOf 37 = .ok (.iload 5, 2) := by decide +kernel
theorem dX12_pointsOf_39 : decode cX12_pointsOf 39 = .ok (.iload 4, 2) := by decide +kernel
theorem dX12_pointsOf_41 : decode cX12_pointsOf 41 = .ok (.iconst 1, 1) := by decide +kernel
theorem dX12_pointsOf_42 : decode cX12_pointsOf 42 = .ok (.isub, 1) := by decide +kernel
theorem dX12_pointsOf_43 : decode cX12_pointsOf 43 = .ok (.invokestatic 142, 3) := by decide +kernel
theorem dX12_pointsOf_46 : decode cX12_pointsOf 46 = .ok (.istore 7, 2) := by decide +kernel
theorem dX12_pointsOf_48 : decode cX12_pointsOf 48 = .ok (.lload_n 0, 1) := by decide +kernel
theorem dX12_pointsOf_49 : decode cX12_pointsOf 49 = .ok (.iload 5, 2) := by decide +kernel
theorem dX12_pointsOf_51 : decode cX12_pointsOf 51 = .ok (.iconst 1, 1) := by decide +kernel
theorem dX12_pointsOf_52 : decode cX12_pointsOf 52 = .ok (.isub, 1) := by decide +kernel
theorem dX12_pointsOf_53 : decode cX12_pointsOf 53 = .ok (.iload 4, 2) := by decide +kernel
theorem dX12_pointsOf_55 : decode cX12_pointsOf 55 = .ok (.invokestatic 142, 3) := by decide +kernel
theorem dX12_pointsOf_58 : decode cX12_pointsOf 58 = .ok (.istore 8, 2) := by decide +kernel
theorem dX12_pointsOf_60 : decode cX12_pointsOf 60 = .ok (.lload_n 0, 1) := by decide +kernel
theorem dX12_pointsOf_61 : decode cX12_pointsOf 61 = .ok (.iload 5, 2) := by decide +kernel
theorem dX12_pointsOf_63 : decode cX12_pointsOf 63 = .ok (.iload 4, 2) := by decide +kernel
theorem dX12_pointsOf_65 : decode cX12_pointsOf 65 = .ok (.invokestatic 142, 3) := by decide +kernel
theorem dX12_pointsOf_68 : decode cX12_pointsOf 68 = .ok (.istore 9, 2) := by decide +kernel
theorem dX12_pointsOf_70 : decode cX12_pointsOf 70 = .ok (.iload 6, 2) := by decide +kernel
theorem dX12_pointsOf_72 : decode cX12_pointsOf 72 = .ok (.ifCond .eq 7, 3) := by decide +kernel
theorem dX12_pointsOf_75 : decode cX12_pointsOf 75 = .ok (.iconst 1, 1) := by decide +kernel
theorem dX12_pointsOf_76 : decode cX12_pointsOf 76 = .ok (.goto 4, 3) := by decide +kernel
theorem dX12_pointsOf_79 : decode cX12_pointsOf 79 = .ok (.iconst 0, 1) := by decide +kernel
theorem dX12_pointsOf_80 : decode cX12_pointsOf 80 = .ok (.iload 7, 2) := by decide +kernel
theorem dX12_pointsOf_82 : decode cX12_pointsOf 82 = .ok (.ifCond .eq 7, 3) := by decide +kernel
theorem dX12_pointsOf_85 : decode cX12_pointsOf 85 = .ok (.iconst 1, 1) := by decide +kernel
theorem dX12_pointsOf_86 : decode cX12_pointsOf 86 = .ok (.goto 4, 3) := by decide +kernel
theorem dX12_pointsOf_89 : decode cX12_pointsOf 89 = .ok (.iconst 0, 1) := by decide +kernel
theorem dX12_pointsOf_90 : decode cX12_pointsOf 90 = .ok (.iadd, 1) := by decide +kernel
theorem dX12_pointsOf_91 : decode cX12_pointsOf 91 = .ok (.iload 8, 2) := by decide +kernel
theorem dX12_pointsOf_93 : decode cX12_pointsOf 93 = .ok (.ifCond .eq 7, 3) := by decide +kernel
theorem dX12_pointsOf_96 : decode cX12_pointsOf 96 = .ok (.iconst 1, 1) := by decide +kernel
theorem dX12_pointsOf_97 : decode cX12_pointsOf 97 = .ok (.goto 4, 3) := by decide +kernel
theorem dX12_pointsOf_100 : decode cX12_pointsOf 100 = .ok (.iconst 0, 1) := by decide +kernel
theorem dX12_pointsOf_101 : decode cX12_pointsOf 101 = .ok (.iadd, 1) := by decide +kernel
theorem dX12_pointsOf_102 : decode cX12_pointsOf 102 = .ok (.iload 9, 2) := by decide +kernel
theorem dX12_pointsOf_104 : decode cX12_pointsOf 104 = .ok (.ifCond .eq 7, 3) := by decide +kernel
theorem dX12_pointsOf_107 : decode cX12_pointsOf 107 = .ok (.iconst 1, 1) := by decide +kernel
theorem dX12_pointsOf_108 : decode cX12_pointsOf 108 = .ok (.goto 4, 3) := by decide +kernel
theorem dX12_pointsOf_111 : decode cX12_pointsOf 111 = .ok (.iconst 0, 1) := by decide +kernel
theorem dX12_pointsOf_112 : decode cX12_pointsOf 112 = .ok (.iadd, 1) := by decide +kernel
theorem dX12_pointsOf_113 : decode cX12_pointsOf 113 = .ok (.istore 10, 2) := by decide +kernel
theorem dX12_pointsOf_115 : decode cX12_pointsOf 115 = .ok (.iload 10, 2) := by decide +kernel
theorem dX12_pointsOf_117 : decode cX12_pointsOf 117 = .ok (.iconst 2, 1) := by decide +kernel
theorem dX12_pointsOf_118 : decode cX12_pointsOf 118 = .ok (.if_icmp .ne 14, 3) := by decide +kernel
theorem dX12_pointsOf_121 : decode cX12_pointsOf 121 = .ok (.iload 6, 2) := by decide +kernel
theorem dX12_pointsOf_123 : decode cX12_pointsOf 123 = .ok (.iload 9, 2) := by decide +kernel
theorem dX12_pointsOf_125 : decode cX12_pointsOf 125 = .ok (.if_icmp .ne 7, 3) := by decide +kernel
theorem dX12_pointsOf_128 : decode cX12_pointsOf 128 = .ok (.iconst 1, 1) := by decide +kernel
theorem dX12_pointsOf_129 : decode cX12_pointsOf 129 = .ok (.goto 4, 3) := by decide +kernel
theorem dX12_pointsOf_132 : decode cX12_pointsOf 132 = .ok (.iconst 0, 1) := by decide +kernel
theorem dX12_pointsOf_133 : decode cX12_pointsOf 133 = .ok (.istore 11, 2) := by decide +kernel
theorem dX12_pointsOf_135 : decode cX12_pointsOf 135 = .ok (.iload_n 3, 1) := by decide +kernel
theorem dX12_pointsOf_136 : decode cX12_pointsOf 136 = .ok (.iload_n 2, 1) := by decide +kernel
theorem dX12_pointsOf_137 : decode cX12_pointsOf 137 = .ok (.ifCond .ne 26, 3) := by decide +kernel
theorem dX12_pointsOf_140 : decode cX12_pointsOf 140 = .ok (.iload 10, 2) := by decide +kernel
theorem dX12_pointsOf_142 : decode cX12_pointsOf 142 = .ok (.iconst 1, 1) := by decide +kernel
theorem dX12_pointsOf_143 : decode cX12_pointsOf 143 = .ok (.if_icmp .ne 7, 3) := by decide +kernel
theorem dX12_pointsOf_146 : decode cX12_pointsOf 146 = .ok (.iconst 1, 1) := by decide +kernel
theorem dX12_pointsOf_147 : decode cX12_pointsOf 147 = .ok (.goto 64, 3) := by decide +kernel
theorem dX12_pointsOf_150 : decode cX12_pointsOf 150 = .ok (.iload 11, 2) := by decide +kernel
theorem dX12_pointsOf_152 : decode cX12_pointsOf 152 = .ok (.ifCond .eq 7, 3) := by decide +kernel
theorem dX12_pointsOf_155 : decode cX12_pointsOf 155 = .ok (.iconst 2, 1) := by decide +kernel
theorem dX12_pointsOf_156 : decode cX12_pointsOf 156 = .ok (.goto 55, 3) := by decide +kernel
theorem dX12_pointsOf_159 : decode cX12_pointsOf 159 = .ok (.iconst 0, 1) := by decide +kernel
theorem dX12_pointsOf_160 : decode cX12_pointsOf 160 = .ok (.goto 51, 3) := by decide +kernel
theorem dX12_pointsOf_163 : decode cX12_pointsOf 163 = .ok (.iload_n 2, 1) := by decide +kernel
theorem dX12_pointsOf_164 : decode cX12_pointsOf 164 = .ok (.iconst 1, 1) := by decide +kernel
theorem dX12_pointsOf_165 : decode cX12_pointsOf 165 = .ok (.if_icmp .ne 17, 3) := by decide +kernel
theorem dX12_pointsOf_168 : decode cX12_pointsOf 168 = .ok (.iload 10, 2) := by decide +kernel
theorem dX12_pointsOf_170 : decode cX12_pointsOf 170 = .ok (.iconst 3, 1) := by decide +kernel
theorem dX12_pointsOf_171 : decode cX12_pointsOf 171 = .ok (.if_icmp .ne 7, 3) := by decide +kernel
theorem dX12_pointsOf_174 : decode cX12_pointsOf 174 = .ok (.iconst 1, 1) := by decide +kernel
theorem dX12_pointsOf_175 : decode cX12_pointsOf 175 = .ok (.goto 36, 3) := by decide +kernel
theorem dX12_pointsOf_178 : decode cX12_pointsOf 178 = .ok (.iconst 0, 1) := by decide +kernel
theorem dX12_pointsOf_179 : decode cX12_pointsOf 179 = .ok (.goto 32, 3) := by decide +kernel
theorem dX12_pointsOf_182 : decode cX12_pointsOf 182 = .ok (.iload_n 2, 1) := by decide +kernel
theorem dX12_pointsOf_183 : decode cX12_pointsOf 183 = .ok (.iconst 2, 1) := by decide +kernel
theorem dX12_pointsOf_184 : decode cX12_pointsOf 184 = .ok (.if_icmp .ne 16, 3) := by decide +kernel
theorem dX12_pointsOf_187 : decode cX12_pointsOf 187 = .ok (.iload 11, 2) := by decide +kernel
theorem dX12_pointsOf_189 : decode cX12_pointsOf 189 = .ok (.ifCond .eq 7, 3) := by decide +kernel
theorem dX12_pointsOf_192 : decode cX12_pointsOf 192 = .ok (.iconst 1, 1) := by decide +kernel
theorem dX12_pointsOf_193 : decode cX12_pointsOf 193 = .ok (.goto 18, 3) := by decide +kernel
theorem dX12_pointsOf_196 : decode cX12_pointsOf 196 = .ok (.iconst 0, 1) := by decide +kernel
theorem dX12_pointsOf_197 : decode cX12_pointsOf 197 = .ok (.goto 14, 3) := by decide +kernel
theorem dX12_pointsOf_200 : decode cX12_pointsOf 200 = .ok (.iload 10, 2) := by decide +kernel
theorem dX12_pointsOf_202 : decode cX12_pointsOf 202 = .ok (.iconst 4, 1) := by decide +kernel
theorem dX12_pointsOf_203 : decode cX12_pointsOf 203 = .ok (.if_icmp .ne 7, 3) := by decide +kernel
theorem dX12_pointsOf_206 : decode cX12_pointsOf 206 = .ok (.iconst 1, 1) := by decide +kernel
theorem dX12_pointsOf_207 : decode cX12_pointsOf 207 = .ok (.goto 4, 3) := by decide +kernel
theorem dX12_pointsOf_210 : decode cX12_pointsOf 210 = .ok (.iconst 0, 1) := by decide +kernel
theorem dX12_pointsOf_211 : decode cX12_pointsOf 211 = .ok (.iadd, 1) := by decide +kernel
theorem dX12_pointsOf_212 : decode cX12_pointsOf 212 = .ok (.istore_n 3, 1) := by decide +kernel
theorem dX12_pointsOf_213 : decode cX12_pointsOf 213 = .ok (.iinc 5 1, 3) := by decide +kernel
theorem dX12_pointsOf_216 : decode cX12_pointsOf 216 = .ok (.goto (-201), 3) := by decide +kernel
theorem dX12_pointsOf_219 : decode cX12_pointsOf 219 = .ok (.iinc 4 1, 3) := by decide +kernel
theorem dX12_pointsOf_222 : decode cX12_pointsOf 222 = .ok (.goto (-217), 3) := by decide +kernel
theorem dX12_pointsOf_225 : decode cX12_pointsOf 225 = .ok (.iload_n 3, 1) := by decide +kernel
theorem dX12_pointsOf_226 : decode cX12_pointsOf 226 = .ok (.ireturn, 1) := by decide +kernel
theorem dX12_rowWhole_0 : decode cX12_rowWhole 0 = .ok (.iconst 0, 1) := by decide +kernel
theorem dX12_rowWhole_1 : decode cX12_rowWhole 1 = .ok (.istore_n 2, 1) := by decide +kernel
theorem dX12_rowWhole_2 : decode cX12_rowWhole 2 = .ok (.iload_n 2, 1) := by decide +kernel
theorem dX12_rowWhole_3 : decode cX12_rowWhole 3 = .ok (.bipush 7, 2) := by decide +kernel
theorem dX12_rowWhole_5 : decode cX12_rowWhole 5 = .ok (.if_icmp .ge 45, 3) := by decide +kernel
theorem dX12_rowWhole_8 : decode cX12_rowWhole 8 = .ok (.lload_n 0, 1) := by decide +kernel
theorem dX12_rowWhole_9 : decode cX12_rowWhole 9 = .ok (.bipush 8, 2) := by decide +kernel
theorem dX12_rowWhole_11 : decode cX12_rowWhole 11 = .ok (.iload_n 2, 1) := by decide +kernel
theorem dX12_rowWhole_12 : decode cX12_rowWhole 12 = .ok (.imul, 1) := by decide +kernel
theorem dX12_rowWhole_13 : decode cX12_rowWhole 13 = .ok (.lshr, 1) := by decide +kernel
theorem dX12_rowWhole_14 : decode cX12_rowWhole 14 = .ok (.ldc2_w 90, 3) := by decide +kernel
theorem dX12_rowWhole_17 : decode cX12_rowWhole 17 = .ok (.land, 1) := by decide +kernel
theorem dX12_rowWhole_18 : decode cX12_rowWhole 18 = .ok (.lstore_n 3, 1) := by decide +kernel
theorem dX12_rowWhole_19 : decode cX12_rowWhole 19 = .ok (.lload_n 3, 1) := by decide +kernel
theorem dX12_rowWhole_20 : decode cX12_rowWhole 20 = .ok (.lload_n 3, 1) := by decide +kernel
theorem dX12_rowWhole_21 : decode cX12_rowWhole 21 = .ok (.lneg, 1) := by decide +kernel
theorem dX12_rowWhole_22 : decode cX12_rowWhole 22 = .ok (.land, 1) := by decide +kernel
theorem dX12_rowWhole_23 : decode cX12_rowWhole 23 = .ok (.lstore 5, 2) := by decide +kernel
theorem dX12_rowWhole_25 : decode cX12_rowWhole 25 = .ok (.lload_n 3, 1) := by decide +kernel
theorem dX12_rowWhole_26 : decode cX12_rowWhole 26 = .ok (.lconst 0, 1) := by decide +kernel
theorem dX12_rowWhole_27 : decode cX12_rowWhole 27 = .ok (.lcmp, 1) := by decide +kernel
theorem dX12_rowWhole_28 : decode cX12_rowWhole 28 = .ok (.ifCond .eq 16, 3) := by decide +kernel
theorem dX12_rowWhole_31 : decode cX12_rowWhole 31 = .ok (.lload_n 3, 1) := by decide +kernel
theorem dX12_rowWhole_32 : decode cX12_rowWhole 32 = .ok (.lload 5, 2) := by decide +kernel
theorem dX12_rowWhole_34 : decode cX12_rowWhole 34 = .ok (.ladd, 1) := by decide +kernel
theorem dX12_rowWhole_35 : decode cX12_rowWhole 35 = .ok (.lload_n 3, 1) := by decide +kernel
theorem dX12_rowWhole_36 : decode cX12_rowWhole 36 = .ok (.land, 1) := by decide +kernel
theorem dX12_rowWhole_37 : decode cX12_rowWhole 37 = .ok (.lconst 0, 1) := by decide +kernel
theorem dX12_rowWhole_38 : decode cX12_rowWhole 38 = .ok (.lcmp, 1) := by decide +kernel
theorem dX12_rowWhole_39 : decode cX12_rowWhole 39 = .ok (.ifCond .eq 5, 3) := by decide +kernel
theorem dX12_rowWhole_42 : decode cX12_rowWhole 42 = .ok (.iconst 0, 1) := by decide +kernel
theorem dX12_rowWhole_43 : decode cX12_rowWhole 43 = .ok (.ireturn, 1) := by decide +kernel
theorem dX12_rowWhole_44 : decode cX12_rowWhole 44 = .ok (.iinc 2 1, 3) := by decide +kernel
theorem dX12_rowWhole_47 : decode cX12_rowWhole 47 = .ok (.goto (-45), 3) := by decide +kernel
theorem dX12_rowWhole_50 : decode cX12_rowWhole 50 = .ok (.iconst 1, 1) := by decide +kernel
theorem dX12_rowWhole_51 : decode cX12_rowWhole 51 = .ok (.ireturn, 1) := by decide +kernel
theorem dX12_sameOf_0 : decode cX12_sameOf 0 = .ok (.iconst 0, 1) := by decide +kernel
theorem dX12_sameOf_1 : decode cX12_sameOf 1 = .ok (.istore_n 2, 1) := by decide +kernel
theorem dX12_sameOf_2 : decode cX12_sameOf 2 = .ok (.iconst 0, 1) := by decide +kernel
theorem dX12_sameOf_3 : decode cX12_sameOf 3 = .ok (.istore_n 3, 1) := by decide +kernel
theorem dX12_sameOf_4 : decode cX12_sameOf 4 = .ok (.iload_n 3, 1) := by decide +kernel
theorem dX12_sameOf_5 : decode cX12_sameOf 5 = .ok (.bipush 8, 2) := by decide +kernel
theorem dX12_sameOf_7 : decode cX12_sameOf 7 = .ok (.if_icmp .ge 27, 3) := by decide +kernel
theorem dX12_sameOf_10 : decode cX12_sameOf 10 = .ok (.iload_n 2, 1) := by decide +kernel
theorem dX12_sameOf_11 : decode cX12_sameOf 11 = .ok (.lload_n 0, 1) := by decide +kernel
theorem dX12_sameOf_12 : decode cX12_sameOf 12 = .ok (.iload_n 3, 1) := by decide +kernel
theorem dX12_sameOf_13 : decode cX12_sameOf 13 = .ok (.invokestatic 159, 3) := by decide +kernel
theorem dX12_sameOf_16 : decode cX12_sameOf 16 = .ok (.lload_n 0, 1) := by decide +kernel
theorem dX12_sameOf_17 : decode cX12_sameOf 17 = .ok (.lcmp, 1) := by decide +kernel
theorem dX12_sameOf_18 : decode cX12_sameOf 18 = .ok (.ifCond .ne 7, 3) := by decide +kernel
theorem dX12_sameOf_21 : decode cX12_sameOf 21 = .ok (.iconst 1, 1) := by decide +kernel
theorem dX12_sameOf_22 : decode cX12_sameOf 22 = .ok (.goto 4, 3) := by decide +kernel
theorem dX12_sameOf_25 : decode cX12_sameOf 25 = .ok (.iconst 0, 1) := by decide +kernel
theorem dX12_sameOf_26 : decode cX12_sameOf 26 = .ok (.iadd, 1) := by decide +kernel
theorem dX12_sameOf_27 : decode cX12_sameOf 27 = .ok (.istore_n 2, 1) := by decide +kernel
theorem dX12_sameOf_28 : decode cX12_sameOf 28 = .ok (.iinc 3 1, 3) := by decide +kernel
theorem dX12_sameOf_31 : decode cX12_sameOf 31 = .ok (.goto (-27), 3) := by decide +kernel
theorem dX12_sameOf_34 : decode cX12_sameOf 34 = .ok (.iload_n 2, 1) := by decide +kernel
theorem dX12_sameOf_35 : decode cX12_sameOf 35 = .ok (.ireturn, 1) := by decide +kernel
theorem dX12_toldOf_0 : decode cX12_toldOf 0 = .ok (.iload_n 3, 1) := by decide +kernel
theorem dX12_toldOf_1 : decode cX12_toldOf 1 = .ok (.tableswitch 158 0 13 #[71, 76, 81, 86, 100, 106, 112, 117, 122, 128, 134, 140, 145, 153], 71) := by decide +kernel
theorem dX12_toldOf_72 : decode cX12_toldOf 72 = .ok (.lload_n 1, 1) := by decide +kernel
theorem dX12_toldOf_73 : decode cX12_toldOf 73 = .ok (.invokestatic 106, 3) := by decide +kernel
theorem dX12_toldOf_76 : decode cX12_toldOf 76 = .ok (.ireturn, 1) := by decide +kernel
theorem dX12_toldOf_77 : decode cX12_toldOf 77 = .ok (.lload_n 1, 1) := by decide +kernel
theorem dX12_toldOf_78 : decode cX12_toldOf 78 = .ok (.invokestatic 163, 3) := by decide +kernel
theorem dX12_toldOf_81 : decode cX12_toldOf 81 = .ok (.ireturn, 1) := by decide +kernel
theorem dX12_toldOf_82 : decode cX12_toldOf 82 = .ok (.lload_n 1, 1) := by decide +kernel
theorem dX12_toldOf_83 : decode cX12_toldOf 83 = .ok (.invokestatic 166, 3) := by decide +kernel
theorem dX12_toldOf_86 : decode cX12_toldOf 86 = .ok (.ireturn, 1) := by decide +kernel
theorem dX12_toldOf_87 : decode cX12_toldOf 87 = .ok (.iconst 4, 1) := by decide +kernel
theorem dX12_toldOf_88 : decode cX12_toldOf 88 = .ok (.lload_n 1, 1) := by decide +kernel
theorem dX12_toldOf_89 : decode cX12_toldOf 89 = .ok (.invokestatic 106, 3) := by decide +kernel
theorem dX12_toldOf_92 : decode cX12_toldOf 92 = .ok (.imul, 1) := by decide +kernel
theorem dX12_toldOf_93 : decode cX12_toldOf 93 = .ok (.iconst 2, 1) := by decide +kernel
theorem dX12_toldOf_94 : decode cX12_toldOf 94 = .ok (.lload_n 1, 1) := by decide +kernel
theorem dX12_toldOf_95 : decode cX12_toldOf 95 = .ok (.invokestatic 169, 3) := by decide +kernel
theorem dX12_toldOf_98 : decode cX12_toldOf 98 = .ok (.imul, 1) := by decide +kernel
theorem dX12_toldOf_99 : decode cX12_toldOf 99 = .ok (.isub, 1) := by decide +kernel
theorem dX12_toldOf_100 : decode cX12_toldOf 100 = .ok (.ireturn, 1) := by decide +kernel
theorem dX12_toldOf_101 : decode cX12_toldOf 101 = .ok (.aload_n 0, 1) := by decide +kernel
theorem dX12_toldOf_102 : decode cX12_toldOf 102 = .ok (.lload_n 1, 1) := by decide +kernel
theorem dX12_toldOf_103 : decode cX12_toldOf 103 = .ok (.invokevirtual 153, 3) := by decide +kernel
theorem dX12_toldOf_106 : decode cX12_toldOf 106 = .ok (.ireturn, 1) := by decide +kernel
theorem dX12_toldOf_107 : decode cX12_toldOf 107 = .ok (.aload_n 0, 1) := by decide +kernel
theorem dX12_toldOf_108 : decode cX12_toldOf 108 = .ok (.lload_n 1, 1) := by decide +kernel
theorem dX12_toldOf_109 : decode cX12_toldOf 109 = .ok (.invokevirtual 172, 3) := by decide +kernel
theorem dX12_toldOf_112 : decode cX12_toldOf 112 = .ok (.ireturn, 1) := by decide +kernel
theorem dX12_toldOf_113 : decode cX12_toldOf 113 = .ok (.lload_n 1, 1) := by decide +kernel
theorem dX12_toldOf_114 : decode cX12_toldOf 114 = .ok (.invokestatic 175, 3) := by decide +kernel
theorem dX12_toldOf_117 : decode cX12_toldOf 117 = .ok (.ireturn, 1) := by decide +kernel
theorem dX12_toldOf_118 : decode cX12_toldOf 118 = .ok (.lload_n 1, 1) := by decide +kernel
theorem dX12_toldOf_119 : decode cX12_toldOf 119 = .ok (.invokestatic 178, 3) := by decide +kernel
theorem dX12_toldOf_122 : decode cX12_toldOf 122 = .ok (.ireturn, 1) := by decide +kernel
theorem dX12_toldOf_123 : decode cX12_toldOf 123 = .ok (.lload_n 1, 1) := by decide +kernel
theorem dX12_toldOf_124 : decode cX12_toldOf 124 = .ok (.iconst 0, 1) := by decide +kernel
theorem dX12_toldOf_125 : decode cX12_toldOf 125 = .ok (.invokestatic 181, 3) := by decide +kernel
theorem dX12_toldOf_128 : decode cX12_toldOf 128 = .ok (.ireturn, 1) := by decide +kernel
theorem dX12_toldOf_129 : decode cX12_toldOf 129 = .ok (.lload_n 1, 1) := by decide +kernel
theorem dX12_toldOf_130 : decode cX12_toldOf 130 = .ok (.iconst 1, 1) := by decide +kernel
theorem dX12_toldOf_131 : decode cX12_toldOf 131 = .ok (.invokestatic 181, 3) := by decide +kernel
theorem dX12_toldOf_134 : decode cX12_toldOf 134 = .ok (.ireturn, 1) := by decide +kernel
theorem dX12_toldOf_135 : decode cX12_toldOf 135 = .ok (.lload_n 1, 1) := by decide +kernel
theorem dX12_toldOf_136 : decode cX12_toldOf 136 = .ok (.iconst 3, 1) := by decide +kernel
theorem dX12_toldOf_137 : decode cX12_toldOf 137 = .ok (.invokestatic 181, 3) := by decide +kernel
theorem dX12_toldOf_140 : decode cX12_toldOf 140 = .ok (.ireturn, 1) := by decide +kernel
theorem dX12_toldOf_141 : decode cX12_toldOf 141 = .ok (.lload_n 1, 1) := by decide +kernel
theorem dX12_toldOf_142 : decode cX12_toldOf 142 = .ok (.invokestatic 185, 3) := by decide +kernel
theorem dX12_toldOf_145 : decode cX12_toldOf 145 = .ok (.ireturn, 1) := by decide +kernel
theorem dX12_toldOf_146 : decode cX12_toldOf 146 = .ok (.lload_n 1, 1) := by decide +kernel
theorem dX12_toldOf_147 : decode cX12_toldOf 147 = .ok (.invokestatic 124, 3) := by decide +kernel
theorem dX12_toldOf_150 : decode cX12_toldOf 150 = .ok (.invokestatic 185, 3) := by decide +kernel
theorem dX12_toldOf_153 : decode cX12_toldOf 153 = .ok (.ireturn, 1) := by decide +kernel
theorem dX12_toldOf_154 : decode cX12_toldOf 154 = .ok (.lload_n 1, 1) := by decide +kernel
theorem dX12_toldOf_155 : decode cX12_toldOf 155 = .ok (.invokestatic 188, 3) := by decide +kernel
theorem dX12_toldOf_158 : decode cX12_toldOf 158 = .ok (.ireturn, 1) := by decide +kernel
theorem dX12_toldOf_159 : decode cX12_toldOf 159 = .ok (.lload_n 1, 1) := by decide +kernel
theorem dX12_toldOf_160 : decode cX12_toldOf 160 = .ok (.invokestatic 169, 3) := by decide +kernel
theorem dX12_toldOf_163 : decode cX12_toldOf 163 = .ok (.ireturn, 1) := by decide +kernel
theorem dX12_told_0 : decode cX12_told 0 = .ok (.iload_n 1, 1) := by decide +kernel
theorem dX12_told_1 : decode cX12_told 1 = .ok (.invokestatic 135, 3) := by decide +kernel
theorem dX12_told_4 : decode cX12_told 4 = .ok (.ifCond .eq 13, 3) := by decide +kernel
theorem dX12_told_7 : decode cX12_told 7 = .ok (.iload_n 2, 1) := by decide +kernel
theorem dX12_told_8 : decode cX12_told 8 = .ok (.iconst 0, 1) := by decide +kernel
theorem dX12_told_9 : decode cX12_told 9 = .ok (.bipush 14, 2) := by decide +kernel
theorem dX12_told_11 : decode cX12_told 11 = .ok (.invokestatic 82, 3) := by decide +kernel
theorem dX12_told_14 : decode cX12_told 14 = .ok (.ifCond .ne 5, 3) := by decide +kernel
theorem dX12_told_17 : decode cX12_told 17 = .ok (.iconst (-1), 1) := by decide +kernel
theorem dX12_told_18 : decode cX12_told 18 = .ok (.ireturn, 1) := by decide +kernel
theorem dX12_told_19 : decode cX12_told 19 = .ok (.aload_n 0, 1) := by decide +kernel
theorem dX12_told_20 : decode cX12_told 20 = .ok (.getfield 7, 3) := by decide +kernel
theorem dX12_told_23 : decode cX12_told 23 = .ok (.iload_n 1, 1) := by decide +kernel
theorem dX12_told_24 : decode cX12_told 24 = .ok (.laload, 1) := by decide +kernel
theorem dX12_told_25 : decode cX12_told 25 = .ok (.lconst 0, 1) := by decide +kernel
theorem dX12_told_26 : decode cX12_told 26 = .ok (.lcmp, 1) := by decide +kernel
theorem dX12_told_27 : decode cX12_told 27 = .ok (.ifCond .ne 8, 3) := by decide +kernel
theorem dX12_told_30 : decode cX12_told 30 = .ok (.bipush (-2), 2) := by decide +kernel
theorem dX12_told_32 : decode cX12_told 32 = .ok (.goto 14, 3) := by decide +kernel
theorem dX12_told_35 : decode cX12_told 35 = .ok (.aload_n 0, 1) := by decide +kernel
theorem dX12_told_36 : decode cX12_told 36 = .ok (.aload_n 0, 1) := by decide +kernel
theorem dX12_told_37 : decode cX12_told 37 = .ok (.getfield 7, 3) := by decide +kernel
theorem dX12_told_40 : decode cX12_told 40 = .ok (.iload_n 1, 1) := by decide +kernel
theorem dX12_told_41 : decode cX12_told 41 = .ok (.laload, 1) := by decide +kernel
theorem dX12_told_42 : decode cX12_told 42 = .ok (.iload_n 2, 1) := by decide +kernel
theorem dX12_told_43 : decode cX12_told 43 = .ok (.invokevirtual 191, 3) := by decide +kernel
theorem dX12_told_46 : decode cX12_told 46 = .ok (.ireturn, 1) := by decide +kernel
theorem dX12_cell_0 : decode cX12_cell 0 = .ok (.iload_n 1, 1) := by decide +kernel
theorem dX12_cell_1 : decode cX12_cell 1 = .ok (.invokestatic 135, 3) := by decide +kernel
theorem dX12_cell_4 : decode cX12_cell 4 = .ok (.ifCond .eq 23, 3) := by decide +kernel
theorem dX12_cell_7 : decode cX12_cell 7 = .ok (.iload_n 2, 1) := by decide +kernel
theorem dX12_cell_8 : decode cX12_cell 8 = .ok (.iconst 0, 1) := by decide +kernel
theorem dX12_cell_9 : decode cX12_cell 9 = .ok (.bipush 6, 2) := by decide +kernel
theorem dX12_cell_11 : decode cX12_cell 11 = .ok (.invokestatic 82, 3) := by decide +kernel
theorem dX12_cell_14 : decode cX12_cell 14 = .ok (.ifCond .eq 13, 3) := by decide +kernel
theorem dX12_cell_17 : decode cX12_cell 17 = .ok (.iload_n 3, 1) := by decide +kernel
theorem dX12_cell_18 : decode cX12_cell 18 = .ok (.iconst 0, 1) := by decide +kernel
theorem dX12_cell_19 : decode cX12_cell 19 = .ok (.bipush 6, 2) := by decide +kernel
theorem dX12_cell_21 : decode cX12_cell 21 = .ok (.invokestatic 82, 3) := by decide +kernel
theorem dX12_cell_24 : decode cX12_cell 24 = .ok (.ifCond .ne 5, 3) := by decide +kernel
theorem dX12_cell_27 : decode cX12_cell 27 = .ok (.iconst (-1), 1) := by decide +kernel
theorem dX12_cell_28 : decode cX12_cell 28 = .ok (.ireturn, 1) := by decide +kernel
theorem dX12_cell_29 : decode cX12_cell 29 = .ok (.aload_n 0, 1) := by decide +kernel
theorem dX12_cell_30 : decode cX12_cell 30 = .ok (.getfield 7, 3) := by decide +kernel
theorem dX12_cell_33 : decode cX12_cell 33 = .ok (.iload_n 1, 1) := by decide +kernel
theorem dX12_cell_34 : decode cX12_cell 34 = .ok (.laload, 1) := by decide +kernel
theorem dX12_cell_35 : decode cX12_cell 35 = .ok (.lconst 0, 1) := by decide +kernel
theorem dX12_cell_36 : decode cX12_cell 36 = .ok (.lcmp, 1) := by decide +kernel
theorem dX12_cell_37 : decode cX12_cell 37 = .ok (.ifCond .ne 8, 3) := by decide +kernel
theorem dX12_cell_40 : decode cX12_cell 40 = .ok (.bipush (-2), 2) := by decide +kernel
theorem dX12_cell_42 : decode cX12_cell 42 = .ok (.goto 22, 3) := by decide +kernel
theorem dX12_cell_45 : decode cX12_cell 45 = .ok (.aload_n 0, 1) := by decide +kernel
theorem dX12_cell_46 : decode cX12_cell 46 = .ok (.getfield 7, 3) := by decide +kernel
theorem dX12_cell_49 : decode cX12_cell 49 = .ok (.iload_n 1, 1) := by decide +kernel
theorem dX12_cell_50 : decode cX12_cell 50 = .ok (.laload, 1) := by decide +kernel
theorem dX12_cell_51 : decode cX12_cell 51 = .ok (.iload_n 2, 1) := by decide +kernel
theorem dX12_cell_52 : decode cX12_cell 52 = .ok (.iload_n 3, 1) := by decide +kernel
theorem dX12_cell_53 : decode cX12_cell 53 = .ok (.invokestatic 142, 3) := by decide +kernel
theorem dX12_cell_56 : decode cX12_cell 56 = .ok (.ifCond .eq 7, 3) := by decide +kernel
theorem dX12_cell_59 : decode cX12_cell 59 = .ok (.iconst 1, 1) := by decide +kernel
theorem dX12_cell_60 : decode cX12_cell 60 = .ok (.goto 4, 3) := by decide +kernel
theorem dX12_cell_63 : decode cX12_cell 63 = .ok (.iconst 0, 1) := by decide +kernel
theorem dX12_cell_64 : decode cX12_cell 64 = .ok (.ireturn, 1) := by decide +kernel
theorem dX12_isKind_0 : decode cX12_isKind 0 = .ok (.iload_n 0, 1) := by decide +kernel
theorem dX12_isKind_1 : decode cX12_isKind 1 = .ok (.iconst 0, 1) := by decide +kernel
theorem dX12_isKind_2 : decode cX12_isKind 2 = .ok (.iconst 2, 1) := by decide +kernel
theorem dX12_isKind_3 : decode cX12_isKind 3 = .ok (.invokestatic 82, 3) := by decide +kernel
theorem dX12_isKind_6 : decode cX12_isKind 6 = .ok (.ireturn, 1) := by decide +kernel
theorem dX12_number_0 : decode cX12_number 0 = .ok (.iload_n 1, 1) := by decide +kernel
theorem dX12_number_1 : decode cX12_number 1 = .ok (.invokestatic 135, 3) := by decide +kernel
theorem dX12_number_4 : decode cX12_number 4 = .ok (.ifCond .eq 10, 3) := by decide +kernel
theorem dX12_number_7 : decode cX12_number 7 = .ok (.iload_n 2, 1) := by decide +kernel
theorem dX12_number_8 : decode cX12_number 8 = .ok (.invokestatic 194, 3) := by decide +kernel
theorem dX12_number_11 : decode cX12_number 11 = .ok (.ifCond .ne 7, 3) := by decide +kernel
theorem dX12_number_14 : decode cX12_number 14 = .ok (.ldc2_w 98, 3) := by decide +kernel
theorem dX12_number_17 : decode cX12_number 17 = .ok (.lreturn, 1) := by decide +kernel
theorem dX12_number_18 : decode cX12_number 18 = .ok (.aload_n 0, 1) := by decide +kernel
theorem dX12_number_19 : decode cX12_number 19 = .ok (.getfield 7, 3) := by decide +kernel
theorem dX12_number_22 : decode cX12_number 22 = .ok (.iload_n 1, 1) := by decide +kernel
theorem dX12_number_23 : decode cX12_number 23 = .ok (.laload, 1) := by decide +kernel
theorem dX12_number_24 : decode cX12_number 24 = .ok (.lconst 0, 1) := by decide +kernel
theorem dX12_number_25 : decode cX12_number 25 = .ok (.lcmp, 1) := by decide +kernel
theorem dX12_number_26 : decode cX12_number 26 = .ok (.ifCond .ne 9, 3) := by decide +kernel
theorem dX12_number_29 : decode cX12_number 29 = .ok (.ldc2_w 197, 3) := by decide +kernel
theorem dX12_number_32 : decode cX12_number 32 = .ok (.goto 13, 3) := by decide +kernel
theorem dX12_number_35 : decode cX12_number 35 = .ok (.aload_n 0, 1) := by decide +kernel
theorem dX12_number_36 : decode cX12_number 36 = .ok (.getfield 7, 3) := by decide +kernel
theorem dX12_number_39 : decode cX12_number 39 = .ok (.iload_n 1, 1) := by decide +kernel
theorem dX12_number_40 : decode cX12_number 40 = .ok (.laload, 1) := by decide +kernel
theorem dX12_number_41 : decode cX12_number 41 = .ok (.iload_n 2, 1) := by decide +kernel
theorem dX12_number_42 : decode cX12_number 42 = .ok (.invokestatic 199, 3) := by decide +kernel
theorem dX12_number_45 : decode cX12_number 45 = .ok (.lreturn, 1) := by decide +kernel
theorem dX12_turn_0 : decode cX12_turn 0 = .ok (.iload_n 1, 1) := by decide +kernel
theorem dX12_turn_1 : decode cX12_turn 1 = .ok (.invokestatic 135, 3) := by decide +kernel
theorem dX12_turn_4 : decode cX12_turn 4 = .ok (.ifCond .eq 13, 3) := by decide +kernel
theorem dX12_turn_7 : decode cX12_turn 7 = .ok (.iload_n 2, 1) := by decide +kernel
theorem dX12_turn_8 : decode cX12_turn 8 = .ok (.iconst 0, 1) := by decide +kernel
theorem dX12_turn_9 : decode cX12_turn 9 = .ok (.bipush 7, 2) := by decide +kernel
theorem dX12_turn_11 : decode cX12_turn 11 = .ok (.invokestatic 82, 3) := by decide +kernel
theorem dX12_turn_14 : decode cX12_turn 14 = .ok (.ifCond .ne 7, 3) := by decide +kernel
theorem dX12_turn_17 : decode cX12_turn 17 = .ok (.ldc2_w 98, 3) := by decide +kernel
theorem dX12_turn_20 : decode cX12_turn 20 = .ok (.lreturn, 1) := by decide +kernel
theorem dX12_turn_21 : decode cX12_turn 21 = .ok (.aload_n 0, 1) := by decide +kernel
theorem dX12_turn_22 : decode cX12_turn 22 = .ok (.getfield 7, 3) := by decide +kernel
theorem dX12_turn_25 : decode cX12_turn 25 = .ok (.iload_n 1, 1) := by decide +kernel
theorem dX12_turn_26 : decode cX12_turn 26 = .ok (.laload, 1) := by decide +kernel
theorem dX12_turn_27 : decode cX12_turn 27 = .ok (.lconst 0, 1) := by decide +kernel
theorem dX12_turn_28 : decode cX12_turn 28 = .ok (.lcmp, 1) := by decide +kernel
theorem dX12_turn_29 : decode cX12_turn 29 = .ok (.ifCond .ne 7, 3) := by decide +kernel
theorem dX12_turn_32 : decode cX12_turn 32 = .ok (.ldc2_w 197, 3) := by decide +kernel
theorem dX12_turn_35 : decode cX12_turn 35 = .ok (.lreturn, 1) := by decide +kernel
theorem dX12_turn_36 : decode cX12_turn 36 = .ok (.aload_n 0, 1) := by decide +kernel
theorem dX12_turn_37 : decode cX12_turn 37 = .ok (.getfield 7, 3) := by decide +kernel
theorem dX12_turn_40 : decode cX12_turn 40 = .ok (.iload_n 1, 1) := by decide +kernel
theorem dX12_turn_41 : decode cX12_turn 41 = .ok (.aload_n 0, 1) := by decide +kernel
theorem dX12_turn_42 : decode cX12_turn 42 = .ok (.getfield 7, 3) := by decide +kernel
theorem dX12_turn_45 : decode cX12_turn 45 = .ok (.iload_n 1, 1) := by decide +kernel
theorem dX12_turn_46 : decode cX12_turn 46 = .ok (.laload, 1) := by decide +kernel
theorem dX12_turn_47 : decode cX12_turn 47 = .ok (.iload_n 2, 1) := by decide +kernel
theorem dX12_turn_48 : decode cX12_turn 48 = .ok (.invokestatic 159, 3) := by decide +kernel
theorem dX12_turn_51 : decode cX12_turn 51 = .ok (.lastore, 1) := by decide +kernel
theorem dX12_turn_52 : decode cX12_turn 52 = .ok (.aload_n 0, 1) := by decide +kernel
theorem dX12_turn_53 : decode cX12_turn 53 = .ok (.getfield 7, 3) := by decide +kernel
theorem dX12_turn_56 : decode cX12_turn 56 = .ok (.iload_n 1, 1) := by decide +kernel
theorem dX12_turn_57 : decode cX12_turn 57 = .ok (.laload, 1) := by decide +kernel
theorem dX12_turn_58 : decode cX12_turn 58 = .ok (.lreturn, 1) := by decide +kernel
theorem dX12_alike_0 : decode cX12_alike 0 = .ok (.iload_n 1, 1) := by decide +kernel
theorem dX12_alike_1 : decode cX12_alike 1 = .ok (.invokestatic 135, 3) := by decide +kernel
theorem dX12_alike_4 : decode cX12_alike 4 = .ok (.ifCond .eq 17, 3) := by decide +kernel
theorem dX12_alike_7 : decode cX12_alike 7 = .ok (.iload_n 2, 1) := by decide +kernel
theorem dX12_alike_8 : decode cX12_alike 8 = .ok (.invokestatic 135, 3) := by decide +kernel
theorem dX12_alike_11 : decode cX12_alike 11 = .ok (.ifCond .eq 10, 3) := by decide +kernel
theorem dX12_alike_14 : decode cX12_alike 14 = .ok (.iload_n 3, 1) := by decide +kernel
theorem dX12_alike_15 : decode cX12_alike 15 = .ok (.invokestatic 194, 3) := by decide +kernel
theorem dX12_alike_18 : decode cX12_alike 18 = .ok (.ifCond .ne 5, 3) := by decide +kernel
theorem dX12_alike_21 : decode cX12_alike 21 = .ok (.iconst (-1), 1) := by decide +kernel
theorem dX12_alike_22 : decode cX12_alike 22 = .ok (.ireturn, 1) := by decide +kernel
theorem dX12_alike_23 : decode cX12_alike 23 = .ok (.aload_n 0, 1) := by decide +kernel
theorem dX12_alike_24 : decode cX12_alike 24 = .ok (.getfield 7, 3) := by decide +kernel
theorem dX12_alike_27 : decode cX12_alike 27 = .ok (.iload_n 1, 1) := by decide +kernel
theorem dX12_alike_28 : decode cX12_alike 28 = .ok (.laload, 1) := by decide +kernel
theorem dX12_alike_29 : decode cX12_alike 29 = .ok (.lconst 0, 1) := by decide +kernel
theorem dX12_alike_30 : decode cX12_alike 30 = .ok (.lcmp, 1) := by decide +kernel
theorem dX12_alike_31 : decode cX12_alike 31 = .ok (.ifCond .eq 14, 3) := by decide +kernel
theorem dX12_alike_34 : decode cX12_alike 34 = .ok (.aload_n 0, 1) := by decide +kernel
theorem dX12_alike_35 : decode cX12_alike 35 = .ok (.getfield 7, 3) := by decide +kernel
theorem dX12_alike_38 : decode cX12_alike 38 = .ok (.iload_n 2, 1) := by decide +kernel
theorem dX12_alike_39 : decode cX12_alike 39 = .ok (.laload, 1) := by decide +kernel
theorem dX12_alike_40 : decode cX12_alike 40 = .ok (.lconst 0, 1) := by decide +kernel
theorem dX12_alike_41 : decode cX12_alike 41 = .ok (.lcmp, 1) := by decide +kernel
theorem dX12_alike_42 : decode cX12_alike 42 = .ok (.ifCond .ne 6, 3) := by decide +kernel
theorem dX12_alike_45 : decode cX12_alike 45 = .ok (.bipush (-2), 2) := by decide +kernel
theorem dX12_alike_47 : decode cX12_alike 47 = .ok (.ireturn, 1) := by decide +kernel
theorem dX12_alike_48 : decode cX12_alike 48 = .ok (.aload_n 0, 1) := by decide +kernel
theorem dX12_alike_49 : decode cX12_alike 49 = .ok (.getfield 7, 3) := by decide +kernel
theorem dX12_alike_52 : decode cX12_alike 52 = .ok (.iload_n 1, 1) := by decide +kernel
theorem dX12_alike_53 : decode cX12_alike 53 = .ok (.laload, 1) := by decide +kernel
theorem dX12_alike_54 : decode cX12_alike 54 = .ok (.iload_n 3, 1) := by decide +kernel
theorem dX12_alike_55 : decode cX12_alike 55 = .ok (.invokestatic 199, 3) := by decide +kernel
theorem dX12_alike_58 : decode cX12_alike 58 = .ok (.aload_n 0, 1) := by decide +kernel
theorem dX12_alike_59 : decode cX12_alike 59 = .ok (.getfield 7, 3) := by decide +kernel
theorem dX12_alike_62 : decode cX12_alike 62 = .ok (.iload_n 2, 1) := by decide +kernel
theorem dX12_alike_63 : decode cX12_alike 63 = .ok (.laload, 1) := by decide +kernel
theorem dX12_alike_64 : decode cX12_alike 64 = .ok (.iload_n 3, 1) := by decide +kernel
theorem dX12_alike_65 : decode cX12_alike 65 = .ok (.invokestatic 199, 3) := by decide +kernel
theorem dX12_alike_68 : decode cX12_alike 68 = .ok (.lcmp, 1) := by decide +kernel
theorem dX12_alike_69 : decode cX12_alike 69 = .ok (.ifCond .ne 7, 3) := by decide +kernel
theorem dX12_alike_72 : decode cX12_alike 72 = .ok (.iconst 1, 1) := by decide +kernel
theorem dX12_alike_73 : decode cX12_alike 73 = .ok (.goto 4, 3) := by decide +kernel
theorem dX12_alike_76 : decode cX12_alike 76 = .ok (.iconst 0, 1) := by decide +kernel
theorem dX12_alike_77 : decode cX12_alike 77 = .ok (.ireturn, 1) := by decide +kernel
theorem dX12_clears_0 : decode cX12_clears 0 = .ok (.iconst 0, 1) := by decide +kernel
theorem dX12_clears_1 : decode cX12_clears 1 = .ok (.istore_n 1, 1) := by decide +kernel
theorem dX12_clears_2 : decode cX12_clears 2 = .ok (.iload_n 1, 1) := by decide +kernel
theorem dX12_clears_3 : decode cX12_clears 3 = .ok (.sipush 576, 3) := by decide +kernel
theorem dX12_clears_6 : decode cX12_clears 6 = .ok (.if_icmp .ge 16, 3) := by decide +kernel
theorem dX12_clears_9 : decode cX12_clears 9 = .ok (.aload_n 0, 1) := by decide +kernel
theorem dX12_clears_10 : decode cX12_clears 10 = .ok (.getfield 27, 3) := by decide +kernel
theorem dX12_clears_13 : decode cX12_clears 13 = .ok (.iload_n 1, 1) := by decide +kernel
theorem dX12_clears_14 : decode cX12_clears 14 = .ok (.iconst 0, 1) := by decide +kernel
theorem dX12_clears_15 : decode cX12_clears 15 = .ok (.bastore, 1) := by decide +kernel
theorem dX12_clears_16 : decode cX12_clears 16 = .ok (.iinc 1 1, 3) := by decide +kernel
theorem dX12_clears_19 : decode cX12_clears 19 = .ok (.goto (-17), 3) := by decide +kernel
theorem dX12_clears_22 : decode cX12_clears 22 = .ok (.return_, 1) := by decide +kernel
theorem dX12_lays_0 : decode cX12_lays 0 = .ok (.iconst 0, 1) := by decide +kernel
theorem dX12_lays_1 : decode cX12_lays 1 = .ok (.istore 6, 2) := by decide +kernel
theorem dX12_lays_3 : decode cX12_lays 3 = .ok (.iload 6, 2) := by decide +kernel
theorem dX12_lays_5 : decode cX12_lays 5 = .ok (.bipush 7, 2) := by decide +kernel
theorem dX12_lays_7 : decode cX12_lays 7 = .ok (.if_icmp .ge 62, 3) := by decide +kernel
theorem dX12_lays_10 : decode cX12_lays 10 = .ok (.iconst 0, 1) := by decide +kernel
theorem dX12_lays_11 : decode cX12_lays 11 = .ok (.istore 7, 2) := by decide +kernel
theorem dX12_lays_13 : decode cX12_lays 13 = .ok (.iload 7, 2) := by decide +kernel
theorem dX12_lays_15 : decode cX12_lays 15 = .ok (.bipush 7, 2) := by decide +kernel
theorem dX12_lays_17 : decode cX12_lays 17 = .ok (.if_icmp .ge 46, 3) := by decide +kernel
theorem dX12_lays_20 : decode cX12_lays 20 = .ok (.lload_n 1, 1) := by decide +kernel
theorem dX12_lays_21 : decode cX12_lays 21 = .ok (.iload 7, 2) := by decide +kernel
theorem dX12_lays_23 : decode cX12_lays 23 = .ok (.iload 6, 2) := by decide +kernel
theorem dX12_lays_25 : decode cX12_lays 25 = .ok (.invokestatic 142, 3) := by decide +kernel
theorem dX12_lays_28 : decode cX12_lays 28 = .ok (.ifCond .eq 29, 3) := by decide +kernel
theorem dX12_lays_31 : decode cX12_lays 31 = .ok (.aload_n 0, 1) := by decide +kernel
theorem dX12_lays_32 : decode cX12_lays 32 = .ok (.getfield 27, 3) := by decide +kernel
theorem dX12_lays_35 : decode cX12_lays 35 = .ok (.bipush 24, 2) := by decide +kernel
theorem dX12_lays_37 : decode cX12_lays 37 = .ok (.iload 6, 2) := by decide +kernel
theorem dX12_lays_39 : decode cX12_lays 39 = .ok (.iload 4, 2) := by decide +kernel
theorem dX12_lays_41 : decode cX12_lays 41 = .ok (.iadd, 1) := by decide +kernel
theorem dX12_lays_42 : decode cX12_lays 42 = .ok (.bipush 8, 2) := by decide +kernel
theorem dX12_lays_44 : decode cX12_lays 44 = .ok (.iadd, 1) := by decide +kernel
theorem dX12_lays_45 : decode cX12_lays 45 = .ok (.imul, 1) := by decide +kernel
theorem dX12_lays_46 : decode cX12_lays 46 = .ok (.iload 7, 2) := by decide +kernel
theorem dX12_lays_48 : decode cX12_lays 48 = .ok (.iadd, 1) := by decide +kernel
theorem dX12_lays_49 : decode cX12_lays 49 = .ok (.iload_n 3, 1) := by decide +kernel
theorem dX12_lays_50 : decode cX12_lays 50 = .ok (.iadd, 1) := by decide +kernel
theorem dX12_lays_51 : decode cX12_lays 51 = .ok (.bipush 8, 2) := by decide +kernel
theorem dX12_lays_53 : decode cX12_lays 53 = .ok (.iadd, 1) := by decide +kernel
theorem dX12_lays_54 : decode cX12_lays 54 = .ok (.iload 5, 2) := by decide +kernel
theorem dX12_lays_56 : decode cX12_lays 56 = .ok (.bastore, 1) := by decide +kernel
theorem dX12_lays_57 : decode cX12_lays 57 = .ok (.iinc 7 1, 3) := by decide +kernel
theorem dX12_lays_60 : decode cX12_lays 60 = .ok (.goto (-47), 3) := by decide +kernel
theorem dX12_lays_63 : decode cX12_lays 63 = .ok (.iinc 6 1, 3) := by decide +kernel
theorem dX12_lays_66 : decode cX12_lays 66 = .ok (.goto (-63), 3) := by decide +kernel
theorem dX12_lays_69 : decode cX12_lays 69 = .ok (.return_, 1) := by decide +kernel
theorem dX12_taken_0 : decode cX12_taken 0 = .ok (.bipush 24, 2) := by decide +kernel
theorem dX12_taken_2 : decode cX12_taken 2 = .ok (.istore_n 1, 1) := by decide +kernel
theorem dX12_taken_3 : decode cX12_taken 3 = .ok (.bipush 24, 2) := by decide +kernel
theorem dX12_taken_5 : decode cX12_taken 5 = .ok (.istore_n 2, 1) := by decide +kernel
theorem dX12_taken_6 : decode cX12_taken 6 = .ok (.sipush 575, 3) := by decide +kernel
theorem dX12_taken_9 : decode cX12_taken 9 = .ok (.istore_n 3, 1) := by decide +kernel
theorem dX12_taken_10 : decode cX12_taken 10 = .ok (.iload_n 3, 1) := by decide +kernel
theorem dX12_taken_11 : decode cX12_taken 11 = .ok (.ifCond .lt 43, 3) := by decide +kernel
theorem dX12_taken_14 : decode cX12_taken 14 = .ok (.aload_n 0, 1) := by decide +kernel
theorem dX12_taken_15 : decode cX12_taken 15 = .ok (.getfield 27, 3) := by decide +kernel
theorem dX12_taken_18 : decode cX12_taken 18 = .ok (.iload_n 3, 1) := by decide +kernel
theorem dX12_taken_19 : decode cX12_taken 19 = .ok (.baload, 1) := by decide +kernel
theorem dX12_taken_20 : decode cX12_taken 20 = .ok (.ifCond .ne 6, 3) := by decide +kernel
theorem dX12_taken_23 : decode cX12_taken 23 = .ok (.goto 25, 3) := by decide +kernel
theorem dX12_taken_26 : decode cX12_taken 26 = .ok (.iload_n 3, 1) := by decide +kernel
theorem dX12_taken_27 : decode cX12_taken 27 = .ok (.bipush 24, 2) := by decide +kernel
theorem dX12_taken_29 : decode cX12_taken 29 = .ok (.irem, 1) := by decide +kernel
theorem dX12_taken_30 : decode cX12_taken 30 = .ok (.iload_n 1, 1) := by decide +kernel
theorem dX12_taken_31 : decode cX12_taken 31 = .ok (.if_icmp .ge 10, 3) := by decide +kernel
theorem dX12_taken_34 : decode cX12_taken 34 = .ok (.iload_n 3, 1) := by decide +kernel
theorem dX12_taken_35 : decode cX12_taken 35 = .ok (.bipush 24, 2) := by decide +kernel
theorem dX12_taken_37 : decode cX12_taken 37 = .ok (.irem, 1) := by decide +kernel
theorem dX12_taken_38 : decode cX12_taken 38 = .ok (.goto 4, 3) := by decide +kernel
theorem dX12_taken_41 : decode cX12_taken 41 = .ok (.iload_n 1, 1) := by decide +kernel
theorem dX12_taken_42 : decode cX12_taken 42 = .ok (.istore_n 1, 1) := by decide +kernel
theorem dX12_taken_43 : decode cX12_taken 43 = .ok (.iload_n 3, 1) := by decide +kernel
theorem dX12_taken_44 : decode cX12_taken 44 = .ok (.bipush 24, 2) := by decide +kernel
theorem dX12_taken_46 : decode cX12_taken 46 = .ok (.idiv, 1) := by decide +kernel
theorem dX12_taken_47 : decode cX12_taken 47 = .ok (.istore_n 2, 1) := by decide +kernel
theorem dX12_taken_48 : decode cX12_taken 48 = .ok (.iinc 3 (-1), 3) := by decide +kernel
theorem dX12_taken_51 : decode cX12_taken 51 = .ok (.goto (-41), 3) := by decide +kernel
theorem dX12_taken_54 : decode cX12_taken 54 = .ok (.lconst 0, 1) := by decide +kernel
theorem dX12_taken_55 : decode cX12_taken 55 = .ok (.lstore_n 3, 1) := by decide +kernel
theorem dX12_taken_56 : decode cX12_taken 56 = .ok (.iconst 0, 1) := by decide +kernel
theorem dX12_taken_57 : decode cX12_taken 57 = .ok (.istore 5, 2) := by decide +kernel
theorem dX12_taken_59 : decode cX12_taken 59 = .ok (.iload 5, 2) := by decide +kernel
theorem dX12_taken_61 : decode cX12_taken 61 = .ok (.sipush 576, 3) := by decide +kernel
theorem dX12_taken_64 : decode cX12_taken 64 = .ok (.if_icmp .ge 66, 3) := by decide +kernel
theorem dX12_taken_67 : decode cX12_taken 67 = .ok (.aload_n 0, 1) := by decide +kernel
theorem dX12_taken_68 : decode cX12_taken 68 = .ok (.getfield 27, 3) := by decide +kernel
theorem dX12_taken_71 : decode cX12_taken 71 = .ok (.iload 5, 2) := by decide +kernel
theorem dX12_taken_73 : decode cX12_taken 73 = .ok (.baload, 1) := by decide +kernel
theorem dX12_taken_74 : decode cX12_taken 74 = .ok (.ifCond .ne 6, 3) := by decide +kernel
theorem dX12_taken_77 : decode cX12_taken 77 = .ok (.goto 47, 3) := by decide +kernel
theorem dX12_taken_80 : decode cX12_taken 80 = .ok (.iload 5, 2) := by decide +kernel
theorem dX12_taken_82 : decode cX12_taken 82 = .ok (.bipush 24, 2) := by decide +kernel
theorem dX12_taken_84 : decode cX12_taken 84 = .ok (.irem, 1) := by decide +kernel
theorem dX12_taken_85 : decode cX12_taken 85 = .ok (.iload_n 1, 1) := by decide +kernel
theorem dX12_taken_86 : decode cX12_taken 86 = .ok (.isub, 1) := by decide +kernel
theorem dX12_taken_87 : decode cX12_taken 87 = .ok (.istore 6, 2) := by decide +kernel
theorem dX12_taken_89 : decode cX12_taken 89 = .ok (.iload 5, 2) := by decide +kernel
theorem dX12_taken_91 : decode cX12_taken 91 = .ok (.bipush 24, 2) := by decide +kernel
theorem dX12_taken_93 : decode cX12_taken 93 = .ok (.idiv, 1) := by decide +kernel
theorem dX12_taken_94 : decode cX12_taken 94 = .ok (.iload_n 2, 1) := by decide +kernel
theorem dX12_taken_95 : decode cX12_taken 95 = .ok (.isub, 1) := by decide +kernel
theorem dX12_taken_96 : decode cX12_taken 96 = .ok (.istore 7, 2) := by decide +kernel
theorem dX12_taken_98 : decode cX12_taken 98 = .ok (.iload 6, 2) := by decide +kernel
theorem dX12_taken_100 : decode cX12_taken 100 = .ok (.bipush 6, 2) := by decide +kernel
theorem dX12_taken_102 : decode cX12_taken 102 = .ok (.if_icmp .gt 10, 3) := by decide +kernel
theorem dX12_taken_105 : decode cX12_taken 105 = .ok (.iload 7, 2) := by decide +kernel
theorem dX12_taken_107 : decode cX12_taken 107 = .ok (.bipush 6, 2) := by decide +kernel
theorem dX12_taken_109 : decode cX12_taken 109 = .ok (.if_icmp .le 5, 3) := by decide +kernel
theorem dX12_taken_112 : decode cX12_taken 112 = .ok (.lconst 0, 1) := by decide +kernel
theorem dX12_taken_113 : decode cX12_taken 113 = .ok (.lreturn, 1) := by decide +kernel
theorem dX12_taken_114 : decode cX12_taken 114 = .ok (.lload_n 3, 1) := by decide +kernel
theorem dX12_taken_115 : decode cX12_taken 115 = .ok (.iload 6, 2) := by decide +kernel
theorem dX12_taken_117 : decode cX12_taken 117 = .ok (.iload 7, 2) := by decide +kernel
theorem dX12_taken_119 : decode cX12_taken 119 = .ok (.invokestatic 117, 3) := by decide +kernel
theorem dX12_taken_122 : decode cX12_taken 122 = .ok (.lor, 1) := by decide +kernel
theorem dX12_taken_123 : decode cX12_taken 123 = .ok (.lstore_n 3, 1) := by decide +kernel
theorem dX12_taken_124 : decode cX12_taken 124 = .ok (.iinc 5 1, 3) := by decide +kernel
theorem dX12_taken_127 : decode cX12_taken 127 = .ok (.goto (-68), 3) := by decide +kernel
theorem dX12_taken_130 : decode cX12_taken 130 = .ok (.lload_n 3, 1) := by decide +kernel
theorem dX12_taken_131 : decode cX12_taken 131 = .ok (.lconst 0, 1) := by decide +kernel
theorem dX12_taken_132 : decode cX12_taken 132 = .ok (.lcmp, 1) := by decide +kernel
theorem dX12_taken_133 : decode cX12_taken 133 = .ok (.ifCond .eq 14, 3) := by decide +kernel
theorem dX12_taken_136 : decode cX12_taken 136 = .ok (.lload_n 3, 1) := by decide +kernel
theorem dX12_taken_137 : decode cX12_taken 137 = .ok (.invokestatic 139, 3) := by decide +kernel
theorem dX12_taken_140 : decode cX12_taken 140 = .ok (.ifCond .eq 7, 3) := by decide +kernel
theorem dX12_taken_143 : decode cX12_taken 143 = .ok (.lload_n 3, 1) := by decide +kernel
theorem dX12_taken_144 : decode cX12_taken 144 = .ok (.goto 4, 3) := by decide +kernel
theorem dX12_taken_147 : decode cX12_taken 147 = .ok (.lconst 0, 1) := by decide +kernel
theorem dX12_taken_148 : decode cX12_taken 148 = .ok (.lreturn, 1) := by decide +kernel
theorem dX12_change_0 : decode cX12_change 0 = .ok (.iload_n 1, 1) := by decide +kernel
theorem dX12_change_1 : decode cX12_change 1 = .ok (.invokestatic 135, 3) := by decide +kernel
theorem dX12_change_4 : decode cX12_change 4 = .ok (.ifCond .eq 23, 3) := by decide +kernel
theorem dX12_change_7 : decode cX12_change 7 = .ok (.iload_n 2, 1) := by decide +kernel
theorem dX12_change_8 : decode cX12_change 8 = .ok (.iconst (-1), 1) := by decide +kernel
theorem dX12_change_9 : decode cX12_change 9 = .ok (.bipush 7, 2) := by decide +kernel
theorem dX12_change_11 : decode cX12_change 11 = .ok (.invokestatic 82, 3) := by decide +kernel
theorem dX12_change_14 : decode cX12_change 14 = .ok (.ifCond .eq 13, 3) := by decide +kernel
theorem dX12_change_17 : decode cX12_change 17 = .ok (.iload_n 3, 1) := by decide +kernel
theorem dX12_change_18 : decode cX12_change 18 = .ok (.iconst (-1), 1) := by decide +kernel
theorem dX12_change_19 : decode cX12_change 19 = .ok (.bipush 7, 2) := by decide +kernel
theorem dX12_change_21 : decode cX12_change 21 = .ok (.invokestatic 82, 3) := by decide +kernel
theorem dX12_change_24 : decode cX12_change 24 = .ok (.ifCond .ne 5, 3) := by decide +kernel
theorem dX12_change_27 : decode cX12_change 27 = .ok (.iconst (-1), 1) := by decide +kernel
theorem dX12_change_28 : decode cX12_change 28 = .ok (.ireturn, 1) := by decide +kernel
theorem dX12_change_29 : decode cX12_change 29 = .ok (.aload_n 0, 1) := by decide +kernel
theorem dX12_change_30 : decode cX12_change 30 = .ok (.getfield 7, 3) := by decide +kernel
theorem dX12_change_33 : decode cX12_change 33 = .ok (.iload_n 1, 1) := by decide +kernel
theorem dX12_change_34 : decode cX12_change 34 = .ok (.laload, 1) := by decide +kernel
theorem dX12_change_35 : decode cX12_change 35 = .ok (.lconst 0, 1) := by decide +kernel
theorem dX12_change_36 : decode cX12_change 36 = .ok (.lcmp, 1) := by decide +kernel
theorem dX12_change_37 : decode cX12_change 37 = .ok (.ifCond .ne 6, 3) := by decide +kernel
theorem dX12_change_40 : decode cX12_change 40 = .ok (.bipush (-2), 2) := by decide +kernel
theorem dX12_change_42 : decode cX12_change 42 = .ok (.ireturn, 1) := by decide +kernel
theorem dX12_change_43 : decode cX12_change 43 = .ok (.aload_n 0, 1) := by decide +kernel
theorem dX12_change_44 : decode cX12_change 44 = .ok (.getfield 7, 3) := by decide +kernel
theorem dX12_change_47 : decode cX12_change 47 = .ok (.iload_n 1, 1) := by decide +kernel
theorem dX12_change_48 : decode cX12_change 48 = .ok (.laload, 1) := by decide +kernel
theorem dX12_change_49 : decode cX12_change 49 = .ok (.iload_n 2, 1) := by decide +kernel
theorem dX12_change_50 : decode cX12_change 50 = .ok (.iload_n 3, 1) := by decide +kernel
theorem dX12_change_51 : decode cX12_change 51 = .ok (.invokestatic 142, 3) := by decide +kernel
theorem dX12_change_54 : decode cX12_change 54 = .ok (.iload 4, 2) := by decide +kernel
theorem dX12_change_56 : decode cX12_change 56 = .ok (.if_icmp .ne 6, 3) := by decide +kernel
theorem dX12_change_59 : decode cX12_change 59 = .ok (.bipush (-3), 2) := by decide +kernel
theorem dX12_change_61 : decode cX12_change 61 = .ok (.ireturn, 1) := by decide +kernel
theorem dX12_change_62 : decode cX12_change 62 = .ok (.aload_n 0, 1) := by decide +kernel
theorem dX12_change_63 : decode cX12_change 63 = .ok (.invokevirtual 202, 3) := by decide +kernel
theorem dX12_change_66 : decode cX12_change 66 = .ok (.aload_n 0, 1) := by decide +kernel
theorem dX12_change_67 : decode cX12_change 67 = .ok (.aload_n 0, 1) := by decide +kernel
theorem dX12_change_68 : decode cX12_change 68 = .ok (.getfield 7, 3) := by decide +kernel
theorem dX12_change_71 : decode cX12_change 71 = .ok (.iload_n 1, 1) := by decide +kernel
theorem dX12_change_72 : decode cX12_change 72 = .ok (.laload, 1) := by decide +kernel
theorem dX12_change_73 : decode cX12_change 73 = .ok (.iconst 0, 1) := by decide +kernel
theorem dX12_change_74 : decode cX12_change 74 = .ok (.iconst 0, 1) := by decide +kernel
theorem dX12_change_75 : decode cX12_change 75 = .ok (.iconst 1, 1) := by decide +kernel
theorem dX12_change_76 : decode cX12_change 76 = .ok (.invokevirtual 205, 3) := by decide +kernel
theorem dX12_change_79 : decode cX12_change 79 = .ok (.aload_n 0, 1) := by decide +kernel
theorem dX12_change_80 : decode cX12_change 80 = .ok (.getfield 27, 3) := by decide +kernel
theorem dX12_change_83 : decode cX12_change 83 = .ok (.bipush 24, 2) := by decide +kernel
theorem dX12_change_85 : decode cX12_change 85 = .ok (.iload_n 3, 1) := by decide +kernel
theorem dX12_change_86 : decode cX12_change 86 = .ok (.bipush 8, 2) := by decide +kernel
theorem dX12_change_88 : decode cX12_change 88 = .ok (.iadd, 1) := by decide +kernel
theorem dX12_change_89 : decode cX12_change 89 = .ok (.imul, 1) := by decide +kernel
theorem dX12_change_90 : decode cX12_change 90 = .ok (.iload_n 2, 1) := by decide +kernel
theorem dX12_change_91 : decode cX12_change 91 = .ok (.iadd, 1) := by decide +kernel
theorem dX12_change_92 : decode cX12_change 92 = .ok (.bipush 8, 2) := by decide +kernel
theorem dX12_change_94 : decode cX12_change 94 = .ok (.iadd, 1) := by decide +kernel
theorem dX12_change_95 : decode cX12_change 95 = .ok (.iload 4, 2) := by decide +kernel
theorem dX12_change_97 : decode cX12_change 97 = .ok (.bastore, 1) := by decide +kernel
theorem dX12_change_98 : decode cX12_change 98 = .ok (.aload_n 0, 1) := by decide +kernel
theorem dX12_change_99 : decode cX12_change 99 = .ok (.invokevirtual 209, 3) := by decide +kernel
theorem dX12_change_102 : decode cX12_change 102 = .ok (.lstore 5, 2) := by decide +kernel
theorem dX12_change_104 : decode cX12_change 104 = .ok (.lload 5, 2) := by decide +kernel
theorem dX12_change_106 : decode cX12_change 106 = .ok (.lconst 0, 1) := by decide +kernel
theorem dX12_change_107 : decode cX12_change 107 = .ok (.lcmp, 1) := by decide +kernel
theorem dX12_change_108 : decode cX12_change 108 = .ok (.ifCond .ne 6, 3) := by decide +kernel
theorem dX12_change_111 : decode cX12_change 111 = .ok (.bipush (-3), 2) := by decide +kernel
theorem dX12_change_113 : decode cX12_change 113 = .ok (.ireturn, 1) := by decide +kernel
theorem dX12_change_114 : decode cX12_change 114 = .ok (.aload_n 0, 1) := by decide +kernel
theorem dX12_change_115 : decode cX12_change 115 = .ok (.getfield 7, 3) := by decide +kernel
theorem dX12_change_118 : decode cX12_change 118 = .ok (.iload_n 1, 1) := by decide +kernel
theorem dX12_change_119 : decode cX12_change 119 = .ok (.lload 5, 2) := by decide +kernel
theorem dX12_change_121 : decode cX12_change 121 = .ok (.lastore, 1) := by decide +kernel
theorem dX12_change_122 : decode cX12_change 122 = .ok (.lload 5, 2) := by decide +kernel
theorem dX12_change_124 : decode cX12_change 124 = .ok (.invokestatic 106, 3) := by decide +kernel
theorem dX12_change_127 : decode cX12_change 127 = .ok (.ireturn, 1) := by decide +kernel
theorem dX12_join_0 : decode cX12_join 0 = .ok (.iload_n 1, 1) := by decide +kernel
theorem dX12_join_1 : decode cX12_join 1 = .ok (.invokestatic 135, 3) := by decide +kernel
theorem dX12_join_4 : decode cX12_join 4 = .ok (.ifCond .eq 33, 3) := by decide +kernel
theorem dX12_join_7 : decode cX12_join 7 = .ok (.iload_n 2, 1) := by decide +kernel
theorem dX12_join_8 : decode cX12_join 8 = .ok (.invokestatic 135, 3) := by decide +kernel
theorem dX12_join_11 : decode cX12_join 11 = .ok (.ifCond .eq 26, 3) := by decide +kernel
theorem dX12_join_14 : decode cX12_join 14 = .ok (.iload_n 3, 1) := by decide +kernel
theorem dX12_join_15 : decode cX12_join 15 = .ok (.bipush (-7), 2) := by decide +kernel
theorem dX12_join_17 : decode cX12_join 17 = .ok (.bipush 7, 2) := by decide +kernel
theorem dX12_join_19 : decode cX12_join 19 = .ok (.invokestatic 82, 3) := by decide +kernel
theorem dX12_join_22 : decode cX12_join 22 = .ok (.ifCond .eq 15, 3) := by decide +kernel
theorem dX12_join_25 : decode cX12_join 25 = .ok (.iload 4, 2) := by decide +kernel
theorem dX12_join_27 : decode cX12_join 27 = .ok (.bipush (-7), 2) := by decide +kernel
theorem dX12_join_29 : decode cX12_join 29 = .ok (.bipush 7, 2) := by decide +kernel
theorem dX12_join_31 : decode cX12_join 31 = .ok (.invokestatic 82, 3) := by decide +kernel
theorem dX12_join_34 : decode cX12_join 34 = .ok (.ifCond .ne 5, 3) := by decide +kernel
theorem dX12_join_37 : decode cX12_join 37 = .ok (.iconst (-1), 1) := by decide +kernel
theorem dX12_join_38 : decode cX12_join 38 = .ok (.ireturn, 1) := by decide +kernel
theorem dX12_join_39 : decode cX12_join 39 = .ok (.aload_n 0, 1) := by decide +kernel
theorem dX12_join_40 : decode cX12_join 40 = .ok (.getfield 7, 3) := by decide +kernel
theorem dX12_join_43 : decode cX12_join 43 = .ok (.iload_n 1, 1) := by decide +kernel
theorem dX12_join_44 : decode cX12_join 44 = .ok (.laload, 1) := by decide +kernel
theorem dX12_join_45 : decode cX12_join 45 = .ok (.lconst 0, 1) := by decide +kernel
theorem dX12_join_46 : decode cX12_join 46 = .ok (.lcmp, 1) := by decide +kernel
theorem dX12_join_47 : decode cX12_join 47 = .ok (.ifCond .eq 14, 3) := by decide +kernel
theorem dX12_join_50 : decode cX12_join 50 = .ok (.aload_n 0, 1) := by decide +kernel
theorem dX12_join_51 : decode cX12_join 51 = .ok (.getfield 7, 3) := by decide +kernel
theorem dX12_join_54 : decode cX12_join 54 = .ok (.iload_n 2, 1) := by decide +kernel
theorem dX12_join_55 : decode cX12_join 55 = .ok (.laload, 1) := by decide +kernel
theorem dX12_join_56 : decode cX12_join 56 = .ok (.lconst 0, 1) := by decide +kernel
theorem dX12_join_57 : decode cX12_join 57 = .ok (.lcmp, 1) := by decide +kernel
theorem dX12_join_58 : decode cX12_join 58 = .ok (.ifCond .ne 6, 3) := by decide +kernel
theorem dX12_join_61 : decode cX12_join 61 = .ok (.bipush (-2), 2) := by decide +kernel
theorem dX12_join_63 : decode cX12_join 63 = .ok (.ireturn, 1) := by decide +kernel
theorem dX12_join_64 : decode cX12_join 64 = .ok (.aload_n 0, 1) := by decide +kernel
theorem dX12_join_65 : decode cX12_join 65 = .ok (.invokevirtual 202, 3) := by decide +kernel
theorem dX12_join_68 : decode cX12_join 68 = .ok (.aload_n 0, 1) := by decide +kernel
theorem dX12_join_69 : decode cX12_join 69 = .ok (.aload_n 0, 1) := by decide +kernel
theorem dX12_join_70 : decode cX12_join 70 = .ok (.getfield 7, 3) := by decide +kernel
theorem dX12_join_73 : decode cX12_join 73 = .ok (.iload_n 1, 1) := by decide +kernel
theorem dX12_join_74 : decode cX12_join 74 = .ok (.laload, 1) := by decide +kernel
theorem dX12_join_75 : decode cX12_join 75 = .ok (.iconst 0, 1) := by decide +kernel
theorem dX12_join_76 : decode cX12_join 76 = .ok (.iconst 0, 1) := by decide +kernel
theorem dX12_join_77 : decode cX12_join 77 = .ok (.iconst 1, 1) := by decide +kernel
theorem dX12_join_78 : decode cX12_join 78 = .ok (.invokevirtual 205, 3) := by decide +kernel
theorem dX12_join_81 : decode cX12_join 81 = .ok (.aload_n 0, 1) := by decide +kernel
theorem dX12_join_82 : decode cX12_join 82 = .ok (.aload_n 0, 1) := by decide +kernel
theorem dX12_join_83 : decode cX12_join 83 = .ok (.getfield 7, 3) := by decide +kernel
theorem dX12_join_86 : decode cX12_join 86 = .ok (.iload_n 2, 1) := by decide +kernel
theorem dX12_join_87 : decode cX12_join 87 = .ok (.laload, 1) := by decide +kernel
theorem dX12_join_88 : decode cX12_join 88 = .ok (.iload_n 3, 1) := by decide +kernel
theorem dX12_join_89 : decode cX12_join 89 = .ok (.iload 4, 2) := by decide +kernel
theorem dX12_join_91 : decode cX12_join 91 = .ok (.iload 5, 2) := by decide +kernel
theorem dX12_join_93 : decode cX12_join 93 = .ok (.invokevirtual 205, 3) := by decide +kernel
theorem dX12_join_96 : decode cX12_join 96 = .ok (.aload_n 0, 1) := by decide +kernel
theorem dX12_join_97 : decode cX12_join 97 = .ok (.invokevirtual 209, 3) := by decide +kernel
theorem dX12_join_100 : decode cX12_join 100 = .ok (.lstore 6, 2) := by decide +kernel
theorem dX12_join_102 : decode cX12_join 102 = .ok (.lload 6, 2) := by decide +kernel
theorem dX12_join_104 : decode cX12_join 104 = .ok (.lconst 0, 1) := by decide +kernel
theorem dX12_join_105 : decode cX12_join 105 = .ok (.lcmp, 1) := by decide +kernel
theorem dX12_join_106 : decode cX12_join 106 = .ok (.ifCond .ne 6, 3) := by decide +kernel
theorem dX12_join_109 : decode cX12_join 109 = .ok (.bipush (-3), 2) := by decide +kernel
theorem dX12_join_111 : decode cX12_join 111 = .ok (.ireturn, 1) := by decide +kernel
theorem dX12_join_112 : decode cX12_join 112 = .ok (.aload_n 0, 1) := by decide +kernel
theorem dX12_join_113 : decode cX12_join 113 = .ok (.getfield 7, 3) := by decide +kernel
theorem dX12_join_116 : decode cX12_join 116 = .ok (.iload_n 1, 1) := by decide +kernel
theorem dX12_join_117 : decode cX12_join 117 = .ok (.lload 6, 2) := by decide +kernel
theorem dX12_join_119 : decode cX12_join 119 = .ok (.lastore, 1) := by decide +kernel
theorem dX12_join_120 : decode cX12_join 120 = .ok (.lload 6, 2) := by decide +kernel
theorem dX12_join_122 : decode cX12_join 122 = .ok (.invokestatic 106, 3) := by decide +kernel
theorem dX12_join_125 : decode cX12_join 125 = .ok (.ireturn, 1) := by decide +kernel
theorem dX12_swap_0 : decode cX12_swap 0 = .ok (.iload_n 1, 1) := by decide +kernel
theorem dX12_swap_1 : decode cX12_swap 1 = .ok (.invokestatic 135, 3) := by decide +kernel
theorem dX12_swap_4 : decode cX12_swap 4 = .ok (.ifCond .eq 10, 3) := by decide +kernel
theorem dX12_swap_7 : decode cX12_swap 7 = .ok (.iload_n 2, 1) := by decide +kernel
theorem dX12_swap_8 : decode cX12_swap 8 = .ok (.invokestatic 135, 3) := by decide +kernel
theorem dX12_swap_11 : decode cX12_swap 11 = .ok (.ifCond .ne 5, 3) := by decide +kernel
theorem dX12_swap_14 : decode cX12_swap 14 = .ok (.iconst (-1), 1) := by decide +kernel
theorem dX12_swap_15 : decode cX12_swap 15 = .ok (.ireturn, 1) := by decide +kernel
theorem dX12_swap_16 : decode cX12_swap 16 = .ok (.aload_n 0, 1) := by decide +kernel
theorem dX12_swap_17 : decode cX12_swap 17 = .ok (.getfield 7, 3) := by decide +kernel
theorem dX12_swap_20 : decode cX12_swap 20 = .ok (.iload_n 1, 1) := by decide +kernel
theorem dX12_swap_21 : decode cX12_swap 21 = .ok (.laload, 1) := by decide +kernel
theorem dX12_swap_22 : decode cX12_swap 22 = .ok (.lstore_n 3, 1) := by decide +kernel
theorem dX12_swap_23 : decode cX12_swap 23 = .ok (.aload_n 0, 1) := by decide +kernel
theorem dX12_swap_24 : decode cX12_swap 24 = .ok (.getfield 7, 3) := by decide +kernel
theorem dX12_swap_27 : decode cX12_swap 27 = .ok (.iload_n 1, 1) := by decide +kernel
theorem dX12_swap_28 : decode cX12_swap 28 = .ok (.aload_n 0, 1) := by decide +kernel
theorem dX12_swap_29 : decode cX12_swap 29 = .ok (.getfield 7, 3) := by decide +kernel
theorem dX12_swap_32 : decode cX12_swap 32 = .ok (.iload_n 2, 1) := by decide +kernel
theorem dX12_swap_33 : decode cX12_swap 33 = .ok (.laload, 1) := by decide +kernel
theorem dX12_swap_34 : decode cX12_swap 34 = .ok (.lastore, 1) := by decide +kernel
theorem dX12_swap_35 : decode cX12_swap 35 = .ok (.aload_n 0, 1) := by decide +kernel
theorem dX12_swap_36 : decode cX12_swap 36 = .ok (.getfield 7, 3) := by decide +kernel
theorem dX12_swap_39 : decode cX12_swap 39 = .ok (.iload_n 2, 1) := by decide +kernel
theorem dX12_swap_40 : decode cX12_swap 40 = .ok (.lload_n 3, 1) := by decide +kernel
theorem dX12_swap_41 : decode cX12_swap 41 = .ok (.lastore, 1) := by decide +kernel
theorem dX12_swap_42 : decode cX12_swap 42 = .ok (.aload_n 0, 1) := by decide +kernel
theorem dX12_swap_43 : decode cX12_swap 43 = .ok (.getfield 7, 3) := by decide +kernel
theorem dX12_swap_46 : decode cX12_swap 46 = .ok (.iload_n 1, 1) := by decide +kernel
theorem dX12_swap_47 : decode cX12_swap 47 = .ok (.laload, 1) := by decide +kernel
theorem dX12_swap_48 : decode cX12_swap 48 = .ok (.lload_n 3, 1) := by decide +kernel
theorem dX12_swap_49 : decode cX12_swap 49 = .ok (.lcmp, 1) := by decide +kernel
theorem dX12_swap_50 : decode cX12_swap 50 = .ok (.ifCond .ne 7, 3) := by decide +kernel
theorem dX12_swap_53 : decode cX12_swap 53 = .ok (.iconst 0, 1) := by decide +kernel
theorem dX12_swap_54 : decode cX12_swap 54 = .ok (.goto 4, 3) := by decide +kernel
theorem dX12_swap_57 : decode cX12_swap 57 = .ok (.iconst 1, 1) := by decide +kernel
theorem dX12_swap_58 : decode cX12_swap 58 = .ok (.ireturn, 1) := by decide +kernel
theorem dX12_keep_0 : decode cX12_keep 0 = .ok (.aload_n 0, 1) := by decide +kernel
theorem dX12_keep_1 : decode cX12_keep 1 = .ok (.getfield 213, 3) := by decide +kernel
theorem dX12_keep_4 : decode cX12_keep 4 = .ok (.bipush 10, 2) := by decide +kernel
theorem dX12_keep_6 : decode cX12_keep 6 = .ok (.if_icmp .ne 5, 3) := by decide +kernel
theorem dX12_keep_9 : decode cX12_keep 9 = .ok (.iconst (-1), 1) := by decide +kernel
theorem dX12_keep_10 : decode cX12_keep 10 = .ok (.ireturn, 1) := by decide +kernel
theorem dX12_keep_11 : decode cX12_keep 11 = .ok (.iconst 0, 1) := by decide +kernel
theorem dX12_keep_12 : decode cX12_keep 12 = .ok (.istore_n 1, 1) := by decide +kernel
theorem dX12_keep_13 : decode cX12_keep 13 = .ok (.iload_n 1, 1) := by decide +kernel
theorem dX12_keep_14 : decode cX12_keep 14 = .ok (.bipush 8, 2) := by decide +kernel
theorem dX12_keep_16 : decode cX12_keep 16 = .ok (.if_icmp .ge 29, 3) := by decide +kernel
theorem dX12_keep_19 : decode cX12_keep 19 = .ok (.aload_n 0, 1) := by decide +kernel
theorem dX12_keep_20 : decode cX12_keep 20 = .ok (.getfield 13, 3) := by decide +kernel
theorem dX12_keep_23 : decode cX12_keep 23 = .ok (.bipush 8, 2) := by decide +kernel
theorem dX12_keep_25 : decode cX12_keep 25 = .ok (.aload_n 0, 1) := by decide +kernel
theorem dX12_keep_26 : decode cX12_keep 26 = .ok (.getfield 213, 3) := by decide +kernel
theorem dX12_keep_29 : decode cX12_keep 29 = .ok (.imul, 1) := by decide +kernel
theorem dX12_keep_30 : decode cX12_keep 30 = .ok (.iload_n 1, 1) := by decide +kernel
theorem dX12_keep_31 : decode cX12_keep 31 = .ok (.iadd, 1) := by decide +kernel
theorem dX12_keep_32 : decode cX12_keep 32 = .ok (.aload_n 0, 1) := by decide +kernel
theorem dX12_keep_33 : decode cX12_keep 33 = .ok (.getfield 7, 3) := by decide +kernel
theorem dX12_keep_36 : decode cX12_keep 36 = .ok (.iload_n 1, 1) := by decide +kernel
theorem dX12_keep_37 : decode cX12_keep 37 = .ok (.laload, 1) := by decide +kernel
theorem dX12_keep_38 : decode cX12_keep 38 = .ok (.lastore, 1) := by decide +kernel
theorem dX12_keep_39 : decode cX12_keep 39 = .ok (.iinc 1 1, 3) := by decide +kernel
theorem dX12_keep_42 : decode cX12_keep 42 = .ok (.goto (-29), 3) := by decide +kernel
theorem dX12_keep_45 : decode cX12_keep 45 = .ok (.aload_n 0, 1) := by decide +kernel
theorem dX12_keep_46 : decode cX12_keep 46 = .ok (.aload_n 0, 1) := by decide +kernel
theorem dX12_keep_47 : decode cX12_keep 47 = .ok (.getfield 213, 3) := by decide +kernel
theorem dX12_keep_50 : decode cX12_keep 50 = .ok (.iconst 1, 1) := by decide +kernel
theorem dX12_keep_51 : decode cX12_keep 51 = .ok (.iadd, 1) := by decide +kernel
theorem dX12_keep_52 : decode cX12_keep 52 = .ok (.putfield 213, 3) := by decide +kernel
theorem dX12_keep_55 : decode cX12_keep 55 = .ok (.aload_n 0, 1) := by decide +kernel
theorem dX12_keep_56 : decode cX12_keep 56 = .ok (.getfield 213, 3) := by decide +kernel
theorem dX12_keep_59 : decode cX12_keep 59 = .ok (.ireturn, 1) := by decide +kernel
theorem dX12_back_0 : decode cX12_back 0 = .ok (.aload_n 0, 1) := by decide +kernel
theorem dX12_back_1 : decode cX12_back 1 = .ok (.getfield 213, 3) := by decide +kernel
theorem dX12_back_4 : decode cX12_back 4 = .ok (.ifCond .ne 5, 3) := by decide +kernel
theorem dX12_back_7 : decode cX12_back 7 = .ok (.iconst (-1), 1) := by decide +kernel
theorem dX12_back_8 : decode cX12_back 8 = .ok (.ireturn, 1) := by decide +kernel
theorem dX12_back_9 : decode cX12_back 9 = .ok (.aload_n 0, 1) := by decide +kernel
theorem dX12_back_10 : decode cX12_back 10 = .ok (.aload_n 0, 1) := by decide +kernel
theorem dX12_back_11 : decode cX12_back 11 = .ok (.getfield 213, 3) := by decide +kernel
theorem dX12_back_14 : decode cX12_back 14 = .ok (.iconst 1, 1) := by decide +kernel
theorem dX12_back_15 : decode cX12_back 15 = .ok (.isub, 1) := by decide +kernel
theorem dX12_back_16 : decode cX12_back 16 = .ok (.putfield 213, 3) := by decide +kernel
theorem dX12_back_19 : decode cX12_back 19 = .ok (.iconst 0, 1) := by decide +kernel
theorem dX12_back_20 : decode cX12_back 20 = .ok (.istore_n 1, 1) := by decide +kernel
theorem dX12_back_21 : decode cX12_back 21 = .ok (.iload_n 1, 1) := by decide +kernel
theorem dX12_back_22 : decode cX12_back 22 = .ok (.bipush 8, 2) := by decide +kernel
theorem dX12_back_24 : decode cX12_back 24 = .ok (.if_icmp .ge 29, 3) := by decide +kernel
theorem dX12_back_27 : decode cX12_back 27 = .ok (.aload_n 0, 1) := by decide +kernel
theorem dX12_back_28 : decode cX12_back 28 = .ok (.getfield 7, 3) := by decide +kernel
theorem dX12_back_31 : decode cX12_back 31 = .ok (.iload_n 1, 1) := by decide +kernel
theorem dX12_back_32 : decode cX12_back 32 = .ok (.aload_n 0, 1) := by decide +kernel
theorem dX12_back_33 : decode cX12_back 33 = .ok (.getfield 13, 3) := by decide +kernel
theorem dX12_back_36 : decode cX12_back 36 = .ok (.bipush 8, 2) := by decide +kernel
theorem dX12_back_38 : decode cX12_back 38 = .ok (.aload_n 0, 1) := by decide +kernel
theorem dX12_back_39 : decode cX12_back 39 = .ok (.getfield 213, 3) := by decide +kernel
theorem dX12_back_42 : decode cX12_back 42 = .ok (.imul, 1) := by decide +kernel
theorem dX12_back_43 : decode cX12_back 43 = .ok (.iload_n 1, 1) := by decide +kernel
theorem dX12_back_44 : decode cX12_back 44 = .ok (.iadd, 1) := by decide +kernel
theorem dX12_back_45 : decode cX12_back 45 = .ok (.laload, 1) := by decide +kernel
theorem dX12_back_46 : decode cX12_back 46 = .ok (.lastore, 1) := by decide +kernel
theorem dX12_back_47 : decode cX12_back 47 = .ok (.iinc 1 1, 3) := by decide +kernel
theorem dX12_back_50 : decode cX12_back 50 = .ok (.goto (-29), 3) := by decide +kernel
theorem dX12_back_53 : decode cX12_back 53 = .ok (.aload_n 0, 1) := by decide +kernel
theorem dX12_back_54 : decode cX12_back 54 = .ok (.getfield 213, 3) := by decide +kernel
theorem dX12_back_57 : decode cX12_back 57 = .ok (.ireturn, 1) := by decide +kernel
theorem dX12_count_0 : decode cX12_count 0 = .ok (.iconst 0, 1) := by decide +kernel
theorem dX12_count_1 : decode cX12_count 1 = .ok (.istore_n 2, 1) := by decide +kernel
theorem dX12_count_2 : decode cX12_count 2 = .ok (.iconst 0, 1) := by decide +kernel
theorem dX12_count_3 : decode cX12_count 3 = .ok (.istore_n 3, 1) := by decide +kernel
theorem dX12_count_4 : decode cX12_count 4 = .ok (.iconst 0, 1) := by decide +kernel
theorem dX12_count_5 : decode cX12_count 5 = .ok (.istore 4, 2) := by decide +kernel
theorem dX12_count_7 : decode cX12_count 7 = .ok (.iload 4, 2) := by decide +kernel
theorem dX12_count_9 : decode cX12_count 9 = .ok (.bipush 8, 2) := by decide +kernel
theorem dX12_count_11 : decode cX12_count 11 = .ok (.if_icmp .ge 45, 3) := by decide +kernel
theorem dX12_count_14 : decode cX12_count 14 = .ok (.iload_n 2, 1) := by decide +kernel
theorem dX12_count_15 : decode cX12_count 15 = .ok (.aload_n 0, 1) := by decide +kernel
theorem dX12_count_16 : decode cX12_count 16 = .ok (.getfield 7, 3) := by decide +kernel
theorem dX12_count_19 : decode cX12_count 19 = .ok (.iload 4, 2) := by decide +kernel
theorem dX12_count_21 : decode cX12_count 21 = .ok (.laload, 1) := by decide +kernel
theorem dX12_count_22 : decode cX12_count 22 = .ok (.lconst 0, 1) := by decide +kernel
theorem dX12_count_23 : decode cX12_count 23 = .ok (.lcmp, 1) := by decide +kernel
theorem dX12_count_24 : decode cX12_count 24 = .ok (.ifCond .ne 7, 3) := by decide +kernel
theorem dX12_count_27 : decode cX12_count 27 = .ok (.iconst 0, 1) := by decide +kernel
theorem dX12_count_28 : decode cX12_count 28 = .ok (.goto 7, 3) := by decide +kernel
theorem dX12_count_31 : decode cX12_count 31 = .ok (.iconst 1, 1) := by decide +kernel
theorem dX12_count_32 : decode cX12_count 32 = .ok (.iload 4, 2) := by decide +kernel
theorem dX12_count_34 : decode cX12_count 34 = .ok (.ishl, 1) := by decide +kernel
theorem dX12_count_35 : decode cX12_count 35 = .ok (.ior, 1) := by decide +kernel
theorem dX12_count_36 : decode cX12_count 36 = .ok (.istore_n 2, 1) := by decide +kernel
theorem dX12_count_37 : decode cX12_count 37 = .ok (.iload_n 3, 1) := by decide +kernel
theorem dX12_count_38 : decode cX12_count 38 = .ok (.aload_n 0, 1) := by decide +kernel
theorem dX12_count_39 : decode cX12_count 39 = .ok (.getfield 7, 3) := by decide +kernel
theorem dX12_count_42 : decode cX12_count 42 = .ok (.iload 4, 2) := by decide +kernel
theorem dX12_count_44 : decode cX12_count 44 = .ok (.laload, 1) := by decide +kernel
theorem dX12_count_45 : decode cX12_count 45 = .ok (.invokestatic 106, 3) := by decide +kernel
theorem dX12_count_48 : decode cX12_count 48 = .ok (.iadd, 1) := by decide +kernel
theorem dX12_count_49 : decode cX12_count 49 = .ok (.istore_n 3, 1) := by decide +kernel
theorem dX12_count_50 : decode cX12_count 50 = .ok (.iinc 4 1, 3) := by decide +kernel
theorem dX12_count_53 : decode cX12_count 53 = .ok (.goto (-46), 3) := by decide +kernel
theorem dX12_count_56 : decode cX12_count 56 = .ok (.iload_n 1, 1) := by decide +kernel
theorem dX12_count_57 : decode cX12_count 57 = .ok (.ifCond .ne 7, 3) := by decide +kernel
theorem dX12_count_60 : decode cX12_count 60 = .ok (.iload_n 2, 1) := by decide +kernel
theorem dX12_count_61 : decode cX12_count 61 = .ok (.goto 25, 3) := by decide +kernel
theorem dX12_count_64 : decode cX12_count 64 = .ok (.iload_n 1, 1) := by decide +kernel
theorem dX12_count_65 : decode cX12_count 65 = .ok (.iconst 1, 1) := by decide +kernel
theorem dX12_count_66 : decode cX12_count 66 = .ok (.if_icmp .ne 10, 3) := by decide +kernel
theorem dX12_count_69 : decode cX12_count 69 = .ok (.aload_n 0, 1) := by decide +kernel
theorem dX12_count_70 : decode cX12_count 70 = .ok (.getfield 127, 3) := by decide +kernel
theorem dX12_count_73 : decode cX12_count 73 = .ok (.goto 13, 3) := by decide +kernel
theorem dX12_count_76 : decode cX12_count 76 = .ok (.iload_n 1, 1) := by decide +kernel
theorem dX12_count_77 : decode cX12_count 77 = .ok (.iconst 2, 1) := by decide +kernel
theorem dX12_count_78 : decode cX12_count 78 = .ok (.if_icmp .ne 7, 3) := by decide +kernel
theorem dX12_count_81 : decode cX12_count 81 = .ok (.iload_n 3, 1) := by decide +kernel
theorem dX12_count_82 : decode cX12_count 82 = .ok (.goto 4, 3) := by decide +kernel
theorem dX12_count_85 : decode cX12_count 85 = .ok (.iconst (-1), 1) := by decide +kernel
theorem dX12_count_86 : decode cX12_count 86 = .ok (.ireturn, 1) := by decide +kernel
theorem dX12_drawn_0 : decode cX12_drawn 0 = .ok (.iload_n 1, 1) := by decide +kernel
theorem dX12_drawn_1 : decode cX12_drawn 1 = .ok (.invokestatic 135, 3) := by decide +kernel
theorem dX12_drawn_4 : decode cX12_drawn 4 = .ok (.ifCond .eq 13, 3) := by decide +kernel
theorem dX12_drawn_7 : decode cX12_drawn 7 = .ok (.iload_n 3, 1) := by decide +kernel
theorem dX12_drawn_8 : decode cX12_drawn 8 = .ok (.iconst 1, 1) := by decide +kernel
theorem dX12_drawn_9 : decode cX12_drawn 9 = .ok (.bipush 12, 2) := by decide +kernel
theorem dX12_drawn_11 : decode cX12_drawn 11 = .ok (.invokestatic 82, 3) := by decide +kernel
theorem dX12_drawn_14 : decode cX12_drawn 14 = .ok (.ifCond .ne 7, 3) := by decide +kernel
theorem dX12_drawn_17 : decode cX12_drawn 17 = .ok (.ldc2_w 98, 3) := by decide +kernel
theorem dX12_drawn_20 : decode cX12_drawn 20 = .ok (.lreturn, 1) := by decide +kernel
theorem dX12_drawn_21 : decode cX12_drawn 21 = .ok (.iload_n 2, 1) := by decide +kernel
theorem dX12_drawn_22 : decode cX12_drawn 22 = .ok (.ldc 216, 2) := by decide +kernel
theorem dX12_drawn_24 : decode cX12_drawn 24 = .ok (.iand, 1) := by decide +kernel
theorem dX12_drawn_25 : decode cX12_drawn 25 = .ok (.istore 4, 2) := by decide +kernel
theorem dX12_drawn_27 : decode cX12_drawn 27 = .ok (.lconst 1, 1) := by decide +kernel
theorem dX12_drawn_28 : decode cX12_drawn 28 = .ok (.lstore 5, 2) := by decide +kernel
theorem dX12_drawn_30 : decode cX12_drawn 30 = .ok (.iconst 1, 1) := by decide +kernel
theorem dX12_drawn_31 : decode cX12_drawn 31 = .ok (.istore 7, 2) := by decide +kernel
theorem dX12_drawn_33 : decode cX12_drawn 33 = .ok (.iload 7, 2) := by decide +kernel
theorem dX12_drawn_35 : decode cX12_drawn 35 = .ok (.iload_n 3, 1) := by decide +kernel
theorem dX12_drawn_36 : decode cX12_drawn 36 = .ok (.if_icmp .ge 204, 3) := by decide +kernel
theorem dX12_drawn_39 : decode cX12_drawn 39 = .ok (.iconst 0, 1) := by decide +kernel
theorem dX12_drawn_40 : decode cX12_drawn 40 = .ok (.istore 8, 2) := by decide +kernel
theorem dX12_drawn_42 : decode cX12_drawn 42 = .ok (.iconst (-1), 1) := by decide +kernel
theorem dX12_drawn_43 : decode cX12_drawn 43 = .ok (.istore 9, 2) := by decide +kernel
theorem dX12_drawn_45 : decode cX12_drawn 45 = .ok (.iload 9, 2) := by decide +kernel
theorem dX12_drawn_47 : decode cX12_drawn 47 = .ok (.bipush 8, 2) := by decide +kernel
theorem dX12_drawn_49 : decode cX12_drawn 49 = .ok (.if_icmp .ge 59, 3) := by decide +kernel
theorem dX12_drawn_52 : decode cX12_drawn 52 = .ok (.iconst (-1), 1) := by decide +kernel
theorem dX12_drawn_53 : decode cX12_drawn 53 = .ok (.istore 10, 2) := by decide +kernel
theorem dX12_drawn_55 : decode cX12_drawn 55 = .ok (.iload 10, 2) := by decide +kernel
theorem dX12_drawn_57 : decode cX12_drawn 57 = .ok (.bipush 8, 2) := by decide +kernel
theorem dX12_drawn_59 : decode cX12_drawn 59 = .ok (.if_icmp .ge 43, 3) := by decide +kernel
theorem dX12_drawn_62 : decode cX12_drawn 62 = .ok (.iload 8, 2) := by decide +kernel
theorem dX12_drawn_64 : decode cX12_drawn 64 = .ok (.lload 5, 2) := by decide +kernel
theorem dX12_drawn_66 : decode cX12_drawn 66 = .ok (.iload 10, 2) := by decide +kernel
theorem dX12_drawn_68 : decode cX12_drawn 68 = .ok (.iload 9, 2) := by decide +kernel
theorem dX12_drawn_70 : decode cX12_drawn 70 = .ok (.invokestatic 156, 3) := by decide +kernel
theorem dX12_drawn_73 : decode cX12_drawn 73 = .ok (.ifCond .eq 19, 3) := by decide +kernel
theorem dX12_drawn_76 : decode cX12_drawn 76 = .ok (.lload 5, 2) := by decide +kernel
theorem dX12_drawn_78 : decode cX12_drawn 78 = .ok (.iload 10, 2) := by decide +kernel
theorem dX12_drawn_80 : decode cX12_drawn 80 = .ok (.iload 9, 2) := by decide +kernel
theorem dX12_drawn_82 : decode cX12_drawn 82 = .ok (.invokestatic 217, 3) := by decide +kernel
theorem dX12_drawn_85 : decode cX12_drawn 85 = .ok (.ifCond .eq 7, 3) := by decide +kernel
theorem dX12_drawn_88 : decode cX12_drawn 88 = .ok (.iconst 1, 1) := by decide +kernel
theorem dX12_drawn_89 : decode cX12_drawn 89 = .ok (.goto 4, 3) := by decide +kernel
theorem dX12_drawn_92 : decode cX12_drawn 92 = .ok (.iconst 0, 1) := by decide +kernel
theorem dX12_drawn_93 : decode cX12_drawn 93 = .ok (.iadd, 1) := by decide +kernel
theorem dX12_drawn_94 : decode cX12_drawn 94 = .ok (.istore 8, 2) := by decide +kernel
theorem dX12_drawn_96 : decode cX12_drawn 96 = .ok (.iinc 10 1, 3) := by decide +kernel
theorem dX12_drawn_99 : decode cX12_drawn 99 = .ok (.goto (-44), 3) := by decide +kernel
theorem dX12_drawn_102 : decode cX12_drawn 102 = .ok (.iinc 9 1, 3) := by decide +kernel
theorem dX12_drawn_105 : decode cX12_drawn 105 = .ok (.goto (-60), 3) := by decide +kernel
theorem dX12_drawn_108 : decode cX12_drawn 108 = .ok (.sipush 25173, 3) := by decide +kernel
theorem dX12_drawn_111 : decode cX12_drawn 111 = .ok (.iload 4, 2) := by decide +kernel
theorem dX12_drawn_113 : decode cX12_drawn 113 = .ok (.imul, 1) := by decide +kernel
theorem dX12_drawn_114 : decode cX12_drawn 114 = .ok (.sipush 13849, 3) := by decide +kernel
theorem dX12_drawn_117 : decode cX12_drawn 117 = .ok (.iadd, 1) := by decide +kernel
theorem dX12_drawn_118 : decode cX12_drawn 118 = .ok (.ldc 220, 2) := by decide +kernel
theorem dX12_drawn_120 : decode cX12_drawn 120 = .ok (.irem, 1) := by decide +kernel
theorem dX12_drawn_121 : decode cX12_drawn 121 = .ok (.istore 4, 2) := by decide +kernel
theorem dX12_drawn_123 : decode cX12_drawn 123 = .ok (.iload 4, 2) := by decide +kernel
theorem dX12_drawn_125 : decode cX12_drawn 125 = .ok (.iconst 4, 1) := by decide +kernel
theorem dX12_drawn_126 : decode cX12_drawn 126 = .ok (.idiv, 1) := by decide +kernel
theorem dX12_drawn_127 : decode cX12_drawn 127 = .ok (.iload 8, 2) := by decide +kernel
theorem dX12_drawn_129 : decode cX12_drawn 129 = .ok (.irem, 1) := by decide +kernel
theorem dX12_drawn_130 : decode cX12_drawn 130 = .ok (.istore 9, 2) := by decide +kernel
theorem dX12_drawn_132 : decode cX12_drawn 132 = .ok (.lconst 0, 1) := by decide +kernel
theorem dX12_drawn_133 : decode cX12_drawn 133 = .ok (.lstore 10, 2) := by decide +kernel
theorem dX12_drawn_135 : decode cX12_drawn 135 = .ok (.iconst (-1), 1) := by decide +kernel
theorem dX12_drawn_136 : decode cX12_drawn 136 = .ok (.istore 12, 2) := by decide +kernel
theorem dX12_drawn_138 : decode cX12_drawn 138 = .ok (.iload 12, 2) := by decide +kernel
theorem dX12_drawn_140 : decode cX12_drawn 140 = .ok (.bipush 8, 2) := by decide +kernel
theorem dX12_drawn_142 : decode cX12_drawn 142 = .ok (.if_icmp .ge 88, 3) := by decide +kernel
theorem dX12_drawn_145 : decode cX12_drawn 145 = .ok (.lload 10, 2) := by decide +kernel
theorem dX12_drawn_147 : decode cX12_drawn 147 = .ok (.lconst 0, 1) := by decide +kernel
theorem dX12_drawn_148 : decode cX12_drawn 148 = .ok (.lcmp, 1) := by decide +kernel
theorem dX12_drawn_149 : decode cX12_drawn 149 = .ok (.ifCond .ne 81, 3) := by decide +kernel
theorem dX12_drawn_152 : decode cX12_drawn 152 = .ok (.iconst (-1), 1) := by decide +kernel
theorem dX12_drawn_153 : decode cX12_drawn 153 = .ok (.istore 13, 2) := by decide +kernel
theorem dX12_drawn_155 : decode cX12_drawn 155 = .ok (.iload 13, 2) := by decide +kernel
theorem dX12_drawn_157 : decode cX12_drawn 157 = .ok (.bipush 8, 2) := by decide +kernel
theorem dX12_drawn_159 : decode cX12_drawn 159 = .ok (.if_icmp .ge 65, 3) := by decide +kernel
theorem dX12_drawn_162 : decode cX12_drawn 162 = .ok (.lload 10, 2) := by decide +kernel
theorem dX12_drawn_164 : decode cX12_drawn 164 = .ok (.lconst 0, 1) := by decide +kernel
theorem dX12_drawn_165 : decode cX12_drawn 165 = .ok (.lcmp, 1) := by decide +kernel
theorem dX12_drawn_166 : decode cX12_drawn 166 = .ok (.ifCond .ne 58, 3) := by decide +kernel
theorem dX12_drawn_169 : decode cX12_drawn 169 = .ok (.lload 5, 2) := by decide +kernel
theorem dX12_drawn_171 : decode cX12_drawn 171 = .ok (.iload 13, 2) := by decide +kernel
theorem dX12_drawn_173 : decode cX12_drawn 173 = .ok (.iload 12, 2) := by decide +kernel
theorem dX12_drawn_175 : decode cX12_drawn 175 = .ok (.invokestatic 156, 3) := by decide +kernel
theorem dX12_drawn_178 : decode cX12_drawn 178 = .ok (.ifCond .eq 40, 3) := by decide +kernel
theorem dX12_drawn_181 : decode cX12_drawn 181 = .ok (.lload 5, 2) := by decide +kernel
theorem dX12_drawn_183 : decode cX12_drawn 183 = .ok (.iload 13, 2) := by decide +kernel
theorem dX12_drawn_185 : decode cX12_drawn 185 = .ok (.iload 12, 2) := by decide +kernel
theorem dX12_drawn_187 : decode cX12_drawn 187 = .ok (.invokestatic 217, 3) := by decide +kernel
theorem dX12_drawn_190 : decode cX12_drawn 190 = .ok (.ifCond .ne 6, 3) := by decide +kernel
theorem dX12_drawn_193 : decode cX12_drawn 193 = .ok (.goto 25, 3) := by decide +kernel
theorem dX12_drawn_196 : decode cX12_drawn 196 = .ok (.iload 9, 2) := by decide +kernel
theorem dX12_drawn_198 : decode cX12_drawn 198 = .ok (.ifCond .ne 14, 3) := by decide +kernel
theorem dX12_drawn_201 : decode cX12_drawn 201 = .ok (.lload 5, 2) := by decide +kernel
theorem dX12_drawn_203 : decode cX12_drawn 203 = .ok (.iload 13, 2) := by decide +kernel
theorem dX12_drawn_205 : decode cX12_drawn 205 = .ok (.iload 12, 2) := by decide +kernel
theorem dX12_drawn_207 : decode cX12_drawn 207 = .ok (.invokestatic 221, 3) := by decide +kernel
theorem dX12_drawn_210 : decode cX12_drawn 210 = .ok (.lstore 10, 2) := by decide +kernel
theorem dX12_drawn_212 : decode cX12_drawn 212 = .ok (.iload 9, 2) := by decide +kernel
theorem dX12_drawn_214 : decode cX12_drawn 214 = .ok (.iconst 1, 1) := by decide +kernel
theorem dX12_drawn_215 : decode cX12_drawn 215 = .ok (.isub, 1) := by decide +kernel
theorem dX12_drawn_216 : decode cX12_drawn 216 = .ok (.istore 9, 2) := by decide +kernel
theorem dX12_drawn_218 : decode cX12_drawn 218 = .ok (.iinc 13 1, 3) := by decide +kernel
theorem dX12_drawn_221 : decode cX12_drawn 221 = .ok (.goto (-66), 3) := by decide +kernel
theorem dX12_drawn_224 : decode cX12_drawn 224 = .ok (.iinc 12 1, 3) := by decide +kernel
theorem dX12_drawn_227 : decode cX12_drawn 227 = .ok (.goto (-89), 3) := by decide +kernel
theorem dX12_drawn_230 : decode cX12_drawn 230 = .ok (.lload 10, 2) := by decide +kernel
theorem dX12_drawn_232 : decode cX12_drawn 232 = .ok (.lstore 5, 2) := by decide +kernel
theorem dX12_drawn_234 : decode cX12_drawn 234 = .ok (.iinc 7 1, 3) := by decide +kernel
theorem dX12_drawn_237 : decode cX12_drawn 237 = .ok (.goto (-204), 3) := by decide +kernel
theorem dX12_drawn_240 : decode cX12_drawn 240 = .ok (.aload_n 0, 1) := by decide +kernel
theorem dX12_drawn_241 : decode cX12_drawn 241 = .ok (.getfield 7, 3) := by decide +kernel
theorem dX12_drawn_244 : decode cX12_drawn 244 = .ok (.iload_n 1, 1) := by decide +kernel
theorem dX12_drawn_245 : decode cX12_drawn 245 = .ok (.lload 5, 2) := by decide +kernel
theorem dX12_drawn_247 : decode cX12_drawn 247 = .ok (.lastore, 1) := by decide +kernel
theorem dX12_drawn_248 : decode cX12_drawn 248 = .ok (.lload 5, 2) := by decide +kernel
theorem dX12_drawn_250 : decode cX12_drawn 250 = .ok (.lreturn, 1) := by decide +kernel
theorem dX12_isWithin_0 : decode cX12_isWithin 0 = .ok (.iload_n 2, 1) := by decide +kernel
theorem dX12_isWithin_1 : decode cX12_isWithin 1 = .ok (.ifCond .lt 12, 3) := by decide +kernel
theorem dX12_isWithin_4 : decode cX12_isWithin 4 = .ok (.iload_n 2, 1) := by decide +kernel
theorem dX12_isWithin_5 : decode cX12_isWithin 5 = .ok (.bipush 7, 2) := by decide +kernel
theorem dX12_isWithin_7 : decode cX12_isWithin 7 = .ok (.if_icmp .ge 41, 3) := by decide +kernel
theorem dX12_isWithin_10 : decode cX12_isWithin 10 = .ok (.goto 12, 3) := by decide +kernel
theorem dX12_isWithin_13 : decode cX12_isWithin 13 = .ok (.lload_n 0, 1) := by decide +kernel
theorem dX12_isWithin_14 : decode cX12_isWithin 14 = .ok (.invokestatic 163, 3) := by decide +kernel
theorem dX12_isWithin_17 : decode cX12_isWithin 17 = .ok (.bipush 7, 2) := by decide +kernel
theorem dX12_isWithin_19 : decode cX12_isWithin 19 = .ok (.if_icmp .ge 29, 3) := by decide +kernel
theorem dX12_isWithin_22 : decode cX12_isWithin 22 = .ok (.iload_n 3, 1) := by decide +kernel
theorem dX12_isWithin_23 : decode cX12_isWithin 23 = .ok (.ifCond .lt 12, 3) := by decide +kernel
theorem dX12_isWithin_26 : decode cX12_isWithin 26 = .ok (.iload_n 3, 1) := by decide +kernel
theorem dX12_isWithin_27 : decode cX12_isWithin 27 = .ok (.bipush 7, 2) := by decide +kernel
theorem dX12_isWithin_29 : decode cX12_isWithin 29 = .ok (.if_icmp .ge 19, 3) := by decide +kernel
theorem dX12_isWithin_32 : decode cX12_isWithin 32 = .ok (.goto 12, 3) := by decide +kernel
theorem dX12_isWithin_35 : decode cX12_isWithin 35 = .ok (.lload_n 0, 1) := by decide +kernel
theorem dX12_isWithin_36 : decode cX12_isWithin 36 = .ok (.invokestatic 166, 3) := by decide +kernel
theorem dX12_isWithin_39 : decode cX12_isWithin 39 = .ok (.bipush 7, 2) := by decide +kernel
theorem dX12_isWithin_41 : decode cX12_isWithin 41 = .ok (.if_icmp .ge 7, 3) := by decide +kernel
theorem dX12_isWithin_44 : decode cX12_isWithin 44 = .ok (.iconst 1, 1) := by decide +kernel
theorem dX12_isWithin_45 : decode cX12_isWithin 45 = .ok (.goto 4, 3) := by decide +kernel
theorem dX12_isWithin_48 : decode cX12_isWithin 48 = .ok (.iconst 0, 1) := by decide +kernel
theorem dX12_isWithin_49 : decode cX12_isWithin 49 = .ok (.ireturn, 1) := by decide +kernel
theorem dX12_with_0 : decode cX12_with 0 = .ok (.iload_n 2, 1) := by decide +kernel
theorem dX12_with_1 : decode cX12_with 1 = .ok (.ifCond .ge 9, 3) := by decide +kernel
theorem dX12_with_4 : decode cX12_with 4 = .ok (.lload_n 0, 1) := by decide +kernel
theorem dX12_with_5 : decode cX12_with 5 = .ok (.iconst 1, 1) := by decide +kernel
theorem dX12_with_6 : decode cX12_with 6 = .ok (.lshl, 1) := by decide +kernel
theorem dX12_with_7 : decode cX12_with 7 = .ok (.goto 4, 3) := by decide +kernel
theorem dX12_with_10 : decode cX12_with 10 = .ok (.lload_n 0, 1) := by decide +kernel
theorem dX12_with_11 : decode cX12_with 11 = .ok (.lstore 4, 2) := by decide +kernel
theorem dX12_with_13 : decode cX12_with 13 = .ok (.iload_n 3, 1) := by decide +kernel
theorem dX12_with_14 : decode cX12_with 14 = .ok (.ifCond .ge 11, 3) := by decide +kernel
theorem dX12_with_17 : decode cX12_with 17 = .ok (.lload 4, 2) := by decide +kernel
theorem dX12_with_19 : decode cX12_with 19 = .ok (.bipush 8, 2) := by decide +kernel
theorem dX12_with_21 : decode cX12_with 21 = .ok (.lshl, 1) := by decide +kernel
theorem dX12_with_22 : decode cX12_with 22 = .ok (.goto 5, 3) := by decide +kernel
theorem dX12_with_25 : decode cX12_with 25 = .ok (.lload 4, 2) := by decide +kernel
theorem dX12_with_27 : decode cX12_with 27 = .ok (.lstore 4, 2) := by decide +kernel
theorem dX12_with_29 : decode cX12_with 29 = .ok (.lload 4, 2) := by decide +kernel
theorem dX12_with_31 : decode cX12_with 31 = .ok (.iload_n 2, 1) := by decide +kernel
theorem dX12_with_32 : decode cX12_with 32 = .ok (.ifCond .ge 7, 3) := by decide +kernel
theorem dX12_with_35 : decode cX12_with 35 = .ok (.iconst 0, 1) := by decide +kernel
theorem dX12_with_36 : decode cX12_with 36 = .ok (.goto 4, 3) := by decide +kernel
theorem dX12_with_39 : decode cX12_with 39 = .ok (.iload_n 2, 1) := by decide +kernel
theorem dX12_with_40 : decode cX12_with 40 = .ok (.iload_n 3, 1) := by decide +kernel
theorem dX12_with_41 : decode cX12_with 41 = .ok (.ifCond .ge 7, 3) := by decide +kernel
theorem dX12_with_44 : decode cX12_with 44 = .ok (.iconst 0, 1) := by decide +kernel
theorem dX12_with_45 : decode cX12_with 45 = .ok (.goto 4, 3) := by decide +kernel
theorem dX12_with_48 : decode cX12_with 48 = .ok (.iload_n 3, 1) := by decide +kernel
theorem dX12_with_49 : decode cX12_with 49 = .ok (.invokestatic 117, 3) := by decide +kernel
theorem dX12_with_52 : decode cX12_with 52 = .ok (.lor, 1) := by decide +kernel
theorem dX12_with_53 : decode cX12_with 53 = .ok (.lreturn, 1) := by decide +kernel
theorem dX12_laysLists_0 : decode cX12_laysLists 0 = .ok (.aload_n 0, 1) := by decide +kernel
theorem dX12_laysLists_1 : decode cX12_laysLists 1 = .ok (.getfield 31, 3) := by decide +kernel
theorem dX12_laysLists_4 : decode cX12_laysLists 4 = .ok (.iconst 0, 1) := by decide +kernel
theorem dX12_laysLists_5 : decode cX12_laysLists 5 = .ok (.lconst 1, 1) := by decide +kernel
theorem dX12_laysLists_6 : decode cX12_laysLists 6 = .ok (.lastore, 1) := by decide +kernel
theorem dX12_laysLists_7 : decode cX12_laysLists 7 = .ok (.aload_n 0, 1) := by decide +kernel
theorem dX12_laysLists_8 : decode cX12_laysLists 8 = .ok (.getfield 31, 3) := by decide +kernel
theorem dX12_laysLists_11 : decode cX12_laysLists 11 = .ok (.iconst 1, 1) := by decide +kernel
theorem dX12_laysLists_12 : decode cX12_laysLists 12 = .ok (.lconst 1, 1) := by decide +kernel
theorem dX12_laysLists_13 : decode cX12_laysLists 13 = .ok (.lastore, 1) := by decide +kernel
theorem dX12_laysLists_14 : decode cX12_laysLists 14 = .ok (.aload_n 0, 1) := by decide +kernel
theorem dX12_laysLists_15 : decode cX12_laysLists 15 = .ok (.getfield 31, 3) := by decide +kernel
theorem dX12_laysLists_18 : decode cX12_laysLists 18 = .ok (.iconst 2, 1) := by decide +kernel
theorem dX12_laysLists_19 : decode cX12_laysLists 19 = .ok (.lconst 1, 1) := by decide +kernel
theorem dX12_laysLists_20 : decode cX12_laysLists 20 = .ok (.lastore, 1) := by decide +kernel
theorem dX12_laysLists_21 : decode cX12_laysLists 21 = .ok (.iconst 0, 1) := by decide +kernel
theorem dX12_laysLists_22 : decode cX12_laysLists 22 = .ok (.istore_n 1, 1) := by decide +kernel
theorem dX12_laysLists_23 : decode cX12_laysLists 23 = .ok (.iload_n 1, 1) := by decide +kernel
theorem dX12_laysLists_24 : decode cX12_laysLists 24 = .ok (.iconst 4, 1) := by decide +kernel
theorem dX12_laysLists_25 : decode cX12_laysLists 25 = .ok (.if_icmp .ge 16, 3) := by decide +kernel
theorem dX12_laysLists_28 : decode cX12_laysLists 28 = .ok (.aload_n 0, 1) := by decide +kernel
theorem dX12_laysLists_29 : decode cX12_laysLists 29 = .ok (.getfield 37, 3) := by decide +kernel
theorem dX12_laysLists_32 : decode cX12_laysLists 32 = .ok (.iload_n 1, 1) := by decide +kernel
theorem dX12_laysLists_33 : decode cX12_laysLists 33 = .ok (.iload_n 1, 1) := by decide +kernel
theorem dX12_laysLists_34 : decode cX12_laysLists 34 = .ok (.iastore, 1) := by decide +kernel
theorem dX12_laysLists_35 : decode cX12_laysLists 35 = .ok (.iinc 1 1, 3) := by decide +kernel
theorem dX12_laysLists_38 : decode cX12_laysLists 38 = .ok (.goto (-15), 3) := by decide +kernel
theorem dX12_laysLists_41 : decode cX12_laysLists 41 = .ok (.iconst 2, 1) := by decide +kernel
theorem dX12_laysLists_42 : decode cX12_laysLists 42 = .ok (.istore_n 1, 1) := by decide +kernel
theorem dX12_laysLists_43 : decode cX12_laysLists 43 = .ok (.iload_n 1, 1) := by decide +kernel
theorem dX12_laysLists_44 : decode cX12_laysLists 44 = .ok (.bipush 7, 2) := by decide +kernel
theorem dX12_laysLists_46 : decode cX12_laysLists 46 = .ok (.if_icmp .gt 226, 3) := by decide +kernel
theorem dX12_laysLists_49 : decode cX12_laysLists 49 = .ok (.aload_n 0, 1) := by decide +kernel
theorem dX12_laysLists_50 : decode cX12_laysLists 50 = .ok (.getfield 37, 3) := by decide +kernel
theorem dX12_laysLists_53 : decode cX12_laysLists 53 = .ok (.iconst 3, 1) := by decide +kernel
theorem dX12_laysLists_54 : decode cX12_laysLists 54 = .ok (.iload_n 1, 1) := by decide +kernel
theorem dX12_laysLists_55 : decode cX12_laysLists 55 = .ok (.iconst 1, 1) := by decide +kernel
theorem dX12_laysLists_56 : decode cX12_laysLists 56 = .ok (.isub, 1) := by decide +kernel
theorem dX12_laysLists_57 : decode cX12_laysLists 57 = .ok (.imul, 1) := by decide +kernel
theorem dX12_laysLists_58 : decode cX12_laysLists 58 = .ok (.iaload, 1) := by decide +kernel
theorem dX12_laysLists_59 : decode cX12_laysLists 59 = .ok (.istore_n 2, 1) := by decide +kernel
theorem dX12_laysLists_60 : decode cX12_laysLists 60 = .ok (.iload_n 2, 1) := by decide +kernel
theorem dX12_laysLists_61 : decode cX12_laysLists 61 = .ok (.istore_n 3, 1) := by decide +kernel
theorem dX12_laysLists_62 : decode cX12_laysLists 62 = .ok (.aload_n 0, 1) := by decide +kernel
theorem dX12_laysLists_63 : decode cX12_laysLists 63 = .ok (.getfield 37, 3) := by decide +kernel
theorem dX12_laysLists_66 : decode cX12_laysLists 66 = .ok (.iconst 3, 1) := by decide +kernel
theorem dX12_laysLists_67 : decode cX12_laysLists 67 = .ok (.iload_n 1, 1) := by decide +kernel
theorem dX12_laysLists_68 : decode cX12_laysLists 68 = .ok (.iconst 2, 1) := by decide +kernel
theorem dX12_laysLists_69 : decode cX12_laysLists 69 = .ok (.isub, 1) := by decide +kernel
theorem dX12_laysLists_70 : decode cX12_laysLists 70 = .ok (.imul, 1) := by decide +kernel
theorem dX12_laysLists_71 : decode cX12_laysLists 71 = .ok (.iaload, 1) := by decide +kernel
theorem dX12_laysLists_72 : decode cX12_laysLists 72 = .ok (.istore 4, 2) := by decide +kernel
theorem dX12_laysLists_74 : decode cX12_laysLists 74 = .ok (.iload 4, 2) := by decide +kernel
theorem dX12_laysLists_76 : decode cX12_laysLists 76 = .ok (.aload_n 0, 1) := by decide +kernel
theorem dX12_laysLists_77 : decode cX12_laysLists 77 = .ok (.getfield 37, 3) := by decide +kernel
theorem dX12_laysLists_80 : decode cX12_laysLists 80 = .ok (.iconst 3, 1) := by decide +kernel
theorem dX12_laysLists_81 : decode cX12_laysLists 81 = .ok (.iload_n 1, 1) := by decide +kernel
theorem dX12_laysLists_82 : decode cX12_laysLists 82 = .ok (.iconst 2, 1) := by decide +kernel
theorem dX12_laysLists_83 : decode cX12_laysLists 83 = .ok (.isub, 1) := by decide +kernel
theorem dX12_laysLists_84 : decode cX12_laysLists 84 = .ok (.imul, 1) := by decide +kernel
theorem dX12_laysLists_85 : decode cX12_laysLists 85 = .ok (.iconst 1, 1) := by decide +kernel
theorem dX12_laysLists_86 : decode cX12_laysLists 86 = .ok (.iadd, 1) := by decide +kernel
theorem dX12_laysLists_87 : decode cX12_laysLists 87 = .ok (.iaload, 1) := by decide +kernel
theorem dX12_laysLists_88 : decode cX12_laysLists 88 = .ok (.if_icmp .ge 56, 3) := by decide +kernel
theorem dX12_laysLists_91 : decode cX12_laysLists 91 = .ok (.aload_n 0, 1) := by decide +kernel
theorem dX12_laysLists_92 : decode cX12_laysLists 92 = .ok (.aload_n 0, 1) := by decide +kernel
theorem dX12_laysLists_93 : decode cX12_laysLists 93 = .ok (.getfield 31, 3) := by decide +kernel
theorem dX12_laysLists_96 : decode cX12_laysLists 96 = .ok (.iload 4, 2) := by decide +kernel
theorem dX12_laysLists_98 : decode cX12_laysLists 98 = .ok (.laload, 1) := by decide +kernel
theorem dX12_laysLists_99 : decode cX12_laysLists 99 = .ok (.iconst 0, 1) := by decide +kernel
theorem dX12_laysLists_100 : decode cX12_laysLists 100 = .ok (.invokevirtual 225, 3) := by decide +kernel
theorem dX12_laysLists_103 : decode cX12_laysLists 103 = .ok (.iconst 0, 1) := by decide +kernel
theorem dX12_laysLists_104 : decode cX12_laysLists 104 = .ok (.istore 5, 2) := by decide +kernel
theorem dX12_laysLists_106 : decode cX12_laysLists 106 = .ok (.iload 5, 2) := by decide +kernel
theorem dX12_laysLists_108 : decode cX12_laysLists 108 = .ok (.aload_n 0, 1) := by decide +kernel
theorem dX12_laysLists_109 : decode cX12_laysLists 109 = .ok (.getfield 229, 3) := by decide +kernel
theorem dX12_laysLists_112 : decode cX12_laysLists 112 = .ok (.if_icmp .ge 26, 3) := by decide +kernel
theorem dX12_laysLists_115 : decode cX12_laysLists 115 = .ok (.aload_n 0, 1) := by decide +kernel
theorem dX12_laysLists_116 : decode cX12_laysLists 116 = .ok (.getfield 31, 3) := by decide +kernel
theorem dX12_laysLists_119 : decode cX12_laysLists 119 = .ok (.iload_n 2, 1) := by decide +kernel
theorem dX12_laysLists_120 : decode cX12_laysLists 120 = .ok (.iload_n 3, 1) := by decide +kernel
theorem dX12_laysLists_121 : decode cX12_laysLists 121 = .ok (.aload_n 0, 1) := by decide +kernel
theorem dX12_laysLists_122 : decode cX12_laysLists 122 = .ok (.getfield 34, 3) := by decide +kernel
theorem dX12_laysLists_125 : decode cX12_laysLists 125 = .ok (.iload 5, 2) := by decide +kernel
theorem dX12_laysLists_127 : decode cX12_laysLists 127 = .ok (.laload, 1) := by decide +kernel
theorem dX12_laysLists_128 : decode cX12_laysLists 128 = .ok (.invokestatic 232, 3) := by decide +kernel
theorem dX12_laysLists_131 : decode cX12_laysLists 131 = .ok (.istore_n 3, 1) := by decide +kernel
theorem dX12_laysLists_132 : decode cX12_laysLists 132 = .ok (.iinc 5 1, 3) := by decide +kernel
theorem dX12_laysLists_135 : decode cX12_laysLists 135 = .ok (.goto (-29), 3) := by decide +kernel
theorem dX12_laysLists_138 : decode cX12_laysLists 138 = .ok (.iinc 4 1, 3) := by decide +kernel
theorem dX12_laysLists_141 : decode cX12_laysLists 141 = .ok (.goto (-67), 3) := by decide +kernel
theorem dX12_laysLists_144 : decode cX12_laysLists 144 = .ok (.aload_n 0, 1) := by decide +kernel
theorem dX12_laysLists_145 : decode cX12_laysLists 145 = .ok (.getfield 37, 3) := by decide +kernel
theorem dX12_laysLists_148 : decode cX12_laysLists 148 = .ok (.iconst 3, 1) := by decide +kernel
theorem dX12_laysLists_149 : decode cX12_laysLists 149 = .ok (.iload_n 1, 1) := by decide +kernel
theorem dX12_laysLists_150 : decode cX12_laysLists 150 = .ok (.iconst 1, 1) := by decide +kernel
theorem dX12_laysLists_151 : decode cX12_laysLists 151 = .ok (.isub, 1) := by decide +kernel
theorem dX12_laysLists_152 : decode cX12_laysLists 152 = .ok (.imul, 1) := by decide +kernel
theorem dX12_laysLists_153 : decode cX12_laysLists 153 = .ok (.iconst 1, 1) := by decide +kernel
theorem dX12_laysLists_154 : decode cX12_laysLists 154 = .ok (.iadd, 1) := by decide +kernel
theorem dX12_laysLists_155 : decode cX12_laysLists 155 = .ok (.iload_n 3, 1) := by decide +kernel
theorem dX12_laysLists_156 : decode cX12_laysLists 156 = .ok (.iastore, 1) := by decide +kernel
theorem dX12_laysLists_157 : decode cX12_laysLists 157 = .ok (.iconst 1, 1) := by decide +kernel
theorem dX12_laysLists_158 : decode cX12_laysLists 158 = .ok (.istore 4, 2) := by decide +kernel
theorem dX12_laysLists_160 : decode cX12_laysLists 160 = .ok (.iload 4, 2) := by decide +kernel
theorem dX12_laysLists_162 : decode cX12_laysLists 162 = .ok (.iconst 3, 1) := by decide +kernel
theorem dX12_laysLists_163 : decode cX12_laysLists 163 = .ok (.if_icmp .ge 103, 3) := by decide +kernel
theorem dX12_laysLists_166 : decode cX12_laysLists 166 = .ok (.iload_n 3, 1) := by decide +kernel
theorem dX12_laysLists_167 : decode cX12_laysLists 167 = .ok (.istore 5, 2) := by decide +kernel
theorem dX12_laysLists_169 : decode cX12_laysLists 169 = .ok (.iload_n 2, 1) := by decide +kernel
theorem dX12_laysLists_170 : decode cX12_laysLists 170 = .ok (.istore 6, 2) := by decide +kernel
theorem dX12_laysLists_172 : decode cX12_laysLists 172 = .ok (.iload 6, 2) := by decide +kernel
theorem dX12_laysLists_174 : decode cX12_laysLists 174 = .ok (.aload_n 0, 1) := by decide +kernel
theorem dX12_laysLists_175 : decode cX12_laysLists 175 = .ok (.getfield 37, 3) := by decide +kernel
theorem dX12_laysLists_178 : decode cX12_laysLists 178 = .ok (.iconst 3, 1) := by decide +kernel
theorem dX12_laysLists_179 : decode cX12_laysLists 179 = .ok (.iload_n 1, 1) := by decide +kernel
theorem dX12_laysLists_180 : decode cX12_laysLists 180 = .ok (.iconst 1, 1) := by decide +kernel
theorem dX12_laysLists_181 : decode cX12_laysLists 181 = .ok (.isub, 1) := by decide +kernel
theorem dX12_laysLists_182 : decode cX12_laysLists 182 = .ok (.imul, 1) := by decide +kernel
theorem dX12_laysLists_183 : decode cX12_laysLists 183 = .ok (.iconst 1, 1) := by decide +kernel
theorem dX12_laysLists_184 : decode cX12_laysLists 184 = .ok (.iadd, 1) := by decide +kernel
theorem dX12_laysLists_185 : decode cX12_laysLists 185 = .ok (.iaload, 1) := by decide +kernel
theorem dX12_laysLists_186 : decode cX12_laysLists 186 = .ok (.if_icmp .ge 55, 3) := by decide +kernel
theorem dX12_laysLists_189 : decode cX12_laysLists 189 = .ok (.aload_n 0, 1) := by decide +kernel
theorem dX12_laysLists_190 : decode cX12_laysLists 190 = .ok (.getfield 31, 3) := by decide +kernel
theorem dX12_laysLists_193 : decode cX12_laysLists 193 = .ok (.iload 6, 2) := by decide +kernel
theorem dX12_laysLists_195 : decode cX12_laysLists 195 = .ok (.laload, 1) := by decide +kernel
theorem dX12_laysLists_196 : decode cX12_laysLists 196 = .ok (.iload 4, 2) := by decide +kernel
theorem dX12_laysLists_198 : decode cX12_laysLists 198 = .ok (.invokestatic 199, 3) := by decide +kernel
theorem dX12_laysLists_201 : decode cX12_laysLists 201 = .ok (.aload_n 0, 1) := by decide +kernel
theorem dX12_laysLists_202 : decode cX12_laysLists 202 = .ok (.getfield 31, 3) := by decide +kernel
theorem dX12_laysLists_205 : decode cX12_laysLists 205 = .ok (.iload 6, 2) := by decide +kernel
theorem dX12_laysLists_207 : decode cX12_laysLists 207 = .ok (.laload, 1) := by decide +kernel
theorem dX12_laysLists_208 : decode cX12_laysLists 208 = .ok (.lcmp, 1) := by decide +kernel
theorem dX12_laysLists_209 : decode cX12_laysLists 209 = .ok (.ifCond .eq 6, 3) := by decide +kernel
theorem dX12_laysLists_212 : decode cX12_laysLists 212 = .ok (.goto 23, 3) := by decide +kernel
theorem dX12_laysLists_215 : decode cX12_laysLists 215 = .ok (.aload_n 0, 1) := by decide +kernel
theorem dX12_laysLists_216 : decode cX12_laysLists 216 = .ok (.getfield 31, 3) := by decide +kernel
theorem dX12_laysLists_219 : decode cX12_laysLists 219 = .ok (.iload 5, 2) := by decide +kernel
theorem dX12_laysLists_221 : decode cX12_laysLists 221 = .ok (.aload_n 0, 1) := by decide +kernel
theorem dX12_laysLists_222 : decode cX12_laysLists 222 = .ok (.getfield 31, 3) := by decide +kernel
theorem dX12_laysLists_225 : decode cX12_laysLists 225 = .ok (.iload 6, 2) := by decide +kernel
theorem dX12_laysLists_227 : decode cX12_laysLists 227 = .ok (.laload, 1) := by decide +kernel
theorem dX12_laysLists_228 : decode cX12_laysLists 228 = .ok (.lastore, 1) := by decide +kernel
theorem dX12_laysLists_229 : decode cX12_laysLists 229 = .ok (.iload 5, 2) := by decide +kernel
theorem dX12_laysLists_231 : decode cX12_laysLists 231 = .ok (.iconst 1, 1) := by decide +kernel
theorem dX12_laysLists_232 : decode cX12_laysLists 232 = .ok (.iadd, 1) := by decide +kernel
theorem dX12_laysLists_233 : decode cX12_laysLists 233 = .ok (.istore 5, 2) := by decide +kernel
theorem dX12_laysLists_235 : decode cX12_laysLists 235 = .ok (.iinc 6 1, 3) := by decide +kernel
theorem dX12_laysLists_238 : decode cX12_laysLists 238 = .ok (.goto (-66), 3) := by decide +kernel
theorem dX12_laysLists_241 : decode cX12_laysLists 241 = .ok (.iload 5, 2) := by decide +kernel
theorem dX12_laysLists_243 : decode cX12_laysLists 243 = .ok (.istore_n 3, 1) := by decide +kernel
theorem dX12_laysLists_244 : decode cX12_laysLists 244 = .ok (.aload_n 0, 1) := by decide +kernel
theorem dX12_laysLists_245 : decode cX12_laysLists 245 = .ok (.getfield 37, 3) := by decide +kernel
theorem dX12_laysLists_248 : decode cX12_laysLists 248 = .ok (.iconst 3, 1) := by decide +kernel
theorem dX12_laysLists_249 : decode cX12_laysLists 249 = .ok (.iload_n 1, 1) := by decide +kernel
theorem dX12_laysLists_250 : decode cX12_laysLists 250 = .ok (.iconst 1, 1) := by decide +kernel
theorem dX12_laysLists_251 : decode cX12_laysLists 251 = .ok (.isub, 1) := by decide +kernel
theorem dX12_laysLists_252 : decode cX12_laysLists 252 = .ok (.imul, 1) := by decide +kernel
theorem dX12_laysLists_253 : decode cX12_laysLists 253 = .ok (.iload 4, 2) := by decide +kernel
theorem dX12_laysLists_255 : decode cX12_laysLists 255 = .ok (.iadd, 1) := by decide +kernel
theorem dX12_laysLists_256 : decode cX12_laysLists 256 = .ok (.iconst 1, 1) := by decide +kernel
theorem dX12_laysLists_257 : decode cX12_laysLists 257 = .ok (.iadd, 1) := by decide +kernel
theorem dX12_laysLists_258 : decode cX12_laysLists 258 = .ok (.iload_n 3, 1) := by decide +kernel
theorem dX12_laysLists_259 : decode cX12_laysLists 259 = .ok (.iastore, 1) := by decide +kernel
theorem dX12_laysLists_260 : decode cX12_laysLists 260 = .ok (.iinc 4 1, 3) := by decide +kernel
theorem dX12_laysLists_263 : decode cX12_laysLists 263 = .ok (.goto (-103), 3) := by decide +kernel
theorem dX12_laysLists_266 : decode cX12_laysLists 266 = .ok (.iinc 1 1, 3) := by decide +kernel
theorem dX12_laysLists_269 : decode cX12_laysLists 269 = .ok (.goto (-226), 3) := by decide +kernel
theorem dX12_laysLists_272 : decode cX12_laysLists 272 = .ok (.return_, 1) := by decide +kernel
theorem dX12_comesIn_0 : decode cX12_comesIn 0 = .ok (.iload_n 1, 1) := by decide +kernel
theorem dX12_comesIn_1 : decode cX12_comesIn 1 = .ok (.istore 5, 2) := by decide +kernel
theorem dX12_comesIn_3 : decode cX12_comesIn 3 = .ok (.iload_n 2, 1) := by decide +kernel
theorem dX12_comesIn_4 : decode cX12_comesIn 4 = .ok (.istore 6, 2) := by decide +kernel
theorem dX12_comesIn_6 : decode cX12_comesIn 6 = .ok (.iload 5, 2) := by decide +kernel
theorem dX12_comesIn_8 : decode cX12_comesIn 8 = .ok (.iload 6, 2) := by decide +kernel
theorem dX12_comesIn_10 : decode cX12_comesIn 10 = .ok (.if_icmp .ge 37, 3) := by decide +kernel
theorem dX12_comesIn_13 : decode cX12_comesIn 13 = .ok (.iload 5, 2) := by decide +kernel
theorem dX12_comesIn_15 : decode cX12_comesIn 15 = .ok (.iload 6, 2) := by decide +kernel
theorem dX12_comesIn_17 : decode cX12_comesIn 17 = .ok (.iadd, 1) := by decide +kernel
theorem dX12_comesIn_18 : decode cX12_comesIn 18 = .ok (.iconst 2, 1) := by decide +kernel
theorem dX12_comesIn_19 : decode cX12_comesIn 19 = .ok (.idiv, 1) := by decide +kernel
theorem dX12_comesIn_20 : decode cX12_comesIn 20 = .ok (.istore 7, 2) := by decide +kernel
theorem dX12_comesIn_22 : decode cX12_comesIn 22 = .ok (.aload_n 0, 1) := by decide +kernel
theorem dX12_comesIn_23 : decode cX12_comesIn 23 = .ok (.iload 7, 2) := by decide +kernel
theorem dX12_comesIn_25 : decode cX12_comesIn 25 = .ok (.laload, 1) := by decide +kernel
theorem dX12_comesIn_26 : decode cX12_comesIn 26 = .ok (.lload_n 3, 1) := by decide +kernel
theorem dX12_comesIn_27 : decode cX12_comesIn 27 = .ok (.lcmp, 1) := by decide +kernel
theorem dX12_comesIn_28 : decode cX12_comesIn 28 = .ok (.ifCond .ge 12, 3) := by decide +kernel
theorem dX12_comesIn_31 : decode cX12_comesIn 31 = .ok (.iload 7, 2) := by decide +kernel
theorem dX12_comesIn_33 : decode cX12_comesIn 33 = .ok (.iconst 1, 1) := by decide +kernel
theorem dX12_comesIn_34 : decode cX12_comesIn 34 = .ok (.iadd, 1) := by decide +kernel
theorem dX12_comesIn_35 : decode cX12_comesIn 35 = .ok (.istore 5, 2) := by decide +kernel
theorem dX12_comesIn_37 : decode cX12_comesIn 37 = .ok (.goto 7, 3) := by decide +kernel
theorem dX12_comesIn_40 : decode cX12_comesIn 40 = .ok (.iload 7, 2) := by decide +kernel
theorem dX12_comesIn_42 : decode cX12_comesIn 42 = .ok (.istore 6, 2) := by decide +kernel
theorem dX12_comesIn_44 : decode cX12_comesIn 44 = .ok (.goto (-38), 3) := by decide +kernel
theorem dX12_comesIn_47 : decode cX12_comesIn 47 = .ok (.iload 5, 2) := by decide +kernel
theorem dX12_comesIn_49 : decode cX12_comesIn 49 = .ok (.iload_n 2, 1) := by decide +kernel
theorem dX12_comesIn_50 : decode cX12_comesIn 50 = .ok (.if_icmp .ge 14, 3) := by decide +kernel
theorem dX12_comesIn_53 : decode cX12_comesIn 53 = .ok (.aload_n 0, 1) := by decide +kernel
theorem dX12_comesIn_54 : decode cX12_comesIn 54 = .ok (.iload 5, 2) := by decide +kernel
theorem dX12_comesIn_56 : decode cX12_comesIn 56 = .ok (.laload, 1) := by decide +kernel
theorem dX12_comesIn_57 : decode cX12_comesIn 57 = .ok (.lload_n 3, 1) := by decide +kernel
theorem dX12_comesIn_58 : decode cX12_comesIn 58 = .ok (.lcmp, 1) := by decide +kernel
theorem dX12_comesIn_59 : decode cX12_comesIn 59 = .ok (.ifCond .ne 5, 3) := by decide +kernel
theorem dX12_comesIn_62 : decode cX12_comesIn 62 = .ok (.iload_n 2, 1) := by decide +kernel
theorem dX12_comesIn_63 : decode cX12_comesIn 63 = .ok (.ireturn, 1) := by decide +kernel
theorem dX12_comesIn_64 : decode cX12_comesIn 64 = .ok (.iload_n 2, 1) := by decide +kernel
theorem dX12_comesIn_65 : decode cX12_comesIn 65 = .ok (.istore 7, 2) := by decide +kernel
theorem dX12_comesIn_67 : decode cX12_comesIn 67 = .ok (.iload 7, 2) := by decide +kernel
theorem dX12_comesIn_69 : decode cX12_comesIn 69 = .ok (.iload 5, 2) := by decide +kernel
theorem dX12_comesIn_71 : decode cX12_comesIn 71 = .ok (.if_icmp .le 19, 3) := by decide +kernel
theorem dX12_comesIn_74 : decode cX12_comesIn 74 = .ok (.aload_n 0, 1) := by decide +kernel
theorem dX12_comesIn_75 : decode cX12_comesIn 75 = .ok (.iload 7, 2) := by decide +kernel
theorem dX12_comesIn_77 : decode cX12_comesIn 77 = .ok (.aload_n 0, 1) := by decide +kernel
theorem dX12_comesIn_78 : decode cX12_comesIn 78 = .ok (.iload 7, 2) := by decide +kernel
theorem dX12_comesIn_80 : decode cX12_comesIn 80 = .ok (.iconst 1, 1) := by decide +kernel
theorem dX12_comesIn_81 : decode cX12_comesIn 81 = .ok (.isub, 1) := by decide +kernel
theorem dX12_comesIn_82 : decode cX12_comesIn 82 = .ok (.laload, 1) := by decide +kernel
theorem dX12_comesIn_83 : decode cX12_comesIn 83 = .ok (.lastore, 1) := by decide +kernel
theorem dX12_comesIn_84 : decode cX12_comesIn 84 = .ok (.iinc 7 (-1), 3) := by decide +kernel
theorem dX12_comesIn_87 : decode cX12_comesIn 87 = .ok (.goto (-20), 3) := by decide +kernel
theorem dX12_comesIn_90 : decode cX12_comesIn 90 = .ok (.aload_n 0, 1) := by decide +kernel
theorem dX12_comesIn_91 : decode cX12_comesIn 91 = .ok (.iload 5, 2) := by decide +kernel
theorem dX12_comesIn_93 : decode cX12_comesIn 93 = .ok (.lload_n 3, 1) := by decide +kernel
theorem dX12_comesIn_94 : decode cX12_comesIn 94 = .ok (.lastore, 1) := by decide +kernel
theorem dX12_comesIn_95 : decode cX12_comesIn 95 = .ok (.iload_n 2, 1) := by decide +kernel
theorem dX12_comesIn_96 : decode cX12_comesIn 96 = .ok (.iconst 1, 1) := by decide +kernel
theorem dX12_comesIn_97 : decode cX12_comesIn 97 = .ok (.iadd, 1) := by decide +kernel
theorem dX12_comesIn_98 : decode cX12_comesIn 98 = .ok (.ireturn, 1) := by decide +kernel
theorem dX12_laysGrown_0 : decode cX12_laysGrown 0 = .ok (.aload_n 0, 1) := by decide +kernel
theorem dX12_laysGrown_1 : decode cX12_laysGrown 1 = .ok (.iconst 0, 1) := by decide +kernel
theorem dX12_laysGrown_2 : decode cX12_laysGrown 2 = .ok (.putfield 229, 3) := by decide +kernel
theorem dX12_laysGrown_5 : decode cX12_laysGrown 5 = .ok (.lload_n 1, 1) := by decide +kernel
theorem dX12_laysGrown_6 : decode cX12_laysGrown 6 = .ok (.invokestatic 106, 3) := by decide +kernel
theorem dX12_laysGrown_9 : decode cX12_laysGrown 9 = .ok (.bipush 12, 2) := by decide +kernel
theorem dX12_laysGrown_11 : decode cX12_laysGrown 11 = .ok (.if_icmp .ne 4, 3) := by decide +kernel
theorem dX12_laysGrown_14 : decode cX12_laysGrown 14 = .ok (.return_, 1) := by decide +kernel
theorem dX12_laysGrown_15 : decode cX12_laysGrown 15 = .ok (.iconst (-1), 1) := by decide +kernel
theorem dX12_laysGrown_16 : decode cX12_laysGrown 16 = .ok (.istore 4, 2) := by decide +kernel
theorem dX12_laysGrown_18 : decode cX12_laysGrown 18 = .ok (.iload 4, 2) := by decide +kernel
theorem dX12_laysGrown_20 : decode cX12_laysGrown 20 = .ok (.bipush 8, 2) := by decide +kernel
theorem dX12_laysGrown_22 : decode cX12_laysGrown 22 = .ok (.if_icmp .ge 75, 3) := by decide +kernel
theorem dX12_laysGrown_25 : decode cX12_laysGrown 25 = .ok (.iconst (-1), 1) := by decide +kernel
theorem dX12_laysGrown_26 : decode cX12_laysGrown 26 = .ok (.istore 5, 2) := by decide +kernel
theorem dX12_laysGrown_28 : decode cX12_laysGrown 28 = .ok (.iload 5, 2) := by decide +kernel
theorem dX12_laysGrown_30 : decode cX12_laysGrown 30 = .ok (.bipush 8, 2) := by decide +kernel
theorem dX12_laysGrown_32 : decode cX12_laysGrown 32 = .ok (.if_icmp .ge 59, 3) := by decide +kernel
theorem dX12_laysGrown_35 : decode cX12_laysGrown 35 = .ok (.lload_n 1, 1) := by decide +kernel
theorem dX12_laysGrown_36 : decode cX12_laysGrown 36 = .ok (.iload 5, 2) := by decide +kernel
theorem dX12_laysGrown_38 : decode cX12_laysGrown 38 = .ok (.iload 4, 2) := by decide +kernel
theorem dX12_laysGrown_40 : decode cX12_laysGrown 40 = .ok (.invokestatic 156, 3) := by decide +kernel
theorem dX12_laysGrown_43 : decode cX12_laysGrown 43 = .ok (.ifCond .eq 42, 3) := by decide +kernel
theorem dX12_laysGrown_46 : decode cX12_laysGrown 46 = .ok (.lload_n 1, 1) := by decide +kernel
theorem dX12_laysGrown_47 : decode cX12_laysGrown 47 = .ok (.iload 5, 2) := by decide +kernel
theorem dX12_laysGrown_49 : decode cX12_laysGrown 49 = .ok (.iload 4, 2) := by decide +kernel
theorem dX12_laysGrown_51 : decode cX12_laysGrown 51 = .ok (.invokestatic 217, 3) := by decide +kernel
theorem dX12_laysGrown_54 : decode cX12_laysGrown 54 = .ok (.ifCond .eq 31, 3) := by decide +kernel
theorem dX12_laysGrown_57 : decode cX12_laysGrown 57 = .ok (.aload_n 0, 1) := by decide +kernel
theorem dX12_laysGrown_58 : decode cX12_laysGrown 58 = .ok (.aload_n 0, 1) := by decide +kernel
theorem dX12_laysGrown_59 : decode cX12_laysGrown 59 = .ok (.getfield 34, 3) := by decide +kernel
theorem dX12_laysGrown_62 : decode cX12_laysGrown 62 = .ok (.iconst 0, 1) := by decide +kernel
theorem dX12_laysGrown_63 : decode cX12_laysGrown 63 = .ok (.aload_n 0, 1) := by decide +kernel
theorem dX12_laysGrown_64 : decode cX12_laysGrown 64 = .ok (.getfield 229, 3) := by decide +kernel
theorem dX12_laysGrown_67 : decode cX12_laysGrown 67 = .ok (.lload_n 1, 1) := by decide +kernel
theorem dX12_laysGrown_68 : decode cX12_laysGrown 68 = .ok (.iload 5, 2) := by decide +kernel
theorem dX12_laysGrown_70 : decode cX12_laysGrown 70 = .ok (.iload 4, 2) := by decide +kernel
theorem dX12_laysGrown_72 : decode cX12_laysGrown 72 = .ok (.invokestatic 221, 3) := by decide +kernel
theorem dX12_laysGrown_75 : decode cX12_laysGrown 75 = .ok (.iload_n 3, 1) := by decide +kernel
theorem dX12_laysGrown_76 : decode cX12_laysGrown 76 = .ok (.invokestatic 199, 3) := by decide +kernel
theorem dX12_laysGrown_79 : decode cX12_laysGrown 79 = .ok (.invokestatic 232, 3) := by decide +kernel
theorem dX12_laysGrown_82 : decode cX12_laysGrown 82 = .ok (.putfield 229, 3) := by decide +kernel
theorem dX12_laysGrown_85 : decode cX12_laysGrown 85 = .ok (.iinc 5 1, 3) := by decide +kernel
theorem dX12_laysGrown_88 : decode cX12_laysGrown 88 = .ok (.goto (-60), 3) := by decide +kernel
theorem dX12_laysGrown_91 : decode cX12_laysGrown 91 = .ok (.iinc 4 1, 3) := by decide +kernel
theorem dX12_laysGrown_94 : decode cX12_laysGrown 94 = .ok (.goto (-76), 3) := by decide +kernel
theorem dX12_laysGrown_97 : decode cX12_laysGrown 97 = .ok (.return_, 1) := by decide +kernel
theorem dX12_laysShrunk_0 : decode cX12_laysShrunk 0 = .ok (.aload_n 0, 1) := by decide +kernel
theorem dX12_laysShrunk_1 : decode cX12_laysShrunk 1 = .ok (.iconst 0, 1) := by decide +kernel
theorem dX12_laysShrunk_2 : decode cX12_laysShrunk 2 = .ok (.putfield 229, 3) := by decide +kernel
theorem dX12_laysShrunk_5 : decode cX12_laysShrunk 5 = .ok (.lload_n 1, 1) := by decide +kernel
theorem dX12_laysShrunk_6 : decode cX12_laysShrunk 6 = .ok (.lstore 4, 2) := by decide +kernel
theorem dX12_laysShrunk_8 : decode cX12_laysShrunk 8 = .ok (.lload 4, 2) := by decide +kernel
theorem dX12_laysShrunk_10 : decode cX12_laysShrunk 10 = .ok (.lconst 0, 1) := by decide +kernel
theorem dX12_laysShrunk_11 : decode cX12_laysShrunk 11 = .ok (.lcmp, 1) := by decide +kernel
theorem dX12_laysShrunk_12 : decode cX12_laysShrunk 12 = .ok (.ifCond .eq 69, 3) := by decide +kernel
theorem dX12_laysShrunk_15 : decode cX12_laysShrunk 15 = .ok (.lload_n 1, 1) := by decide +kernel
theorem dX12_laysShrunk_16 : decode cX12_laysShrunk 16 = .ok (.lload 4, 2) := by decide +kernel
theorem dX12_laysShrunk_18 : decode cX12_laysShrunk 18 = .ok (.lload 4, 2) := by decide +kernel
theorem dX12_laysShrunk_20 : decode cX12_laysShrunk 20 = .ok (.lneg, 1) := by decide +kernel
theorem dX12_laysShrunk_21 : decode cX12_laysShrunk 21 = .ok (.land, 1) := by decide +kernel
theorem dX12_laysShrunk_22 : decode cX12_laysShrunk 22 = .ok (.ldc2_w 98, 3) := by decide +kernel
theorem dX12_laysShrunk_25 : decode cX12_laysShrunk 25 = .ok (.lxor, 1) := by decide +kernel
theorem dX12_laysShrunk_26 : decode cX12_laysShrunk 26 = .ok (.land, 1) := by decide +kernel
theorem dX12_laysShrunk_27 : decode cX12_laysShrunk 27 = .ok (.lstore 6, 2) := by decide +kernel
theorem dX12_laysShrunk_29 : decode cX12_laysShrunk 29 = .ok (.lload 6, 2) := by decide +kernel
theorem dX12_laysShrunk_31 : decode cX12_laysShrunk 31 = .ok (.lconst 0, 1) := by decide +kernel
theorem dX12_laysShrunk_32 : decode cX12_laysShrunk 32 = .ok (.lcmp, 1) := by decide +kernel
theorem dX12_laysShrunk_33 : decode cX12_laysShrunk 33 = .ok (.ifCond .eq 36, 3) := by decide +kernel
theorem dX12_laysShrunk_36 : decode cX12_laysShrunk 36 = .ok (.lload 6, 2) := by decide +kernel
theorem dX12_laysShrunk_38 : decode cX12_laysShrunk 38 = .ok (.invokestatic 110, 3) := by decide +kernel
theorem dX12_laysShrunk_41 : decode cX12_laysShrunk 41 = .ok (.ifCond .eq 28, 3) := by decide +kernel
theorem dX12_laysShrunk_44 : decode cX12_laysShrunk 44 = .ok (.aload_n 0, 1) := by decide +kernel
theorem dX12_laysShrunk_45 : decode cX12_laysShrunk 45 = .ok (.aload_n 0, 1) := by decide +kernel
theorem dX12_laysShrunk_46 : decode cX12_laysShrunk 46 = .ok (.getfield 34, 3) := by decide +kernel
theorem dX12_laysShrunk_49 : decode cX12_laysShrunk 49 = .ok (.iconst 0, 1) := by decide +kernel
theorem dX12_laysShrunk_50 : decode cX12_laysShrunk 50 = .ok (.aload_n 0, 1) := by decide +kernel
theorem dX12_laysShrunk_51 : decode cX12_laysShrunk 51 = .ok (.getfield 229, 3) := by decide +kernel
theorem dX12_laysShrunk_54 : decode cX12_laysShrunk 54 = .ok (.lload 6, 2) := by decide +kernel
theorem dX12_laysShrunk_56 : decode cX12_laysShrunk 56 = .ok (.invokestatic 114, 3) := by decide +kernel
theorem dX12_laysShrunk_59 : decode cX12_laysShrunk 59 = .ok (.iload_n 3, 1) := by decide +kernel
theorem dX12_laysShrunk_60 : decode cX12_laysShrunk 60 = .ok (.invokestatic 199, 3) := by decide +kernel
theorem dX12_laysShrunk_63 : decode cX12_laysShrunk 63 = .ok (.invokestatic 232, 3) := by decide +kernel
theorem dX12_laysShrunk_66 : decode cX12_laysShrunk 66 = .ok (.putfield 229, 3) := by decide +kernel
theorem dX12_laysShrunk_69 : decode cX12_laysShrunk 69 = .ok (.lload 4, 2) := by decide +kernel
theorem dX12_laysShrunk_71 : decode cX12_laysShrunk 71 = .ok (.lload 4, 2) := by decide +kernel
theorem dX12_laysShrunk_73 : decode cX12_laysShrunk 73 = .ok (.lconst 1, 1) := by decide +kernel
theorem dX12_laysShrunk_74 : decode cX12_laysShrunk 74 = .ok (.lsub, 1) := by decide +kernel
theorem dX12_laysShrunk_75 : decode cX12_laysShrunk 75 = .ok (.land, 1) := by decide +kernel
theorem dX12_laysShrunk_76 : decode cX12_laysShrunk 76 = .ok (.lstore 4, 2) := by decide +kernel
theorem dX12_laysShrunk_78 : decode cX12_laysShrunk 78 = .ok (.goto (-70), 3) := by decide +kernel
theorem dX12_laysShrunk_81 : decode cX12_laysShrunk 81 = .ok (.return_, 1) := by decide +kernel
theorem dX12_isList_0 : decode cX12_isList 0 = .ok (.iload_n 1, 1) := by decide +kernel
theorem dX12_isList_1 : decode cX12_isList 1 = .ok (.iconst 1, 1) := by decide +kernel
theorem dX12_isList_2 : decode cX12_isList 2 = .ok (.bipush 7, 2) := by decide +kernel
theorem dX12_isList_4 : decode cX12_isList 4 = .ok (.invokestatic 82, 3) := by decide +kernel
theorem dX12_isList_7 : decode cX12_isList 7 = .ok (.ifCond .eq 14, 3) := by decide +kernel
theorem dX12_isList_10 : decode cX12_isList 10 = .ok (.iload_n 2, 1) := by decide +kernel
theorem dX12_isList_11 : decode cX12_isList 11 = .ok (.invokestatic 194, 3) := by decide +kernel
theorem dX12_isList_14 : decode cX12_isList 14 = .ok (.ifCond .eq 7, 3) := by decide +kernel
theorem dX12_isList_17 : decode cX12_isList 17 = .ok (.iconst 1, 1) := by decide +kernel
theorem dX12_isList_18 : decode cX12_isList 18 = .ok (.goto 4, 3) := by decide +kernel
theorem dX12_isList_21 : decode cX12_isList 21 = .ok (.iconst 0, 1) := by decide +kernel
theorem dX12_isList_22 : decode cX12_isList 22 = .ok (.ireturn, 1) := by decide +kernel
theorem dX12_begin_0 : decode cX12_begin 0 = .ok (.aload_n 0, 1) := by decide +kernel
theorem dX12_begin_1 : decode cX12_begin 1 = .ok (.getfield 37, 3) := by decide +kernel
theorem dX12_begin_4 : decode cX12_begin 4 = .ok (.iconst 3, 1) := by decide +kernel
theorem dX12_begin_5 : decode cX12_begin 5 = .ok (.iload_n 1, 1) := by decide +kernel
theorem dX12_begin_6 : decode cX12_begin 6 = .ok (.iconst 1, 1) := by decide +kernel
theorem dX12_begin_7 : decode cX12_begin 7 = .ok (.isub, 1) := by decide +kernel
theorem dX12_begin_8 : decode cX12_begin 8 = .ok (.imul, 1) := by decide +kernel
theorem dX12_begin_9 : decode cX12_begin 9 = .ok (.iload_n 2, 1) := by decide +kernel
theorem dX12_begin_10 : decode cX12_begin 10 = .ok (.iadd, 1) := by decide +kernel
theorem dX12_begin_11 : decode cX12_begin 11 = .ok (.iaload, 1) := by decide +kernel
theorem dX12_begin_12 : decode cX12_begin 12 = .ok (.ireturn, 1) := by decide +kernel
theorem dX12_end_0 : decode cX12_end 0 = .ok (.aload_n 0, 1) := by decide +kernel
theorem dX12_end_1 : decode cX12_end 1 = .ok (.getfield 37, 3) := by decide +kernel
theorem dX12_end_4 : decode cX12_end 4 = .ok (.iconst 3, 1) := by decide +kernel
theorem dX12_end_5 : decode cX12_end 5 = .ok (.iload_n 1, 1) := by decide +kernel
theorem dX12_end_6 : decode cX12_end 6 = .ok (.iconst 1, 1) := by decide +kernel
theorem dX12_end_7 : decode cX12_end 7 = .ok (.isub, 1) := by decide +kernel
theorem dX12_end_8 : decode cX12_end 8 = .ok (.imul, 1) := by decide +kernel
theorem dX12_end_9 : decode cX12_end 9 = .ok (.iload_n 2, 1) := by decide +kernel
theorem dX12_end_10 : decode cX12_end 10 = .ok (.iadd, 1) := by decide +kernel
theorem dX12_end_11 : decode cX12_end 11 = .ok (.iconst 1, 1) := by decide +kernel
theorem dX12_end_12 : decode cX12_end 12 = .ok (.iadd, 1) := by decide +kernel
theorem dX12_end_13 : decode cX12_end 13 = .ok (.iaload, 1) := by decide +kernel
theorem dX12_end_14 : decode cX12_end 14 = .ok (.ireturn, 1) := by decide +kernel
theorem dX12_list_0 : decode cX12_list 0 = .ok (.aload_n 0, 1) := by decide +kernel
theorem dX12_list_1 : decode cX12_list 1 = .ok (.iload_n 1, 1) := by decide +kernel
theorem dX12_list_2 : decode cX12_list 2 = .ok (.iload_n 2, 1) := by decide +kernel
theorem dX12_list_3 : decode cX12_list 3 = .ok (.invokevirtual 236, 3) := by decide +kernel
theorem dX12_list_6 : decode cX12_list 6 = .ok (.ifCond .eq 19, 3) := by decide +kernel
theorem dX12_list_9 : decode cX12_list 9 = .ok (.aload_n 0, 1) := by decide +kernel
theorem dX12_list_10 : decode cX12_list 10 = .ok (.iload_n 1, 1) := by decide +kernel
theorem dX12_list_11 : decode cX12_list 11 = .ok (.iload_n 2, 1) := by decide +kernel
theorem dX12_list_12 : decode cX12_list 12 = .ok (.invokevirtual 240, 3) := by decide +kernel
theorem dX12_list_15 : decode cX12_list 15 = .ok (.aload_n 0, 1) := by decide +kernel
theorem dX12_list_16 : decode cX12_list 16 = .ok (.iload_n 1, 1) := by decide +kernel
theorem dX12_list_17 : decode cX12_list 17 = .ok (.iload_n 2, 1) := by decide +kernel
theorem dX12_list_18 : decode cX12_list 18 = .ok (.invokevirtual 244, 3) := by decide +kernel
theorem dX12_list_21 : decode cX12_list 21 = .ok (.isub, 1) := by decide +kernel
theorem dX12_list_22 : decode cX12_list 22 = .ok (.goto 4, 3) := by decide +kernel
theorem dX12_list_25 : decode cX12_list 25 = .ok (.iconst (-1), 1) := by decide +kernel
theorem dX12_list_26 : decode cX12_list 26 = .ok (.ireturn, 1) := by decide +kernel
theorem dX12_listed_0 : decode cX12_listed 0 = .ok (.aload_n 0, 1) := by decide +kernel
theorem dX12_listed_1 : decode cX12_listed 1 = .ok (.iload_n 1, 1) := by decide +kernel
theorem dX12_listed_2 : decode cX12_listed 2 = .ok (.iload_n 2, 1) := by decide +kernel
theorem dX12_listed_3 : decode cX12_listed 3 = .ok (.invokevirtual 236, 3) := by decide +kernel
theorem dX12_listed_6 : decode cX12_listed 6 = .ok (.ifCond .eq 7, 3) := by decide +kernel
theorem dX12_listed_9 : decode cX12_listed 9 = .ok (.iload_n 3, 1) := by decide +kernel
theorem dX12_listed_10 : decode cX12_listed 10 = .ok (.ifCond .ge 7, 3) := by decide +kernel
theorem dX12_listed_13 : decode cX12_listed 13 = .ok (.ldc2_w 98, 3) := by decide +kernel
theorem dX12_listed_16 : decode cX12_listed 16 = .ok (.lreturn, 1) := by decide +kernel
theorem dX12_listed_17 : decode cX12_listed 17 = .ok (.iload_n 3, 1) := by decide +kernel
theorem dX12_listed_18 : decode cX12_listed 18 = .ok (.aload_n 0, 1) := by decide +kernel
theorem dX12_listed_19 : decode cX12_listed 19 = .ok (.iload_n 1, 1) := by decide +kernel
theorem dX12_listed_20 : decode cX12_listed 20 = .ok (.iload_n 2, 1) := by decide +kernel
theorem dX12_listed_21 : decode cX12_listed 21 = .ok (.invokevirtual 240, 3) := by decide +kernel
theorem dX12_listed_24 : decode cX12_listed 24 = .ok (.aload_n 0, 1) := by decide +kernel
theorem dX12_listed_25 : decode cX12_listed 25 = .ok (.iload_n 1, 1) := by decide +kernel
theorem dX12_listed_26 : decode cX12_listed 26 = .ok (.iload_n 2, 1) := by decide +kernel
theorem dX12_listed_27 : decode cX12_listed 27 = .ok (.invokevirtual 244, 3) := by decide +kernel
theorem dX12_listed_30 : decode cX12_listed 30 = .ok (.isub, 1) := by decide +kernel
theorem dX12_listed_31 : decode cX12_listed 31 = .ok (.if_icmp .ge 19, 3) := by decide +kernel
theorem dX12_listed_34 : decode cX12_listed 34 = .ok (.aload_n 0, 1) := by decide +kernel
theorem dX12_listed_35 : decode cX12_listed 35 = .ok (.getfield 31, 3) := by decide +kernel
theorem dX12_listed_38 : decode cX12_listed 38 = .ok (.aload_n 0, 1) := by decide +kernel
theorem dX12_listed_39 : decode cX12_listed 39 = .ok (.iload_n 1, 1) := by decide +kernel
theorem dX12_listed_40 : decode cX12_listed 40 = .ok (.iload_n 2, 1) := by decide +kernel
theorem dX12_listed_41 : decode cX12_listed 41 = .ok (.invokevirtual 244, 3) := by decide +kernel
theorem dX12_listed_44 : decode cX12_listed 44 = .ok (.iload_n 3, 1) := by decide +kernel
theorem dX12_listed_45 : decode cX12_listed 45 = .ok (.iadd, 1) := by decide +kernel
theorem dX12_listed_46 : decode cX12_listed 46 = .ok (.laload, 1) := by decide +kernel
theorem dX12_listed_47 : decode cX12_listed 47 = .ok (.goto 6, 3) := by decide +kernel
theorem dX12_listed_50 : decode cX12_listed 50 = .ok (.ldc2_w 197, 3) := by decide +kernel
theorem dX12_listed_53 : decode cX12_listed 53 = .ok (.lreturn, 1) := by decide +kernel
theorem dX12_place_0 : decode cX12_place 0 = .ok (.iload_n 1, 1) := by decide +kernel
theorem dX12_place_1 : decode cX12_place 1 = .ok (.invokestatic 135, 3) := by decide +kernel
theorem dX12_place_4 : decode cX12_place 4 = .ok (.ifCond .eq 10, 3) := by decide +kernel
theorem dX12_place_7 : decode cX12_place 7 = .ok (.iload_n 2, 1) := by decide +kernel
theorem dX12_place_8 : decode cX12_place 8 = .ok (.invokestatic 194, 3) := by decide +kernel
theorem dX12_place_11 : decode cX12_place 11 = .ok (.ifCond .ne 5, 3) := by decide +kernel
theorem dX12_place_14 : decode cX12_place 14 = .ok (.iconst (-1), 1) := by decide +kernel
theorem dX12_place_15 : decode cX12_place 15 = .ok (.ireturn, 1) := by decide +kernel
theorem dX12_place_16 : decode cX12_place 16 = .ok (.aload_n 0, 1) := by decide +kernel
theorem dX12_place_17 : decode cX12_place 17 = .ok (.getfield 7, 3) := by decide +kernel
theorem dX12_place_20 : decode cX12_place 20 = .ok (.iload_n 1, 1) := by decide +kernel
theorem dX12_place_21 : decode cX12_place 21 = .ok (.laload, 1) := by decide +kernel
theorem dX12_place_22 : decode cX12_place 22 = .ok (.lconst 0, 1) := by decide +kernel
theorem dX12_place_23 : decode cX12_place 23 = .ok (.lcmp, 1) := by decide +kernel
theorem dX12_place_24 : decode cX12_place 24 = .ok (.ifCond .ne 6, 3) := by decide +kernel
theorem dX12_place_27 : decode cX12_place 27 = .ok (.bipush (-2), 2) := by decide +kernel
theorem dX12_place_29 : decode cX12_place 29 = .ok (.ireturn, 1) := by decide +kernel
theorem dX12_place_30 : decode cX12_place 30 = .ok (.aload_n 0, 1) := by decide +kernel
theorem dX12_place_31 : decode cX12_place 31 = .ok (.getfield 7, 3) := by decide +kernel
theorem dX12_place_34 : decode cX12_place 34 = .ok (.iload_n 1, 1) := by decide +kernel
theorem dX12_place_35 : decode cX12_place 35 = .ok (.laload, 1) := by decide +kernel
theorem dX12_place_36 : decode cX12_place 36 = .ok (.invokestatic 106, 3) := by decide +kernel
theorem dX12_place_39 : decode cX12_place 39 = .ok (.istore_n 3, 1) := by decide +kernel
theorem dX12_place_40 : decode cX12_place 40 = .ok (.iload_n 3, 1) := by decide +kernel
theorem dX12_place_41 : decode cX12_place 41 = .ok (.bipush 7, 2) := by decide +kernel
theorem dX12_place_43 : decode cX12_place 43 = .ok (.if_icmp .le 6, 3) := by decide +kernel
theorem dX12_place_46 : decode cX12_place 46 = .ok (.bipush (-3), 2) := by decide +kernel
theorem dX12_place_48 : decode cX12_place 48 = .ok (.ireturn, 1) := by decide +kernel
theorem dX12_place_49 : decode cX12_place 49 = .ok (.aload_n 0, 1) := by decide +kernel
theorem dX12_place_50 : decode cX12_place 50 = .ok (.getfield 7, 3) := by decide +kernel
theorem dX12_place_53 : decode cX12_place 53 = .ok (.iload_n 1, 1) := by decide +kernel
theorem dX12_place_54 : decode cX12_place 54 = .ok (.laload, 1) := by decide +kernel
theorem dX12_place_55 : decode cX12_place 55 = .ok (.iload_n 2, 1) := by decide +kernel
theorem dX12_place_56 : decode cX12_place 56 = .ok (.invokestatic 199, 3) := by decide +kernel
theorem dX12_place_59 : decode cX12_place 59 = .ok (.lstore 4, 2) := by decide +kernel
theorem dX12_place_61 : decode cX12_place 61 = .ok (.aload_n 0, 1) := by decide +kernel
theorem dX12_place_62 : decode cX12_place 62 = .ok (.iload_n 3, 1) := by decide +kernel
theorem dX12_place_63 : decode cX12_place 63 = .ok (.iload_n 2, 1) := by decide +kernel
theorem dX12_place_64 : decode cX12_place 64 = .ok (.invokevirtual 244, 3) := by decide +kernel
theorem dX12_place_67 : decode cX12_place 67 = .ok (.istore 6, 2) := by decide +kernel
theorem dX12_place_69 : decode cX12_place 69 = .ok (.aload_n 0, 1) := by decide +kernel
theorem dX12_place_70 : decode cX12_place 70 = .ok (.getfield 31, 3) := by decide +kernel
theorem dX12_place_73 : decode cX12_place 73 = .ok (.iload 6, 2) := by decide +kernel
theorem dX12_place_75 : decode cX12_place 75 = .ok (.laload, 1) := by decide +kernel
theorem dX12_place_76 : decode cX12_place 76 = .ok (.lload 4, 2) := by decide +kernel
theorem dX12_place_78 : decode cX12_place 78 = .ok (.lcmp, 1) := by decide +kernel
theorem dX12_place_79 : decode cX12_place 79 = .ok (.ifCond .eq 12, 3) := by decide +kernel
theorem dX12_place_82 : decode cX12_place 82 = .ok (.iload 6, 2) := by decide +kernel
theorem dX12_place_84 : decode cX12_place 84 = .ok (.iconst 1, 1) := by decide +kernel
theorem dX12_place_85 : decode cX12_place 85 = .ok (.iadd, 1) := by decide +kernel
theorem dX12_place_86 : decode cX12_place 86 = .ok (.istore 6, 2) := by decide +kernel
theorem dX12_place_88 : decode cX12_place 88 = .ok (.goto (-19), 3) := by decide +kernel
theorem dX12_place_91 : decode cX12_place 91 = .ok (.iload 6, 2) := by decide +kernel
theorem dX12_place_93 : decode cX12_place 93 = .ok (.aload_n 0, 1) := by decide +kernel
theorem dX12_place_94 : decode cX12_place 94 = .ok (.iload_n 3, 1) := by decide +kernel
theorem dX12_place_95 : decode cX12_place 95 = .ok (.iload_n 2, 1) := by decide +kernel
theorem dX12_place_96 : decode cX12_place 96 = .ok (.invokevirtual 244, 3) := by decide +kernel
theorem dX12_place_99 : decode cX12_place 99 = .ok (.isub, 1) := by decide +kernel
theorem dX12_place_100 : decode cX12_place 100 = .ok (.ireturn, 1) := by decide +kernel
theorem dX12_lookedFor_0 : decode cX12_lookedFor 0 = .ok (.iconst 0, 1) := by decide +kernel
theorem dX12_lookedFor_1 : decode cX12_lookedFor 1 = .ok (.istore 7, 2) := by decide +kernel
theorem dX12_lookedFor_3 : decode cX12_lookedFor 3 = .ok (.aload_n 0, 1) := by decide +kernel
theorem dX12_lookedFor_4 : decode cX12_lookedFor 4 = .ok (.iload_n 1, 1) := by decide +kernel
theorem dX12_lookedFor_5 : decode cX12_lookedFor 5 = .ok (.iload_n 2, 1) := by decide +kernel
theorem dX12_lookedFor_6 : decode cX12_lookedFor 6 = .ok (.invokevirtual 244, 3) := by decide +kernel
theorem dX12_lookedFor_9 : decode cX12_lookedFor 9 = .ok (.istore 8, 2) := by decide +kernel
theorem dX12_lookedFor_11 : decode cX12_lookedFor 11 = .ok (.iload 8, 2) := by decide +kernel
theorem dX12_lookedFor_13 : decode cX12_lookedFor 13 = .ok (.aload_n 0, 1) := by decide +kernel
theorem dX12_lookedFor_14 : decode cX12_lookedFor 14 = .ok (.iload_n 1, 1) := by decide +kernel
theorem dX12_lookedFor_15 : decode cX12_lookedFor 15 = .ok (.iload_n 2, 1) := by decide +kernel
theorem dX12_lookedFor_16 : decode cX12_lookedFor 16 = .ok (.invokevirtual 240, 3) := by decide +kernel
theorem dX12_lookedFor_19 : decode cX12_lookedFor 19 = .ok (.if_icmp .ge 55, 3) := by decide +kernel
theorem dX12_lookedFor_22 : decode cX12_lookedFor 22 = .ok (.aload_n 0, 1) := by decide +kernel
theorem dX12_lookedFor_23 : decode cX12_lookedFor 23 = .ok (.aload_n 0, 1) := by decide +kernel
theorem dX12_lookedFor_24 : decode cX12_lookedFor 24 = .ok (.getfield 31, 3) := by decide +kernel
theorem dX12_lookedFor_27 : decode cX12_lookedFor 27 = .ok (.iload 8, 2) := by decide +kernel
theorem dX12_lookedFor_29 : decode cX12_lookedFor 29 = .ok (.laload, 1) := by decide +kernel
theorem dX12_lookedFor_30 : decode cX12_lookedFor 30 = .ok (.iload_n 3, 1) := by decide +kernel
theorem dX12_lookedFor_31 : decode cX12_lookedFor 31 = .ok (.invokevirtual 191, 3) := by decide +kernel
theorem dX12_lookedFor_34 : decode cX12_lookedFor 34 = .ok (.iload 4, 2) := by decide +kernel
theorem dX12_lookedFor_36 : decode cX12_lookedFor 36 = .ok (.iload 5, 2) := by decide +kernel
theorem dX12_lookedFor_38 : decode cX12_lookedFor 38 = .ok (.invokestatic 82, 3) := by decide +kernel
theorem dX12_lookedFor_41 : decode cX12_lookedFor 41 = .ok (.ifCond .ne 6, 3) := by decide +kernel
theorem dX12_lookedFor_44 : decode cX12_lookedFor 44 = .ok (.goto 24, 3) := by decide +kernel
theorem dX12_lookedFor_47 : decode cX12_lookedFor 47 = .ok (.iload 7, 2) := by decide +kernel
theorem dX12_lookedFor_49 : decode cX12_lookedFor 49 = .ok (.iload 6, 2) := by decide +kernel
theorem dX12_lookedFor_51 : decode cX12_lookedFor 51 = .ok (.if_icmp .ne 11, 3) := by decide +kernel
theorem dX12_lookedFor_54 : decode cX12_lookedFor 54 = .ok (.aload_n 0, 1) := by decide +kernel
theorem dX12_lookedFor_55 : decode cX12_lookedFor 55 = .ok (.getfield 31, 3) := by decide +kernel
theorem dX12_lookedFor_58 : decode cX12_lookedFor 58 = .ok (.iload 8, 2) := by decide +kernel
theorem dX12_lookedFor_60 : decode cX12_lookedFor 60 = .ok (.laload, 1) := by decide +kernel
theorem dX12_lookedFor_61 : decode cX12_lookedFor 61 = .ok (.lreturn, 1) := by decide +kernel
theorem dX12_lookedFor_62 : decode cX12_lookedFor 62 = .ok (.iload 7, 2) := by decide +kernel
theorem dX12_lookedFor_64 : decode cX12_lookedFor 64 = .ok (.iconst 1, 1) := by decide +kernel
theorem dX12_lookedFor_65 : decode cX12_lookedFor 65 = .ok (.iadd, 1) := by decide +kernel
theorem dX12_lookedFor_66 : decode cX12_lookedFor 66 = .ok (.istore 7, 2) := by decide +kernel
theorem dX12_lookedFor_68 : decode cX12_lookedFor 68 = .ok (.iinc 8 1, 3) := by decide +kernel
theorem dX12_lookedFor_71 : decode cX12_lookedFor 71 = .ok (.goto (-60), 3) := by decide +kernel
theorem dX12_lookedFor_74 : decode cX12_lookedFor 74 = .ok (.iload 6, 2) := by decide +kernel
theorem dX12_lookedFor_76 : decode cX12_lookedFor 76 = .ok (.ifCond .ge 9, 3) := by decide +kernel
theorem dX12_lookedFor_79 : decode cX12_lookedFor 79 = .ok (.iload 7, 2) := by decide +kernel
theorem dX12_lookedFor_81 : decode cX12_lookedFor 81 = .ok (.i2l, 1) := by decide +kernel
theorem dX12_lookedFor_82 : decode cX12_lookedFor 82 = .ok (.goto 6, 3) := by decide +kernel
theorem dX12_lookedFor_85 : decode cX12_lookedFor 85 = .ok (.ldc2_w 197, 3) := by decide +kernel
theorem dX12_lookedFor_88 : decode cX12_lookedFor 88 = .ok (.lreturn, 1) := by decide +kernel
theorem dX12_many_0 : decode cX12_many 0 = .ok (.aload_n 0, 1) := by decide +kernel
theorem dX12_many_1 : decode cX12_many 1 = .ok (.iload_n 1, 1) := by decide +kernel
theorem dX12_many_2 : decode cX12_many 2 = .ok (.iload_n 2, 1) := by decide +kernel
theorem dX12_many_3 : decode cX12_many 3 = .ok (.invokevirtual 236, 3) := by decide +kernel
theorem dX12_many_6 : decode cX12_many 6 = .ok (.ifCond .eq 20, 3) := by decide +kernel
theorem dX12_many_9 : decode cX12_many 9 = .ok (.iload_n 3, 1) := by decide +kernel
theorem dX12_many_10 : decode cX12_many 10 = .ok (.iconst 0, 1) := by decide +kernel
theorem dX12_many_11 : decode cX12_many 11 = .ok (.bipush 14, 2) := by decide +kernel
theorem dX12_many_13 : decode cX12_many 13 = .ok (.invokestatic 82, 3) := by decide +kernel
theorem dX12_many_16 : decode cX12_many 16 = .ok (.ifCond .eq 10, 3) := by decide +kernel
theorem dX12_many_19 : decode cX12_many 19 = .ok (.iload 5, 2) := by decide +kernel
theorem dX12_many_21 : decode cX12_many 21 = .ok (.iload 4, 2) := by decide +kernel
theorem dX12_many_23 : decode cX12_many 23 = .ok (.if_icmp .ge 5, 3) := by decide +kernel
theorem dX12_many_26 : decode cX12_many 26 = .ok (.iconst (-1), 1) := by decide +kernel
theorem dX12_many_27 : decode cX12_many 27 = .ok (.ireturn, 1) := by decide +kernel
theorem dX12_many_28 : decode cX12_many 28 = .ok (.aload_n 0, 1) := by decide +kernel
theorem dX12_many_29 : decode cX12_many 29 = .ok (.iload_n 1, 1) := by decide +kernel
theorem dX12_many_30 : decode cX12_many 30 = .ok (.iload_n 2, 1) := by decide +kernel
theorem dX12_many_31 : decode cX12_many 31 = .ok (.iload_n 3, 1) := by decide +kernel
theorem dX12_many_32 : decode cX12_many 32 = .ok (.iload 4, 2) := by decide +kernel
theorem dX12_many_34 : decode cX12_many 34 = .ok (.iload 5, 2) := by decide +kernel
theorem dX12_many_36 : decode cX12_many 36 = .ok (.iconst (-1), 1) := by decide +kernel
theorem dX12_many_37 : decode cX12_many 37 = .ok (.invokevirtual 247, 3) := by decide +kernel
theorem dX12_many_40 : decode cX12_many 40 = .ok (.l2i, 1) := by decide +kernel
theorem dX12_many_41 : decode cX12_many 41 = .ok (.ireturn, 1) := by decide +kernel
theorem dX12_found_0 : decode cX12_found 0 = .ok (.aload_n 0, 1) := by decide +kernel
theorem dX12_found_1 : decode cX12_found 1 = .ok (.iload_n 1, 1) := by decide +kernel
theorem dX12_found_2 : decode cX12_found 2 = .ok (.iload_n 2, 1) := by decide +kernel
theorem dX12_found_3 : decode cX12_found 3 = .ok (.invokevirtual 236, 3) := by decide +kernel
theorem dX12_found_6 : decode cX12_found 6 = .ok (.ifCond .eq 25, 3) := by decide +kernel
theorem dX12_found_9 : decode cX12_found 9 = .ok (.iload_n 3, 1) := by decide +kernel
theorem dX12_found_10 : decode cX12_found 10 = .ok (.iconst 0, 1) := by decide +kernel
theorem dX12_found_11 : decode cX12_found 11 = .ok (.bipush 14, 2) := by decide +kernel
theorem dX12_found_13 : decode cX12_found 13 = .ok (.invokestatic 82, 3) := by decide +kernel
theorem dX12_found_16 : decode cX12_found 16 = .ok (.ifCond .eq 15, 3) := by decide +kernel
theorem dX12_found_19 : decode cX12_found 19 = .ok (.iload 5, 2) := by decide +kernel
theorem dX12_found_21 : decode cX12_found 21 = .ok (.iload 4, 2) := by decide +kernel
theorem dX12_found_23 : decode cX12_found 23 = .ok (.if_icmp .lt 8, 3) := by decide +kernel
theorem dX12_found_26 : decode cX12_found 26 = .ok (.iload 6, 2) := by decide +kernel
theorem dX12_found_28 : decode cX12_found 28 = .ok (.ifCond .ge 7, 3) := by decide +kernel
theorem dX12_found_31 : decode cX12_found 31 = .ok (.ldc2_w 98, 3) := by decide +kernel
theorem dX12_found_34 : decode cX12_found 34 = .ok (.lreturn, 1) := by decide +kernel
theorem dX12_found_35 : decode cX12_found 35 = .ok (.aload_n 0, 1) := by decide +kernel
theorem dX12_found_36 : decode cX12_found 36 = .ok (.iload_n 1, 1) := by decide +kernel
theorem dX12_found_37 : decode cX12_found 37 = .ok (.iload_n 2, 1) := by decide +kernel
theorem dX12_found_38 : decode cX12_found 38 = .ok (.iload_n 3, 1) := by decide +kernel
theorem dX12_found_39 : decode cX12_found 39 = .ok (.iload 4, 2) := by decide +kernel
theorem dX12_found_41 : decode cX12_found 41 = .ok (.iload 5, 2) := by decide +kernel
theorem dX12_found_43 : decode cX12_found 43 = .ok (.iload 6, 2) := by decide +kernel
theorem dX12_found_45 : decode cX12_found 45 = .ok (.invokevirtual 247, 3) := by decide +kernel
theorem dX12_found_48 : decode cX12_found 48 = .ok (.lreturn, 1) := by decide +kernel
theorem dX12_crowd_0 : decode cX12_crowd 0 = .ok (.aload_n 0, 1) := by decide +kernel
theorem dX12_crowd_1 : decode cX12_crowd 1 = .ok (.iload_n 1, 1) := by decide +kernel
theorem dX12_crowd_2 : decode cX12_crowd 2 = .ok (.iload_n 2, 1) := by decide +kernel
theorem dX12_crowd_3 : decode cX12_crowd 3 = .ok (.invokevirtual 236, 3) := by decide +kernel
theorem dX12_crowd_6 : decode cX12_crowd 6 = .ok (.ifCond .eq 13, 3) := by decide +kernel
theorem dX12_crowd_9 : decode cX12_crowd 9 = .ok (.iload_n 3, 1) := by decide +kernel
theorem dX12_crowd_10 : decode cX12_crowd 10 = .ok (.iconst 0, 1) := by decide +kernel
theorem dX12_crowd_11 : decode cX12_crowd 11 = .ok (.bipush 14, 2) := by decide +kernel
theorem dX12_crowd_13 : decode cX12_crowd 13 = .ok (.invokestatic 82, 3) := by decide +kernel
theorem dX12_crowd_16 : decode cX12_crowd 16 = .ok (.ifCond .ne 5, 3) := by decide +kernel
theorem dX12_crowd_19 : decode cX12_crowd 19 = .ok (.iconst (-1), 1) := by decide +kernel
theorem dX12_crowd_20 : decode cX12_crowd 20 = .ok (.ireturn, 1) := by decide +kernel
theorem dX12_crowd_21 : decode cX12_crowd 21 = .ok (.iconst 0, 1) := by decide +kernel
theorem dX12_crowd_22 : decode cX12_crowd 22 = .ok (.istore 5, 2) := by decide +kernel
theorem dX12_crowd_24 : decode cX12_crowd 24 = .ok (.iload 5, 2) := by decide +kernel
theorem dX12_crowd_26 : decode cX12_crowd 26 = .ok (.bipush 60, 2) := by decide +kernel
theorem dX12_crowd_28 : decode cX12_crowd 28 = .ok (.if_icmp .ge 17, 3) := by decide +kernel
theorem dX12_crowd_31 : decode cX12_crowd 31 = .ok (.aload_n 0, 1) := by decide +kernel
theorem dX12_crowd_32 : decode cX12_crowd 32 = .ok (.getfield 40, 3) := by decide +kernel
theorem dX12_crowd_35 : decode cX12_crowd 35 = .ok (.iload 5, 2) := by decide +kernel
theorem dX12_crowd_37 : decode cX12_crowd 37 = .ok (.iconst 0, 1) := by decide +kernel
theorem dX12_crowd_38 : decode cX12_crowd 38 = .ok (.iastore, 1) := by decide +kernel
theorem dX12_crowd_39 : decode cX12_crowd 39 = .ok (.iinc 5 1, 3) := by decide +kernel
theorem dX12_crowd_42 : decode cX12_crowd 42 = .ok (.goto (-18), 3) := by decide +kernel
theorem dX12_crowd_45 : decode cX12_crowd 45 = .ok (.aload_n 0, 1) := by decide +kernel
theorem dX12_crowd_46 : decode cX12_crowd 46 = .ok (.iload_n 1, 1) := by decide +kernel
theorem dX12_crowd_47 : decode cX12_crowd 47 = .ok (.iload_n 2, 1) := by decide +kernel
theorem dX12_crowd_48 : decode cX12_crowd 48 = .ok (.invokevirtual 244, 3) := by decide +kernel
theorem dX12_crowd_51 : decode cX12_crowd 51 = .ok (.istore 5, 2) := by decide +kernel
theorem dX12_crowd_53 : decode cX12_crowd 53 = .ok (.iload 5, 2) := by decide +kernel
theorem dX12_crowd_55 : decode cX12_crowd 55 = .ok (.aload_n 0, 1) := by decide +kernel
theorem dX12_crowd_56 : decode cX12_crowd 56 = .ok (.iload_n 1, 1) := by decide +kernel
theorem dX12_crowd_57 : decode cX12_crowd 57 = .ok (.iload_n 2, 1) := by decide +kernel
theorem dX12_crowd_58 : decode cX12_crowd 58 = .ok (.invokevirtual 240, 3) := by decide +kernel
theorem dX12_crowd_61 : decode cX12_crowd 61 = .ok (.if_icmp .ge 39, 3) := by decide +kernel
theorem dX12_crowd_64 : decode cX12_crowd 64 = .ok (.aload_n 0, 1) := by decide +kernel
theorem dX12_crowd_65 : decode cX12_crowd 65 = .ok (.aload_n 0, 1) := by decide +kernel
theorem dX12_crowd_66 : decode cX12_crowd 66 = .ok (.getfield 31, 3) := by decide +kernel
theorem dX12_crowd_69 : decode cX12_crowd 69 = .ok (.iload 5, 2) := by decide +kernel
theorem dX12_crowd_71 : decode cX12_crowd 71 = .ok (.laload, 1) := by decide +kernel
theorem dX12_crowd_72 : decode cX12_crowd 72 = .ok (.iload_n 3, 1) := by decide +kernel
theorem dX12_crowd_73 : decode cX12_crowd 73 = .ok (.invokevirtual 191, 3) := by decide +kernel
theorem dX12_crowd_76 : decode cX12_crowd 76 = .ok (.istore 6, 2) := by decide +kernel
theorem dX12_crowd_78 : decode cX12_crowd 78 = .ok (.aload_n 0, 1) := by decide +kernel
theorem dX12_crowd_79 : decode cX12_crowd 79 = .ok (.getfield 40, 3) := by decide +kernel
theorem dX12_crowd_82 : decode cX12_crowd 82 = .ok (.iload 6, 2) := by decide +kernel
theorem dX12_crowd_84 : decode cX12_crowd 84 = .ok (.aload_n 0, 1) := by decide +kernel
theorem dX12_crowd_85 : decode cX12_crowd 85 = .ok (.getfield 40, 3) := by decide +kernel
theorem dX12_crowd_88 : decode cX12_crowd 88 = .ok (.iload 6, 2) := by decide +kernel
theorem dX12_crowd_90 : decode cX12_crowd 90 = .ok (.iaload, 1) := by decide +kernel
theorem dX12_crowd_91 : decode cX12_crowd 91 = .ok (.iconst 1, 1) := by decide +kernel
theorem dX12_crowd_92 : decode cX12_crowd 92 = .ok (.iadd, 1) := by decide +kernel
theorem dX12_crowd_93 : decode cX12_crowd 93 = .ok (.iastore, 1) := by decide +kernel
theorem dX12_crowd_94 : decode cX12_crowd 94 = .ok (.iinc 5 1, 3) := by decide +kernel
theorem dX12_crowd_97 : decode cX12_crowd 97 = .ok (.goto (-44), 3) := by decide +kernel
theorem dX12_crowd_100 : decode cX12_crowd 100 = .ok (.iconst 0, 1) := by decide +kernel
theorem dX12_crowd_101 : decode cX12_crowd 101 = .ok (.istore 5, 2) := by decide +kernel
theorem dX12_crowd_103 : decode cX12_crowd 103 = .ok (.iconst 0, 1) := by decide +kernel
theorem dX12_crowd_104 : decode cX12_crowd 104 = .ok (.istore 6, 2) := by decide +kernel
theorem dX12_crowd_106 : decode cX12_crowd 106 = .ok (.iconst 0, 1) := by decide +kernel
theorem dX12_crowd_107 : decode cX12_crowd 107 = .ok (.istore 7, 2) := by decide +kernel
theorem dX12_crowd_109 : decode cX12_crowd 109 = .ok (.iload 7, 2) := by decide +kernel
theorem dX12_crowd_111 : decode cX12_crowd 111 = .ok (.bipush 60, 2) := by decide +kernel
theorem dX12_crowd_113 : decode cX12_crowd 113 = .ok (.if_icmp .ge 55, 3) := by decide +kernel
theorem dX12_crowd_116 : decode cX12_crowd 116 = .ok (.aload_n 0, 1) := by decide +kernel
theorem dX12_crowd_117 : decode cX12_crowd 117 = .ok (.getfield 40, 3) := by decide +kernel
theorem dX12_crowd_120 : decode cX12_crowd 120 = .ok (.iload 7, 2) := by decide +kernel
theorem dX12_crowd_122 : decode cX12_crowd 122 = .ok (.iaload, 1) := by decide +kernel
theorem dX12_crowd_123 : decode cX12_crowd 123 = .ok (.iload 5, 2) := by decide +kernel
theorem dX12_crowd_125 : decode cX12_crowd 125 = .ok (.if_icmp .le 13, 3) := by decide +kernel
theorem dX12_crowd_128 : decode cX12_crowd 128 = .ok (.aload_n 0, 1) := by decide +kernel
theorem dX12_crowd_129 : decode cX12_crowd 129 = .ok (.getfield 40, 3) := by decide +kernel
theorem dX12_crowd_132 : decode cX12_crowd 132 = .ok (.iload 7, 2) := by decide +kernel
theorem dX12_crowd_134 : decode cX12_crowd 134 = .ok (.iaload, 1) := by decide +kernel
theorem dX12_crowd_135 : decode cX12_crowd 135 = .ok (.goto 5, 3) := by decide +kernel
theorem dX12_crowd_138 : decode cX12_crowd 138 = .ok (.iload 5, 2) := by decide +kernel
theorem dX12_crowd_140 : decode cX12_crowd 140 = .ok (.istore 5, 2) := by decide +kernel
theorem dX12_crowd_142 : decode cX12_crowd 142 = .ok (.iload 6, 2) := by decide +kernel
theorem dX12_crowd_144 : decode cX12_crowd 144 = .ok (.aload_n 0, 1) := by decide +kernel
theorem dX12_crowd_145 : decode cX12_crowd 145 = .ok (.getfield 40, 3) := by decide +kernel
theorem dX12_crowd_148 : decode cX12_crowd 148 = .ok (.iload 7, 2) := by decide +kernel
theorem dX12_crowd_150 : decode cX12_crowd 150 = .ok (.iaload, 1) := by decide +kernel
theorem dX12_crowd_151 : decode cX12_crowd 151 = .ok (.ifCond .le 7, 3) := by decide +kernel
theorem dX12_crowd_154 : decode cX12_crowd 154 = .ok (.iconst 1, 1) := by decide +kernel
theorem dX12_crowd_155 : decode cX12_crowd 155 = .ok (.goto 4, 3) := by decide +kernel
theorem dX12_crowd_158 : decode cX12_crowd 158 = .ok (.iconst 0, 1) := by decide +kernel
theorem dX12_crowd_159 : decode cX12_crowd 159 = .ok (.iadd, 1) := by decide +kernel
theorem dX12_crowd_160 : decode cX12_crowd 160 = .ok (.istore 6, 2) := by decide +kernel
theorem dX12_crowd_162 : decode cX12_crowd 162 = .ok (.iinc 7 1, 3) := by decide +kernel
theorem dX12_crowd_165 : decode cX12_crowd 165 = .ok (.goto (-56), 3) := by decide +kernel
theorem dX12_crowd_168 : decode cX12_crowd 168 = .ok (.iload 4, 2) := by decide +kernel
theorem dX12_crowd_170 : decode cX12_crowd 170 = .ok (.ifCond .eq 8, 3) := by decide +kernel
theorem dX12_crowd_173 : decode cX12_crowd 173 = .ok (.iload 5, 2) := by decide +kernel
theorem dX12_crowd_175 : decode cX12_crowd 175 = .ok (.goto 5, 3) := by decide +kernel
theorem dX12_crowd_178 : decode cX12_crowd 178 = .ok (.iload 6, 2) := by decide +kernel
theorem dX12_crowd_180 : decode cX12_crowd 180 = .ok (.ireturn, 1) := by decide +kernel
theorem dX12_kin_0 : decode cX12_kin 0 = .ok (.iload_n 1, 1) := by decide +kernel
theorem dX12_kin_1 : decode cX12_kin 1 = .ok (.invokestatic 135, 3) := by decide +kernel
theorem dX12_kin_4 : decode cX12_kin 4 = .ok (.ifCond .eq 10, 3) := by decide +kernel
theorem dX12_kin_7 : decode cX12_kin 7 = .ok (.iload_n 2, 1) := by decide +kernel
theorem dX12_kin_8 : decode cX12_kin 8 = .ok (.invokestatic 194, 3) := by decide +kernel
theorem dX12_kin_11 : decode cX12_kin 11 = .ok (.ifCond .ne 5, 3) := by decide +kernel
theorem dX12_kin_14 : decode cX12_kin 14 = .ok (.iconst (-1), 1) := by decide +kernel
theorem dX12_kin_15 : decode cX12_kin 15 = .ok (.ireturn, 1) := by decide +kernel
theorem dX12_kin_16 : decode cX12_kin 16 = .ok (.aload_n 0, 1) := by decide +kernel
theorem dX12_kin_17 : decode cX12_kin 17 = .ok (.getfield 7, 3) := by decide +kernel
theorem dX12_kin_20 : decode cX12_kin 20 = .ok (.iload_n 1, 1) := by decide +kernel
theorem dX12_kin_21 : decode cX12_kin 21 = .ok (.laload, 1) := by decide +kernel
theorem dX12_kin_22 : decode cX12_kin 22 = .ok (.lconst 0, 1) := by decide +kernel
theorem dX12_kin_23 : decode cX12_kin 23 = .ok (.lcmp, 1) := by decide +kernel
theorem dX12_kin_24 : decode cX12_kin 24 = .ok (.ifCond .ne 6, 3) := by decide +kernel
theorem dX12_kin_27 : decode cX12_kin 27 = .ok (.bipush (-2), 2) := by decide +kernel
theorem dX12_kin_29 : decode cX12_kin 29 = .ok (.ireturn, 1) := by decide +kernel
theorem dX12_kin_30 : decode cX12_kin 30 = .ok (.iload_n 3, 1) := by decide +kernel
theorem dX12_kin_31 : decode cX12_kin 31 = .ok (.ifCond .eq 17, 3) := by decide +kernel
theorem dX12_kin_34 : decode cX12_kin 34 = .ok (.aload_n 0, 1) := by decide +kernel
theorem dX12_kin_35 : decode cX12_kin 35 = .ok (.aload_n 0, 1) := by decide +kernel
theorem dX12_kin_36 : decode cX12_kin 36 = .ok (.getfield 7, 3) := by decide +kernel
theorem dX12_kin_39 : decode cX12_kin 39 = .ok (.iload_n 1, 1) := by decide +kernel
theorem dX12_kin_40 : decode cX12_kin 40 = .ok (.laload, 1) := by decide +kernel
theorem dX12_kin_41 : decode cX12_kin 41 = .ok (.iload_n 2, 1) := by decide +kernel
theorem dX12_kin_42 : decode cX12_kin 42 = .ok (.invokevirtual 225, 3) := by decide +kernel
theorem dX12_kin_45 : decode cX12_kin 45 = .ok (.goto 14, 3) := by decide +kernel
theorem dX12_kin_48 : decode cX12_kin 48 = .ok (.aload_n 0, 1) := by decide +kernel
theorem dX12_kin_49 : decode cX12_kin 49 = .ok (.aload_n 0, 1) := by decide +kernel
theorem dX12_kin_50 : decode cX12_kin 50 = .ok (.getfield 7, 3) := by decide +kernel
theorem dX12_kin_53 : decode cX12_kin 53 = .ok (.iload_n 1, 1) := by decide +kernel
theorem dX12_kin_54 : decode cX12_kin 54 = .ok (.laload, 1) := by decide +kernel
theorem dX12_kin_55 : decode cX12_kin 55 = .ok (.iload_n 2, 1) := by decide +kernel
theorem dX12_kin_56 : decode cX12_kin 56 = .ok (.invokevirtual 251, 3) := by decide +kernel
theorem dX12_kin_59 : decode cX12_kin 59 = .ok (.aload_n 0, 1) := by decide +kernel
theorem dX12_kin_60 : decode cX12_kin 60 = .ok (.getfield 229, 3) := by decide +kernel
theorem dX12_kin_63 : decode cX12_kin 63 = .ok (.ireturn, 1) := by decide +kernel
theorem dX12_kinAt_0 : decode cX12_kinAt 0 = .ok (.iload_n 1, 1) := by decide +kernel
theorem dX12_kinAt_1 : decode cX12_kinAt 1 = .ok (.invokestatic 135, 3) := by decide +kernel
theorem dX12_kinAt_4 : decode cX12_kinAt 4 = .ok (.ifCond .eq 15, 3) := by decide +kernel
theorem dX12_kinAt_7 : decode cX12_kinAt 7 = .ok (.iload_n 2, 1) := by decide +kernel
theorem dX12_kinAt_8 : decode cX12_kinAt 8 = .ok (.invokestatic 194, 3) := by decide +kernel
theorem dX12_kinAt_11 : decode cX12_kinAt 11 = .ok (.ifCond .eq 8, 3) := by decide +kernel
theorem dX12_kinAt_14 : decode cX12_kinAt 14 = .ok (.iload 4, 2) := by decide +kernel
theorem dX12_kinAt_16 : decode cX12_kinAt 16 = .ok (.ifCond .ge 7, 3) := by decide +kernel
theorem dX12_kinAt_19 : decode cX12_kinAt 19 = .ok (.ldc2_w 98, 3) := by decide +kernel
theorem dX12_kinAt_22 : decode cX12_kinAt 22 = .ok (.lreturn, 1) := by decide +kernel
theorem dX12_kinAt_23 : decode cX12_kinAt 23 = .ok (.aload_n 0, 1) := by decide +kernel
theorem dX12_kinAt_24 : decode cX12_kinAt 24 = .ok (.getfield 7, 3) := by decide +kernel
theorem dX12_kinAt_27 : decode cX12_kinAt 27 = .ok (.iload_n 1, 1) := by decide +kernel
theorem dX12_kinAt_28 : decode cX12_kinAt 28 = .ok (.laload, 1) := by decide +kernel
theorem dX12_kinAt_29 : decode cX12_kinAt 29 = .ok (.lconst 0, 1) := by decide +kernel
theorem dX12_kinAt_30 : decode cX12_kinAt 30 = .ok (.lcmp, 1) := by decide +kernel
theorem dX12_kinAt_31 : decode cX12_kinAt 31 = .ok (.ifCond .ne 7, 3) := by decide +kernel
theorem dX12_kinAt_34 : decode cX12_kinAt 34 = .ok (.ldc2_w 197, 3) := by decide +kernel
theorem dX12_kinAt_37 : decode cX12_kinAt 37 = .ok (.lreturn, 1) := by decide +kernel
theorem dX12_kinAt_38 : decode cX12_kinAt 38 = .ok (.iload_n 3, 1) := by decide +kernel
theorem dX12_kinAt_39 : decode cX12_kinAt 39 = .ok (.ifCond .eq 17, 3) := by decide +kernel
theorem dX12_kinAt_42 : decode cX12_kinAt 42 = .ok (.aload_n 0, 1) := by decide +kernel
theorem dX12_kinAt_43 : decode cX12_kinAt 43 = .ok (.aload_n 0, 1) := by decide +kernel
theorem dX12_kinAt_44 : decode cX12_kinAt 44 = .ok (.getfield 7, 3) := by decide +kernel
theorem dX12_kinAt_47 : decode cX12_kinAt 47 = .ok (.iload_n 1, 1) := by decide +kernel
theorem dX12_kinAt_48 : decode cX12_kinAt 48 = .ok (.laload, 1) := by decide +kernel
theorem dX12_kinAt_49 : decode cX12_kinAt 49 = .ok (.iload_n 2, 1) := by decide +kernel
theorem dX12_kinAt_50 : decode cX12_kinAt 50 = .ok (.invokevirtual 225, 3) := by decide +kernel
theorem dX12_kinAt_53 : decode cX12_kinAt 53 = .ok (.goto 14, 3) := by decide +kernel
theorem dX12_kinAt_56 : decode cX12_kinAt 56 = .ok (.aload_n 0, 1) := by decide +kernel
theorem dX12_kinAt_57 : decode cX12_kinAt 57 = .ok (.aload_n 0, 1) := by decide +kernel
theorem dX12_kinAt_58 : decode cX12_kinAt 58 = .ok (.getfield 7, 3) := by decide +kernel
theorem dX12_kinAt_61 : decode cX12_kinAt 61 = .ok (.iload_n 1, 1) := by decide +kernel
theorem dX12_kinAt_62 : decode cX12_kinAt 62 = .ok (.laload, 1) := by decide +kernel
theorem dX12_kinAt_63 : decode cX12_kinAt 63 = .ok (.iload_n 2, 1) := by decide +kernel
theorem dX12_kinAt_64 : decode cX12_kinAt 64 = .ok (.invokevirtual 251, 3) := by decide +kernel
theorem dX12_kinAt_67 : decode cX12_kinAt 67 = .ok (.iload 4, 2) := by decide +kernel
theorem dX12_kinAt_69 : decode cX12_kinAt 69 = .ok (.aload_n 0, 1) := by decide +kernel
theorem dX12_kinAt_70 : decode cX12_kinAt 70 = .ok (.getfield 229, 3) := by decide +kernel
theorem dX12_kinAt_73 : decode cX12_kinAt 73 = .ok (.if_icmp .ge 13, 3) := by decide +kernel
theorem dX12_kinAt_76 : decode cX12_kinAt 76 = .ok (.aload_n 0, 1) := by decide +kernel
theorem dX12_kinAt_77 : decode cX12_kinAt 77 = .ok (.getfield 34, 3) := by decide +kernel
theorem dX12_kinAt_80 : decode cX12_kinAt 80 = .ok (.iload 4, 2) := by decide +kernel
theorem dX12_kinAt_82 : decode cX12_kinAt 82 = .ok (.laload, 1) := by decide +kernel
theorem dX12_kinAt_83 : decode cX12_kinAt 83 = .ok (.goto 6, 3) := by decide +kernel
theorem dX12_kinAt_86 : decode cX12_kinAt 86 = .ok (.ldc2_w 254, 3) := by decide +kernel
theorem dX12_kinAt_89 : decode cX12_kinAt 89 = .ok (.lreturn, 1) := by decide +kernel
theorem dX12_reaches_0 : decode cX12_reaches 0 = .ok (.lload_n 1, 1) := by decide +kernel
theorem dX12_reaches_1 : decode cX12_reaches 1 = .ok (.invokestatic 110, 3) := by decide +kernel
theorem dX12_reaches_4 : decode cX12_reaches 4 = .ok (.ifCond .ne 4, 3) := by decide +kernel
theorem dX12_reaches_7 : decode cX12_reaches 7 = .ok (.return_, 1) := by decide +kernel
theorem dX12_reaches_8 : decode cX12_reaches 8 = .ok (.lload_n 1, 1) := by decide +kernel
theorem dX12_reaches_9 : decode cX12_reaches 9 = .ok (.invokestatic 114, 3) := by decide +kernel
theorem dX12_reaches_12 : decode cX12_reaches 12 = .ok (.iconst 2, 1) := by decide +kernel
theorem dX12_reaches_13 : decode cX12_reaches 13 = .ok (.invokestatic 199, 3) := by decide +kernel
theorem dX12_reaches_16 : decode cX12_reaches 16 = .ok (.lstore 5, 2) := by decide +kernel
theorem dX12_reaches_18 : decode cX12_reaches 18 = .ok (.aload_n 0, 1) := by decide +kernel
theorem dX12_reaches_19 : decode cX12_reaches 19 = .ok (.iload_n 3, 1) := by decide +kernel
theorem dX12_reaches_20 : decode cX12_reaches 20 = .ok (.iconst 2, 1) := by decide +kernel
theorem dX12_reaches_21 : decode cX12_reaches 21 = .ok (.invokevirtual 244, 3) := by decide +kernel
theorem dX12_reaches_24 : decode cX12_reaches 24 = .ok (.istore 7, 2) := by decide +kernel
theorem dX12_reaches_26 : decode cX12_reaches 26 = .ok (.aload_n 0, 1) := by decide +kernel
theorem dX12_reaches_27 : decode cX12_reaches 27 = .ok (.getfield 31, 3) := by decide +kernel
theorem dX12_reaches_30 : decode cX12_reaches 30 = .ok (.iload 7, 2) := by decide +kernel
theorem dX12_reaches_32 : decode cX12_reaches 32 = .ok (.laload, 1) := by decide +kernel
theorem dX12_reaches_33 : decode cX12_reaches 33 = .ok (.lload 5, 2) := by decide +kernel
theorem dX12_reaches_35 : decode cX12_reaches 35 = .ok (.lcmp, 1) := by decide +kernel
theorem dX12_reaches_36 : decode cX12_reaches 36 = .ok (.ifCond .eq 12, 3) := by decide +kernel
theorem dX12_reaches_39 : decode cX12_reaches 39 = .ok (.iload 7, 2) := by decide +kernel
theorem dX12_reaches_41 : decode cX12_reaches 41 = .ok (.iconst 1, 1) := by decide +kernel
theorem dX12_reaches_42 : decode cX12_reaches 42 = .ok (.iadd, 1) := by decide +kernel
theorem dX12_reaches_43 : decode cX12_reaches 43 = .ok (.istore 7, 2) := by decide +kernel
theorem dX12_reaches_45 : decode cX12_reaches 45 = .ok (.goto (-19), 3) := by decide +kernel
theorem dX12_reaches_48 : decode cX12_reaches 48 = .ok (.iload 7, 2) := by decide +kernel
theorem dX12_reaches_50 : decode cX12_reaches 50 = .ok (.aload_n 0, 1) := by decide +kernel
theorem dX12_reaches_51 : decode cX12_reaches 51 = .ok (.iload_n 3, 1) := by decide +kernel
theorem dX12_reaches_52 : decode cX12_reaches 52 = .ok (.iconst 2, 1) := by decide +kernel
theorem dX12_reaches_53 : decode cX12_reaches 53 = .ok (.invokevirtual 244, 3) := by decide +kernel
theorem dX12_reaches_56 : decode cX12_reaches 56 = .ok (.isub, 1) := by decide +kernel
theorem dX12_reaches_57 : decode cX12_reaches 57 = .ok (.istore 7, 2) := by decide +kernel
theorem dX12_reaches_59 : decode cX12_reaches 59 = .ok (.aload_n 0, 1) := by decide +kernel
theorem dX12_reaches_60 : decode cX12_reaches 60 = .ok (.getfield 43, 3) := by decide +kernel
theorem dX12_reaches_63 : decode cX12_reaches 63 = .ok (.iload 7, 2) := by decide +kernel
theorem dX12_reaches_65 : decode cX12_reaches 65 = .ok (.iaload, 1) := by decide +kernel
theorem dX12_reaches_66 : decode cX12_reaches 66 = .ok (.iconst (-1), 1) := by decide +kernel
theorem dX12_reaches_67 : decode cX12_reaches 67 = .ok (.if_icmp .eq 4, 3) := by decide +kernel
theorem dX12_reaches_70 : decode cX12_reaches 70 = .ok (.return_, 1) := by decide +kernel
theorem dX12_reaches_71 : decode cX12_reaches 71 = .ok (.aload_n 0, 1) := by decide +kernel
theorem dX12_reaches_72 : decode cX12_reaches 72 = .ok (.getfield 43, 3) := by decide +kernel
theorem dX12_reaches_75 : decode cX12_reaches 75 = .ok (.iload 7, 2) := by decide +kernel
theorem dX12_reaches_77 : decode cX12_reaches 77 = .ok (.iload 4, 2) := by decide +kernel
theorem dX12_reaches_79 : decode cX12_reaches 79 = .ok (.iastore, 1) := by decide +kernel
theorem dX12_reaches_80 : decode cX12_reaches 80 = .ok (.aload_n 0, 1) := by decide +kernel
theorem dX12_reaches_81 : decode cX12_reaches 81 = .ok (.getfield 46, 3) := by decide +kernel
theorem dX12_reaches_84 : decode cX12_reaches 84 = .ok (.aload_n 0, 1) := by decide +kernel
theorem dX12_reaches_85 : decode cX12_reaches 85 = .ok (.getfield 256, 3) := by decide +kernel
theorem dX12_reaches_88 : decode cX12_reaches 88 = .ok (.iload 7, 2) := by decide +kernel
theorem dX12_reaches_90 : decode cX12_reaches 90 = .ok (.iastore, 1) := by decide +kernel
theorem dX12_reaches_91 : decode cX12_reaches 91 = .ok (.aload_n 0, 1) := by decide +kernel
theorem dX12_reaches_92 : decode cX12_reaches 92 = .ok (.aload_n 0, 1) := by decide +kernel
theorem dX12_reaches_93 : decode cX12_reaches 93 = .ok (.getfield 256, 3) := by decide +kernel
theorem dX12_reaches_96 : decode cX12_reaches 96 = .ok (.iconst 1, 1) := by decide +kernel
theorem dX12_reaches_97 : decode cX12_reaches 97 = .ok (.iadd, 1) := by decide +kernel
theorem dX12_reaches_98 : decode cX12_reaches 98 = .ok (.putfield 256, 3) := by decide +kernel
theorem dX12_reaches_101 : decode cX12_reaches 101 = .ok (.return_, 1) := by decide +kernel
theorem dX12_laysSteps_0 : decode cX12_laysSteps 0 = .ok (.lload_n 1, 1) := by decide +kernel
theorem dX12_laysSteps_1 : decode cX12_laysSteps 1 = .ok (.invokestatic 106, 3) := by decide +kernel
theorem dX12_laysSteps_4 : decode cX12_laysSteps 4 = .ok (.istore_n 3, 1) := by decide +kernel
theorem dX12_laysSteps_5 : decode cX12_laysSteps 5 = .ok (.aload_n 0, 1) := by decide +kernel
theorem dX12_laysSteps_6 : decode cX12_laysSteps 6 = .ok (.iload_n 3, 1) := by decide +kernel
theorem dX12_laysSteps_7 : decode cX12_laysSteps 7 = .ok (.iconst 2, 1) := by decide +kernel
theorem dX12_laysSteps_8 : decode cX12_laysSteps 8 = .ok (.invokevirtual 240, 3) := by decide +kernel
theorem dX12_laysSteps_11 : decode cX12_laysSteps 11 = .ok (.aload_n 0, 1) := by decide +kernel
theorem dX12_laysSteps_12 : decode cX12_laysSteps 12 = .ok (.iload_n 3, 1) := by decide +kernel
theorem dX12_laysSteps_13 : decode cX12_laysSteps 13 = .ok (.iconst 2, 1) := by decide +kernel
theorem dX12_laysSteps_14 : decode cX12_laysSteps 14 = .ok (.invokevirtual 244, 3) := by decide +kernel
theorem dX12_laysSteps_17 : decode cX12_laysSteps 17 = .ok (.isub, 1) := by decide +kernel
theorem dX12_laysSteps_18 : decode cX12_laysSteps 18 = .ok (.istore 4, 2) := by decide +kernel
theorem dX12_laysSteps_20 : decode cX12_laysSteps 20 = .ok (.iconst 0, 1) := by decide +kernel
theorem dX12_laysSteps_21 : decode cX12_laysSteps 21 = .ok (.istore 5, 2) := by decide +kernel
theorem dX12_laysSteps_23 : decode cX12_laysSteps 23 = .ok (.iload 5, 2) := by decide +kernel
theorem dX12_laysSteps_25 : decode cX12_laysSteps 25 = .ok (.iload 4, 2) := by decide +kernel
theorem dX12_laysSteps_27 : decode cX12_laysSteps 27 = .ok (.if_icmp .ge 17, 3) := by decide +kernel
theorem dX12_laysSteps_30 : decode cX12_laysSteps 30 = .ok (.aload_n 0, 1) := by decide +kernel
theorem dX12_laysSteps_31 : decode cX12_laysSteps 31 = .ok (.getfield 43, 3) := by decide +kernel
theorem dX12_laysSteps_34 : decode cX12_laysSteps 34 = .ok (.iload 5, 2) := by decide +kernel
theorem dX12_laysSteps_36 : decode cX12_laysSteps 36 = .ok (.iconst (-1), 1) := by decide +kernel
theorem dX12_laysSteps_37 : decode cX12_laysSteps 37 = .ok (.iastore, 1) := by decide +kernel
theorem dX12_laysSteps_38 : decode cX12_laysSteps 38 = .ok (.iinc 5 1, 3) := by decide +kernel
theorem dX12_laysSteps_41 : decode cX12_laysSteps 41 = .ok (.goto (-18), 3) := by decide +kernel
theorem dX12_laysSteps_44 : decode cX12_laysSteps 44 = .ok (.aload_n 0, 1) := by decide +kernel
theorem dX12_laysSteps_45 : decode cX12_laysSteps 45 = .ok (.iconst 0, 1) := by decide +kernel
theorem dX12_laysSteps_46 : decode cX12_laysSteps 46 = .ok (.putfield 256, 3) := by decide +kernel
theorem dX12_laysSteps_49 : decode cX12_laysSteps 49 = .ok (.aload_n 0, 1) := by decide +kernel
theorem dX12_laysSteps_50 : decode cX12_laysSteps 50 = .ok (.lload_n 1, 1) := by decide +kernel
theorem dX12_laysSteps_51 : decode cX12_laysSteps 51 = .ok (.iload_n 3, 1) := by decide +kernel
theorem dX12_laysSteps_52 : decode cX12_laysSteps 52 = .ok (.iconst 0, 1) := by decide +kernel
theorem dX12_laysSteps_53 : decode cX12_laysSteps 53 = .ok (.invokevirtual 259, 3) := by decide +kernel
theorem dX12_laysSteps_56 : decode cX12_laysSteps 56 = .ok (.iconst 0, 1) := by decide +kernel
theorem dX12_laysSteps_57 : decode cX12_laysSteps 57 = .ok (.istore 5, 2) := by decide +kernel
theorem dX12_laysSteps_59 : decode cX12_laysSteps 59 = .ok (.iload 5, 2) := by decide +kernel
theorem dX12_laysSteps_61 : decode cX12_laysSteps 61 = .ok (.aload_n 0, 1) := by decide +kernel
theorem dX12_laysSteps_62 : decode cX12_laysSteps 62 = .ok (.getfield 256, 3) := by decide +kernel
theorem dX12_laysSteps_65 : decode cX12_laysSteps 65 = .ok (.if_icmp .ge 145, 3) := by decide +kernel
theorem dX12_laysSteps_68 : decode cX12_laysSteps 68 = .ok (.iload_n 3, 1) := by decide +kernel
theorem dX12_laysSteps_69 : decode cX12_laysSteps 69 = .ok (.iconst 1, 1) := by decide +kernel
theorem dX12_laysSteps_70 : decode cX12_laysSteps 70 = .ok (.if_icmp .le 140, 3) := by decide +kernel
theorem dX12_laysSteps_73 : decode cX12_laysSteps 73 = .ok (.aload_n 0, 1) := by decide +kernel
theorem dX12_laysSteps_74 : decode cX12_laysSteps 74 = .ok (.getfield 31, 3) := by decide +kernel
theorem dX12_laysSteps_77 : decode cX12_laysSteps 77 = .ok (.aload_n 0, 1) := by decide +kernel
theorem dX12_laysSteps_78 : decode cX12_laysSteps 78 = .ok (.iload_n 3, 1) := by decide +kernel
theorem dX12_laysSteps_79 : decode cX12_laysSteps 79 = .ok (.iconst 2, 1) := by decide +kernel
theorem dX12_laysSteps_80 : decode cX12_laysSteps 80 = .ok (.invokevirtual 244, 3) := by decide +kernel
theorem dX12_laysSteps_83 : decode cX12_laysSteps 83 = .ok (.aload_n 0, 1) := by decide +kernel
theorem dX12_laysSteps_84 : decode cX12_laysSteps 84 = .ok (.getfield 46, 3) := by decide +kernel
theorem dX12_laysSteps_87 : decode cX12_laysSteps 87 = .ok (.iload 5, 2) := by decide +kernel
theorem dX12_laysSteps_89 : decode cX12_laysSteps 89 = .ok (.iaload, 1) := by decide +kernel
theorem dX12_laysSteps_90 : decode cX12_laysSteps 90 = .ok (.iadd, 1) := by decide +kernel
theorem dX12_laysSteps_91 : decode cX12_laysSteps 91 = .ok (.laload, 1) := by decide +kernel
theorem dX12_laysSteps_92 : decode cX12_laysSteps 92 = .ok (.bipush 9, 2) := by decide +kernel
theorem dX12_laysSteps_94 : decode cX12_laysSteps 94 = .ok (.lshl, 1) := by decide +kernel
theorem dX12_laysSteps_95 : decode cX12_laysSteps 95 = .ok (.lstore 6, 2) := by decide +kernel
theorem dX12_laysSteps_97 : decode cX12_laysSteps 97 = .ok (.aload_n 0, 1) := by decide +kernel
theorem dX12_laysSteps_98 : decode cX12_laysSteps 98 = .ok (.getfield 43, 3) := by decide +kernel
theorem dX12_laysSteps_101 : decode cX12_laysSteps 101 = .ok (.aload_n 0, 1) := by decide +kernel
theorem dX12_laysSteps_102 : decode cX12_laysSteps 102 = .ok (.getfield 46, 3) := by decide +kernel
theorem dX12_laysSteps_105 : decode cX12_laysSteps 105 = .ok (.iload 5, 2) := by decide +kernel
theorem dX12_laysSteps_107 : decode cX12_laysSteps 107 = .ok (.iaload, 1) := by decide +kernel
theorem dX12_laysSteps_108 : decode cX12_laysSteps 108 = .ok (.iaload, 1) := by decide +kernel
theorem dX12_laysSteps_109 : decode cX12_laysSteps 109 = .ok (.iconst 1, 1) := by decide +kernel
theorem dX12_laysSteps_110 : decode cX12_laysSteps 110 = .ok (.iadd, 1) := by decide +kernel
theorem dX12_laysSteps_111 : decode cX12_laysSteps 111 = .ok (.istore 8, 2) := by decide +kernel
theorem dX12_laysSteps_113 : decode cX12_laysSteps 113 = .ok (.lload 6, 2) := by decide +kernel
theorem dX12_laysSteps_115 : decode cX12_laysSteps 115 = .ok (.lstore 9, 2) := by decide +kernel
theorem dX12_laysSteps_117 : decode cX12_laysSteps 117 = .ok (.lload 9, 2) := by decide +kernel
theorem dX12_laysSteps_119 : decode cX12_laysSteps 119 = .ok (.lconst 0, 1) := by decide +kernel
theorem dX12_laysSteps_120 : decode cX12_laysSteps 120 = .ok (.lcmp, 1) := by decide +kernel
theorem dX12_laysSteps_121 : decode cX12_laysSteps 121 = .ok (.ifCond .eq 83, 3) := by decide +kernel
theorem dX12_laysSteps_124 : decode cX12_laysSteps 124 = .ok (.lload 9, 2) := by decide +kernel
theorem dX12_laysSteps_126 : decode cX12_laysSteps 126 = .ok (.lload 9, 2) := by decide +kernel
theorem dX12_laysSteps_128 : decode cX12_laysSteps 128 = .ok (.lneg, 1) := by decide +kernel
theorem dX12_laysSteps_129 : decode cX12_laysSteps 129 = .ok (.land, 1) := by decide +kernel
theorem dX12_laysSteps_130 : decode cX12_laysSteps 130 = .ok (.lstore 11, 2) := by decide +kernel
theorem dX12_laysSteps_132 : decode cX12_laysSteps 132 = .ok (.lload 6, 2) := by decide +kernel
theorem dX12_laysSteps_134 : decode cX12_laysSteps 134 = .ok (.lload 11, 2) := by decide +kernel
theorem dX12_laysSteps_136 : decode cX12_laysSteps 136 = .ok (.ldc2_w 98, 3) := by decide +kernel
theorem dX12_laysSteps_139 : decode cX12_laysSteps 139 = .ok (.lxor, 1) := by decide +kernel
theorem dX12_laysSteps_140 : decode cX12_laysSteps 140 = .ok (.land, 1) := by decide +kernel
theorem dX12_laysSteps_141 : decode cX12_laysSteps 141 = .ok (.lstore 13, 2) := by decide +kernel
theorem dX12_laysSteps_143 : decode cX12_laysSteps 143 = .ok (.lload 13, 2) := by decide +kernel
theorem dX12_laysSteps_145 : decode cX12_laysSteps 145 = .ok (.invokestatic 100, 3) := by decide +kernel
theorem dX12_laysSteps_148 : decode cX12_laysSteps 148 = .ok (.lload 11, 2) := by decide +kernel
theorem dX12_laysSteps_150 : decode cX12_laysSteps 150 = .ok (.ldc2_w 98, 3) := by decide +kernel
theorem dX12_laysSteps_153 : decode cX12_laysSteps 153 = .ok (.lxor, 1) := by decide +kernel
theorem dX12_laysSteps_154 : decode cX12_laysSteps 154 = .ok (.land, 1) := by decide +kernel
theorem dX12_laysSteps_155 : decode cX12_laysSteps 155 = .ok (.lstore 15, 2) := by decide +kernel
theorem dX12_laysSteps_157 : decode cX12_laysSteps 157 = .ok (.lload 15, 2) := by decide +kernel
theorem dX12_laysSteps_159 : decode cX12_laysSteps 159 = .ok (.lconst 0, 1) := by decide +kernel
theorem dX12_laysSteps_160 : decode cX12_laysSteps 160 = .ok (.lcmp, 1) := by decide +kernel
theorem dX12_laysSteps_161 : decode cX12_laysSteps 161 = .ok (.ifCond .eq 31, 3) := by decide +kernel
theorem dX12_laysSteps_164 : decode cX12_laysSteps 164 = .ok (.aload_n 0, 1) := by decide +kernel
theorem dX12_laysSteps_165 : decode cX12_laysSteps 165 = .ok (.lload 13, 2) := by decide +kernel
theorem dX12_laysSteps_167 : decode cX12_laysSteps 167 = .ok (.lload 15, 2) := by decide +kernel
theorem dX12_laysSteps_169 : decode cX12_laysSteps 169 = .ok (.lload 15, 2) := by decide +kernel
theorem dX12_laysSteps_171 : decode cX12_laysSteps 171 = .ok (.lneg, 1) := by decide +kernel
theorem dX12_laysSteps_172 : decode cX12_laysSteps 172 = .ok (.land, 1) := by decide +kernel
theorem dX12_laysSteps_173 : decode cX12_laysSteps 173 = .ok (.lor, 1) := by decide +kernel
theorem dX12_laysSteps_174 : decode cX12_laysSteps 174 = .ok (.iload_n 3, 1) := by decide +kernel
theorem dX12_laysSteps_175 : decode cX12_laysSteps 175 = .ok (.iload 8, 2) := by decide +kernel
theorem dX12_laysSteps_177 : decode cX12_laysSteps 177 = .ok (.invokevirtual 259, 3) := by decide +kernel
theorem dX12_laysSteps_180 : decode cX12_laysSteps 180 = .ok (.lload 15, 2) := by decide +kernel
theorem dX12_laysSteps_182 : decode cX12_laysSteps 182 = .ok (.lload 15, 2) := by decide +kernel
theorem dX12_laysSteps_184 : decode cX12_laysSteps 184 = .ok (.lconst 1, 1) := by decide +kernel
theorem dX12_laysSteps_185 : decode cX12_laysSteps 185 = .ok (.lsub, 1) := by decide +kernel
theorem dX12_laysSteps_186 : decode cX12_laysSteps 186 = .ok (.land, 1) := by decide +kernel
theorem dX12_laysSteps_187 : decode cX12_laysSteps 187 = .ok (.lstore 15, 2) := by decide +kernel
theorem dX12_laysSteps_189 : decode cX12_laysSteps 189 = .ok (.goto (-32), 3) := by decide +kernel
theorem dX12_laysSteps_192 : decode cX12_laysSteps 192 = .ok (.lload 9, 2) := by decide +kernel
theorem dX12_laysSteps_194 : decode cX12_laysSteps 194 = .ok (.lload 9, 2) := by decide +kernel
theorem dX12_laysSteps_196 : decode cX12_laysSteps 196 = .ok (.lconst 1, 1) := by decide +kernel
theorem dX12_laysSteps_197 : decode cX12_laysSteps 197 = .ok (.lsub, 1) := by decide +kernel
theorem dX12_laysSteps_198 : decode cX12_laysSteps 198 = .ok (.land, 1) := by decide +kernel
theorem dX12_laysSteps_199 : decode cX12_laysSteps 199 = .ok (.lstore 9, 2) := by decide +kernel
theorem dX12_laysSteps_201 : decode cX12_laysSteps 201 = .ok (.goto (-84), 3) := by decide +kernel
theorem dX12_laysSteps_204 : decode cX12_laysSteps 204 = .ok (.iinc 5 1, 3) := by decide +kernel
theorem dX12_laysSteps_207 : decode cX12_laysSteps 207 = .ok (.goto (-148), 3) := by decide +kernel
theorem dX12_laysSteps_210 : decode cX12_laysSteps 210 = .ok (.return_, 1) := by decide +kernel
theorem dX12_way_0 : decode cX12_way 0 = .ok (.iload_n 1, 1) := by decide +kernel
theorem dX12_way_1 : decode cX12_way 1 = .ok (.invokestatic 135, 3) := by decide +kernel
theorem dX12_way_4 : decode cX12_way 4 = .ok (.ifCond .eq 10, 3) := by decide +kernel
theorem dX12_way_7 : decode cX12_way 7 = .ok (.iload_n 2, 1) := by decide +kernel
theorem dX12_way_8 : decode cX12_way 8 = .ok (.invokestatic 135, 3) := by decide +kernel
theorem dX12_way_11 : decode cX12_way 11 = .ok (.ifCond .ne 5, 3) := by decide +kernel
theorem dX12_way_14 : decode cX12_way 14 = .ok (.iconst (-1), 1) := by decide +kernel
theorem dX12_way_15 : decode cX12_way 15 = .ok (.ireturn, 1) := by decide +kernel
theorem dX12_way_16 : decode cX12_way 16 = .ok (.aload_n 0, 1) := by decide +kernel
theorem dX12_way_17 : decode cX12_way 17 = .ok (.getfield 7, 3) := by decide +kernel
theorem dX12_way_20 : decode cX12_way 20 = .ok (.iload_n 1, 1) := by decide +kernel
theorem dX12_way_21 : decode cX12_way 21 = .ok (.laload, 1) := by decide +kernel
theorem dX12_way_22 : decode cX12_way 22 = .ok (.lconst 0, 1) := by decide +kernel
theorem dX12_way_23 : decode cX12_way 23 = .ok (.lcmp, 1) := by decide +kernel
theorem dX12_way_24 : decode cX12_way 24 = .ok (.ifCond .eq 14, 3) := by decide +kernel
theorem dX12_way_27 : decode cX12_way 27 = .ok (.aload_n 0, 1) := by decide +kernel
theorem dX12_way_28 : decode cX12_way 28 = .ok (.getfield 7, 3) := by decide +kernel
theorem dX12_way_31 : decode cX12_way 31 = .ok (.iload_n 2, 1) := by decide +kernel
theorem dX12_way_32 : decode cX12_way 32 = .ok (.laload, 1) := by decide +kernel
theorem dX12_way_33 : decode cX12_way 33 = .ok (.lconst 0, 1) := by decide +kernel
theorem dX12_way_34 : decode cX12_way 34 = .ok (.lcmp, 1) := by decide +kernel
theorem dX12_way_35 : decode cX12_way 35 = .ok (.ifCond .ne 6, 3) := by decide +kernel
theorem dX12_way_38 : decode cX12_way 38 = .ok (.bipush (-2), 2) := by decide +kernel
theorem dX12_way_40 : decode cX12_way 40 = .ok (.ireturn, 1) := by decide +kernel
theorem dX12_way_41 : decode cX12_way 41 = .ok (.aload_n 0, 1) := by decide +kernel
theorem dX12_way_42 : decode cX12_way 42 = .ok (.getfield 7, 3) := by decide +kernel
theorem dX12_way_45 : decode cX12_way 45 = .ok (.iload_n 1, 1) := by decide +kernel
theorem dX12_way_46 : decode cX12_way 46 = .ok (.laload, 1) := by decide +kernel
theorem dX12_way_47 : decode cX12_way 47 = .ok (.invokestatic 106, 3) := by decide +kernel
theorem dX12_way_50 : decode cX12_way 50 = .ok (.istore_n 3, 1) := by decide +kernel
theorem dX12_way_51 : decode cX12_way 51 = .ok (.iload_n 3, 1) := by decide +kernel
theorem dX12_way_52 : decode cX12_way 52 = .ok (.aload_n 0, 1) := by decide +kernel
theorem dX12_way_53 : decode cX12_way 53 = .ok (.getfield 7, 3) := by decide +kernel
theorem dX12_way_56 : decode cX12_way 56 = .ok (.iload_n 2, 1) := by decide +kernel
theorem dX12_way_57 : decode cX12_way 57 = .ok (.laload, 1) := by decide +kernel
theorem dX12_way_58 : decode cX12_way 58 = .ok (.invokestatic 106, 3) := by decide +kernel
theorem dX12_way_61 : decode cX12_way 61 = .ok (.if_icmp .ne 9, 3) := by decide +kernel
theorem dX12_way_64 : decode cX12_way 64 = .ok (.iload_n 3, 1) := by decide +kernel
theorem dX12_way_65 : decode cX12_way 65 = .ok (.bipush 6, 2) := by decide +kernel
theorem dX12_way_67 : decode cX12_way 67 = .ok (.if_icmp .le 6, 3) := by decide +kernel
theorem dX12_way_70 : decode cX12_way 70 = .ok (.bipush (-3), 2) := by decide +kernel
theorem dX12_way_72 : decode cX12_way 72 = .ok (.ireturn, 1) := by decide +kernel
theorem dX12_way_73 : decode cX12_way 73 = .ok (.aload_n 0, 1) := by decide +kernel
theorem dX12_way_74 : decode cX12_way 74 = .ok (.aload_n 0, 1) := by decide +kernel
theorem dX12_way_75 : decode cX12_way 75 = .ok (.getfield 7, 3) := by decide +kernel
theorem dX12_way_78 : decode cX12_way 78 = .ok (.iload_n 1, 1) := by decide +kernel
theorem dX12_way_79 : decode cX12_way 79 = .ok (.laload, 1) := by decide +kernel
theorem dX12_way_80 : decode cX12_way 80 = .ok (.invokevirtual 263, 3) := by decide +kernel
theorem dX12_way_83 : decode cX12_way 83 = .ok (.aload_n 0, 1) := by decide +kernel
theorem dX12_way_84 : decode cX12_way 84 = .ok (.getfield 43, 3) := by decide +kernel
theorem dX12_way_87 : decode cX12_way 87 = .ok (.aload_n 0, 1) := by decide +kernel
theorem dX12_way_88 : decode cX12_way 88 = .ok (.iload_n 2, 1) := by decide +kernel
theorem dX12_way_89 : decode cX12_way 89 = .ok (.iconst 2, 1) := by decide +kernel
theorem dX12_way_90 : decode cX12_way 90 = .ok (.invokevirtual 267, 3) := by decide +kernel
theorem dX12_way_93 : decode cX12_way 93 = .ok (.iaload, 1) := by decide +kernel
theorem dX12_way_94 : decode cX12_way 94 = .ok (.ireturn, 1) := by decide +kernel
theorem dX12_farthest_0 : decode cX12_farthest 0 = .ok (.iload_n 1, 1) := by decide +kernel
theorem dX12_farthest_1 : decode cX12_farthest 1 = .ok (.invokestatic 135, 3) := by decide +kernel
theorem dX12_farthest_4 : decode cX12_farthest 4 = .ok (.ifCond .ne 5, 3) := by decide +kernel
theorem dX12_farthest_7 : decode cX12_farthest 7 = .ok (.iconst (-1), 1) := by decide +kernel
theorem dX12_farthest_8 : decode cX12_farthest 8 = .ok (.ireturn, 1) := by decide +kernel
theorem dX12_farthest_9 : decode cX12_farthest 9 = .ok (.aload_n 0, 1) := by decide +kernel
theorem dX12_farthest_10 : decode cX12_farthest 10 = .ok (.getfield 7, 3) := by decide +kernel
theorem dX12_farthest_13 : decode cX12_farthest 13 = .ok (.iload_n 1, 1) := by decide +kernel
theorem dX12_farthest_14 : decode cX12_farthest 14 = .ok (.laload, 1) := by decide +kernel
theorem dX12_farthest_15 : decode cX12_farthest 15 = .ok (.lconst 0, 1) := by decide +kernel
theorem dX12_farthest_16 : decode cX12_farthest 16 = .ok (.lcmp, 1) := by decide +kernel
theorem dX12_farthest_17 : decode cX12_farthest 17 = .ok (.ifCond .ne 6, 3) := by decide +kernel
theorem dX12_farthest_20 : decode cX12_farthest 20 = .ok (.bipush (-2), 2) := by decide +kernel
theorem dX12_farthest_22 : decode cX12_farthest 22 = .ok (.ireturn, 1) := by decide +kernel
theorem dX12_farthest_23 : decode cX12_farthest 23 = .ok (.aload_n 0, 1) := by decide +kernel
theorem dX12_farthest_24 : decode cX12_farthest 24 = .ok (.getfield 7, 3) := by decide +kernel
theorem dX12_farthest_27 : decode cX12_farthest 27 = .ok (.iload_n 1, 1) := by decide +kernel
theorem dX12_farthest_28 : decode cX12_farthest 28 = .ok (.laload, 1) := by decide +kernel
theorem dX12_farthest_29 : decode cX12_farthest 29 = .ok (.invokestatic 106, 3) := by decide +kernel
theorem dX12_farthest_32 : decode cX12_farthest 32 = .ok (.istore_n 3, 1) := by decide +kernel
theorem dX12_farthest_33 : decode cX12_farthest 33 = .ok (.iload_n 3, 1) := by decide +kernel
theorem dX12_farthest_34 : decode cX12_farthest 34 = .ok (.bipush 6, 2) := by decide +kernel
theorem dX12_farthest_36 : decode cX12_farthest 36 = .ok (.if_icmp .le 6, 3) := by decide +kernel
theorem dX12_farthest_39 : decode cX12_farthest 39 = .ok (.bipush (-3), 2) := by decide +kernel
theorem dX12_farthest_41 : decode cX12_farthest 41 = .ok (.ireturn, 1) := by decide +kernel
theorem dX12_farthest_42 : decode cX12_farthest 42 = .ok (.aload_n 0, 1) := by decide +kernel
theorem dX12_farthest_43 : decode cX12_farthest 43 = .ok (.aload_n 0, 1) := by decide +kernel
theorem dX12_farthest_44 : decode cX12_farthest 44 = .ok (.getfield 7, 3) := by decide +kernel
theorem dX12_farthest_47 : decode cX12_farthest 47 = .ok (.iload_n 1, 1) := by decide +kernel
theorem dX12_farthest_48 : decode cX12_farthest 48 = .ok (.laload, 1) := by decide +kernel
theorem dX12_farthest_49 : decode cX12_farthest 49 = .ok (.invokevirtual 263, 3) := by decide +kernel
theorem dX12_farthest_52 : decode cX12_farthest 52 = .ok (.iconst 0, 1) := by decide +kernel
theorem dX12_farthest_53 : decode cX12_farthest 53 = .ok (.istore 4, 2) := by decide +kernel
theorem dX12_farthest_55 : decode cX12_farthest 55 = .ok (.iconst 0, 1) := by decide +kernel
theorem dX12_farthest_56 : decode cX12_farthest 56 = .ok (.istore 5, 2) := by decide +kernel
theorem dX12_farthest_58 : decode cX12_farthest 58 = .ok (.iconst 0, 1) := by decide +kernel
theorem dX12_farthest_59 : decode cX12_farthest 59 = .ok (.istore 6, 2) := by decide +kernel
theorem dX12_farthest_61 : decode cX12_farthest 61 = .ok (.iload 6, 2) := by decide +kernel
theorem dX12_farthest_63 : decode cX12_farthest 63 = .ok (.aload_n 0, 1) := by decide +kernel
theorem dX12_farthest_64 : decode cX12_farthest 64 = .ok (.iload_n 3, 1) := by decide +kernel
theorem dX12_farthest_65 : decode cX12_farthest 65 = .ok (.iconst 2, 1) := by decide +kernel
theorem dX12_farthest_66 : decode cX12_farthest 66 = .ok (.invokevirtual 240, 3) := by decide +kernel
theorem dX12_farthest_69 : decode cX12_farthest 69 = .ok (.aload_n 0, 1) := by decide +kernel
theorem dX12_farthest_70 : decode cX12_farthest 70 = .ok (.iload_n 3, 1) := by decide +kernel
theorem dX12_farthest_71 : decode cX12_farthest 71 = .ok (.iconst 2, 1) := by decide +kernel
theorem dX12_farthest_72 : decode cX12_farthest 72 = .ok (.invokevirtual 244, 3) := by decide +kernel
theorem dX12_farthest_75 : decode cX12_farthest 75 = .ok (.isub, 1) := by decide +kernel
theorem dX12_farthest_76 : decode cX12_farthest 76 = .ok (.if_icmp .ge 72, 3) := by decide +kernel
theorem dX12_farthest_79 : decode cX12_farthest 79 = .ok (.aload_n 0, 1) := by decide +kernel
theorem dX12_farthest_80 : decode cX12_farthest 80 = .ok (.getfield 43, 3) := by decide +kernel
theorem dX12_farthest_83 : decode cX12_farthest 83 = .ok (.iload 6, 2) := by decide +kernel
theorem dX12_farthest_85 : decode cX12_farthest 85 = .ok (.iaload, 1) := by decide +kernel
theorem dX12_farthest_86 : decode cX12_farthest 86 = .ok (.iload 4, 2) := by decide +kernel
theorem dX12_farthest_88 : decode cX12_farthest 88 = .ok (.if_icmp .le 6, 3) := by decide +kernel
theorem dX12_farthest_91 : decode cX12_farthest 91 = .ok (.iconst 0, 1) := by decide +kernel
theorem dX12_farthest_92 : decode cX12_farthest 92 = .ok (.istore 5, 2) := by decide +kernel
theorem dX12_farthest_94 : decode cX12_farthest 94 = .ok (.aload_n 0, 1) := by decide +kernel
theorem dX12_farthest_95 : decode cX12_farthest 95 = .ok (.getfield 43, 3) := by decide +kernel
theorem dX12_farthest_98 : decode cX12_farthest 98 = .ok (.iload 6, 2) := by decide +kernel
theorem dX12_farthest_100 : decode cX12_farthest 100 = .ok (.iaload, 1) := by decide +kernel
theorem dX12_farthest_101 : decode cX12_farthest 101 = .ok (.iload 4, 2) := by decide +kernel
theorem dX12_farthest_103 : decode cX12_farthest 103 = .ok (.if_icmp .le 13, 3) := by decide +kernel
theorem dX12_farthest_106 : decode cX12_farthest 106 = .ok (.aload_n 0, 1) := by decide +kernel
theorem dX12_farthest_107 : decode cX12_farthest 107 = .ok (.getfield 43, 3) := by decide +kernel
theorem dX12_farthest_110 : decode cX12_farthest 110 = .ok (.iload 6, 2) := by decide +kernel
theorem dX12_farthest_112 : decode cX12_farthest 112 = .ok (.iaload, 1) := by decide +kernel
theorem dX12_farthest_113 : decode cX12_farthest 113 = .ok (.goto 5, 3) := by decide +kernel
theorem dX12_farthest_116 : decode cX12_farthest 116 = .ok (.iload 4, 2) := by decide +kernel
theorem dX12_farthest_118 : decode cX12_farthest 118 = .ok (.istore 4, 2) := by decide +kernel
theorem dX12_farthest_120 : decode cX12_farthest 120 = .ok (.iload 5, 2) := by decide +kernel
theorem dX12_farthest_122 : decode cX12_farthest 122 = .ok (.aload_n 0, 1) := by decide +kernel
theorem dX12_farthest_123 : decode cX12_farthest 123 = .ok (.getfield 43, 3) := by decide +kernel
theorem dX12_farthest_126 : decode cX12_farthest 126 = .ok (.iload 6, 2) := by decide +kernel
theorem dX12_farthest_128 : decode cX12_farthest 128 = .ok (.iaload, 1) := by decide +kernel
theorem dX12_farthest_129 : decode cX12_farthest 129 = .ok (.iload 4, 2) := by decide +kernel
theorem dX12_farthest_131 : decode cX12_farthest 131 = .ok (.if_icmp .ne 7, 3) := by decide +kernel
theorem dX12_farthest_134 : decode cX12_farthest 134 = .ok (.iconst 1, 1) := by decide +kernel
theorem dX12_farthest_135 : decode cX12_farthest 135 = .ok (.goto 4, 3) := by decide +kernel
theorem dX12_farthest_138 : decode cX12_farthest 138 = .ok (.iconst 0, 1) := by decide +kernel
theorem dX12_farthest_139 : decode cX12_farthest 139 = .ok (.iadd, 1) := by decide +kernel
theorem dX12_farthest_140 : decode cX12_farthest 140 = .ok (.istore 5, 2) := by decide +kernel
theorem dX12_farthest_142 : decode cX12_farthest 142 = .ok (.iinc 6 1, 3) := by decide +kernel
theorem dX12_farthest_145 : decode cX12_farthest 145 = .ok (.goto (-84), 3) := by decide +kernel
theorem dX12_farthest_148 : decode cX12_farthest 148 = .ok (.iload_n 2, 1) := by decide +kernel
theorem dX12_farthest_149 : decode cX12_farthest 149 = .ok (.ifCond .eq 8, 3) := by decide +kernel
theorem dX12_farthest_152 : decode cX12_farthest 152 = .ok (.iload 4, 2) := by decide +kernel
theorem dX12_farthest_154 : decode cX12_farthest 154 = .ok (.goto 5, 3) := by decide +kernel
theorem dX12_farthest_157 : decode cX12_farthest 157 = .ok (.iload 5, 2) := by decide +kernel
theorem dX12_farthest_159 : decode cX12_farthest 159 = .ok (.ireturn, 1) := by decide +kernel
theorem dX12_stepX_0 : decode cX12_stepX 0 = .ok (.iload_n 0, 1) := by decide +kernel
theorem dX12_stepX_1 : decode cX12_stepX 1 = .ok (.ifCond .ne 7, 3) := by decide +kernel
theorem dX12_stepX_4 : decode cX12_stepX 4 = .ok (.iconst 1, 1) := by decide +kernel
theorem dX12_stepX_5 : decode cX12_stepX 5 = .ok (.goto 13, 3) := by decide +kernel
theorem dX12_stepX_8 : decode cX12_stepX 8 = .ok (.iload_n 0, 1) := by decide +kernel
theorem dX12_stepX_9 : decode cX12_stepX 9 = .ok (.iconst 2, 1) := by decide +kernel
theorem dX12_stepX_10 : decode cX12_stepX 10 = .ok (.if_icmp .ne 7, 3) := by decide +kernel
theorem dX12_stepX_13 : decode cX12_stepX 13 = .ok (.iconst (-1), 1) := by decide +kernel
theorem dX12_stepX_14 : decode cX12_stepX 14 = .ok (.goto 4, 3) := by decide +kernel
theorem dX12_stepX_17 : decode cX12_stepX 17 = .ok (.iconst 0, 1) := by decide +kernel
theorem dX12_stepX_18 : decode cX12_stepX 18 = .ok (.ireturn, 1) := by decide +kernel
theorem dX12_stepY_0 : decode cX12_stepY 0 = .ok (.iload_n 0, 1) := by decide +kernel
theorem dX12_stepY_1 : decode cX12_stepY 1 = .ok (.iconst 1, 1) := by decide +kernel
theorem dX12_stepY_2 : decode cX12_stepY 2 = .ok (.if_icmp .ne 7, 3) := by decide +kernel
theorem dX12_stepY_5 : decode cX12_stepY 5 = .ok (.iconst 1, 1) := by decide +kernel
theorem dX12_stepY_6 : decode cX12_stepY 6 = .ok (.goto 13, 3) := by decide +kernel
theorem dX12_stepY_9 : decode cX12_stepY 9 = .ok (.iload_n 0, 1) := by decide +kernel
theorem dX12_stepY_10 : decode cX12_stepY 10 = .ok (.iconst 3, 1) := by decide +kernel
theorem dX12_stepY_11 : decode cX12_stepY 11 = .ok (.if_icmp .ne 7, 3) := by decide +kernel
theorem dX12_stepY_14 : decode cX12_stepY 14 = .ok (.iconst (-1), 1) := by decide +kernel
theorem dX12_stepY_15 : decode cX12_stepY 15 = .ok (.goto 4, 3) := by decide +kernel
theorem dX12_stepY_18 : decode cX12_stepY 18 = .ok (.iconst 0, 1) := by decide +kernel
theorem dX12_stepY_19 : decode cX12_stepY 19 = .ok (.ireturn, 1) := by decide +kernel
theorem dX12_isSide_0 : decode cX12_isSide 0 = .ok (.iload 4, 2) := by decide +kernel
theorem dX12_isSide_2 : decode cX12_isSide 2 = .ok (.tableswitch 108 0 2 #[26, 52, 78], 26) := by decide +kernel
theorem dX12_isSide_28 : decode cX12_isSide 28 = .ok (.lload_n 0, 1) := by decide +kernel
theorem dX12_isSide_29 : decode cX12_isSide 29 = .ok (.iload_n 2, 1) := by decide +kernel
theorem dX12_isSide_30 : decode cX12_isSide 30 = .ok (.iload_n 3, 1) := by decide +kernel
theorem dX12_isSide_31 : decode cX12_isSide 31 = .ok (.invokestatic 142, 3) := by decide +kernel
theorem dX12_isSide_34 : decode cX12_isSide 34 = .ok (.ifCond .eq 18, 3) := by decide +kernel
theorem dX12_isSide_37 : decode cX12_isSide 37 = .ok (.lload_n 0, 1) := by decide +kernel
theorem dX12_isSide_38 : decode cX12_isSide 38 = .ok (.iload_n 2, 1) := by decide +kernel
theorem dX12_isSide_39 : decode cX12_isSide 39 = .ok (.iload_n 3, 1) := by decide +kernel
theorem dX12_isSide_40 : decode cX12_isSide 40 = .ok (.iconst 1, 1) := by decide +kernel
theorem dX12_isSide_41 : decode cX12_isSide 41 = .ok (.isub, 1) := by decide +kernel
theorem dX12_isSide_42 : decode cX12_isSide 42 = .ok (.invokestatic 142, 3) := by decide +kernel
theorem dX12_isSide_45 : decode cX12_isSide 45 = .ok (.ifCond .ne 7, 3) := by decide +kernel
theorem dX12_isSide_48 : decode cX12_isSide 48 = .ok (.iconst 1, 1) := by decide +kernel
theorem dX12_isSide_49 : decode cX12_isSide 49 = .ok (.goto 4, 3) := by decide +kernel
theorem dX12_isSide_52 : decode cX12_isSide 52 = .ok (.iconst 0, 1) := by decide +kernel
theorem dX12_isSide_53 : decode cX12_isSide 53 = .ok (.ireturn, 1) := by decide +kernel
theorem dX12_isSide_54 : decode cX12_isSide 54 = .ok (.lload_n 0, 1) := by decide +kernel
theorem dX12_isSide_55 : decode cX12_isSide 55 = .ok (.iload_n 2, 1) := by decide +kernel
theorem dX12_isSide_56 : decode cX12_isSide 56 = .ok (.iconst 1, 1) := by decide +kernel
theorem dX12_isSide_57 : decode cX12_isSide 57 = .ok (.isub, 1) := by decide +kernel
theorem dX12_isSide_58 : decode cX12_isSide 58 = .ok (.iload_n 3, 1) := by decide +kernel
theorem dX12_isSide_59 : decode cX12_isSide 59 = .ok (.invokestatic 142, 3) := by decide +kernel
theorem dX12_isSide_62 : decode cX12_isSide 62 = .ok (.ifCond .eq 16, 3) := by decide +kernel
theorem dX12_isSide_65 : decode cX12_isSide 65 = .ok (.lload_n 0, 1) := by decide +kernel
theorem dX12_isSide_66 : decode cX12_isSide 66 = .ok (.iload_n 2, 1) := by decide +kernel
theorem dX12_isSide_67 : decode cX12_isSide 67 = .ok (.iload_n 3, 1) := by decide +kernel
theorem dX12_isSide_68 : decode cX12_isSide 68 = .ok (.invokestatic 142, 3) := by decide +kernel
theorem dX12_isSide_71 : decode cX12_isSide 71 = .ok (.ifCond .ne 7, 3) := by decide +kernel
theorem dX12_isSide_74 : decode cX12_isSide 74 = .ok (.iconst 1, 1) := by decide +kernel
theorem dX12_isSide_75 : decode cX12_isSide 75 = .ok (.goto 4, 3) := by decide +kernel
theorem dX12_isSide_78 : decode cX12_isSide 78 = .ok (.iconst 0, 1) := by decide +kernel
theorem dX12_isSide_79 : decode cX12_isSide 79 = .ok (.ireturn, 1) := by decide +kernel
theorem dX12_isSide_80 : decode cX12_isSide 80 = .ok (.lload_n 0, 1) := by decide +kernel
theorem dX12_isSide_81 : decode cX12_isSide 81 = .ok (.iload_n 2, 1) := by decide +kernel
theorem dX12_isSide_82 : decode cX12_isSide 82 = .ok (.iconst 1, 1) := by decide +kernel
theorem dX12_isSide_83 : decode cX12_isSide 83 = .ok (.isub, 1) := by decide +kernel
theorem dX12_isSide_84 : decode cX12_isSide 84 = .ok (.iload_n 3, 1) := by decide +kernel
theorem dX12_isSide_85 : decode cX12_isSide 85 = .ok (.iconst 1, 1) := by decide +kernel
theorem dX12_isSide_86 : decode cX12_isSide 86 = .ok (.isub, 1) := by decide +kernel
theorem dX12_isSide_87 : decode cX12_isSide 87 = .ok (.invokestatic 142, 3) := by decide +kernel
theorem dX12_isSide_90 : decode cX12_isSide 90 = .ok (.ifCond .eq 18, 3) := by decide +kernel
theorem dX12_isSide_93 : decode cX12_isSide 93 = .ok (.lload_n 0, 1) := by decide +kernel
theorem dX12_isSide_94 : decode cX12_isSide 94 = .ok (.iload_n 2, 1) := by decide +kernel
theorem dX12_isSide_95 : decode cX12_isSide 95 = .ok (.iconst 1, 1) := by decide +kernel
theorem dX12_isSide_96 : decode cX12_isSide 96 = .ok (.isub, 1) := by decide +kernel
theorem dX12_isSide_97 : decode cX12_isSide 97 = .ok (.iload_n 3, 1) := by decide +kernel
theorem dX12_isSide_98 : decode cX12_isSide 98 = .ok (.invokestatic 142, 3) := by decide +kernel
theorem dX12_isSide_101 : decode cX12_isSide 101 = .ok (.ifCond .ne 7, 3) := by decide +kernel
theorem dX12_isSide_104 : decode cX12_isSide 104 = .ok (.iconst 1, 1) := by decide +kernel
theorem dX12_isSide_105 : decode cX12_isSide 105 = .ok (.goto 4, 3) := by decide +kernel
theorem dX12_isSide_108 : decode cX12_isSide 108 = .ok (.iconst 0, 1) := by decide +kernel
theorem dX12_isSide_109 : decode cX12_isSide 109 = .ok (.ireturn, 1) := by decide +kernel
theorem dX12_isSide_110 : decode cX12_isSide 110 = .ok (.lload_n 0, 1) := by decide +kernel
theorem dX12_isSide_111 : decode cX12_isSide 111 = .ok (.iload_n 2, 1) := by decide +kernel
theorem dX12_isSide_112 : decode cX12_isSide 112 = .ok (.iload_n 3, 1) := by decide +kernel
theorem dX12_isSide_113 : decode cX12_isSide 113 = .ok (.iconst 1, 1) := by decide +kernel
theorem dX12_isSide_114 : decode cX12_isSide 114 = .ok (.isub, 1) := by decide +kernel
theorem dX12_isSide_115 : decode cX12_isSide 115 = .ok (.invokestatic 142, 3) := by decide +kernel
theorem dX12_isSide_118 : decode cX12_isSide 118 = .ok (.ifCond .eq 20, 3) := by decide +kernel
theorem dX12_isSide_121 : decode cX12_isSide 121 = .ok (.lload_n 0, 1) := by decide +kernel
theorem dX12_isSide_122 : decode cX12_isSide 122 = .ok (.iload_n 2, 1) := by decide +kernel
theorem dX12_isSide_123 : decode cX12_isSide 123 = .ok (.iconst 1, 1) := by decide +kernel
theorem dX12_isSide_124 : decode cX12_isSide 124 = .ok (.isub, 1) := by decide +kernel
theorem dX12_isSide_125 : decode cX12_isSide 125 = .ok (.iload_n 3, 1) := by decide +kernel
theorem dX12_isSide_126 : decode cX12_isSide 126 = .ok (.iconst 1, 1) := by decide +kernel
theorem dX12_isSide_127 : decode cX12_isSide 127 = .ok (.isub, 1) := by decide +kernel
theorem dX12_isSide_128 : decode cX12_isSide 128 = .ok (.invokestatic 142, 3) := by decide +kernel
theorem dX12_isSide_131 : decode cX12_isSide 131 = .ok (.ifCond .ne 7, 3) := by decide +kernel
theorem dX12_isSide_134 : decode cX12_isSide 134 = .ok (.iconst 1, 1) := by decide +kernel
theorem dX12_isSide_135 : decode cX12_isSide 135 = .ok (.goto 4, 3) := by decide +kernel
theorem dX12_isSide_138 : decode cX12_isSide 138 = .ok (.iconst 0, 1) := by decide +kernel
theorem dX12_isSide_139 : decode cX12_isSide 139 = .ok (.ireturn, 1) := by decide +kernel
theorem dX12_hasLine_0 : decode cX12_hasLine 0 = .ok (.aload_n 0, 1) := by decide +kernel
theorem dX12_hasLine_1 : decode cX12_hasLine 1 = .ok (.lload_n 1, 1) := by decide +kernel
theorem dX12_hasLine_2 : decode cX12_hasLine 2 = .ok (.invokevirtual 153, 3) := by decide +kernel
theorem dX12_hasLine_5 : decode cX12_hasLine 5 = .ok (.ifCond .gt 11, 3) := by decide +kernel
theorem dX12_hasLine_8 : decode cX12_hasLine 8 = .ok (.lload_n 1, 1) := by decide +kernel
theorem dX12_hasLine_9 : decode cX12_hasLine 9 = .ok (.iconst 2, 1) := by decide +kernel
theorem dX12_hasLine_10 : decode cX12_hasLine 10 = .ok (.invokestatic 181, 3) := by decide +kernel
theorem dX12_hasLine_13 : decode cX12_hasLine 13 = .ok (.ifCond .le 5, 3) := by decide +kernel
theorem dX12_hasLine_16 : decode cX12_hasLine 16 = .ok (.iconst 0, 1) := by decide +kernel
theorem dX12_hasLine_17 : decode cX12_hasLine 17 = .ok (.ireturn, 1) := by decide +kernel
theorem dX12_hasLine_18 : decode cX12_hasLine 18 = .ok (.lload_n 1, 1) := by decide +kernel
theorem dX12_hasLine_19 : decode cX12_hasLine 19 = .ok (.ldc2_w 90, 3) := by decide +kernel
theorem dX12_hasLine_22 : decode cX12_hasLine 22 = .ok (.land, 1) := by decide +kernel
theorem dX12_hasLine_23 : decode cX12_hasLine 23 = .ok (.invokestatic 270, 3) := by decide +kernel
theorem dX12_hasLine_26 : decode cX12_hasLine 26 = .ok (.istore_n 3, 1) := by decide +kernel
theorem dX12_hasLine_27 : decode cX12_hasLine 27 = .ok (.iconst 0, 1) := by decide +kernel
theorem dX12_hasLine_28 : decode cX12_hasLine 28 = .ok (.istore 4, 2) := by decide +kernel
theorem dX12_hasLine_30 : decode cX12_hasLine 30 = .ok (.aload_n 0, 1) := by decide +kernel
theorem dX12_hasLine_31 : decode cX12_hasLine 31 = .ok (.iconst 0, 1) := by decide +kernel
theorem dX12_hasLine_32 : decode cX12_hasLine 32 = .ok (.putfield 273, 3) := by decide +kernel
theorem dX12_hasLine_35 : decode cX12_hasLine 35 = .ok (.iconst 1, 1) := by decide +kernel
theorem dX12_hasLine_36 : decode cX12_hasLine 36 = .ok (.istore 5, 2) := by decide +kernel
theorem dX12_hasLine_38 : decode cX12_hasLine 38 = .ok (.iload 5, 2) := by decide +kernel
theorem dX12_hasLine_40 : decode cX12_hasLine 40 = .ok (.ifCond .eq 118, 3) := by decide +kernel
theorem dX12_hasLine_43 : decode cX12_hasLine 43 = .ok (.iconst 0, 1) := by decide +kernel
theorem dX12_hasLine_44 : decode cX12_hasLine 44 = .ok (.istore 6, 2) := by decide +kernel
theorem dX12_hasLine_46 : decode cX12_hasLine 46 = .ok (.lload_n 1, 1) := by decide +kernel
theorem dX12_hasLine_47 : decode cX12_hasLine 47 = .ok (.iload_n 3, 1) := by decide +kernel
theorem dX12_hasLine_48 : decode cX12_hasLine 48 = .ok (.iload 4, 2) := by decide +kernel
theorem dX12_hasLine_50 : decode cX12_hasLine 50 = .ok (.iload 6, 2) := by decide +kernel
theorem dX12_hasLine_52 : decode cX12_hasLine 52 = .ok (.invokestatic 276, 3) := by decide +kernel
theorem dX12_hasLine_55 : decode cX12_hasLine 55 = .ok (.ifCond .ne 12, 3) := by decide +kernel
theorem dX12_hasLine_58 : decode cX12_hasLine 58 = .ok (.iload 6, 2) := by decide +kernel
theorem dX12_hasLine_60 : decode cX12_hasLine 60 = .ok (.iconst 1, 1) := by decide +kernel
theorem dX12_hasLine_61 : decode cX12_hasLine 61 = .ok (.iadd, 1) := by decide +kernel
theorem dX12_hasLine_62 : decode cX12_hasLine 62 = .ok (.istore 6, 2) := by decide +kernel
theorem dX12_hasLine_64 : decode cX12_hasLine 64 = .ok (.goto (-18), 3) := by decide +kernel
theorem dX12_hasLine_67 : decode cX12_hasLine 67 = .ok (.aload_n 0, 1) := by decide +kernel
theorem dX12_hasLine_68 : decode cX12_hasLine 68 = .ok (.getfield 49, 3) := by decide +kernel
theorem dX12_hasLine_71 : decode cX12_hasLine 71 = .ok (.aload_n 0, 1) := by decide +kernel
theorem dX12_hasLine_72 : decode cX12_hasLine 72 = .ok (.getfield 273, 3) := by decide +kernel
theorem dX12_hasLine_75 : decode cX12_hasLine 75 = .ok (.iload 6, 2) := by decide +kernel
theorem dX12_hasLine_77 : decode cX12_hasLine 77 = .ok (.iastore, 1) := by decide +kernel
theorem dX12_hasLine_78 : decode cX12_hasLine 78 = .ok (.aload_n 0, 1) := by decide +kernel
theorem dX12_hasLine_79 : decode cX12_hasLine 79 = .ok (.getfield 52, 3) := by decide +kernel
theorem dX12_hasLine_82 : decode cX12_hasLine 82 = .ok (.aload_n 0, 1) := by decide +kernel
theorem dX12_hasLine_83 : decode cX12_hasLine 83 = .ok (.getfield 273, 3) := by decide +kernel
theorem dX12_hasLine_86 : decode cX12_hasLine 86 = .ok (.iload_n 3, 1) := by decide +kernel
theorem dX12_hasLine_87 : decode cX12_hasLine 87 = .ok (.iastore, 1) := by decide +kernel
theorem dX12_hasLine_88 : decode cX12_hasLine 88 = .ok (.aload_n 0, 1) := by decide +kernel
theorem dX12_hasLine_89 : decode cX12_hasLine 89 = .ok (.getfield 55, 3) := by decide +kernel
theorem dX12_hasLine_92 : decode cX12_hasLine 92 = .ok (.aload_n 0, 1) := by decide +kernel
theorem dX12_hasLine_93 : decode cX12_hasLine 93 = .ok (.getfield 273, 3) := by decide +kernel
theorem dX12_hasLine_96 : decode cX12_hasLine 96 = .ok (.iload 4, 2) := by decide +kernel
theorem dX12_hasLine_98 : decode cX12_hasLine 98 = .ok (.iastore, 1) := by decide +kernel
theorem dX12_hasLine_99 : decode cX12_hasLine 99 = .ok (.aload_n 0, 1) := by decide +kernel
theorem dX12_hasLine_100 : decode cX12_hasLine 100 = .ok (.aload_n 0, 1) := by decide +kernel
theorem dX12_hasLine_101 : decode cX12_hasLine 101 = .ok (.getfield 273, 3) := by decide +kernel
theorem dX12_hasLine_104 : decode cX12_hasLine 104 = .ok (.iconst 1, 1) := by decide +kernel
theorem dX12_hasLine_105 : decode cX12_hasLine 105 = .ok (.iadd, 1) := by decide +kernel
theorem dX12_hasLine_106 : decode cX12_hasLine 106 = .ok (.putfield 273, 3) := by decide +kernel
theorem dX12_hasLine_109 : decode cX12_hasLine 109 = .ok (.iload_n 3, 1) := by decide +kernel
theorem dX12_hasLine_110 : decode cX12_hasLine 110 = .ok (.iload 6, 2) := by decide +kernel
theorem dX12_hasLine_112 : decode cX12_hasLine 112 = .ok (.invokestatic 280, 3) := by decide +kernel
theorem dX12_hasLine_115 : decode cX12_hasLine 115 = .ok (.iadd, 1) := by decide +kernel
theorem dX12_hasLine_116 : decode cX12_hasLine 116 = .ok (.istore_n 3, 1) := by decide +kernel
theorem dX12_hasLine_117 : decode cX12_hasLine 117 = .ok (.iload 4, 2) := by decide +kernel
theorem dX12_hasLine_119 : decode cX12_hasLine 119 = .ok (.iload 6, 2) := by decide +kernel
theorem dX12_hasLine_121 : decode cX12_hasLine 121 = .ok (.invokestatic 284, 3) := by decide +kernel
theorem dX12_hasLine_124 : decode cX12_hasLine 124 = .ok (.iadd, 1) := by decide +kernel
theorem dX12_hasLine_125 : decode cX12_hasLine 125 = .ok (.istore 4, 2) := by decide +kernel
theorem dX12_hasLine_127 : decode cX12_hasLine 127 = .ok (.iload_n 3, 1) := by decide +kernel
theorem dX12_hasLine_128 : decode cX12_hasLine 128 = .ok (.aload_n 0, 1) := by decide +kernel
theorem dX12_hasLine_129 : decode cX12_hasLine 129 = .ok (.getfield 52, 3) := by decide +kernel
theorem dX12_hasLine_132 : decode cX12_hasLine 132 = .ok (.iconst 0, 1) := by decide +kernel
theorem dX12_hasLine_133 : decode cX12_hasLine 133 = .ok (.iaload, 1) := by decide +kernel
theorem dX12_hasLine_134 : decode cX12_hasLine 134 = .ok (.if_icmp .ne 14, 3) := by decide +kernel
theorem dX12_hasLine_137 : decode cX12_hasLine 137 = .ok (.iload 4, 2) := by decide +kernel
theorem dX12_hasLine_139 : decode cX12_hasLine 139 = .ok (.aload_n 0, 1) := by decide +kernel
theorem dX12_hasLine_140 : decode cX12_hasLine 140 = .ok (.getfield 55, 3) := by decide +kernel
theorem dX12_hasLine_143 : decode cX12_hasLine 143 = .ok (.iconst 0, 1) := by decide +kernel
theorem dX12_hasLine_144 : decode cX12_hasLine 144 = .ok (.iaload, 1) := by decide +kernel
theorem dX12_hasLine_145 : decode cX12_hasLine 145 = .ok (.if_icmp .eq 7, 3) := by decide +kernel
theorem dX12_hasLine_148 : decode cX12_hasLine 148 = .ok (.iconst 1, 1) := by decide +kernel
theorem dX12_hasLine_149 : decode cX12_hasLine 149 = .ok (.goto 4, 3) := by decide +kernel
theorem dX12_hasLine_152 : decode cX12_hasLine 152 = .ok (.iconst 0, 1) := by decide +kernel
theorem dX12_hasLine_153 : decode cX12_hasLine 153 = .ok (.istore 5, 2) := by decide +kernel
theorem dX12_hasLine_155 : decode cX12_hasLine 155 = .ok (.goto (-117), 3) := by decide +kernel
theorem dX12_hasLine_158 : decode cX12_hasLine 158 = .ok (.iconst 1, 1) := by decide +kernel
theorem dX12_hasLine_159 : decode cX12_hasLine 159 = .ok (.ireturn, 1) := by decide +kernel
theorem dX12_letterAt_0 : decode cX12_letterAt 0 = .ok (.aload_n 0, 1) := by decide +kernel
theorem dX12_letterAt_1 : decode cX12_letterAt 1 = .ok (.getfield 49, 3) := by decide +kernel
theorem dX12_letterAt_4 : decode cX12_letterAt 4 = .ok (.iload_n 1, 1) := by decide +kernel
theorem dX12_letterAt_5 : decode cX12_letterAt 5 = .ok (.aload_n 0, 1) := by decide +kernel
theorem dX12_letterAt_6 : decode cX12_letterAt 6 = .ok (.getfield 273, 3) := by decide +kernel
theorem dX12_letterAt_9 : decode cX12_letterAt 9 = .ok (.irem, 1) := by decide +kernel
theorem dX12_letterAt_10 : decode cX12_letterAt 10 = .ok (.iaload, 1) := by decide +kernel
theorem dX12_letterAt_11 : decode cX12_letterAt 11 = .ok (.ireturn, 1) := by decide +kernel
theorem dX12_comesAgain_0 : decode cX12_comesAgain 0 = .ok (.iconst 0, 1) := by decide +kernel
theorem dX12_comesAgain_1 : decode cX12_comesAgain 1 = .ok (.istore 4, 2) := by decide +kernel
theorem dX12_comesAgain_3 : decode cX12_comesAgain 3 = .ok (.iload 4, 2) := by decide +kernel
theorem dX12_comesAgain_5 : decode cX12_comesAgain 5 = .ok (.iload_n 3, 1) := by decide +kernel
theorem dX12_comesAgain_6 : decode cX12_comesAgain 6 = .ok (.if_icmp .ge 38, 3) := by decide +kernel
theorem dX12_comesAgain_9 : decode cX12_comesAgain 9 = .ok (.aload_n 0, 1) := by decide +kernel
theorem dX12_comesAgain_10 : decode cX12_comesAgain 10 = .ok (.iload_n 1, 1) := by decide +kernel
theorem dX12_comesAgain_11 : decode cX12_comesAgain 11 = .ok (.iload 4, 2) := by decide +kernel
theorem dX12_comesAgain_13 : decode cX12_comesAgain 13 = .ok (.iadd, 1) := by decide +kernel
theorem dX12_comesAgain_14 : decode cX12_comesAgain 14 = .ok (.invokevirtual 287, 3) := by decide +kernel
theorem dX12_comesAgain_17 : decode cX12_comesAgain 17 = .ok (.aload_n 0, 1) := by decide +kernel
theorem dX12_comesAgain_18 : decode cX12_comesAgain 18 = .ok (.iload_n 2, 1) := by decide +kernel
theorem dX12_comesAgain_19 : decode cX12_comesAgain 19 = .ok (.iload_n 3, 1) := by decide +kernel
theorem dX12_comesAgain_20 : decode cX12_comesAgain 20 = .ok (.iadd, 1) := by decide +kernel
theorem dX12_comesAgain_21 : decode cX12_comesAgain 21 = .ok (.iconst 1, 1) := by decide +kernel
theorem dX12_comesAgain_22 : decode cX12_comesAgain 22 = .ok (.isub, 1) := by decide +kernel
theorem dX12_comesAgain_23 : decode cX12_comesAgain 23 = .ok (.iload 4, 2) := by decide +kernel
theorem dX12_comesAgain_25 : decode cX12_comesAgain 25 = .ok (.isub, 1) := by decide +kernel
theorem dX12_comesAgain_26 : decode cX12_comesAgain 26 = .ok (.invokevirtual 287, 3) := by decide +kernel
theorem dX12_comesAgain_29 : decode cX12_comesAgain 29 = .ok (.iconst 2, 1) := by decide +kernel
theorem dX12_comesAgain_30 : decode cX12_comesAgain 30 = .ok (.iadd, 1) := by decide +kernel
theorem dX12_comesAgain_31 : decode cX12_comesAgain 31 = .ok (.iconst 4, 1) := by decide +kernel
theorem dX12_comesAgain_32 : decode cX12_comesAgain 32 = .ok (.irem, 1) := by decide +kernel
theorem dX12_comesAgain_33 : decode cX12_comesAgain 33 = .ok (.if_icmp .eq 5, 3) := by decide +kernel
theorem dX12_comesAgain_36 : decode cX12_comesAgain 36 = .ok (.iconst 0, 1) := by decide +kernel
theorem dX12_comesAgain_37 : decode cX12_comesAgain 37 = .ok (.ireturn, 1) := by decide +kernel
theorem dX12_comesAgain_38 : decode cX12_comesAgain 38 = .ok (.iinc 4 1, 3) := by decide +kernel
theorem dX12_comesAgain_41 : decode cX12_comesAgain 41 = .ok (.goto (-38), 3) := by decide +kernel
theorem dX12_comesAgain_44 : decode cX12_comesAgain 44 = .ok (.iconst 1, 1) := by decide +kernel
theorem dX12_comesAgain_45 : decode cX12_comesAgain 45 = .ok (.ireturn, 1) := by decide +kernel
theorem dX12_laysCuttings_0 : decode cX12_laysCuttings 0 = .ok (.aload_n 0, 1) := by decide +kernel
theorem dX12_laysCuttings_1 : decode cX12_laysCuttings 1 = .ok (.getfield 273, 3) := by decide +kernel
theorem dX12_laysCuttings_4 : decode cX12_laysCuttings 4 = .ok (.iconst 2, 1) := by decide +kernel
theorem dX12_laysCuttings_5 : decode cX12_laysCuttings 5 = .ok (.idiv, 1) := by decide +kernel
theorem dX12_laysCuttings_6 : decode cX12_laysCuttings 6 = .ok (.istore_n 1, 1) := by decide +kernel
theorem dX12_laysCuttings_7 : decode cX12_laysCuttings 7 = .ok (.aload_n 0, 1) := by decide +kernel
theorem dX12_laysCuttings_8 : decode cX12_laysCuttings 8 = .ok (.iconst 0, 1) := by decide +kernel
theorem dX12_laysCuttings_9 : decode cX12_laysCuttings 9 = .ok (.putfield 290, 3) := by decide +kernel
theorem dX12_laysCuttings_12 : decode cX12_laysCuttings 12 = .ok (.aload_n 0, 1) := by decide +kernel
theorem dX12_laysCuttings_13 : decode cX12_laysCuttings 13 = .ok (.iconst 0, 1) := by decide +kernel
theorem dX12_laysCuttings_14 : decode cX12_laysCuttings 14 = .ok (.putfield 293, 3) := by decide +kernel
theorem dX12_laysCuttings_17 : decode cX12_laysCuttings 17 = .ok (.iconst 0, 1) := by decide +kernel
theorem dX12_laysCuttings_18 : decode cX12_laysCuttings 18 = .ok (.istore_n 2, 1) := by decide +kernel
theorem dX12_laysCuttings_19 : decode cX12_laysCuttings 19 = .ok (.iload_n 2, 1) := by decide +kernel
theorem dX12_laysCuttings_20 : decode cX12_laysCuttings 20 = .ok (.iload_n 1, 1) := by decide +kernel
theorem dX12_laysCuttings_21 : decode cX12_laysCuttings 21 = .ok (.if_icmp .ge 157, 3) := by decide +kernel
theorem dX12_laysCuttings_24 : decode cX12_laysCuttings 24 = .ok (.iconst 1, 1) := by decide +kernel
theorem dX12_laysCuttings_25 : decode cX12_laysCuttings 25 = .ok (.istore_n 3, 1) := by decide +kernel
theorem dX12_laysCuttings_26 : decode cX12_laysCuttings 26 = .ok (.iload_n 3, 1) := by decide +kernel
theorem dX12_laysCuttings_27 : decode cX12_laysCuttings 27 = .ok (.iload_n 1, 1) := by decide +kernel
theorem dX12_laysCuttings_28 : decode cX12_laysCuttings 28 = .ok (.if_icmp .ge 144, 3) := by decide +kernel
theorem dX12_laysCuttings_31 : decode cX12_laysCuttings 31 = .ok (.aload_n 0, 1) := by decide +kernel
theorem dX12_laysCuttings_32 : decode cX12_laysCuttings 32 = .ok (.iload_n 2, 1) := by decide +kernel
theorem dX12_laysCuttings_33 : decode cX12_laysCuttings 33 = .ok (.iload_n 2, 1) := by decide +kernel
theorem dX12_laysCuttings_34 : decode cX12_laysCuttings 34 = .ok (.iload_n 1, 1) := by decide +kernel
theorem dX12_laysCuttings_35 : decode cX12_laysCuttings 35 = .ok (.iadd, 1) := by decide +kernel
theorem dX12_laysCuttings_36 : decode cX12_laysCuttings 36 = .ok (.iload_n 3, 1) := by decide +kernel
theorem dX12_laysCuttings_37 : decode cX12_laysCuttings 37 = .ok (.invokevirtual 296, 3) := by decide +kernel
theorem dX12_laysCuttings_40 : decode cX12_laysCuttings 40 = .ok (.ifCond .ne 6, 3) := by decide +kernel
theorem dX12_laysCuttings_43 : decode cX12_laysCuttings 43 = .ok (.goto 123, 3) := by decide +kernel
theorem dX12_laysCuttings_46 : decode cX12_laysCuttings 46 = .ok (.iconst 1, 1) := by decide +kernel
theorem dX12_laysCuttings_47 : decode cX12_laysCuttings 47 = .ok (.istore 4, 2) := by decide +kernel
theorem dX12_laysCuttings_49 : decode cX12_laysCuttings 49 = .ok (.iload_n 3, 1) := by decide +kernel
theorem dX12_laysCuttings_50 : decode cX12_laysCuttings 50 = .ok (.iload 4, 2) := by decide +kernel
theorem dX12_laysCuttings_52 : decode cX12_laysCuttings 52 = .ok (.iadd, 1) := by decide +kernel
theorem dX12_laysCuttings_53 : decode cX12_laysCuttings 53 = .ok (.iload_n 1, 1) := by decide +kernel
theorem dX12_laysCuttings_54 : decode cX12_laysCuttings 54 = .ok (.if_icmp .gt 112, 3) := by decide +kernel
theorem dX12_laysCuttings_57 : decode cX12_laysCuttings 57 = .ok (.iload_n 1, 1) := by decide +kernel
theorem dX12_laysCuttings_58 : decode cX12_laysCuttings 58 = .ok (.iload_n 3, 1) := by decide +kernel
theorem dX12_laysCuttings_59 : decode cX12_laysCuttings 59 = .ok (.isub, 1) := by decide +kernel
theorem dX12_laysCuttings_60 : decode cX12_laysCuttings 60 = .ok (.iload 4, 2) := by decide +kernel
theorem dX12_laysCuttings_62 : decode cX12_laysCuttings 62 = .ok (.isub, 1) := by decide +kernel
theorem dX12_laysCuttings_63 : decode cX12_laysCuttings 63 = .ok (.istore 5, 2) := by decide +kernel
theorem dX12_laysCuttings_65 : decode cX12_laysCuttings 65 = .ok (.aload_n 0, 1) := by decide +kernel
theorem dX12_laysCuttings_66 : decode cX12_laysCuttings 66 = .ok (.iload_n 2, 1) := by decide +kernel
theorem dX12_laysCuttings_67 : decode cX12_laysCuttings 67 = .ok (.iload_n 3, 1) := by decide +kernel
theorem dX12_laysCuttings_68 : decode cX12_laysCuttings 68 = .ok (.iadd, 1) := by decide +kernel
theorem dX12_laysCuttings_69 : decode cX12_laysCuttings 69 = .ok (.iload_n 2, 1) := by decide +kernel
theorem dX12_laysCuttings_70 : decode cX12_laysCuttings 70 = .ok (.iload_n 1, 1) := by decide +kernel
theorem dX12_laysCuttings_71 : decode cX12_laysCuttings 71 = .ok (.iadd, 1) := by decide +kernel
theorem dX12_laysCuttings_72 : decode cX12_laysCuttings 72 = .ok (.iload_n 3, 1) := by decide +kernel
theorem dX12_laysCuttings_73 : decode cX12_laysCuttings 73 = .ok (.iadd, 1) := by decide +kernel
theorem dX12_laysCuttings_74 : decode cX12_laysCuttings 74 = .ok (.iload 4, 2) := by decide +kernel
theorem dX12_laysCuttings_76 : decode cX12_laysCuttings 76 = .ok (.invokevirtual 296, 3) := by decide +kernel
theorem dX12_laysCuttings_79 : decode cX12_laysCuttings 79 = .ok (.ifCond .eq 81, 3) := by decide +kernel
theorem dX12_laysCuttings_82 : decode cX12_laysCuttings 82 = .ok (.aload_n 0, 1) := by decide +kernel
theorem dX12_laysCuttings_83 : decode cX12_laysCuttings 83 = .ok (.iload_n 2, 1) := by decide +kernel
theorem dX12_laysCuttings_84 : decode cX12_laysCuttings 84 = .ok (.iload_n 3, 1) := by decide +kernel
theorem dX12_laysCuttings_85 : decode cX12_laysCuttings 85 = .ok (.iadd, 1) := by decide +kernel
theorem dX12_laysCuttings_86 : decode cX12_laysCuttings 86 = .ok (.iload 4, 2) := by decide +kernel
theorem dX12_laysCuttings_88 : decode cX12_laysCuttings 88 = .ok (.iadd, 1) := by decide +kernel
theorem dX12_laysCuttings_89 : decode cX12_laysCuttings 89 = .ok (.iload_n 2, 1) := by decide +kernel
theorem dX12_laysCuttings_90 : decode cX12_laysCuttings 90 = .ok (.iload_n 1, 1) := by decide +kernel
theorem dX12_laysCuttings_91 : decode cX12_laysCuttings 91 = .ok (.iadd, 1) := by decide +kernel
theorem dX12_laysCuttings_92 : decode cX12_laysCuttings 92 = .ok (.iload_n 3, 1) := by decide +kernel
theorem dX12_laysCuttings_93 : decode cX12_laysCuttings 93 = .ok (.iadd, 1) := by decide +kernel
theorem dX12_laysCuttings_94 : decode cX12_laysCuttings 94 = .ok (.iload 4, 2) := by decide +kernel
theorem dX12_laysCuttings_96 : decode cX12_laysCuttings 96 = .ok (.iadd, 1) := by decide +kernel
theorem dX12_laysCuttings_97 : decode cX12_laysCuttings 97 = .ok (.iload 5, 2) := by decide +kernel
theorem dX12_laysCuttings_99 : decode cX12_laysCuttings 99 = .ok (.invokevirtual 296, 3) := by decide +kernel
theorem dX12_laysCuttings_102 : decode cX12_laysCuttings 102 = .ok (.ifCond .ne 6, 3) := by decide +kernel
theorem dX12_laysCuttings_105 : decode cX12_laysCuttings 105 = .ok (.goto 55, 3) := by decide +kernel
theorem dX12_laysCuttings_108 : decode cX12_laysCuttings 108 = .ok (.aload_n 0, 1) := by decide +kernel
theorem dX12_laysCuttings_109 : decode cX12_laysCuttings 109 = .ok (.getfield 290, 3) := by decide +kernel
theorem dX12_laysCuttings_112 : decode cX12_laysCuttings 112 = .ok (.ifCond .ne 19, 3) := by decide +kernel
theorem dX12_laysCuttings_115 : decode cX12_laysCuttings 115 = .ok (.aload_n 0, 1) := by decide +kernel
theorem dX12_laysCuttings_116 : decode cX12_laysCuttings 116 = .ok (.iload_n 2, 1) := by decide +kernel
theorem dX12_laysCuttings_117 : decode cX12_laysCuttings 117 = .ok (.putfield 299, 3) := by decide +kernel
theorem dX12_laysCuttings_120 : decode cX12_laysCuttings 120 = .ok (.aload_n 0, 1) := by decide +kernel
theorem dX12_laysCuttings_121 : decode cX12_laysCuttings 121 = .ok (.iload_n 3, 1) := by decide +kernel
theorem dX12_laysCuttings_122 : decode cX12_laysCuttings 122 = .ok (.putfield 302, 3) := by decide +kernel
theorem dX12_laysCuttings_125 : decode cX12_laysCuttings 125 = .ok (.aload_n 0, 1) := by decide +kernel
theorem dX12_laysCuttings_126 : decode cX12_laysCuttings 126 = .ok (.iload 4, 2) := by decide +kernel
theorem dX12_laysCuttings_128 : decode cX12_laysCuttings 128 = .ok (.putfield 305, 3) := by decide +kernel
theorem dX12_laysCuttings_131 : decode cX12_laysCuttings 131 = .ok (.aload_n 0, 1) := by decide +kernel
theorem dX12_laysCuttings_132 : decode cX12_laysCuttings 132 = .ok (.aload_n 0, 1) := by decide +kernel
theorem dX12_laysCuttings_133 : decode cX12_laysCuttings 133 = .ok (.getfield 290, 3) := by decide +kernel
theorem dX12_laysCuttings_136 : decode cX12_laysCuttings 136 = .ok (.iconst 1, 1) := by decide +kernel
theorem dX12_laysCuttings_137 : decode cX12_laysCuttings 137 = .ok (.iadd, 1) := by decide +kernel
theorem dX12_laysCuttings_138 : decode cX12_laysCuttings 138 = .ok (.putfield 290, 3) := by decide +kernel
theorem dX12_laysCuttings_141 : decode cX12_laysCuttings 141 = .ok (.aload_n 0, 1) := by decide +kernel
theorem dX12_laysCuttings_142 : decode cX12_laysCuttings 142 = .ok (.aload_n 0, 1) := by decide +kernel
theorem dX12_laysCuttings_143 : decode cX12_laysCuttings 143 = .ok (.getfield 293, 3) := by decide +kernel
theorem dX12_laysCuttings_146 : decode cX12_laysCuttings 146 = .ok (.iload 5, 2) := by decide +kernel
theorem dX12_laysCuttings_148 : decode cX12_laysCuttings 148 = .ok (.ifCond .ne 7, 3) := by decide +kernel
theorem dX12_laysCuttings_151 : decode cX12_laysCuttings 151 = .ok (.iconst 1, 1) := by decide +kernel
theorem dX12_laysCuttings_152 : decode cX12_laysCuttings 152 = .ok (.goto 4, 3) := by decide +kernel
theorem dX12_laysCuttings_155 : decode cX12_laysCuttings 155 = .ok (.iconst 0, 1) := by decide +kernel
theorem dX12_laysCuttings_156 : decode cX12_laysCuttings 156 = .ok (.iadd, 1) := by decide +kernel
theorem dX12_laysCuttings_157 : decode cX12_laysCuttings 157 = .ok (.putfield 293, 3) := by decide +kernel
theorem dX12_laysCuttings_160 : decode cX12_laysCuttings 160 = .ok (.iinc 4 1, 3) := by decide +kernel
theorem dX12_laysCuttings_163 : decode cX12_laysCuttings 163 = .ok (.goto (-114), 3) := by decide +kernel
theorem dX12_laysCuttings_166 : decode cX12_laysCuttings 166 = .ok (.iinc 3 1, 3) := by decide +kernel
theorem dX12_laysCuttings_169 : decode cX12_laysCuttings 169 = .ok (.goto (-143), 3) := by decide +kernel
theorem dX12_laysCuttings_172 : decode cX12_laysCuttings 172 = .ok (.iinc 2 1, 3) := by decide +kernel
theorem dX12_laysCuttings_175 : decode cX12_laysCuttings 175 = .ok (.goto (-156), 3) := by decide +kernel
theorem dX12_laysCuttings_178 : decode cX12_laysCuttings 178 = .ok (.return_, 1) := by decide +kernel
theorem dX12_line_0 : decode cX12_line 0 = .ok (.iload_n 1, 1) := by decide +kernel
theorem dX12_line_1 : decode cX12_line 1 = .ok (.invokestatic 135, 3) := by decide +kernel
theorem dX12_line_4 : decode cX12_line 4 = .ok (.ifCond .eq 7, 3) := by decide +kernel
theorem dX12_line_7 : decode cX12_line 7 = .ok (.iload_n 2, 1) := by decide +kernel
theorem dX12_line_8 : decode cX12_line 8 = .ok (.ifCond .ge 5, 3) := by decide +kernel
theorem dX12_line_11 : decode cX12_line 11 = .ok (.iconst (-1), 1) := by decide +kernel
theorem dX12_line_12 : decode cX12_line 12 = .ok (.ireturn, 1) := by decide +kernel
theorem dX12_line_13 : decode cX12_line 13 = .ok (.aload_n 0, 1) := by decide +kernel
theorem dX12_line_14 : decode cX12_line 14 = .ok (.getfield 7, 3) := by decide +kernel
theorem dX12_line_17 : decode cX12_line 17 = .ok (.iload_n 1, 1) := by decide +kernel
theorem dX12_line_18 : decode cX12_line 18 = .ok (.laload, 1) := by decide +kernel
theorem dX12_line_19 : decode cX12_line 19 = .ok (.lconst 0, 1) := by decide +kernel
theorem dX12_line_20 : decode cX12_line 20 = .ok (.lcmp, 1) := by decide +kernel
theorem dX12_line_21 : decode cX12_line 21 = .ok (.ifCond .ne 6, 3) := by decide +kernel
theorem dX12_line_24 : decode cX12_line 24 = .ok (.bipush (-2), 2) := by decide +kernel
theorem dX12_line_26 : decode cX12_line 26 = .ok (.ireturn, 1) := by decide +kernel
theorem dX12_line_27 : decode cX12_line 27 = .ok (.aload_n 0, 1) := by decide +kernel
theorem dX12_line_28 : decode cX12_line 28 = .ok (.aload_n 0, 1) := by decide +kernel
theorem dX12_line_29 : decode cX12_line 29 = .ok (.getfield 7, 3) := by decide +kernel
theorem dX12_line_32 : decode cX12_line 32 = .ok (.iload_n 1, 1) := by decide +kernel
theorem dX12_line_33 : decode cX12_line 33 = .ok (.laload, 1) := by decide +kernel
theorem dX12_line_34 : decode cX12_line 34 = .ok (.invokevirtual 308, 3) := by decide +kernel
theorem dX12_line_37 : decode cX12_line 37 = .ok (.ifCond .ne 6, 3) := by decide +kernel
theorem dX12_line_40 : decode cX12_line 40 = .ok (.bipush (-3), 2) := by decide +kernel
theorem dX12_line_42 : decode cX12_line 42 = .ok (.ireturn, 1) := by decide +kernel
theorem dX12_line_43 : decode cX12_line 43 = .ok (.iload_n 2, 1) := by decide +kernel
theorem dX12_line_44 : decode cX12_line 44 = .ok (.aload_n 0, 1) := by decide +kernel
theorem dX12_line_45 : decode cX12_line 45 = .ok (.getfield 273, 3) := by decide +kernel
theorem dX12_line_48 : decode cX12_line 48 = .ok (.if_icmp .ge 12, 3) := by decide +kernel
theorem dX12_line_51 : decode cX12_line 51 = .ok (.aload_n 0, 1) := by decide +kernel
theorem dX12_line_52 : decode cX12_line 52 = .ok (.getfield 49, 3) := by decide +kernel
theorem dX12_line_55 : decode cX12_line 55 = .ok (.iload_n 2, 1) := by decide +kernel
theorem dX12_line_56 : decode cX12_line 56 = .ok (.iaload, 1) := by decide +kernel
theorem dX12_line_57 : decode cX12_line 57 = .ok (.goto 5, 3) := by decide +kernel
theorem dX12_line_60 : decode cX12_line 60 = .ok (.bipush (-4), 2) := by decide +kernel
theorem dX12_line_62 : decode cX12_line 62 = .ok (.ireturn, 1) := by decide +kernel
theorem dX12_tiles_0 : decode cX12_tiles 0 = .ok (.iload_n 1, 1) := by decide +kernel
theorem dX12_tiles_1 : decode cX12_tiles 1 = .ok (.invokestatic 135, 3) := by decide +kernel
theorem dX12_tiles_4 : decode cX12_tiles 4 = .ok (.ifCond .eq 12, 3) := by decide +kernel
theorem dX12_tiles_7 : decode cX12_tiles 7 = .ok (.iload_n 2, 1) := by decide +kernel
theorem dX12_tiles_8 : decode cX12_tiles 8 = .ok (.iconst 0, 1) := by decide +kernel
theorem dX12_tiles_9 : decode cX12_tiles 9 = .ok (.iconst 5, 1) := by decide +kernel
theorem dX12_tiles_10 : decode cX12_tiles 10 = .ok (.invokestatic 82, 3) := by decide +kernel
theorem dX12_tiles_13 : decode cX12_tiles 13 = .ok (.ifCond .ne 5, 3) := by decide +kernel
theorem dX12_tiles_16 : decode cX12_tiles 16 = .ok (.iconst (-1), 1) := by decide +kernel
theorem dX12_tiles_17 : decode cX12_tiles 17 = .ok (.ireturn, 1) := by decide +kernel
theorem dX12_tiles_18 : decode cX12_tiles 18 = .ok (.aload_n 0, 1) := by decide +kernel
theorem dX12_tiles_19 : decode cX12_tiles 19 = .ok (.getfield 7, 3) := by decide +kernel
theorem dX12_tiles_22 : decode cX12_tiles 22 = .ok (.iload_n 1, 1) := by decide +kernel
theorem dX12_tiles_23 : decode cX12_tiles 23 = .ok (.laload, 1) := by decide +kernel
theorem dX12_tiles_24 : decode cX12_tiles 24 = .ok (.lconst 0, 1) := by decide +kernel
theorem dX12_tiles_25 : decode cX12_tiles 25 = .ok (.lcmp, 1) := by decide +kernel
theorem dX12_tiles_26 : decode cX12_tiles 26 = .ok (.ifCond .ne 6, 3) := by decide +kernel
theorem dX12_tiles_29 : decode cX12_tiles 29 = .ok (.bipush (-2), 2) := by decide +kernel
theorem dX12_tiles_31 : decode cX12_tiles 31 = .ok (.ireturn, 1) := by decide +kernel
theorem dX12_tiles_32 : decode cX12_tiles 32 = .ok (.aload_n 0, 1) := by decide +kernel
theorem dX12_tiles_33 : decode cX12_tiles 33 = .ok (.aload_n 0, 1) := by decide +kernel
theorem dX12_tiles_34 : decode cX12_tiles 34 = .ok (.getfield 7, 3) := by decide +kernel
theorem dX12_tiles_37 : decode cX12_tiles 37 = .ok (.iload_n 1, 1) := by decide +kernel
theorem dX12_tiles_38 : decode cX12_tiles 38 = .ok (.laload, 1) := by decide +kernel
theorem dX12_tiles_39 : decode cX12_tiles 39 = .ok (.invokevirtual 308, 3) := by decide +kernel
theorem dX12_tiles_42 : decode cX12_tiles 42 = .ok (.ifCond .ne 6, 3) := by decide +kernel
theorem dX12_tiles_45 : decode cX12_tiles 45 = .ok (.bipush (-3), 2) := by decide +kernel
theorem dX12_tiles_47 : decode cX12_tiles 47 = .ok (.ireturn, 1) := by decide +kernel
theorem dX12_tiles_48 : decode cX12_tiles 48 = .ok (.aload_n 0, 1) := by decide +kernel
theorem dX12_tiles_49 : decode cX12_tiles 49 = .ok (.invokevirtual 311, 3) := by decide +kernel
theorem dX12_tiles_52 : decode cX12_tiles 52 = .ok (.iload_n 2, 1) := by decide +kernel
theorem dX12_tiles_53 : decode cX12_tiles 53 = .ok (.iconst 2, 1) := by decide +kernel
theorem dX12_tiles_54 : decode cX12_tiles 54 = .ok (.if_icmp .ge 19, 3) := by decide +kernel
theorem dX12_tiles_57 : decode cX12_tiles 57 = .ok (.iload_n 2, 1) := by decide +kernel
theorem dX12_tiles_58 : decode cX12_tiles 58 = .ok (.ifCond .ne 10, 3) := by decide +kernel
theorem dX12_tiles_61 : decode cX12_tiles 61 = .ok (.aload_n 0, 1) := by decide +kernel
theorem dX12_tiles_62 : decode cX12_tiles 62 = .ok (.getfield 290, 3) := by decide +kernel
theorem dX12_tiles_65 : decode cX12_tiles 65 = .ok (.goto 7, 3) := by decide +kernel
theorem dX12_tiles_68 : decode cX12_tiles 68 = .ok (.aload_n 0, 1) := by decide +kernel
theorem dX12_tiles_69 : decode cX12_tiles 69 = .ok (.getfield 293, 3) := by decide +kernel
theorem dX12_tiles_72 : decode cX12_tiles 72 = .ok (.ireturn, 1) := by decide +kernel
theorem dX12_tiles_73 : decode cX12_tiles 73 = .ok (.aload_n 0, 1) := by decide +kernel
theorem dX12_tiles_74 : decode cX12_tiles 74 = .ok (.getfield 290, 3) := by decide +kernel
theorem dX12_tiles_77 : decode cX12_tiles 77 = .ok (.ifCond .ne 6, 3) := by decide +kernel
theorem dX12_tiles_80 : decode cX12_tiles 80 = .ok (.bipush (-4), 2) := by decide +kernel
theorem dX12_tiles_82 : decode cX12_tiles 82 = .ok (.ireturn, 1) := by decide +kernel
theorem dX12_tiles_83 : decode cX12_tiles 83 = .ok (.iload_n 2, 1) := by decide +kernel
theorem dX12_tiles_84 : decode cX12_tiles 84 = .ok (.iconst 2, 1) := by decide +kernel
theorem dX12_tiles_85 : decode cX12_tiles 85 = .ok (.if_icmp .ne 10, 3) := by decide +kernel
theorem dX12_tiles_88 : decode cX12_tiles 88 = .ok (.aload_n 0, 1) := by decide +kernel
theorem dX12_tiles_89 : decode cX12_tiles 89 = .ok (.getfield 299, 3) := by decide +kernel
theorem dX12_tiles_92 : decode cX12_tiles 92 = .ok (.goto 43, 3) := by decide +kernel
theorem dX12_tiles_95 : decode cX12_tiles 95 = .ok (.iload_n 2, 1) := by decide +kernel
theorem dX12_tiles_96 : decode cX12_tiles 96 = .ok (.iconst 3, 1) := by decide +kernel
theorem dX12_tiles_97 : decode cX12_tiles 97 = .ok (.if_icmp .ne 10, 3) := by decide +kernel
theorem dX12_tiles_100 : decode cX12_tiles 100 = .ok (.aload_n 0, 1) := by decide +kernel
theorem dX12_tiles_101 : decode cX12_tiles 101 = .ok (.getfield 302, 3) := by decide +kernel
theorem dX12_tiles_104 : decode cX12_tiles 104 = .ok (.goto 31, 3) := by decide +kernel
theorem dX12_tiles_107 : decode cX12_tiles 107 = .ok (.iload_n 2, 1) := by decide +kernel
theorem dX12_tiles_108 : decode cX12_tiles 108 = .ok (.iconst 4, 1) := by decide +kernel
theorem dX12_tiles_109 : decode cX12_tiles 109 = .ok (.if_icmp .ne 10, 3) := by decide +kernel
theorem dX12_tiles_112 : decode cX12_tiles 112 = .ok (.aload_n 0, 1) := by decide +kernel
theorem dX12_tiles_113 : decode cX12_tiles 113 = .ok (.getfield 305, 3) := by decide +kernel
theorem dX12_tiles_116 : decode cX12_tiles 116 = .ok (.goto 19, 3) := by decide +kernel
theorem dX12_tiles_119 : decode cX12_tiles 119 = .ok (.aload_n 0, 1) := by decide +kernel
theorem dX12_tiles_120 : decode cX12_tiles 120 = .ok (.getfield 273, 3) := by decide +kernel
theorem dX12_tiles_123 : decode cX12_tiles 123 = .ok (.iconst 2, 1) := by decide +kernel
theorem dX12_tiles_124 : decode cX12_tiles 124 = .ok (.idiv, 1) := by decide +kernel
theorem dX12_tiles_125 : decode cX12_tiles 125 = .ok (.aload_n 0, 1) := by decide +kernel
theorem dX12_tiles_126 : decode cX12_tiles 126 = .ok (.getfield 302, 3) := by decide +kernel
theorem dX12_tiles_129 : decode cX12_tiles 129 = .ok (.isub, 1) := by decide +kernel
theorem dX12_tiles_130 : decode cX12_tiles 130 = .ok (.aload_n 0, 1) := by decide +kernel
theorem dX12_tiles_131 : decode cX12_tiles 131 = .ok (.getfield 305, 3) := by decide +kernel
theorem dX12_tiles_134 : decode cX12_tiles 134 = .ok (.isub, 1) := by decide +kernel
theorem dX12_tiles_135 : decode cX12_tiles 135 = .ok (.ireturn, 1) := by decide +kernel
theorem dX12_tilers_0 : decode cX12_tilers 0 = .ok (.aload_n 0, 1) := by decide +kernel
theorem dX12_tilers_1 : decode cX12_tilers 1 = .ok (.iload_n 1, 1) := by decide +kernel
theorem dX12_tilers_2 : decode cX12_tilers 2 = .ok (.iload_n 2, 1) := by decide +kernel
theorem dX12_tilers_3 : decode cX12_tilers 3 = .ok (.invokevirtual 236, 3) := by decide +kernel
theorem dX12_tilers_6 : decode cX12_tilers 6 = .ok (.ifCond .ne 5, 3) := by decide +kernel
theorem dX12_tilers_9 : decode cX12_tilers 9 = .ok (.iconst (-1), 1) := by decide +kernel
theorem dX12_tilers_10 : decode cX12_tilers 10 = .ok (.ireturn, 1) := by decide +kernel
theorem dX12_tilers_11 : decode cX12_tilers 11 = .ok (.iconst 0, 1) := by decide +kernel
theorem dX12_tilers_12 : decode cX12_tilers 12 = .ok (.istore_n 3, 1) := by decide +kernel
theorem dX12_tilers_13 : decode cX12_tilers 13 = .ok (.aload_n 0, 1) := by decide +kernel
theorem dX12_tilers_14 : decode cX12_tilers 14 = .ok (.iload_n 1, 1) := by decide +kernel
theorem dX12_tilers_15 : decode cX12_tilers 15 = .ok (.iload_n 2, 1) := by decide +kernel
theorem dX12_tilers_16 : decode cX12_tilers 16 = .ok (.invokevirtual 244, 3) := by decide +kernel
theorem dX12_tilers_19 : decode cX12_tilers 19 = .ok (.istore 4, 2) := by decide +kernel
theorem dX12_tilers_21 : decode cX12_tilers 21 = .ok (.iload 4, 2) := by decide +kernel
theorem dX12_tilers_23 : decode cX12_tilers 23 = .ok (.aload_n 0, 1) := by decide +kernel
theorem dX12_tilers_24 : decode cX12_tilers 24 = .ok (.iload_n 1, 1) := by decide +kernel
theorem dX12_tilers_25 : decode cX12_tilers 25 = .ok (.iload_n 2, 1) := by decide +kernel
theorem dX12_tilers_26 : decode cX12_tilers 26 = .ok (.invokevirtual 240, 3) := by decide +kernel
theorem dX12_tilers_29 : decode cX12_tilers 29 = .ok (.if_icmp .ge 45, 3) := by decide +kernel
theorem dX12_tilers_32 : decode cX12_tilers 32 = .ok (.aload_n 0, 1) := by decide +kernel
theorem dX12_tilers_33 : decode cX12_tilers 33 = .ok (.aload_n 0, 1) := by decide +kernel
theorem dX12_tilers_34 : decode cX12_tilers 34 = .ok (.getfield 31, 3) := by decide +kernel
theorem dX12_tilers_37 : decode cX12_tilers 37 = .ok (.iload 4, 2) := by decide +kernel
theorem dX12_tilers_39 : decode cX12_tilers 39 = .ok (.laload, 1) := by decide +kernel
theorem dX12_tilers_40 : decode cX12_tilers 40 = .ok (.invokevirtual 308, 3) := by decide +kernel
theorem dX12_tilers_43 : decode cX12_tilers 43 = .ok (.ifCond .ne 6, 3) := by decide +kernel
theorem dX12_tilers_46 : decode cX12_tilers 46 = .ok (.goto 22, 3) := by decide +kernel
theorem dX12_tilers_49 : decode cX12_tilers 49 = .ok (.aload_n 0, 1) := by decide +kernel
theorem dX12_tilers_50 : decode cX12_tilers 50 = .ok (.invokevirtual 311, 3) := by decide +kernel
theorem dX12_tilers_53 : decode cX12_tilers 53 = .ok (.iload_n 3, 1) := by decide +kernel
theorem dX12_tilers_54 : decode cX12_tilers 54 = .ok (.aload_n 0, 1) := by decide +kernel
theorem dX12_tilers_55 : decode cX12_tilers 55 = .ok (.getfield 290, 3) := by decide +kernel
theorem dX12_tilers_58 : decode cX12_tilers 58 = .ok (.ifCond .le 7, 3) := by decide +kernel
theorem dX12_tilers_61 : decode cX12_tilers 61 = .ok (.iconst 1, 1) := by decide +kernel
theorem dX12_tilers_62 : decode cX12_tilers 62 = .ok (.goto 4, 3) := by decide +kernel
theorem dX12_tilers_65 : decode cX12_tilers 65 = .ok (.iconst 0, 1) := by decide +kernel
theorem dX12_tilers_66 : decode cX12_tilers 66 = .ok (.iadd, 1) := by decide +kernel
theorem dX12_tilers_67 : decode cX12_tilers 67 = .ok (.istore_n 3, 1) := by decide +kernel
theorem dX12_tilers_68 : decode cX12_tilers 68 = .ok (.iinc 4 1, 3) := by decide +kernel
theorem dX12_tilers_71 : decode cX12_tilers 71 = .ok (.goto (-50), 3) := by decide +kernel
theorem dX12_tilers_74 : decode cX12_tilers 74 = .ok (.iload_n 3, 1) := by decide +kernel
theorem dX12_tilers_75 : decode cX12_tilers 75 = .ok (.ireturn, 1) := by decide +kernel
theorem dX12_laysMoves_0 : decode cX12_laysMoves 0 = .ok (.aload_n 0, 1) := by decide +kernel
theorem dX12_laysMoves_1 : decode cX12_laysMoves 1 = .ok (.getfield 7, 3) := by decide +kernel
theorem dX12_laysMoves_4 : decode cX12_laysMoves 4 = .ok (.iload_n 1, 1) := by decide +kernel
theorem dX12_laysMoves_5 : decode cX12_laysMoves 5 = .ok (.laload, 1) := by decide +kernel
theorem dX12_laysMoves_6 : decode cX12_laysMoves 6 = .ok (.lconst 0, 1) := by decide +kernel
theorem dX12_laysMoves_7 : decode cX12_laysMoves 7 = .ok (.lcmp, 1) := by decide +kernel
theorem dX12_laysMoves_8 : decode cX12_laysMoves 8 = .ok (.ifCond .ne 6, 3) := by decide +kernel
theorem dX12_laysMoves_11 : decode cX12_laysMoves 11 = .ok (.bipush (-2), 2) := by decide +kernel
theorem dX12_laysMoves_13 : decode cX12_laysMoves 13 = .ok (.ireturn, 1) := by decide +kernel
theorem dX12_laysMoves_14 : decode cX12_laysMoves 14 = .ok (.aload_n 0, 1) := by decide +kernel
theorem dX12_laysMoves_15 : decode cX12_laysMoves 15 = .ok (.aload_n 0, 1) := by decide +kernel
theorem dX12_laysMoves_16 : decode cX12_laysMoves 16 = .ok (.getfield 7, 3) := by decide +kernel
theorem dX12_laysMoves_19 : decode cX12_laysMoves 19 = .ok (.iload_n 1, 1) := by decide +kernel
theorem dX12_laysMoves_20 : decode cX12_laysMoves 20 = .ok (.laload, 1) := by decide +kernel
theorem dX12_laysMoves_21 : decode cX12_laysMoves 21 = .ok (.invokevirtual 308, 3) := by decide +kernel
theorem dX12_laysMoves_24 : decode cX12_laysMoves 24 = .ok (.ifCond .ne 6, 3) := by decide +kernel
theorem dX12_laysMoves_27 : decode cX12_laysMoves 27 = .ok (.bipush (-3), 2) := by decide +kernel
theorem dX12_laysMoves_29 : decode cX12_laysMoves 29 = .ok (.ireturn, 1) := by decide +kernel
theorem dX12_laysMoves_30 : decode cX12_laysMoves 30 = .ok (.aload_n 0, 1) := by decide +kernel
theorem dX12_laysMoves_31 : decode cX12_laysMoves 31 = .ok (.invokevirtual 311, 3) := by decide +kernel
theorem dX12_laysMoves_34 : decode cX12_laysMoves 34 = .ok (.aload_n 0, 1) := by decide +kernel
theorem dX12_laysMoves_35 : decode cX12_laysMoves 35 = .ok (.getfield 290, 3) := by decide +kernel
theorem dX12_laysMoves_38 : decode cX12_laysMoves 38 = .ok (.ifCond .ne 6, 3) := by decide +kernel
theorem dX12_laysMoves_41 : decode cX12_laysMoves 41 = .ok (.bipush (-4), 2) := by decide +kernel
theorem dX12_laysMoves_43 : decode cX12_laysMoves 43 = .ok (.ireturn, 1) := by decide +kernel
theorem dX12_laysMoves_44 : decode cX12_laysMoves 44 = .ok (.aload_n 0, 1) := by decide +kernel
theorem dX12_laysMoves_45 : decode cX12_laysMoves 45 = .ok (.iconst 0, 1) := by decide +kernel
theorem dX12_laysMoves_46 : decode cX12_laysMoves 46 = .ok (.putfield 314, 3) := by decide +kernel
theorem dX12_laysMoves_49 : decode cX12_laysMoves 49 = .ok (.aload_n 0, 1) := by decide +kernel
theorem dX12_laysMoves_50 : decode cX12_laysMoves 50 = .ok (.iconst 0, 1) := by decide +kernel
theorem dX12_laysMoves_51 : decode cX12_laysMoves 51 = .ok (.putfield 317, 3) := by decide +kernel
theorem dX12_laysMoves_54 : decode cX12_laysMoves 54 = .ok (.aload_n 0, 1) := by decide +kernel
theorem dX12_laysMoves_55 : decode cX12_laysMoves 55 = .ok (.iconst 0, 1) := by decide +kernel
theorem dX12_laysMoves_56 : decode cX12_laysMoves 56 = .ok (.putfield 320, 3) := by decide +kernel
theorem dX12_laysMoves_59 : decode cX12_laysMoves 59 = .ok (.aload_n 0, 1) := by decide +kernel
theorem dX12_laysMoves_60 : decode cX12_laysMoves 60 = .ok (.iconst 0, 1) := by decide +kernel
theorem dX12_laysMoves_61 : decode cX12_laysMoves 61 = .ok (.putfield 323, 3) := by decide +kernel
theorem dX12_laysMoves_64 : decode cX12_laysMoves 64 = .ok (.iconst 0, 1) := by decide +kernel
theorem dX12_laysMoves_65 : decode cX12_laysMoves 65 = .ok (.istore_n 2, 1) := by decide +kernel
theorem dX12_laysMoves_66 : decode cX12_laysMoves 66 = .ok (.iload_n 2, 1) := by decide +kernel
theorem dX12_laysMoves_67 : decode cX12_laysMoves 67 = .ok (.aload_n 0, 1) := by decide +kernel
theorem dX12_laysMoves_68 : decode cX12_laysMoves 68 = .ok (.getfield 273, 3) := by decide +kernel
theorem dX12_laysMoves_71 : decode cX12_laysMoves 71 = .ok (.iconst 2, 1) := by decide +kernel
theorem dX12_laysMoves_72 : decode cX12_laysMoves 72 = .ok (.idiv, 1) := by decide +kernel
theorem dX12_laysMoves_73 : decode cX12_laysMoves 73 = .ok (.if_icmp .ge 93, 3) := by decide +kernel
theorem dX12_laysMoves_76 : decode cX12_laysMoves 76 = .ok (.aload_n 0, 1) := by decide +kernel
theorem dX12_laysMoves_77 : decode cX12_laysMoves 77 = .ok (.aload_n 0, 1) := by decide +kernel
theorem dX12_laysMoves_78 : decode cX12_laysMoves 78 = .ok (.getfield 299, 3) := by decide +kernel
theorem dX12_laysMoves_81 : decode cX12_laysMoves 81 = .ok (.iload_n 2, 1) := by decide +kernel
theorem dX12_laysMoves_82 : decode cX12_laysMoves 82 = .ok (.iadd, 1) := by decide +kernel
theorem dX12_laysMoves_83 : decode cX12_laysMoves 83 = .ok (.invokevirtual 287, 3) := by decide +kernel
theorem dX12_laysMoves_86 : decode cX12_laysMoves 86 = .ok (.istore_n 3, 1) := by decide +kernel
theorem dX12_laysMoves_87 : decode cX12_laysMoves 87 = .ok (.iload_n 2, 1) := by decide +kernel
theorem dX12_laysMoves_88 : decode cX12_laysMoves 88 = .ok (.aload_n 0, 1) := by decide +kernel
theorem dX12_laysMoves_89 : decode cX12_laysMoves 89 = .ok (.getfield 302, 3) := by decide +kernel
theorem dX12_laysMoves_92 : decode cX12_laysMoves 92 = .ok (.aload_n 0, 1) := by decide +kernel
theorem dX12_laysMoves_93 : decode cX12_laysMoves 93 = .ok (.getfield 305, 3) := by decide +kernel
theorem dX12_laysMoves_96 : decode cX12_laysMoves 96 = .ok (.iadd, 1) := by decide +kernel
theorem dX12_laysMoves_97 : decode cX12_laysMoves 97 = .ok (.if_icmp .ge 29, 3) := by decide +kernel
theorem dX12_laysMoves_100 : decode cX12_laysMoves 100 = .ok (.aload_n 0, 1) := by decide +kernel
theorem dX12_laysMoves_101 : decode cX12_laysMoves 101 = .ok (.aload_n 0, 1) := by decide +kernel
theorem dX12_laysMoves_102 : decode cX12_laysMoves 102 = .ok (.getfield 314, 3) := by decide +kernel
theorem dX12_laysMoves_105 : decode cX12_laysMoves 105 = .ok (.iload_n 3, 1) := by decide +kernel
theorem dX12_laysMoves_106 : decode cX12_laysMoves 106 = .ok (.invokestatic 280, 3) := by decide +kernel
theorem dX12_laysMoves_109 : decode cX12_laysMoves 109 = .ok (.iadd, 1) := by decide +kernel
theorem dX12_laysMoves_110 : decode cX12_laysMoves 110 = .ok (.putfield 314, 3) := by decide +kernel
theorem dX12_laysMoves_113 : decode cX12_laysMoves 113 = .ok (.aload_n 0, 1) := by decide +kernel
theorem dX12_laysMoves_114 : decode cX12_laysMoves 114 = .ok (.aload_n 0, 1) := by decide +kernel
theorem dX12_laysMoves_115 : decode cX12_laysMoves 115 = .ok (.getfield 317, 3) := by decide +kernel
theorem dX12_laysMoves_118 : decode cX12_laysMoves 118 = .ok (.iload_n 3, 1) := by decide +kernel
theorem dX12_laysMoves_119 : decode cX12_laysMoves 119 = .ok (.invokestatic 284, 3) := by decide +kernel
theorem dX12_laysMoves_122 : decode cX12_laysMoves 122 = .ok (.iadd, 1) := by decide +kernel
theorem dX12_laysMoves_123 : decode cX12_laysMoves 123 = .ok (.putfield 317, 3) := by decide +kernel
theorem dX12_laysMoves_126 : decode cX12_laysMoves 126 = .ok (.iload_n 2, 1) := by decide +kernel
theorem dX12_laysMoves_127 : decode cX12_laysMoves 127 = .ok (.aload_n 0, 1) := by decide +kernel
theorem dX12_laysMoves_128 : decode cX12_laysMoves 128 = .ok (.getfield 302, 3) := by decide +kernel
theorem dX12_laysMoves_131 : decode cX12_laysMoves 131 = .ok (.if_icmp .lt 29, 3) := by decide +kernel
theorem dX12_laysMoves_134 : decode cX12_laysMoves 134 = .ok (.aload_n 0, 1) := by decide +kernel
theorem dX12_laysMoves_135 : decode cX12_laysMoves 135 = .ok (.aload_n 0, 1) := by decide +kernel
theorem dX12_laysMoves_136 : decode cX12_laysMoves 136 = .ok (.getfield 320, 3) := by decide +kernel
theorem dX12_laysMoves_139 : decode cX12_laysMoves 139 = .ok (.iload_n 3, 1) := by decide +kernel
theorem dX12_laysMoves_140 : decode cX12_laysMoves 140 = .ok (.invokestatic 280, 3) := by decide +kernel
theorem dX12_laysMoves_143 : decode cX12_laysMoves 143 = .ok (.iadd, 1) := by decide +kernel
theorem dX12_laysMoves_144 : decode cX12_laysMoves 144 = .ok (.putfield 320, 3) := by decide +kernel
theorem dX12_laysMoves_147 : decode cX12_laysMoves 147 = .ok (.aload_n 0, 1) := by decide +kernel
theorem dX12_laysMoves_148 : decode cX12_laysMoves 148 = .ok (.aload_n 0, 1) := by decide +kernel
theorem dX12_laysMoves_149 : decode cX12_laysMoves 149 = .ok (.getfield 323, 3) := by decide +kernel
theorem dX12_laysMoves_152 : decode cX12_laysMoves 152 = .ok (.iload_n 3, 1) := by decide +kernel
theorem dX12_laysMoves_153 : decode cX12_laysMoves 153 = .ok (.invokestatic 284, 3) := by decide +kernel
theorem dX12_laysMoves_156 : decode cX12_laysMoves 156 = .ok (.iadd, 1) := by decide +kernel
theorem dX12_laysMoves_157 : decode cX12_laysMoves 157 = .ok (.putfield 323, 3) := by decide +kernel
theorem dX12_laysMoves_160 : decode cX12_laysMoves 160 = .ok (.iinc 2 1, 3) := by decide +kernel
theorem dX12_laysMoves_163 : decode cX12_laysMoves 163 = .ok (.goto (-97), 3) := by decide +kernel
theorem dX12_laysMoves_166 : decode cX12_laysMoves 166 = .ok (.iconst 0, 1) := by decide +kernel
theorem dX12_laysMoves_167 : decode cX12_laysMoves 167 = .ok (.ireturn, 1) := by decide +kernel
theorem dX12_area_0 : decode cX12_area 0 = .ok (.aload_n 0, 1) := by decide +kernel
theorem dX12_area_1 : decode cX12_area 1 = .ok (.getfield 314, 3) := by decide +kernel
theorem dX12_area_4 : decode cX12_area 4 = .ok (.aload_n 0, 1) := by decide +kernel
theorem dX12_area_5 : decode cX12_area 5 = .ok (.getfield 323, 3) := by decide +kernel
theorem dX12_area_8 : decode cX12_area 8 = .ok (.imul, 1) := by decide +kernel
theorem dX12_area_9 : decode cX12_area 9 = .ok (.aload_n 0, 1) := by decide +kernel
theorem dX12_area_10 : decode cX12_area 10 = .ok (.getfield 317, 3) := by decide +kernel
theorem dX12_area_13 : decode cX12_area 13 = .ok (.aload_n 0, 1) := by decide +kernel
theorem dX12_area_14 : decode cX12_area 14 = .ok (.getfield 320, 3) := by decide +kernel
theorem dX12_area_17 : decode cX12_area 17 = .ok (.imul, 1) := by decide +kernel
theorem dX12_area_18 : decode cX12_area 18 = .ok (.isub, 1) := by decide +kernel
theorem dX12_area_19 : decode cX12_area 19 = .ok (.ireturn, 1) := by decide +kernel
theorem dX12_vector_0 : decode cX12_vector 0 = .ok (.iload_n 1, 1) := by decide +kernel
theorem dX12_vector_1 : decode cX12_vector 1 = .ok (.invokestatic 135, 3) := by decide +kernel
theorem dX12_vector_4 : decode cX12_vector 4 = .ok (.ifCond .eq 12, 3) := by decide +kernel
theorem dX12_vector_7 : decode cX12_vector 7 = .ok (.iload_n 2, 1) := by decide +kernel
theorem dX12_vector_8 : decode cX12_vector 8 = .ok (.iconst 0, 1) := by decide +kernel
theorem dX12_vector_9 : decode cX12_vector 9 = .ok (.iconst 4, 1) := by decide +kernel
theorem dX12_vector_10 : decode cX12_vector 10 = .ok (.invokestatic 82, 3) := by decide +kernel
theorem dX12_vector_13 : decode cX12_vector 13 = .ok (.ifCond .ne 5, 3) := by decide +kernel
theorem dX12_vector_16 : decode cX12_vector 16 = .ok (.iconst (-1), 1) := by decide +kernel
theorem dX12_vector_17 : decode cX12_vector 17 = .ok (.ireturn, 1) := by decide +kernel
theorem dX12_vector_18 : decode cX12_vector 18 = .ok (.aload_n 0, 1) := by decide +kernel
theorem dX12_vector_19 : decode cX12_vector 19 = .ok (.iload_n 1, 1) := by decide +kernel
theorem dX12_vector_20 : decode cX12_vector 20 = .ok (.invokevirtual 326, 3) := by decide +kernel
theorem dX12_vector_23 : decode cX12_vector 23 = .ok (.istore_n 3, 1) := by decide +kernel
theorem dX12_vector_24 : decode cX12_vector 24 = .ok (.iload_n 3, 1) := by decide +kernel
theorem dX12_vector_25 : decode cX12_vector 25 = .ok (.ifCond .ge 5, 3) := by decide +kernel
theorem dX12_vector_28 : decode cX12_vector 28 = .ok (.iload_n 3, 1) := by decide +kernel
theorem dX12_vector_29 : decode cX12_vector 29 = .ok (.ireturn, 1) := by decide +kernel
theorem dX12_vector_30 : decode cX12_vector 30 = .ok (.iload_n 2, 1) := by decide +kernel
theorem dX12_vector_31 : decode cX12_vector 31 = .ok (.tableswitch 61 0 3 #[29, 37, 45, 53], 29) := by decide +kernel
theorem dX12_vector_60 : decode cX12_vector 60 = .ok (.aload_n 0, 1) := by decide +kernel
theorem dX12_vector_61 : decode cX12_vector 61 = .ok (.getfield 314, 3) := by decide +kernel
theorem dX12_vector_64 : decode cX12_vector 64 = .ok (.bipush 10, 2) := by decide +kernel
theorem dX12_vector_66 : decode cX12_vector 66 = .ok (.iadd, 1) := by decide +kernel
theorem dX12_vector_67 : decode cX12_vector 67 = .ok (.ireturn, 1) := by decide +kernel
theorem dX12_vector_68 : decode cX12_vector 68 = .ok (.aload_n 0, 1) := by decide +kernel
theorem dX12_vector_69 : decode cX12_vector 69 = .ok (.getfield 317, 3) := by decide +kernel
theorem dX12_vector_72 : decode cX12_vector 72 = .ok (.bipush 10, 2) := by decide +kernel
theorem dX12_vector_74 : decode cX12_vector 74 = .ok (.iadd, 1) := by decide +kernel
theorem dX12_vector_75 : decode cX12_vector 75 = .ok (.ireturn, 1) := by decide +kernel
theorem dX12_vector_76 : decode cX12_vector 76 = .ok (.aload_n 0, 1) := by decide +kernel
theorem dX12_vector_77 : decode cX12_vector 77 = .ok (.getfield 320, 3) := by decide +kernel
theorem dX12_vector_80 : decode cX12_vector 80 = .ok (.bipush 10, 2) := by decide +kernel
theorem dX12_vector_82 : decode cX12_vector 82 = .ok (.iadd, 1) := by decide +kernel
theorem dX12_vector_83 : decode cX12_vector 83 = .ok (.ireturn, 1) := by decide +kernel
theorem dX12_vector_84 : decode cX12_vector 84 = .ok (.aload_n 0, 1) := by decide +kernel
theorem dX12_vector_85 : decode cX12_vector 85 = .ok (.getfield 323, 3) := by decide +kernel
theorem dX12_vector_88 : decode cX12_vector 88 = .ok (.bipush 10, 2) := by decide +kernel
theorem dX12_vector_90 : decode cX12_vector 90 = .ok (.iadd, 1) := by decide +kernel
theorem dX12_vector_91 : decode cX12_vector 91 = .ok (.ireturn, 1) := by decide +kernel
theorem dX12_vector_92 : decode cX12_vector 92 = .ok (.aload_n 0, 1) := by decide +kernel
theorem dX12_vector_93 : decode cX12_vector 93 = .ok (.invokevirtual 329, 3) := by decide +kernel
theorem dX12_vector_96 : decode cX12_vector 96 = .ok (.ifCond .ge 11, 3) := by decide +kernel
theorem dX12_vector_99 : decode cX12_vector 99 = .ok (.aload_n 0, 1) := by decide +kernel
theorem dX12_vector_100 : decode cX12_vector 100 = .ok (.invokevirtual 329, 3) := by decide +kernel
theorem dX12_vector_103 : decode cX12_vector 103 = .ok (.ineg, 1) := by decide +kernel
theorem dX12_vector_104 : decode cX12_vector 104 = .ok (.goto 7, 3) := by decide +kernel
theorem dX12_vector_107 : decode cX12_vector 107 = .ok (.aload_n 0, 1) := by decide +kernel
theorem dX12_vector_108 : decode cX12_vector 108 = .ok (.invokevirtual 329, 3) := by decide +kernel
theorem dX12_vector_111 : decode cX12_vector 111 = .ok (.ireturn, 1) := by decide +kernel
theorem dX12_owner_0 : decode cX12_owner 0 = .ok (.iload_n 1, 1) := by decide +kernel
theorem dX12_owner_1 : decode cX12_owner 1 = .ok (.invokestatic 135, 3) := by decide +kernel
theorem dX12_owner_4 : decode cX12_owner 4 = .ok (.ifCond .eq 35, 3) := by decide +kernel
theorem dX12_owner_7 : decode cX12_owner 7 = .ok (.iload_n 2, 1) := by decide +kernel
theorem dX12_owner_8 : decode cX12_owner 8 = .ok (.bipush (-20), 2) := by decide +kernel
theorem dX12_owner_10 : decode cX12_owner 10 = .ok (.bipush 20, 2) := by decide +kernel
theorem dX12_owner_12 : decode cX12_owner 12 = .ok (.invokestatic 82, 3) := by decide +kernel
theorem dX12_owner_15 : decode cX12_owner 15 = .ok (.ifCond .eq 24, 3) := by decide +kernel
theorem dX12_owner_18 : decode cX12_owner 18 = .ok (.iload_n 3, 1) := by decide +kernel
theorem dX12_owner_19 : decode cX12_owner 19 = .ok (.bipush (-20), 2) := by decide +kernel
theorem dX12_owner_21 : decode cX12_owner 21 = .ok (.bipush 20, 2) := by decide +kernel
theorem dX12_owner_23 : decode cX12_owner 23 = .ok (.invokestatic 82, 3) := by decide +kernel
theorem dX12_owner_26 : decode cX12_owner 26 = .ok (.ifCond .eq 13, 3) := by decide +kernel
theorem dX12_owner_29 : decode cX12_owner 29 = .ok (.iload 4, 2) := by decide +kernel
theorem dX12_owner_31 : decode cX12_owner 31 = .ok (.iconst 0, 1) := by decide +kernel
theorem dX12_owner_32 : decode cX12_owner 32 = .ok (.iconst 2, 1) := by decide +kernel
theorem dX12_owner_33 : decode cX12_owner 33 = .ok (.invokestatic 82, 3) := by decide +kernel
theorem dX12_owner_36 : decode cX12_owner 36 = .ok (.ifCond .ne 5, 3) := by decide +kernel
theorem dX12_owner_39 : decode cX12_owner 39 = .ok (.iconst (-1), 1) := by decide +kernel
theorem dX12_owner_40 : decode cX12_owner 40 = .ok (.ireturn, 1) := by decide +kernel
theorem dX12_owner_41 : decode cX12_owner 41 = .ok (.aload_n 0, 1) := by decide +kernel
theorem dX12_owner_42 : decode cX12_owner 42 = .ok (.iload_n 1, 1) := by decide +kernel
theorem dX12_owner_43 : decode cX12_owner 43 = .ok (.invokevirtual 326, 3) := by decide +kernel
theorem dX12_owner_46 : decode cX12_owner 46 = .ok (.istore 5, 2) := by decide +kernel
theorem dX12_owner_48 : decode cX12_owner 48 = .ok (.iload 5, 2) := by decide +kernel
theorem dX12_owner_50 : decode cX12_owner 50 = .ok (.ifCond .ge 6, 3) := by decide +kernel
theorem dX12_owner_53 : decode cX12_owner 53 = .ok (.iload 5, 2) := by decide +kernel
theorem dX12_owner_55 : decode cX12_owner 55 = .ok (.ireturn, 1) := by decide +kernel
theorem dX12_owner_56 : decode cX12_owner 56 = .ok (.aload_n 0, 1) := by decide +kernel
theorem dX12_owner_57 : decode cX12_owner 57 = .ok (.invokevirtual 329, 3) := by decide +kernel
theorem dX12_owner_60 : decode cX12_owner 60 = .ok (.istore 6, 2) := by decide +kernel
theorem dX12_owner_62 : decode cX12_owner 62 = .ok (.iconst 0, 1) := by decide +kernel
theorem dX12_owner_63 : decode cX12_owner 63 = .ok (.istore 7, 2) := by decide +kernel
theorem dX12_owner_65 : decode cX12_owner 65 = .ok (.iload 7, 2) := by decide +kernel
theorem dX12_owner_67 : decode cX12_owner 67 = .ok (.bipush 64, 2) := by decide +kernel
theorem dX12_owner_69 : decode cX12_owner 69 = .ok (.if_icmp .ge 133, 3) := by decide +kernel
theorem dX12_owner_72 : decode cX12_owner 72 = .ok (.aload_n 0, 1) := by decide +kernel
theorem dX12_owner_73 : decode cX12_owner 73 = .ok (.getfield 7, 3) := by decide +kernel
theorem dX12_owner_76 : decode cX12_owner 76 = .ok (.iload_n 1, 1) := by decide +kernel
theorem dX12_owner_77 : decode cX12_owner 77 = .ok (.laload, 1) := by decide +kernel
theorem dX12_owner_78 : decode cX12_owner 78 = .ok (.iload 7, 2) := by decide +kernel
theorem dX12_owner_80 : decode cX12_owner 80 = .ok (.invokestatic 86, 3) := by decide +kernel
theorem dX12_owner_83 : decode cX12_owner 83 = .ok (.ifCond .ne 6, 3) := by decide +kernel
theorem dX12_owner_86 : decode cX12_owner 86 = .ok (.goto 110, 3) := by decide +kernel
theorem dX12_owner_89 : decode cX12_owner 89 = .ok (.iload_n 2, 1) := by decide +kernel
theorem dX12_owner_90 : decode cX12_owner 90 = .ok (.iload 7, 2) := by decide +kernel
theorem dX12_owner_92 : decode cX12_owner 92 = .ok (.bipush 8, 2) := by decide +kernel
theorem dX12_owner_94 : decode cX12_owner 94 = .ok (.irem, 1) := by decide +kernel
theorem dX12_owner_95 : decode cX12_owner 95 = .ok (.isub, 1) := by decide +kernel
theorem dX12_owner_96 : decode cX12_owner 96 = .ok (.istore 8, 2) := by decide +kernel
theorem dX12_owner_98 : decode cX12_owner 98 = .ok (.iload_n 3, 1) := by decide +kernel
theorem dX12_owner_99 : decode cX12_owner 99 = .ok (.iload 7, 2) := by decide +kernel
theorem dX12_owner_101 : decode cX12_owner 101 = .ok (.bipush 8, 2) := by decide +kernel
theorem dX12_owner_103 : decode cX12_owner 103 = .ok (.idiv, 1) := by decide +kernel
theorem dX12_owner_104 : decode cX12_owner 104 = .ok (.isub, 1) := by decide +kernel
theorem dX12_owner_105 : decode cX12_owner 105 = .ok (.istore 9, 2) := by decide +kernel
theorem dX12_owner_107 : decode cX12_owner 107 = .ok (.iload 8, 2) := by decide +kernel
theorem dX12_owner_109 : decode cX12_owner 109 = .ok (.aload_n 0, 1) := by decide +kernel
theorem dX12_owner_110 : decode cX12_owner 110 = .ok (.getfield 323, 3) := by decide +kernel
theorem dX12_owner_113 : decode cX12_owner 113 = .ok (.imul, 1) := by decide +kernel
theorem dX12_owner_114 : decode cX12_owner 114 = .ok (.iload 9, 2) := by decide +kernel
theorem dX12_owner_116 : decode cX12_owner 116 = .ok (.aload_n 0, 1) := by decide +kernel
theorem dX12_owner_117 : decode cX12_owner 117 = .ok (.getfield 320, 3) := by decide +kernel
theorem dX12_owner_120 : decode cX12_owner 120 = .ok (.imul, 1) := by decide +kernel
theorem dX12_owner_121 : decode cX12_owner 121 = .ok (.isub, 1) := by decide +kernel
theorem dX12_owner_122 : decode cX12_owner 122 = .ok (.istore 10, 2) := by decide +kernel
theorem dX12_owner_124 : decode cX12_owner 124 = .ok (.aload_n 0, 1) := by decide +kernel
theorem dX12_owner_125 : decode cX12_owner 125 = .ok (.getfield 314, 3) := by decide +kernel
theorem dX12_owner_128 : decode cX12_owner 128 = .ok (.iload 9, 2) := by decide +kernel
theorem dX12_owner_130 : decode cX12_owner 130 = .ok (.imul, 1) := by decide +kernel
theorem dX12_owner_131 : decode cX12_owner 131 = .ok (.aload_n 0, 1) := by decide +kernel
theorem dX12_owner_132 : decode cX12_owner 132 = .ok (.getfield 317, 3) := by decide +kernel
theorem dX12_owner_135 : decode cX12_owner 135 = .ok (.iload 8, 2) := by decide +kernel
theorem dX12_owner_137 : decode cX12_owner 137 = .ok (.imul, 1) := by decide +kernel
theorem dX12_owner_138 : decode cX12_owner 138 = .ok (.isub, 1) := by decide +kernel
theorem dX12_owner_139 : decode cX12_owner 139 = .ok (.istore 11, 2) := by decide +kernel
theorem dX12_owner_141 : decode cX12_owner 141 = .ok (.iload 10, 2) := by decide +kernel
theorem dX12_owner_143 : decode cX12_owner 143 = .ok (.iload 6, 2) := by decide +kernel
theorem dX12_owner_145 : decode cX12_owner 145 = .ok (.irem, 1) := by decide +kernel
theorem dX12_owner_146 : decode cX12_owner 146 = .ok (.ifCond .ne 50, 3) := by decide +kernel
theorem dX12_owner_149 : decode cX12_owner 149 = .ok (.iload 11, 2) := by decide +kernel
theorem dX12_owner_151 : decode cX12_owner 151 = .ok (.iload 6, 2) := by decide +kernel
theorem dX12_owner_153 : decode cX12_owner 153 = .ok (.irem, 1) := by decide +kernel
theorem dX12_owner_154 : decode cX12_owner 154 = .ok (.ifCond .eq 6, 3) := by decide +kernel
theorem dX12_owner_157 : decode cX12_owner 157 = .ok (.goto 39, 3) := by decide +kernel
theorem dX12_owner_160 : decode cX12_owner 160 = .ok (.iload 4, 2) := by decide +kernel
theorem dX12_owner_162 : decode cX12_owner 162 = .ok (.ifCond .ne 14, 3) := by decide +kernel
theorem dX12_owner_165 : decode cX12_owner 165 = .ok (.bipush 100, 2) := by decide +kernel
theorem dX12_owner_167 : decode cX12_owner 167 = .ok (.iload 10, 2) := by decide +kernel
theorem dX12_owner_169 : decode cX12_owner 169 = .ok (.iload 6, 2) := by decide +kernel
theorem dX12_owner_171 : decode cX12_owner 171 = .ok (.idiv, 1) := by decide +kernel
theorem dX12_owner_172 : decode cX12_owner 172 = .ok (.iadd, 1) := by decide +kernel
theorem dX12_owner_173 : decode cX12_owner 173 = .ok (.goto 22, 3) := by decide +kernel
theorem dX12_owner_176 : decode cX12_owner 176 = .ok (.iload 4, 2) := by decide +kernel
theorem dX12_owner_178 : decode cX12_owner 178 = .ok (.iconst 1, 1) := by decide +kernel
theorem dX12_owner_179 : decode cX12_owner 179 = .ok (.if_icmp .ne 14, 3) := by decide +kernel
theorem dX12_owner_182 : decode cX12_owner 182 = .ok (.bipush 100, 2) := by decide +kernel
theorem dX12_owner_184 : decode cX12_owner 184 = .ok (.iload 11, 2) := by decide +kernel
theorem dX12_owner_186 : decode cX12_owner 186 = .ok (.iload 6, 2) := by decide +kernel
theorem dX12_owner_188 : decode cX12_owner 188 = .ok (.idiv, 1) := by decide +kernel
theorem dX12_owner_189 : decode cX12_owner 189 = .ok (.iadd, 1) := by decide +kernel
theorem dX12_owner_190 : decode cX12_owner 190 = .ok (.goto 5, 3) := by decide +kernel
theorem dX12_owner_193 : decode cX12_owner 193 = .ok (.iload 7, 2) := by decide +kernel
theorem dX12_owner_195 : decode cX12_owner 195 = .ok (.ireturn, 1) := by decide +kernel
theorem dX12_owner_196 : decode cX12_owner 196 = .ok (.iinc 7 1, 3) := by decide +kernel
theorem dX12_owner_199 : decode cX12_owner 199 = .ok (.goto (-134), 3) := by decide +kernel
theorem dX12_owner_202 : decode cX12_owner 202 = .ok (.iconst (-1), 1) := by decide +kernel
theorem dX12_owner_203 : decode cX12_owner 203 = .ok (.ireturn, 1) := by decide +kernel
theorem dX12_fill_0 : decode cX12_fill 0 = .ok (.iload_n 1, 1) := by decide +kernel
theorem dX12_fill_1 : decode cX12_fill 1 = .ok (.iconst 1, 1) := by decide +kernel
theorem dX12_fill_2 : decode cX12_fill 2 = .ok (.bipush 6, 2) := by decide +kernel
theorem dX12_fill_4 : decode cX12_fill 4 = .ok (.invokestatic 82, 3) := by decide +kernel
theorem dX12_fill_7 : decode cX12_fill 7 = .ok (.ifCond .eq 24, 3) := by decide +kernel
theorem dX12_fill_10 : decode cX12_fill 10 = .ok (.iload_n 2, 1) := by decide +kernel
theorem dX12_fill_11 : decode cX12_fill 11 = .ok (.iconst 1, 1) := by decide +kernel
theorem dX12_fill_12 : decode cX12_fill 12 = .ok (.bipush 6, 2) := by decide +kernel
theorem dX12_fill_14 : decode cX12_fill 14 = .ok (.invokestatic 82, 3) := by decide +kernel
theorem dX12_fill_17 : decode cX12_fill 17 = .ok (.ifCond .eq 14, 3) := by decide +kernel
theorem dX12_fill_20 : decode cX12_fill 20 = .ok (.iload_n 3, 1) := by decide +kernel
theorem dX12_fill_21 : decode cX12_fill 21 = .ok (.iconst 1, 1) := by decide +kernel
theorem dX12_fill_22 : decode cX12_fill 22 = .ok (.sipush 255, 3) := by decide +kernel
theorem dX12_fill_25 : decode cX12_fill 25 = .ok (.invokestatic 82, 3) := by decide +kernel
theorem dX12_fill_28 : decode cX12_fill 28 = .ok (.ifCond .ne 5, 3) := by decide +kernel
theorem dX12_fill_31 : decode cX12_fill 31 = .ok (.iconst (-1), 1) := by decide +kernel
theorem dX12_fill_32 : decode cX12_fill 32 = .ok (.ireturn, 1) := by decide +kernel
theorem dX12_fill_33 : decode cX12_fill 33 = .ok (.aload_n 0, 1) := by decide +kernel
theorem dX12_fill_34 : decode cX12_fill 34 = .ok (.iconst 0, 1) := by decide +kernel
theorem dX12_fill_35 : decode cX12_fill 35 = .ok (.putfield 333, 3) := by decide +kernel
theorem dX12_fill_38 : decode cX12_fill 38 = .ok (.iconst 0, 1) := by decide +kernel
theorem dX12_fill_39 : decode cX12_fill 39 = .ok (.istore 5, 2) := by decide +kernel
theorem dX12_fill_41 : decode cX12_fill 41 = .ok (.iload 5, 2) := by decide +kernel
theorem dX12_fill_43 : decode cX12_fill 43 = .ok (.bipush 8, 2) := by decide +kernel
theorem dX12_fill_45 : decode cX12_fill 45 = .ok (.if_icmp .ge 90, 3) := by decide +kernel
theorem dX12_fill_48 : decode cX12_fill 48 = .ok (.iload_n 3, 1) := by decide +kernel
theorem dX12_fill_49 : decode cX12_fill 49 = .ok (.i2l, 1) := by decide +kernel
theorem dX12_fill_50 : decode cX12_fill 50 = .ok (.iload 5, 2) := by decide +kernel
theorem dX12_fill_52 : decode cX12_fill 52 = .ok (.invokestatic 86, 3) := by decide +kernel
theorem dX12_fill_55 : decode cX12_fill 55 = .ok (.ifCond .ne 6, 3) := by decide +kernel
theorem dX12_fill_58 : decode cX12_fill 58 = .ok (.goto 71, 3) := by decide +kernel
theorem dX12_fill_61 : decode cX12_fill 61 = .ok (.aload_n 0, 1) := by decide +kernel
theorem dX12_fill_62 : decode cX12_fill 62 = .ok (.getfield 7, 3) := by decide +kernel
theorem dX12_fill_65 : decode cX12_fill 65 = .ok (.iload 5, 2) := by decide +kernel
theorem dX12_fill_67 : decode cX12_fill 67 = .ok (.laload, 1) := by decide +kernel
theorem dX12_fill_68 : decode cX12_fill 68 = .ok (.lconst 0, 1) := by decide +kernel
theorem dX12_fill_69 : decode cX12_fill 69 = .ok (.lcmp, 1) := by decide +kernel
theorem dX12_fill_70 : decode cX12_fill 70 = .ok (.ifCond .ne 6, 3) := by decide +kernel
theorem dX12_fill_73 : decode cX12_fill 73 = .ok (.bipush (-2), 2) := by decide +kernel
theorem dX12_fill_75 : decode cX12_fill 75 = .ok (.ireturn, 1) := by decide +kernel
theorem dX12_fill_76 : decode cX12_fill 76 = .ok (.iconst 0, 1) := by decide +kernel
theorem dX12_fill_77 : decode cX12_fill 77 = .ok (.istore 6, 2) := by decide +kernel
theorem dX12_fill_79 : decode cX12_fill 79 = .ok (.iload 6, 2) := by decide +kernel
theorem dX12_fill_81 : decode cX12_fill 81 = .ok (.iload 4, 2) := by decide +kernel
theorem dX12_fill_83 : decode cX12_fill 83 = .ok (.ifCond .eq 8, 3) := by decide +kernel
theorem dX12_fill_86 : decode cX12_fill 86 = .ok (.bipush 8, 2) := by decide +kernel
theorem dX12_fill_88 : decode cX12_fill 88 = .ok (.goto 4, 3) := by decide +kernel
theorem dX12_fill_91 : decode cX12_fill 91 = .ok (.iconst 1, 1) := by decide +kernel
theorem dX12_fill_92 : decode cX12_fill 92 = .ok (.if_icmp .ge 37, 3) := by decide +kernel
theorem dX12_fill_95 : decode cX12_fill 95 = .ok (.aload_n 0, 1) := by decide +kernel
theorem dX12_fill_96 : decode cX12_fill 96 = .ok (.aload_n 0, 1) := by decide +kernel
theorem dX12_fill_97 : decode cX12_fill 97 = .ok (.getfield 58, 3) := by decide +kernel
theorem dX12_fill_100 : decode cX12_fill 100 = .ok (.iconst 0, 1) := by decide +kernel
theorem dX12_fill_101 : decode cX12_fill 101 = .ok (.aload_n 0, 1) := by decide +kernel
theorem dX12_fill_102 : decode cX12_fill 102 = .ok (.getfield 333, 3) := by decide +kernel
theorem dX12_fill_105 : decode cX12_fill 105 = .ok (.aload_n 0, 1) := by decide +kernel
theorem dX12_fill_106 : decode cX12_fill 106 = .ok (.getfield 7, 3) := by decide +kernel
theorem dX12_fill_109 : decode cX12_fill 109 = .ok (.iload 5, 2) := by decide +kernel
theorem dX12_fill_111 : decode cX12_fill 111 = .ok (.laload, 1) := by decide +kernel
theorem dX12_fill_112 : decode cX12_fill 112 = .ok (.iload 6, 2) := by decide +kernel
theorem dX12_fill_114 : decode cX12_fill 114 = .ok (.invokestatic 159, 3) := by decide +kernel
theorem dX12_fill_117 : decode cX12_fill 117 = .ok (.invokestatic 232, 3) := by decide +kernel
theorem dX12_fill_120 : decode cX12_fill 120 = .ok (.putfield 333, 3) := by decide +kernel
theorem dX12_fill_123 : decode cX12_fill 123 = .ok (.iinc 6 1, 3) := by decide +kernel
theorem dX12_fill_126 : decode cX12_fill 126 = .ok (.goto (-47), 3) := by decide +kernel
theorem dX12_fill_129 : decode cX12_fill 129 = .ok (.iinc 5 1, 3) := by decide +kernel
theorem dX12_fill_132 : decode cX12_fill 132 = .ok (.goto (-91), 3) := by decide +kernel
theorem dX12_fill_135 : decode cX12_fill 135 = .ok (.lconst 0, 1) := by decide +kernel
theorem dX12_fill_136 : decode cX12_fill 136 = .ok (.lstore 5, 2) := by decide +kernel
theorem dX12_fill_138 : decode cX12_fill 138 = .ok (.iconst 0, 1) := by decide +kernel
theorem dX12_fill_139 : decode cX12_fill 139 = .ok (.istore 7, 2) := by decide +kernel
theorem dX12_fill_141 : decode cX12_fill 141 = .ok (.iload 7, 2) := by decide +kernel
theorem dX12_fill_143 : decode cX12_fill 143 = .ok (.iload_n 2, 1) := by decide +kernel
theorem dX12_fill_144 : decode cX12_fill 144 = .ok (.if_icmp .ge 36, 3) := by decide +kernel
theorem dX12_fill_147 : decode cX12_fill 147 = .ok (.iconst 0, 1) := by decide +kernel
theorem dX12_fill_148 : decode cX12_fill 148 = .ok (.istore 8, 2) := by decide +kernel
theorem dX12_fill_150 : decode cX12_fill 150 = .ok (.iload 8, 2) := by decide +kernel
theorem dX12_fill_152 : decode cX12_fill 152 = .ok (.iload_n 1, 1) := by decide +kernel
theorem dX12_fill_153 : decode cX12_fill 153 = .ok (.if_icmp .ge 21, 3) := by decide +kernel
theorem dX12_fill_156 : decode cX12_fill 156 = .ok (.lload 5, 2) := by decide +kernel
theorem dX12_fill_158 : decode cX12_fill 158 = .ok (.iload 8, 2) := by decide +kernel
theorem dX12_fill_160 : decode cX12_fill 160 = .ok (.iload 7, 2) := by decide +kernel
theorem dX12_fill_162 : decode cX12_fill 162 = .ok (.invokestatic 117, 3) := by decide +kernel
theorem dX12_fill_165 : decode cX12_fill 165 = .ok (.lor, 1) := by decide +kernel
theorem dX12_fill_166 : decode cX12_fill 166 = .ok (.lstore 5, 2) := by decide +kernel
theorem dX12_fill_168 : decode cX12_fill 168 = .ok (.iinc 8 1, 3) := by decide +kernel
theorem dX12_fill_171 : decode cX12_fill 171 = .ok (.goto (-21), 3) := by decide +kernel
theorem dX12_fill_174 : decode cX12_fill 174 = .ok (.iinc 7 1, 3) := by decide +kernel
theorem dX12_fill_177 : decode cX12_fill 177 = .ok (.goto (-36), 3) := by decide +kernel
theorem dX12_fill_180 : decode cX12_fill 180 = .ok (.iconst 0, 1) := by decide +kernel
theorem dX12_fill_181 : decode cX12_fill 181 = .ok (.istore 7, 2) := by decide +kernel
theorem dX12_fill_183 : decode cX12_fill 183 = .ok (.iconst 0, 1) := by decide +kernel
theorem dX12_fill_184 : decode cX12_fill 184 = .ok (.istore 8, 2) := by decide +kernel
theorem dX12_fill_186 : decode cX12_fill 186 = .ok (.iconst 0, 1) := by decide +kernel
theorem dX12_fill_187 : decode cX12_fill 187 = .ok (.istore 9, 2) := by decide +kernel
theorem dX12_fill_189 : decode cX12_fill 189 = .ok (.aload_n 0, 1) := by decide +kernel
theorem dX12_fill_190 : decode cX12_fill 190 = .ok (.getfield 61, 3) := by decide +kernel
theorem dX12_fill_193 : decode cX12_fill 193 = .ok (.iconst 0, 1) := by decide +kernel
theorem dX12_fill_194 : decode cX12_fill 194 = .ok (.lconst 0, 1) := by decide +kernel
theorem dX12_fill_195 : decode cX12_fill 195 = .ok (.lastore, 1) := by decide +kernel
theorem dX12_fill_196 : decode cX12_fill 196 = .ok (.aload_n 0, 1) := by decide +kernel
theorem dX12_fill_197 : decode cX12_fill 197 = .ok (.getfield 64, 3) := by decide +kernel
theorem dX12_fill_200 : decode cX12_fill 200 = .ok (.iconst 0, 1) := by decide +kernel
theorem dX12_fill_201 : decode cX12_fill 201 = .ok (.iconst 0, 1) := by decide +kernel
theorem dX12_fill_202 : decode cX12_fill 202 = .ok (.iastore, 1) := by decide +kernel
theorem dX12_fill_203 : decode cX12_fill 203 = .ok (.iload 9, 2) := by decide +kernel
theorem dX12_fill_205 : decode cX12_fill 205 = .ok (.ifCond .lt 212, 3) := by decide +kernel
theorem dX12_fill_208 : decode cX12_fill 208 = .ok (.aload_n 0, 1) := by decide +kernel
theorem dX12_fill_209 : decode cX12_fill 209 = .ok (.getfield 64, 3) := by decide +kernel
theorem dX12_fill_212 : decode cX12_fill 212 = .ok (.iload 9, 2) := by decide +kernel
theorem dX12_fill_214 : decode cX12_fill 214 = .ok (.iaload, 1) := by decide +kernel
theorem dX12_fill_215 : decode cX12_fill 215 = .ok (.aload_n 0, 1) := by decide +kernel
theorem dX12_fill_216 : decode cX12_fill 216 = .ok (.getfield 333, 3) := by decide +kernel
theorem dX12_fill_219 : decode cX12_fill 219 = .ok (.if_icmp .ne 12, 3) := by decide +kernel
theorem dX12_fill_222 : decode cX12_fill 222 = .ok (.iload 9, 2) := by decide +kernel
theorem dX12_fill_224 : decode cX12_fill 224 = .ok (.iconst 1, 1) := by decide +kernel
theorem dX12_fill_225 : decode cX12_fill 225 = .ok (.isub, 1) := by decide +kernel
theorem dX12_fill_226 : decode cX12_fill 226 = .ok (.istore 9, 2) := by decide +kernel
theorem dX12_fill_228 : decode cX12_fill 228 = .ok (.goto (-25), 3) := by decide +kernel
theorem dX12_fill_231 : decode cX12_fill 231 = .ok (.iload 8, 2) := by decide +kernel
theorem dX12_fill_233 : decode cX12_fill 233 = .ok (.sipush 20000, 3) := by decide +kernel
theorem dX12_fill_236 : decode cX12_fill 236 = .ok (.if_icmp .ne 6, 3) := by decide +kernel
theorem dX12_fill_239 : decode cX12_fill 239 = .ok (.bipush (-3), 2) := by decide +kernel
theorem dX12_fill_241 : decode cX12_fill 241 = .ok (.ireturn, 1) := by decide +kernel
theorem dX12_fill_242 : decode cX12_fill 242 = .ok (.iload 8, 2) := by decide +kernel
theorem dX12_fill_244 : decode cX12_fill 244 = .ok (.iconst 1, 1) := by decide +kernel
theorem dX12_fill_245 : decode cX12_fill 245 = .ok (.iadd, 1) := by decide +kernel
theorem dX12_fill_246 : decode cX12_fill 246 = .ok (.istore 8, 2) := by decide +kernel
theorem dX12_fill_248 : decode cX12_fill 248 = .ok (.aload_n 0, 1) := by decide +kernel
theorem dX12_fill_249 : decode cX12_fill 249 = .ok (.getfield 58, 3) := by decide +kernel
theorem dX12_fill_252 : decode cX12_fill 252 = .ok (.aload_n 0, 1) := by decide +kernel
theorem dX12_fill_253 : decode cX12_fill 253 = .ok (.getfield 64, 3) := by decide +kernel
theorem dX12_fill_256 : decode cX12_fill 256 = .ok (.iload 9, 2) := by decide +kernel
theorem dX12_fill_258 : decode cX12_fill 258 = .ok (.iaload, 1) := by decide +kernel
theorem dX12_fill_259 : decode cX12_fill 259 = .ok (.laload, 1) := by decide +kernel
theorem dX12_fill_260 : decode cX12_fill 260 = .ok (.lstore 10, 2) := by decide +kernel
theorem dX12_fill_262 : decode cX12_fill 262 = .ok (.aload_n 0, 1) := by decide +kernel
theorem dX12_fill_263 : decode cX12_fill 263 = .ok (.getfield 64, 3) := by decide +kernel
theorem dX12_fill_266 : decode cX12_fill 266 = .ok (.iload 9, 2) := by decide +kernel
theorem dX12_fill_268 : decode cX12_fill 268 = .ok (.aload_n 0, 1) := by decide +kernel
theorem dX12_fill_269 : decode cX12_fill 269 = .ok (.getfield 64, 3) := by decide +kernel
theorem dX12_fill_272 : decode cX12_fill 272 = .ok (.iload 9, 2) := by decide +kernel
theorem dX12_fill_274 : decode cX12_fill 274 = .ok (.iaload, 1) := by decide +kernel
theorem dX12_fill_275 : decode cX12_fill 275 = .ok (.iconst 1, 1) := by decide +kernel
theorem dX12_fill_276 : decode cX12_fill 276 = .ok (.iadd, 1) := by decide +kernel
theorem dX12_fill_277 : decode cX12_fill 277 = .ok (.iastore, 1) := by decide +kernel
theorem dX12_fill_278 : decode cX12_fill 278 = .ok (.lload 5, 2) := by decide +kernel
theorem dX12_fill_280 : decode cX12_fill 280 = .ok (.aload_n 0, 1) := by decide +kernel
theorem dX12_fill_281 : decode cX12_fill 281 = .ok (.getfield 61, 3) := by decide +kernel
theorem dX12_fill_284 : decode cX12_fill 284 = .ok (.iload 9, 2) := by decide +kernel
theorem dX12_fill_286 : decode cX12_fill 286 = .ok (.laload, 1) := by decide +kernel
theorem dX12_fill_287 : decode cX12_fill 287 = .ok (.ldc2_w 98, 3) := by decide +kernel
theorem dX12_fill_290 : decode cX12_fill 290 = .ok (.lxor, 1) := by decide +kernel
theorem dX12_fill_291 : decode cX12_fill 291 = .ok (.land, 1) := by decide +kernel
theorem dX12_fill_292 : decode cX12_fill 292 = .ok (.lstore 12, 2) := by decide +kernel
theorem dX12_fill_294 : decode cX12_fill 294 = .ok (.lload 12, 2) := by decide +kernel
theorem dX12_fill_296 : decode cX12_fill 296 = .ok (.invokestatic 270, 3) := by decide +kernel
theorem dX12_fill_299 : decode cX12_fill 299 = .ok (.istore 14, 2) := by decide +kernel
theorem dX12_fill_301 : decode cX12_fill 301 = .ok (.lload 10, 2) := by decide +kernel
theorem dX12_fill_303 : decode cX12_fill 303 = .ok (.ldc2_w 90, 3) := by decide +kernel
theorem dX12_fill_306 : decode cX12_fill 306 = .ok (.land, 1) := by decide +kernel
theorem dX12_fill_307 : decode cX12_fill 307 = .ok (.invokestatic 270, 3) := by decide +kernel
theorem dX12_fill_310 : decode cX12_fill 310 = .ok (.istore 15, 2) := by decide +kernel
theorem dX12_fill_312 : decode cX12_fill 312 = .ok (.lload 10, 2) := by decide +kernel
theorem dX12_fill_314 : decode cX12_fill 314 = .ok (.iload 14, 2) := by decide +kernel
theorem dX12_fill_316 : decode cX12_fill 316 = .ok (.bipush 8, 2) := by decide +kernel
theorem dX12_fill_318 : decode cX12_fill 318 = .ok (.irem, 1) := by decide +kernel
theorem dX12_fill_319 : decode cX12_fill 319 = .ok (.iload 15, 2) := by decide +kernel
theorem dX12_fill_321 : decode cX12_fill 321 = .ok (.isub, 1) := by decide +kernel
theorem dX12_fill_322 : decode cX12_fill 322 = .ok (.iload 14, 2) := by decide +kernel
theorem dX12_fill_324 : decode cX12_fill 324 = .ok (.bipush 8, 2) := by decide +kernel
theorem dX12_fill_326 : decode cX12_fill 326 = .ok (.idiv, 1) := by decide +kernel
theorem dX12_fill_327 : decode cX12_fill 327 = .ok (.invokestatic 336, 3) := by decide +kernel
theorem dX12_fill_330 : decode cX12_fill 330 = .ok (.lstore 16, 2) := by decide +kernel
theorem dX12_fill_332 : decode cX12_fill 332 = .ok (.lload 16, 2) := by decide +kernel
theorem dX12_fill_334 : decode cX12_fill 334 = .ok (.lconst 0, 1) := by decide +kernel
theorem dX12_fill_335 : decode cX12_fill 335 = .ok (.lcmp, 1) := by decide +kernel
theorem dX12_fill_336 : decode cX12_fill 336 = .ok (.ifCond .eq (-133), 3) := by decide +kernel
theorem dX12_fill_339 : decode cX12_fill 339 = .ok (.lload 16, 2) := by decide +kernel
theorem dX12_fill_341 : decode cX12_fill 341 = .ok (.lload 12, 2) := by decide +kernel
theorem dX12_fill_343 : decode cX12_fill 343 = .ok (.ldc2_w 98, 3) := by decide +kernel
theorem dX12_fill_346 : decode cX12_fill 346 = .ok (.lxor, 1) := by decide +kernel
theorem dX12_fill_347 : decode cX12_fill 347 = .ok (.land, 1) := by decide +kernel
theorem dX12_fill_348 : decode cX12_fill 348 = .ok (.lconst 0, 1) := by decide +kernel
theorem dX12_fill_349 : decode cX12_fill 349 = .ok (.lcmp, 1) := by decide +kernel
theorem dX12_fill_350 : decode cX12_fill 350 = .ok (.ifCond .eq 6, 3) := by decide +kernel
theorem dX12_fill_353 : decode cX12_fill 353 = .ok (.goto (-150), 3) := by decide +kernel
theorem dX12_fill_356 : decode cX12_fill 356 = .ok (.lload 16, 2) := by decide +kernel
theorem dX12_fill_358 : decode cX12_fill 358 = .ok (.aload_n 0, 1) := by decide +kernel
theorem dX12_fill_359 : decode cX12_fill 359 = .ok (.getfield 61, 3) := by decide +kernel
theorem dX12_fill_362 : decode cX12_fill 362 = .ok (.iload 9, 2) := by decide +kernel
theorem dX12_fill_364 : decode cX12_fill 364 = .ok (.laload, 1) := by decide +kernel
theorem dX12_fill_365 : decode cX12_fill 365 = .ok (.lor, 1) := by decide +kernel
theorem dX12_fill_366 : decode cX12_fill 366 = .ok (.lload 5, 2) := by decide +kernel
theorem dX12_fill_368 : decode cX12_fill 368 = .ok (.lcmp, 1) := by decide +kernel
theorem dX12_fill_369 : decode cX12_fill 369 = .ok (.ifCond .ne 12, 3) := by decide +kernel
theorem dX12_fill_372 : decode cX12_fill 372 = .ok (.iload 7, 2) := by decide +kernel
theorem dX12_fill_374 : decode cX12_fill 374 = .ok (.iconst 1, 1) := by decide +kernel
theorem dX12_fill_375 : decode cX12_fill 375 = .ok (.iadd, 1) := by decide +kernel
theorem dX12_fill_376 : decode cX12_fill 376 = .ok (.istore 7, 2) := by decide +kernel
theorem dX12_fill_378 : decode cX12_fill 378 = .ok (.goto (-175), 3) := by decide +kernel
theorem dX12_fill_381 : decode cX12_fill 381 = .ok (.iload 9, 2) := by decide +kernel
theorem dX12_fill_383 : decode cX12_fill 383 = .ok (.iconst 1, 1) := by decide +kernel
theorem dX12_fill_384 : decode cX12_fill 384 = .ok (.iadd, 1) := by decide +kernel
theorem dX12_fill_385 : decode cX12_fill 385 = .ok (.istore 9, 2) := by decide +kernel
theorem dX12_fill_387 : decode cX12_fill 387 = .ok (.aload_n 0, 1) := by decide +kernel
theorem dX12_fill_388 : decode cX12_fill 388 = .ok (.getfield 61, 3) := by decide +kernel
theorem dX12_fill_391 : decode cX12_fill 391 = .ok (.iload 9, 2) := by decide +kernel
theorem dX12_fill_393 : decode cX12_fill 393 = .ok (.aload_n 0, 1) := by decide +kernel
theorem dX12_fill_394 : decode cX12_fill 394 = .ok (.getfield 61, 3) := by decide +kernel
theorem dX12_fill_397 : decode cX12_fill 397 = .ok (.iload 9, 2) := by decide +kernel
theorem dX12_fill_399 : decode cX12_fill 399 = .ok (.iconst 1, 1) := by decide +kernel
theorem dX12_fill_400 : decode cX12_fill 400 = .ok (.isub, 1) := by decide +kernel
theorem dX12_fill_401 : decode cX12_fill 401 = .ok (.laload, 1) := by decide +kernel
theorem dX12_fill_402 : decode cX12_fill 402 = .ok (.lload 16, 2) := by decide +kernel
theorem dX12_fill_404 : decode cX12_fill 404 = .ok (.lor, 1) := by decide +kernel
theorem dX12_fill_405 : decode cX12_fill 405 = .ok (.lastore, 1) := by decide +kernel
theorem dX12_fill_406 : decode cX12_fill 406 = .ok (.aload_n 0, 1) := by decide +kernel
theorem dX12_fill_407 : decode cX12_fill 407 = .ok (.getfield 64, 3) := by decide +kernel
theorem dX12_fill_410 : decode cX12_fill 410 = .ok (.iload 9, 2) := by decide +kernel
theorem dX12_fill_412 : decode cX12_fill 412 = .ok (.iconst 0, 1) := by decide +kernel
theorem dX12_fill_413 : decode cX12_fill 413 = .ok (.iastore, 1) := by decide +kernel
theorem dX12_fill_414 : decode cX12_fill 414 = .ok (.goto (-211), 3) := by decide +kernel
theorem dX12_fill_417 : decode cX12_fill 417 = .ok (.iload 7, 2) := by decide +kernel
theorem dX12_fill_419 : decode cX12_fill 419 = .ok (.ireturn, 1) := by decide +kernel
theorem dX12_putAt_0 : decode cX12_putAt 0 = .ok (.iload_n 2, 1) := by decide +kernel
theorem dX12_putAt_1 : decode cX12_putAt 1 = .ok (.ifCond .lt 29, 3) := by decide +kernel
theorem dX12_putAt_4 : decode cX12_putAt 4 = .ok (.iload_n 3, 1) := by decide +kernel
theorem dX12_putAt_5 : decode cX12_putAt 5 = .ok (.ifCond .lt 25, 3) := by decide +kernel
theorem dX12_putAt_8 : decode cX12_putAt 8 = .ok (.iload_n 2, 1) := by decide +kernel
theorem dX12_putAt_9 : decode cX12_putAt 9 = .ok (.lload_n 0, 1) := by decide +kernel
theorem dX12_putAt_10 : decode cX12_putAt 10 = .ok (.invokestatic 163, 3) := by decide +kernel
theorem dX12_putAt_13 : decode cX12_putAt 13 = .ok (.iadd, 1) := by decide +kernel
theorem dX12_putAt_14 : decode cX12_putAt 14 = .ok (.bipush 7, 2) := by decide +kernel
theorem dX12_putAt_16 : decode cX12_putAt 16 = .ok (.if_icmp .gt 14, 3) := by decide +kernel
theorem dX12_putAt_19 : decode cX12_putAt 19 = .ok (.iload_n 3, 1) := by decide +kernel
theorem dX12_putAt_20 : decode cX12_putAt 20 = .ok (.lload_n 0, 1) := by decide +kernel
theorem dX12_putAt_21 : decode cX12_putAt 21 = .ok (.invokestatic 166, 3) := by decide +kernel
theorem dX12_putAt_24 : decode cX12_putAt 24 = .ok (.iadd, 1) := by decide +kernel
theorem dX12_putAt_25 : decode cX12_putAt 25 = .ok (.bipush 7, 2) := by decide +kernel
theorem dX12_putAt_27 : decode cX12_putAt 27 = .ok (.if_icmp .le 5, 3) := by decide +kernel
theorem dX12_putAt_30 : decode cX12_putAt 30 = .ok (.lconst 0, 1) := by decide +kernel
theorem dX12_putAt_31 : decode cX12_putAt 31 = .ok (.lreturn, 1) := by decide +kernel
theorem dX12_putAt_32 : decode cX12_putAt 32 = .ok (.lload_n 0, 1) := by decide +kernel
theorem dX12_putAt_33 : decode cX12_putAt 33 = .ok (.bipush 8, 2) := by decide +kernel
theorem dX12_putAt_35 : decode cX12_putAt 35 = .ok (.iload_n 3, 1) := by decide +kernel
theorem dX12_putAt_36 : decode cX12_putAt 36 = .ok (.imul, 1) := by decide +kernel
theorem dX12_putAt_37 : decode cX12_putAt 37 = .ok (.iload_n 2, 1) := by decide +kernel
theorem dX12_putAt_38 : decode cX12_putAt 38 = .ok (.iadd, 1) := by decide +kernel
theorem dX12_putAt_39 : decode cX12_putAt 39 = .ok (.lshl, 1) := by decide +kernel
theorem dX12_putAt_40 : decode cX12_putAt 40 = .ok (.lreturn, 1) := by decide +kernel
theorem dX12_laysCells_0 : decode cX12_laysCells 0 = .ok (.aload_n 0, 1) := by decide +kernel
theorem dX12_laysCells_1 : decode cX12_laysCells 1 = .ok (.iconst 0, 1) := by decide +kernel
theorem dX12_laysCells_2 : decode cX12_laysCells 2 = .ok (.putfield 339, 3) := by decide +kernel
theorem dX12_laysCells_5 : decode cX12_laysCells 5 = .ok (.iconst 0, 1) := by decide +kernel
theorem dX12_laysCells_6 : decode cX12_laysCells 6 = .ok (.istore_n 3, 1) := by decide +kernel
theorem dX12_laysCells_7 : decode cX12_laysCells 7 = .ok (.iload_n 3, 1) := by decide +kernel
theorem dX12_laysCells_8 : decode cX12_laysCells 8 = .ok (.bipush 64, 2) := by decide +kernel
theorem dX12_laysCells_10 : decode cX12_laysCells 10 = .ok (.if_icmp .ge 40, 3) := by decide +kernel
theorem dX12_laysCells_13 : decode cX12_laysCells 13 = .ok (.lload_n 1, 1) := by decide +kernel
theorem dX12_laysCells_14 : decode cX12_laysCells 14 = .ok (.iload_n 3, 1) := by decide +kernel
theorem dX12_laysCells_15 : decode cX12_laysCells 15 = .ok (.invokestatic 86, 3) := by decide +kernel
theorem dX12_laysCells_18 : decode cX12_laysCells 18 = .ok (.ifCond .ne 6, 3) := by decide +kernel
theorem dX12_laysCells_21 : decode cX12_laysCells 21 = .ok (.goto 23, 3) := by decide +kernel
theorem dX12_laysCells_24 : decode cX12_laysCells 24 = .ok (.aload_n 0, 1) := by decide +kernel
theorem dX12_laysCells_25 : decode cX12_laysCells 25 = .ok (.getfield 67, 3) := by decide +kernel
theorem dX12_laysCells_28 : decode cX12_laysCells 28 = .ok (.aload_n 0, 1) := by decide +kernel
theorem dX12_laysCells_29 : decode cX12_laysCells 29 = .ok (.getfield 339, 3) := by decide +kernel
theorem dX12_laysCells_32 : decode cX12_laysCells 32 = .ok (.iload_n 3, 1) := by decide +kernel
theorem dX12_laysCells_33 : decode cX12_laysCells 33 = .ok (.iastore, 1) := by decide +kernel
theorem dX12_laysCells_34 : decode cX12_laysCells 34 = .ok (.aload_n 0, 1) := by decide +kernel
theorem dX12_laysCells_35 : decode cX12_laysCells 35 = .ok (.aload_n 0, 1) := by decide +kernel
theorem dX12_laysCells_36 : decode cX12_laysCells 36 = .ok (.getfield 339, 3) := by decide +kernel
theorem dX12_laysCells_39 : decode cX12_laysCells 39 = .ok (.iconst 1, 1) := by decide +kernel
theorem dX12_laysCells_40 : decode cX12_laysCells 40 = .ok (.iadd, 1) := by decide +kernel
theorem dX12_laysCells_41 : decode cX12_laysCells 41 = .ok (.putfield 339, 3) := by decide +kernel
theorem dX12_laysCells_44 : decode cX12_laysCells 44 = .ok (.iinc 3 1, 3) := by decide +kernel
theorem dX12_laysCells_47 : decode cX12_laysCells 47 = .ok (.goto (-40), 3) := by decide +kernel
theorem dX12_laysCells_50 : decode cX12_laysCells 50 = .ok (.iconst 0, 1) := by decide +kernel
theorem dX12_laysCells_51 : decode cX12_laysCells 51 = .ok (.istore_n 3, 1) := by decide +kernel
theorem dX12_laysCells_52 : decode cX12_laysCells 52 = .ok (.iload_n 3, 1) := by decide +kernel
theorem dX12_laysCells_53 : decode cX12_laysCells 53 = .ok (.aload_n 0, 1) := by decide +kernel
theorem dX12_laysCells_54 : decode cX12_laysCells 54 = .ok (.getfield 339, 3) := by decide +kernel
theorem dX12_laysCells_57 : decode cX12_laysCells 57 = .ok (.if_icmp .ge 127, 3) := by decide +kernel
theorem dX12_laysCells_60 : decode cX12_laysCells 60 = .ok (.aload_n 0, 1) := by decide +kernel
theorem dX12_laysCells_61 : decode cX12_laysCells 61 = .ok (.getfield 70, 3) := by decide +kernel
theorem dX12_laysCells_64 : decode cX12_laysCells 64 = .ok (.iload_n 3, 1) := by decide +kernel
theorem dX12_laysCells_65 : decode cX12_laysCells 65 = .ok (.iconst 0, 1) := by decide +kernel
theorem dX12_laysCells_66 : decode cX12_laysCells 66 = .ok (.iastore, 1) := by decide +kernel
theorem dX12_laysCells_67 : decode cX12_laysCells 67 = .ok (.iconst 0, 1) := by decide +kernel
theorem dX12_laysCells_68 : decode cX12_laysCells 68 = .ok (.istore 4, 2) := by decide +kernel
theorem dX12_laysCells_70 : decode cX12_laysCells 70 = .ok (.iload 4, 2) := by decide +kernel
theorem dX12_laysCells_72 : decode cX12_laysCells 72 = .ok (.aload_n 0, 1) := by decide +kernel
theorem dX12_laysCells_73 : decode cX12_laysCells 73 = .ok (.getfield 339, 3) := by decide +kernel
theorem dX12_laysCells_76 : decode cX12_laysCells 76 = .ok (.if_icmp .ge 102, 3) := by decide +kernel
theorem dX12_laysCells_79 : decode cX12_laysCells 79 = .ok (.aload_n 0, 1) := by decide +kernel
theorem dX12_laysCells_80 : decode cX12_laysCells 80 = .ok (.getfield 67, 3) := by decide +kernel
theorem dX12_laysCells_83 : decode cX12_laysCells 83 = .ok (.iload_n 3, 1) := by decide +kernel
theorem dX12_laysCells_84 : decode cX12_laysCells 84 = .ok (.iaload, 1) := by decide +kernel
theorem dX12_laysCells_85 : decode cX12_laysCells 85 = .ok (.aload_n 0, 1) := by decide +kernel
theorem dX12_laysCells_86 : decode cX12_laysCells 86 = .ok (.getfield 67, 3) := by decide +kernel
theorem dX12_laysCells_89 : decode cX12_laysCells 89 = .ok (.iload 4, 2) := by decide +kernel
theorem dX12_laysCells_91 : decode cX12_laysCells 91 = .ok (.iaload, 1) := by decide +kernel
theorem dX12_laysCells_92 : decode cX12_laysCells 92 = .ok (.isub, 1) := by decide +kernel
theorem dX12_laysCells_93 : decode cX12_laysCells 93 = .ok (.istore 5, 2) := by decide +kernel
theorem dX12_laysCells_95 : decode cX12_laysCells 95 = .ok (.aload_n 0, 1) := by decide +kernel
theorem dX12_laysCells_96 : decode cX12_laysCells 96 = .ok (.getfield 67, 3) := by decide +kernel
theorem dX12_laysCells_99 : decode cX12_laysCells 99 = .ok (.iload_n 3, 1) := by decide +kernel
theorem dX12_laysCells_100 : decode cX12_laysCells 100 = .ok (.iaload, 1) := by decide +kernel
theorem dX12_laysCells_101 : decode cX12_laysCells 101 = .ok (.bipush 8, 2) := by decide +kernel
theorem dX12_laysCells_103 : decode cX12_laysCells 103 = .ok (.idiv, 1) := by decide +kernel
theorem dX12_laysCells_104 : decode cX12_laysCells 104 = .ok (.aload_n 0, 1) := by decide +kernel
theorem dX12_laysCells_105 : decode cX12_laysCells 105 = .ok (.getfield 67, 3) := by decide +kernel
theorem dX12_laysCells_108 : decode cX12_laysCells 108 = .ok (.iload 4, 2) := by decide +kernel
theorem dX12_laysCells_110 : decode cX12_laysCells 110 = .ok (.iaload, 1) := by decide +kernel
theorem dX12_laysCells_111 : decode cX12_laysCells 111 = .ok (.bipush 8, 2) := by decide +kernel
theorem dX12_laysCells_113 : decode cX12_laysCells 113 = .ok (.idiv, 1) := by decide +kernel
theorem dX12_laysCells_114 : decode cX12_laysCells 114 = .ok (.if_icmp .ne 7, 3) := by decide +kernel
theorem dX12_laysCells_117 : decode cX12_laysCells 117 = .ok (.iconst 1, 1) := by decide +kernel
theorem dX12_laysCells_118 : decode cX12_laysCells 118 = .ok (.goto 4, 3) := by decide +kernel
theorem dX12_laysCells_121 : decode cX12_laysCells 121 = .ok (.iconst 0, 1) := by decide +kernel
theorem dX12_laysCells_122 : decode cX12_laysCells 122 = .ok (.istore 6, 2) := by decide +kernel
theorem dX12_laysCells_124 : decode cX12_laysCells 124 = .ok (.iload 5, 2) := by decide +kernel
theorem dX12_laysCells_126 : decode cX12_laysCells 126 = .ok (.bipush 8, 2) := by decide +kernel
theorem dX12_laysCells_128 : decode cX12_laysCells 128 = .ok (.if_icmp .eq 27, 3) := by decide +kernel
theorem dX12_laysCells_131 : decode cX12_laysCells 131 = .ok (.iload 5, 2) := by decide +kernel
theorem dX12_laysCells_133 : decode cX12_laysCells 133 = .ok (.bipush (-8), 2) := by decide +kernel
theorem dX12_laysCells_135 : decode cX12_laysCells 135 = .ok (.if_icmp .eq 20, 3) := by decide +kernel
theorem dX12_laysCells_138 : decode cX12_laysCells 138 = .ok (.iload 6, 2) := by decide +kernel
theorem dX12_laysCells_140 : decode cX12_laysCells 140 = .ok (.ifCond .eq 32, 3) := by decide +kernel
theorem dX12_laysCells_143 : decode cX12_laysCells 143 = .ok (.iload 5, 2) := by decide +kernel
theorem dX12_laysCells_145 : decode cX12_laysCells 145 = .ok (.iconst 1, 1) := by decide +kernel
theorem dX12_laysCells_146 : decode cX12_laysCells 146 = .ok (.if_icmp .eq 9, 3) := by decide +kernel
theorem dX12_laysCells_149 : decode cX12_laysCells 149 = .ok (.iload 5, 2) := by decide +kernel
theorem dX12_laysCells_151 : decode cX12_laysCells 151 = .ok (.iconst (-1), 1) := by decide +kernel
theorem dX12_laysCells_152 : decode cX12_laysCells 152 = .ok (.if_icmp .ne 20, 3) := by decide +kernel
theorem dX12_laysCells_155 : decode cX12_laysCells 155 = .ok (.aload_n 0, 1) := by decide +kernel
theorem dX12_laysCells_156 : decode cX12_laysCells 156 = .ok (.getfield 70, 3) := by decide +kernel
theorem dX12_laysCells_159 : decode cX12_laysCells 159 = .ok (.iload_n 3, 1) := by decide +kernel
theorem dX12_laysCells_160 : decode cX12_laysCells 160 = .ok (.aload_n 0, 1) := by decide +kernel
theorem dX12_laysCells_161 : decode cX12_laysCells 161 = .ok (.getfield 70, 3) := by decide +kernel
theorem dX12_laysCells_164 : decode cX12_laysCells 164 = .ok (.iload_n 3, 1) := by decide +kernel
theorem dX12_laysCells_165 : decode cX12_laysCells 165 = .ok (.iaload, 1) := by decide +kernel
theorem dX12_laysCells_166 : decode cX12_laysCells 166 = .ok (.iconst 1, 1) := by decide +kernel
theorem dX12_laysCells_167 : decode cX12_laysCells 167 = .ok (.iload 4, 2) := by decide +kernel
theorem dX12_laysCells_169 : decode cX12_laysCells 169 = .ok (.ishl, 1) := by decide +kernel
theorem dX12_laysCells_170 : decode cX12_laysCells 170 = .ok (.ior, 1) := by decide +kernel
theorem dX12_laysCells_171 : decode cX12_laysCells 171 = .ok (.iastore, 1) := by decide +kernel
theorem dX12_laysCells_172 : decode cX12_laysCells 172 = .ok (.iinc 4 1, 3) := by decide +kernel
theorem dX12_laysCells_175 : decode cX12_laysCells 175 = .ok (.goto (-105), 3) := by decide +kernel
theorem dX12_laysCells_178 : decode cX12_laysCells 178 = .ok (.iinc 3 1, 3) := by decide +kernel
theorem dX12_laysCells_181 : decode cX12_laysCells 181 = .ok (.goto (-129), 3) := by decide +kernel
theorem dX12_laysCells_184 : decode cX12_laysCells 184 = .ok (.return_, 1) := by decide +kernel
theorem dX12_besideAll_0 : decode cX12_besideAll 0 = .ok (.iconst 0, 1) := by decide +kernel
theorem dX12_besideAll_1 : decode cX12_besideAll 1 = .ok (.istore_n 2, 1) := by decide +kernel
theorem dX12_besideAll_2 : decode cX12_besideAll 2 = .ok (.iconst 0, 1) := by decide +kernel
theorem dX12_besideAll_3 : decode cX12_besideAll 3 = .ok (.istore_n 3, 1) := by decide +kernel
theorem dX12_besideAll_4 : decode cX12_besideAll 4 = .ok (.iload_n 3, 1) := by decide +kernel
theorem dX12_besideAll_5 : decode cX12_besideAll 5 = .ok (.aload_n 0, 1) := by decide +kernel
theorem dX12_besideAll_6 : decode cX12_besideAll 6 = .ok (.getfield 339, 3) := by decide +kernel
theorem dX12_besideAll_9 : decode cX12_besideAll 9 = .ok (.if_icmp .ge 31, 3) := by decide +kernel
theorem dX12_besideAll_12 : decode cX12_besideAll 12 = .ok (.iload_n 2, 1) := by decide +kernel
theorem dX12_besideAll_13 : decode cX12_besideAll 13 = .ok (.iload_n 1, 1) := by decide +kernel
theorem dX12_besideAll_14 : decode cX12_besideAll 14 = .ok (.i2l, 1) := by decide +kernel
theorem dX12_besideAll_15 : decode cX12_besideAll 15 = .ok (.iload_n 3, 1) := by decide +kernel
theorem dX12_besideAll_16 : decode cX12_besideAll 16 = .ok (.invokestatic 86, 3) := by decide +kernel
theorem dX12_besideAll_19 : decode cX12_besideAll 19 = .ok (.ifCond .eq 12, 3) := by decide +kernel
theorem dX12_besideAll_22 : decode cX12_besideAll 22 = .ok (.aload_n 0, 1) := by decide +kernel
theorem dX12_besideAll_23 : decode cX12_besideAll 23 = .ok (.getfield 70, 3) := by decide +kernel
theorem dX12_besideAll_26 : decode cX12_besideAll 26 = .ok (.iload_n 3, 1) := by decide +kernel
theorem dX12_besideAll_27 : decode cX12_besideAll 27 = .ok (.iaload, 1) := by decide +kernel
theorem dX12_besideAll_28 : decode cX12_besideAll 28 = .ok (.goto 4, 3) := by decide +kernel
theorem dX12_besideAll_31 : decode cX12_besideAll 31 = .ok (.iconst 0, 1) := by decide +kernel
theorem dX12_besideAll_32 : decode cX12_besideAll 32 = .ok (.ior, 1) := by decide +kernel
theorem dX12_besideAll_33 : decode cX12_besideAll 33 = .ok (.istore_n 2, 1) := by decide +kernel
theorem dX12_besideAll_34 : decode cX12_besideAll 34 = .ok (.iinc 3 1, 3) := by decide +kernel
theorem dX12_besideAll_37 : decode cX12_besideAll 37 = .ok (.goto (-33), 3) := by decide +kernel
theorem dX12_besideAll_40 : decode cX12_besideAll 40 = .ok (.iload_n 2, 1) := by decide +kernel
theorem dX12_besideAll_41 : decode cX12_besideAll 41 = .ok (.iload_n 1, 1) := by decide +kernel
theorem dX12_besideAll_42 : decode cX12_besideAll 42 = .ok (.iconst (-1), 1) := by decide +kernel
theorem dX12_besideAll_43 : decode cX12_besideAll 43 = .ok (.ixor, 1) := by decide +kernel
theorem dX12_besideAll_44 : decode cX12_besideAll 44 = .ok (.iand, 1) := by decide +kernel
theorem dX12_besideAll_45 : decode cX12_besideAll 45 = .ok (.ireturn, 1) := by decide +kernel
theorem dX12_figureOf_0 : decode cX12_figureOf 0 = .ok (.lconst 0, 1) := by decide +kernel
theorem dX12_figureOf_1 : decode cX12_figureOf 1 = .ok (.lstore_n 2, 1) := by decide +kernel
theorem dX12_figureOf_2 : decode cX12_figureOf 2 = .ok (.iconst 0, 1) := by decide +kernel
theorem dX12_figureOf_3 : decode cX12_figureOf 3 = .ok (.istore 4, 2) := by decide +kernel
theorem dX12_figureOf_5 : decode cX12_figureOf 5 = .ok (.iload 4, 2) := by decide +kernel
theorem dX12_figureOf_7 : decode cX12_figureOf 7 = .ok (.aload_n 0, 1) := by decide +kernel
theorem dX12_figureOf_8 : decode cX12_figureOf 8 = .ok (.getfield 339, 3) := by decide +kernel
theorem dX12_figureOf_11 : decode cX12_figureOf 11 = .ok (.if_icmp .ge 35, 3) := by decide +kernel
theorem dX12_figureOf_14 : decode cX12_figureOf 14 = .ok (.lload_n 2, 1) := by decide +kernel
theorem dX12_figureOf_15 : decode cX12_figureOf 15 = .ok (.iload_n 1, 1) := by decide +kernel
theorem dX12_figureOf_16 : decode cX12_figureOf 16 = .ok (.i2l, 1) := by decide +kernel
theorem dX12_figureOf_17 : decode cX12_figureOf 17 = .ok (.iload 4, 2) := by decide +kernel
theorem dX12_figureOf_19 : decode cX12_figureOf 19 = .ok (.invokestatic 86, 3) := by decide +kernel
theorem dX12_figureOf_22 : decode cX12_figureOf 22 = .ok (.ifCond .eq 15, 3) := by decide +kernel
theorem dX12_figureOf_25 : decode cX12_figureOf 25 = .ok (.lconst 1, 1) := by decide +kernel
theorem dX12_figureOf_26 : decode cX12_figureOf 26 = .ok (.aload_n 0, 1) := by decide +kernel
theorem dX12_figureOf_27 : decode cX12_figureOf 27 = .ok (.getfield 67, 3) := by decide +kernel
theorem dX12_figureOf_30 : decode cX12_figureOf 30 = .ok (.iload 4, 2) := by decide +kernel
theorem dX12_figureOf_32 : decode cX12_figureOf 32 = .ok (.iaload, 1) := by decide +kernel
theorem dX12_figureOf_33 : decode cX12_figureOf 33 = .ok (.lshl, 1) := by decide +kernel
theorem dX12_figureOf_34 : decode cX12_figureOf 34 = .ok (.goto 4, 3) := by decide +kernel
theorem dX12_figureOf_37 : decode cX12_figureOf 37 = .ok (.lconst 0, 1) := by decide +kernel
theorem dX12_figureOf_38 : decode cX12_figureOf 38 = .ok (.lor, 1) := by decide +kernel
theorem dX12_figureOf_39 : decode cX12_figureOf 39 = .ok (.lstore_n 2, 1) := by decide +kernel
theorem dX12_figureOf_40 : decode cX12_figureOf 40 = .ok (.iinc 4 1, 3) := by decide +kernel
theorem dX12_figureOf_43 : decode cX12_figureOf 43 = .ok (.goto (-38), 3) := by decide +kernel
theorem dX12_figureOf_46 : decode cX12_figureOf 46 = .ok (.lload_n 2, 1) := by decide +kernel
theorem dX12_figureOf_47 : decode cX12_figureOf 47 = .ok (.lreturn, 1) := by decide +kernel
theorem dX12_orders_0 : decode cX12_orders 0 = .ok (.iconst 1, 1) := by decide +kernel
theorem dX12_orders_1 : decode cX12_orders 1 = .ok (.aload_n 0, 1) := by decide +kernel
theorem dX12_orders_2 : decode cX12_orders 2 = .ok (.getfield 339, 3) := by decide +kernel
theorem dX12_orders_5 : decode cX12_orders 5 = .ok (.ishl, 1) := by decide +kernel
theorem dX12_orders_6 : decode cX12_orders 6 = .ok (.iconst 1, 1) := by decide +kernel
theorem dX12_orders_7 : decode cX12_orders 7 = .ok (.isub, 1) := by decide +kernel
theorem dX12_orders_8 : decode cX12_orders 8 = .ok (.istore_n 1, 1) := by decide +kernel
theorem dX12_orders_9 : decode cX12_orders 9 = .ok (.iconst 1, 1) := by decide +kernel
theorem dX12_orders_10 : decode cX12_orders 10 = .ok (.istore_n 2, 1) := by decide +kernel
theorem dX12_orders_11 : decode cX12_orders 11 = .ok (.iload_n 2, 1) := by decide +kernel
theorem dX12_orders_12 : decode cX12_orders 12 = .ok (.iload_n 1, 1) := by decide +kernel
theorem dX12_orders_13 : decode cX12_orders 13 = .ok (.if_icmp .gt 107, 3) := by decide +kernel
theorem dX12_orders_16 : decode cX12_orders 16 = .ok (.aload_n 0, 1) := by decide +kernel
theorem dX12_orders_17 : decode cX12_orders 17 = .ok (.getfield 76, 3) := by decide +kernel
theorem dX12_orders_20 : decode cX12_orders 20 = .ok (.iload_n 2, 1) := by decide +kernel
theorem dX12_orders_21 : decode cX12_orders 21 = .ok (.lconst 0, 1) := by decide +kernel
theorem dX12_orders_22 : decode cX12_orders 22 = .ok (.lastore, 1) := by decide +kernel
theorem dX12_orders_23 : decode cX12_orders 23 = .ok (.iload_n 2, 1) := by decide +kernel
theorem dX12_orders_24 : decode cX12_orders 24 = .ok (.iload_n 2, 1) := by decide +kernel
theorem dX12_orders_25 : decode cX12_orders 25 = .ok (.iconst 1, 1) := by decide +kernel
theorem dX12_orders_26 : decode cX12_orders 26 = .ok (.isub, 1) := by decide +kernel
theorem dX12_orders_27 : decode cX12_orders 27 = .ok (.iand, 1) := by decide +kernel
theorem dX12_orders_28 : decode cX12_orders 28 = .ok (.ifCond .ne 10, 3) := by decide +kernel
theorem dX12_orders_31 : decode cX12_orders 31 = .ok (.aload_n 0, 1) := by decide +kernel
theorem dX12_orders_32 : decode cX12_orders 32 = .ok (.getfield 76, 3) := by decide +kernel
theorem dX12_orders_35 : decode cX12_orders 35 = .ok (.iload_n 2, 1) := by decide +kernel
theorem dX12_orders_36 : decode cX12_orders 36 = .ok (.lconst 1, 1) := by decide +kernel
theorem dX12_orders_37 : decode cX12_orders 37 = .ok (.lastore, 1) := by decide +kernel
theorem dX12_orders_38 : decode cX12_orders 38 = .ok (.iconst 0, 1) := by decide +kernel
theorem dX12_orders_39 : decode cX12_orders 39 = .ok (.istore_n 3, 1) := by decide +kernel
theorem dX12_orders_40 : decode cX12_orders 40 = .ok (.iload_n 3, 1) := by decide +kernel
theorem dX12_orders_41 : decode cX12_orders 41 = .ok (.aload_n 0, 1) := by decide +kernel
theorem dX12_orders_42 : decode cX12_orders 42 = .ok (.getfield 339, 3) := by decide +kernel
theorem dX12_orders_45 : decode cX12_orders 45 = .ok (.if_icmp .ge 69, 3) := by decide +kernel
theorem dX12_orders_48 : decode cX12_orders 48 = .ok (.iload_n 2, 1) := by decide +kernel
theorem dX12_orders_49 : decode cX12_orders 49 = .ok (.iload_n 2, 1) := by decide +kernel
theorem dX12_orders_50 : decode cX12_orders 50 = .ok (.iconst 1, 1) := by decide +kernel
theorem dX12_orders_51 : decode cX12_orders 51 = .ok (.isub, 1) := by decide +kernel
theorem dX12_orders_52 : decode cX12_orders 52 = .ok (.iand, 1) := by decide +kernel
theorem dX12_orders_53 : decode cX12_orders 53 = .ok (.ifCond .eq 61, 3) := by decide +kernel
theorem dX12_orders_56 : decode cX12_orders 56 = .ok (.iload_n 2, 1) := by decide +kernel
theorem dX12_orders_57 : decode cX12_orders 57 = .ok (.iconst 1, 1) := by decide +kernel
theorem dX12_orders_58 : decode cX12_orders 58 = .ok (.iload_n 3, 1) := by decide +kernel
theorem dX12_orders_59 : decode cX12_orders 59 = .ok (.ishl, 1) := by decide +kernel
theorem dX12_orders_60 : decode cX12_orders 60 = .ok (.iconst (-1), 1) := by decide +kernel
theorem dX12_orders_61 : decode cX12_orders 61 = .ok (.ixor, 1) := by decide +kernel
theorem dX12_orders_62 : decode cX12_orders 62 = .ok (.iand, 1) := by decide +kernel
theorem dX12_orders_63 : decode cX12_orders 63 = .ok (.istore 4, 2) := by decide +kernel
theorem dX12_orders_65 : decode cX12_orders 65 = .ok (.iload_n 2, 1) := by decide +kernel
theorem dX12_orders_66 : decode cX12_orders 66 = .ok (.i2l, 1) := by decide +kernel
theorem dX12_orders_67 : decode cX12_orders 67 = .ok (.iload_n 3, 1) := by decide +kernel
theorem dX12_orders_68 : decode cX12_orders 68 = .ok (.invokestatic 86, 3) := by decide +kernel
theorem dX12_orders_71 : decode cX12_orders 71 = .ok (.ifCond .eq 37, 3) := by decide +kernel
theorem dX12_orders_74 : decode cX12_orders 74 = .ok (.aload_n 0, 1) := by decide +kernel
theorem dX12_orders_75 : decode cX12_orders 75 = .ok (.iload 4, 2) := by decide +kernel
theorem dX12_orders_77 : decode cX12_orders 77 = .ok (.invokevirtual 342, 3) := by decide +kernel
theorem dX12_orders_80 : decode cX12_orders 80 = .ok (.iload_n 3, 1) := by decide +kernel
theorem dX12_orders_81 : decode cX12_orders 81 = .ok (.ishr, 1) := by decide +kernel
theorem dX12_orders_82 : decode cX12_orders 82 = .ok (.iconst 1, 1) := by decide +kernel
theorem dX12_orders_83 : decode cX12_orders 83 = .ok (.iand, 1) := by decide +kernel
theorem dX12_orders_84 : decode cX12_orders 84 = .ok (.iconst 1, 1) := by decide +kernel
theorem dX12_orders_85 : decode cX12_orders 85 = .ok (.if_icmp .ne 23, 3) := by decide +kernel
theorem dX12_orders_88 : decode cX12_orders 88 = .ok (.aload_n 0, 1) := by decide +kernel
theorem dX12_orders_89 : decode cX12_orders 89 = .ok (.getfield 76, 3) := by decide +kernel
theorem dX12_orders_92 : decode cX12_orders 92 = .ok (.iload_n 2, 1) := by decide +kernel
theorem dX12_orders_93 : decode cX12_orders 93 = .ok (.aload_n 0, 1) := by decide +kernel
theorem dX12_orders_94 : decode cX12_orders 94 = .ok (.getfield 76, 3) := by decide +kernel
theorem dX12_orders_97 : decode cX12_orders 97 = .ok (.iload_n 2, 1) := by decide +kernel
theorem dX12_orders_98 : decode cX12_orders 98 = .ok (.laload, 1) := by decide +kernel
theorem dX12_orders_99 : decode cX12_orders 99 = .ok (.aload_n 0, 1) := by decide +kernel
theorem dX12_orders_100 : decode cX12_orders 100 = .ok (.getfield 76, 3) := by decide +kernel
theorem dX12_orders_103 : decode cX12_orders 103 = .ok (.iload 4, 2) := by decide +kernel
theorem dX12_orders_105 : decode cX12_orders 105 = .ok (.laload, 1) := by decide +kernel
theorem dX12_orders_106 : decode cX12_orders 106 = .ok (.ladd, 1) := by decide +kernel
theorem dX12_orders_107 : decode cX12_orders 107 = .ok (.lastore, 1) := by decide +kernel
theorem dX12_orders_108 : decode cX12_orders 108 = .ok (.iinc 3 1, 3) := by decide +kernel
theorem dX12_orders_111 : decode cX12_orders 111 = .ok (.goto (-71), 3) := by decide +kernel
theorem dX12_orders_114 : decode cX12_orders 114 = .ok (.iinc 2 1, 3) := by decide +kernel
theorem dX12_orders_117 : decode cX12_orders 117 = .ok (.goto (-106), 3) := by decide +kernel
theorem dX12_orders_120 : decode cX12_orders 120 = .ok (.aload_n 0, 1) := by decide +kernel
theorem dX12_orders_121 : decode cX12_orders 121 = .ok (.getfield 76, 3) := by decide +kernel
theorem dX12_orders_124 : decode cX12_orders 124 = .ok (.iload_n 1, 1) := by decide +kernel
theorem dX12_orders_125 : decode cX12_orders 125 = .ok (.laload, 1) := by decide +kernel
theorem dX12_orders_126 : decode cX12_orders 126 = .ok (.lreturn, 1) := by decide +kernel
theorem dX12_paired_0 : decode cX12_paired 0 = .ok (.iconst 1, 1) := by decide +kernel
theorem dX12_paired_1 : decode cX12_paired 1 = .ok (.aload_n 0, 1) := by decide +kernel
theorem dX12_paired_2 : decode cX12_paired 2 = .ok (.getfield 339, 3) := by decide +kernel
theorem dX12_paired_5 : decode cX12_paired 5 = .ok (.ishl, 1) := by decide +kernel
theorem dX12_paired_6 : decode cX12_paired 6 = .ok (.iconst 1, 1) := by decide +kernel
theorem dX12_paired_7 : decode cX12_paired 7 = .ok (.isub, 1) := by decide +kernel
theorem dX12_paired_8 : decode cX12_paired 8 = .ok (.istore_n 1, 1) := by decide +kernel
theorem dX12_paired_9 : decode cX12_paired 9 = .ok (.aload_n 0, 1) := by decide +kernel
theorem dX12_paired_10 : decode cX12_paired 10 = .ok (.getfield 76, 3) := by decide +kernel
theorem dX12_paired_13 : decode cX12_paired 13 = .ok (.iconst 0, 1) := by decide +kernel
theorem dX12_paired_14 : decode cX12_paired 14 = .ok (.lconst 1, 1) := by decide +kernel
theorem dX12_paired_15 : decode cX12_paired 15 = .ok (.lastore, 1) := by decide +kernel
theorem dX12_paired_16 : decode cX12_paired 16 = .ok (.iconst 1, 1) := by decide +kernel
theorem dX12_paired_17 : decode cX12_paired 17 = .ok (.istore_n 2, 1) := by decide +kernel
theorem dX12_paired_18 : decode cX12_paired 18 = .ok (.iload_n 2, 1) := by decide +kernel
theorem dX12_paired_19 : decode cX12_paired 19 = .ok (.iload_n 1, 1) := by decide +kernel
theorem dX12_paired_20 : decode cX12_paired 20 = .ok (.if_icmp .gt 99, 3) := by decide +kernel
theorem dX12_paired_23 : decode cX12_paired 23 = .ok (.aload_n 0, 1) := by decide +kernel
theorem dX12_paired_24 : decode cX12_paired 24 = .ok (.getfield 76, 3) := by decide +kernel
theorem dX12_paired_27 : decode cX12_paired 27 = .ok (.iload_n 2, 1) := by decide +kernel
theorem dX12_paired_28 : decode cX12_paired 28 = .ok (.lconst 0, 1) := by decide +kernel
theorem dX12_paired_29 : decode cX12_paired 29 = .ok (.lastore, 1) := by decide +kernel
theorem dX12_paired_30 : decode cX12_paired 30 = .ok (.iload_n 2, 1) := by decide +kernel
theorem dX12_paired_31 : decode cX12_paired 31 = .ok (.i2l, 1) := by decide +kernel
theorem dX12_paired_32 : decode cX12_paired 32 = .ok (.invokestatic 270, 3) := by decide +kernel
theorem dX12_paired_35 : decode cX12_paired 35 = .ok (.istore_n 3, 1) := by decide +kernel
theorem dX12_paired_36 : decode cX12_paired 36 = .ok (.iload_n 3, 1) := by decide +kernel
theorem dX12_paired_37 : decode cX12_paired 37 = .ok (.iconst 1, 1) := by decide +kernel
theorem dX12_paired_38 : decode cX12_paired 38 = .ok (.iadd, 1) := by decide +kernel
theorem dX12_paired_39 : decode cX12_paired 39 = .ok (.istore 4, 2) := by decide +kernel
theorem dX12_paired_41 : decode cX12_paired 41 = .ok (.iload 4, 2) := by decide +kernel
theorem dX12_paired_43 : decode cX12_paired 43 = .ok (.aload_n 0, 1) := by decide +kernel
theorem dX12_paired_44 : decode cX12_paired 44 = .ok (.getfield 339, 3) := by decide +kernel
theorem dX12_paired_47 : decode cX12_paired 47 = .ok (.if_icmp .ge 66, 3) := by decide +kernel
theorem dX12_paired_50 : decode cX12_paired 50 = .ok (.iload_n 2, 1) := by decide +kernel
theorem dX12_paired_51 : decode cX12_paired 51 = .ok (.i2l, 1) := by decide +kernel
theorem dX12_paired_52 : decode cX12_paired 52 = .ok (.iload 4, 2) := by decide +kernel
theorem dX12_paired_54 : decode cX12_paired 54 = .ok (.invokestatic 86, 3) := by decide +kernel
theorem dX12_paired_57 : decode cX12_paired 57 = .ok (.ifCond .eq 50, 3) := by decide +kernel
theorem dX12_paired_60 : decode cX12_paired 60 = .ok (.aload_n 0, 1) := by decide +kernel
theorem dX12_paired_61 : decode cX12_paired 61 = .ok (.getfield 70, 3) := by decide +kernel
theorem dX12_paired_64 : decode cX12_paired 64 = .ok (.iload_n 3, 1) := by decide +kernel
theorem dX12_paired_65 : decode cX12_paired 65 = .ok (.iaload, 1) := by decide +kernel
theorem dX12_paired_66 : decode cX12_paired 66 = .ok (.i2l, 1) := by decide +kernel
theorem dX12_paired_67 : decode cX12_paired 67 = .ok (.iload 4, 2) := by decide +kernel
theorem dX12_paired_69 : decode cX12_paired 69 = .ok (.invokestatic 86, 3) := by decide +kernel
theorem dX12_paired_72 : decode cX12_paired 72 = .ok (.ifCond .eq 35, 3) := by decide +kernel
theorem dX12_paired_75 : decode cX12_paired 75 = .ok (.aload_n 0, 1) := by decide +kernel
theorem dX12_paired_76 : decode cX12_paired 76 = .ok (.getfield 76, 3) := by decide +kernel
theorem dX12_paired_79 : decode cX12_paired 79 = .ok (.iload_n 2, 1) := by decide +kernel
theorem dX12_paired_80 : decode cX12_paired 80 = .ok (.aload_n 0, 1) := by decide +kernel
theorem dX12_paired_81 : decode cX12_paired 81 = .ok (.getfield 76, 3) := by decide +kernel
theorem dX12_paired_84 : decode cX12_paired 84 = .ok (.iload_n 2, 1) := by decide +kernel
theorem dX12_paired_85 : decode cX12_paired 85 = .ok (.laload, 1) := by decide +kernel
theorem dX12_paired_86 : decode cX12_paired 86 = .ok (.aload_n 0, 1) := by decide +kernel
theorem dX12_paired_87 : decode cX12_paired 87 = .ok (.getfield 76, 3) := by decide +kernel
theorem dX12_paired_90 : decode cX12_paired 90 = .ok (.iload_n 2, 1) := by decide +kernel
theorem dX12_paired_91 : decode cX12_paired 91 = .ok (.iconst 1, 1) := by decide +kernel
theorem dX12_paired_92 : decode cX12_paired 92 = .ok (.iload_n 3, 1) := by decide +kernel
theorem dX12_paired_93 : decode cX12_paired 93 = .ok (.ishl, 1) := by decide +kernel
theorem dX12_paired_94 : decode cX12_paired 94 = .ok (.iconst (-1), 1) := by decide +kernel
theorem dX12_paired_95 : decode cX12_paired 95 = .ok (.ixor, 1) := by decide +kernel
theorem dX12_paired_96 : decode cX12_paired 96 = .ok (.iand, 1) := by decide +kernel
theorem dX12_paired_97 : decode cX12_paired 97 = .ok (.iconst 1, 1) := by decide +kernel
theorem dX12_paired_98 : decode cX12_paired 98 = .ok (.iload 4, 2) := by decide +kernel
theorem dX12_paired_100 : decode cX12_paired 100 = .ok (.ishl, 1) := by decide +kernel
theorem dX12_paired_101 : decode cX12_paired 101 = .ok (.iconst (-1), 1) := by decide +kernel
theorem dX12_paired_102 : decode cX12_paired 102 = .ok (.ixor, 1) := by decide +kernel
theorem dX12_paired_103 : decode cX12_paired 103 = .ok (.iand, 1) := by decide +kernel
theorem dX12_paired_104 : decode cX12_paired 104 = .ok (.laload, 1) := by decide +kernel
theorem dX12_paired_105 : decode cX12_paired 105 = .ok (.ladd, 1) := by decide +kernel
theorem dX12_paired_106 : decode cX12_paired 106 = .ok (.lastore, 1) := by decide +kernel
theorem dX12_paired_107 : decode cX12_paired 107 = .ok (.iinc 4 1, 3) := by decide +kernel
theorem dX12_paired_110 : decode cX12_paired 110 = .ok (.goto (-69), 3) := by decide +kernel
theorem dX12_paired_113 : decode cX12_paired 113 = .ok (.iinc 2 1, 3) := by decide +kernel
theorem dX12_paired_116 : decode cX12_paired 116 = .ok (.goto (-98), 3) := by decide +kernel
theorem dX12_paired_119 : decode cX12_paired 119 = .ok (.aload_n 0, 1) := by decide +kernel
theorem dX12_paired_120 : decode cX12_paired 120 = .ok (.getfield 76, 3) := by decide +kernel
theorem dX12_paired_123 : decode cX12_paired 123 = .ok (.iload_n 1, 1) := by decide +kernel
theorem dX12_paired_124 : decode cX12_paired 124 = .ok (.laload, 1) := by decide +kernel
theorem dX12_paired_125 : decode cX12_paired 125 = .ok (.lreturn, 1) := by decide +kernel
theorem dX12_halved_0 : decode cX12_halved 0 = .ok (.aload_n 0, 1) := by decide +kernel
theorem dX12_halved_1 : decode cX12_halved 1 = .ok (.getfield 339, 3) := by decide +kernel
theorem dX12_halved_4 : decode cX12_halved 4 = .ok (.iconst 2, 1) := by decide +kernel
theorem dX12_halved_5 : decode cX12_halved 5 = .ok (.irem, 1) := by decide +kernel
theorem dX12_halved_6 : decode cX12_halved 6 = .ok (.iconst 1, 1) := by decide +kernel
theorem dX12_halved_7 : decode cX12_halved 7 = .ok (.if_icmp .ne 5, 3) := by decide +kernel
theorem dX12_halved_10 : decode cX12_halved 10 = .ok (.lconst 0, 1) := by decide +kernel
theorem dX12_halved_11 : decode cX12_halved 11 = .ok (.lreturn, 1) := by decide +kernel
theorem dX12_halved_12 : decode cX12_halved 12 = .ok (.iconst 1, 1) := by decide +kernel
theorem dX12_halved_13 : decode cX12_halved 13 = .ok (.aload_n 0, 1) := by decide +kernel
theorem dX12_halved_14 : decode cX12_halved 14 = .ok (.getfield 339, 3) := by decide +kernel
theorem dX12_halved_17 : decode cX12_halved 17 = .ok (.ishl, 1) := by decide +kernel
theorem dX12_halved_18 : decode cX12_halved 18 = .ok (.iconst 1, 1) := by decide +kernel
theorem dX12_halved_19 : decode cX12_halved 19 = .ok (.isub, 1) := by decide +kernel
theorem dX12_halved_20 : decode cX12_halved 20 = .ok (.istore_n 2, 1) := by decide +kernel
theorem dX12_halved_21 : decode cX12_halved 21 = .ok (.iconst 0, 1) := by decide +kernel
theorem dX12_halved_22 : decode cX12_halved 22 = .ok (.istore_n 3, 1) := by decide +kernel
theorem dX12_halved_23 : decode cX12_halved 23 = .ok (.iconst 1, 1) := by decide +kernel
theorem dX12_halved_24 : decode cX12_halved 24 = .ok (.istore 4, 2) := by decide +kernel
theorem dX12_halved_26 : decode cX12_halved 26 = .ok (.iload 4, 2) := by decide +kernel
theorem dX12_halved_28 : decode cX12_halved 28 = .ok (.iload_n 2, 1) := by decide +kernel
theorem dX12_halved_29 : decode cX12_halved 29 = .ok (.if_icmp .ge 92, 3) := by decide +kernel
theorem dX12_halved_32 : decode cX12_halved 32 = .ok (.iload 4, 2) := by decide +kernel
theorem dX12_halved_34 : decode cX12_halved 34 = .ok (.i2l, 1) := by decide +kernel
theorem dX12_halved_35 : decode cX12_halved 35 = .ok (.invokestatic 106, 3) := by decide +kernel
theorem dX12_halved_38 : decode cX12_halved 38 = .ok (.iconst 2, 1) := by decide +kernel
theorem dX12_halved_39 : decode cX12_halved 39 = .ok (.imul, 1) := by decide +kernel
theorem dX12_halved_40 : decode cX12_halved 40 = .ok (.aload_n 0, 1) := by decide +kernel
theorem dX12_halved_41 : decode cX12_halved 41 = .ok (.getfield 339, 3) := by decide +kernel
theorem dX12_halved_44 : decode cX12_halved 44 = .ok (.if_icmp .eq 6, 3) := by decide +kernel
theorem dX12_halved_47 : decode cX12_halved 47 = .ok (.goto 65, 3) := by decide +kernel
theorem dX12_halved_50 : decode cX12_halved 50 = .ok (.aload_n 0, 1) := by decide +kernel
theorem dX12_halved_51 : decode cX12_halved 51 = .ok (.iload 4, 2) := by decide +kernel
theorem dX12_halved_53 : decode cX12_halved 53 = .ok (.invokevirtual 345, 3) := by decide +kernel
theorem dX12_halved_56 : decode cX12_halved 56 = .ok (.lstore 5, 2) := by decide +kernel
theorem dX12_halved_58 : decode cX12_halved 58 = .ok (.aload_n 0, 1) := by decide +kernel
theorem dX12_halved_59 : decode cX12_halved 59 = .ok (.iload_n 2, 1) := by decide +kernel
theorem dX12_halved_60 : decode cX12_halved 60 = .ok (.iload 4, 2) := by decide +kernel
theorem dX12_halved_62 : decode cX12_halved 62 = .ok (.iconst (-1), 1) := by decide +kernel
theorem dX12_halved_63 : decode cX12_halved 63 = .ok (.ixor, 1) := by decide +kernel
theorem dX12_halved_64 : decode cX12_halved 64 = .ok (.iand, 1) := by decide +kernel
theorem dX12_halved_65 : decode cX12_halved 65 = .ok (.invokevirtual 345, 3) := by decide +kernel
theorem dX12_halved_68 : decode cX12_halved 68 = .ok (.lstore 7, 2) := by decide +kernel
theorem dX12_halved_70 : decode cX12_halved 70 = .ok (.lload 5, 2) := by decide +kernel
theorem dX12_halved_72 : decode cX12_halved 72 = .ok (.invokestatic 110, 3) := by decide +kernel
theorem dX12_halved_75 : decode cX12_halved 75 = .ok (.ifCond .eq 37, 3) := by decide +kernel
theorem dX12_halved_78 : decode cX12_halved 78 = .ok (.lload 7, 2) := by decide +kernel
theorem dX12_halved_80 : decode cX12_halved 80 = .ok (.invokestatic 110, 3) := by decide +kernel
theorem dX12_halved_83 : decode cX12_halved 83 = .ok (.ifCond .eq 29, 3) := by decide +kernel
theorem dX12_halved_86 : decode cX12_halved 86 = .ok (.lload 5, 2) := by decide +kernel
theorem dX12_halved_88 : decode cX12_halved 88 = .ok (.invokestatic 114, 3) := by decide +kernel
theorem dX12_halved_91 : decode cX12_halved 91 = .ok (.iload_n 1, 1) := by decide +kernel
theorem dX12_halved_92 : decode cX12_halved 92 = .ok (.invokestatic 199, 3) := by decide +kernel
theorem dX12_halved_95 : decode cX12_halved 95 = .ok (.lload 7, 2) := by decide +kernel
theorem dX12_halved_97 : decode cX12_halved 97 = .ok (.invokestatic 114, 3) := by decide +kernel
theorem dX12_halved_100 : decode cX12_halved 100 = .ok (.iload_n 1, 1) := by decide +kernel
theorem dX12_halved_101 : decode cX12_halved 101 = .ok (.invokestatic 199, 3) := by decide +kernel
theorem dX12_halved_104 : decode cX12_halved 104 = .ok (.lcmp, 1) := by decide +kernel
theorem dX12_halved_105 : decode cX12_halved 105 = .ok (.ifCond .ne 7, 3) := by decide +kernel
theorem dX12_halved_108 : decode cX12_halved 108 = .ok (.iload_n 3, 1) := by decide +kernel
theorem dX12_halved_109 : decode cX12_halved 109 = .ok (.iconst 1, 1) := by decide +kernel
theorem dX12_halved_110 : decode cX12_halved 110 = .ok (.iadd, 1) := by decide +kernel
theorem dX12_halved_111 : decode cX12_halved 111 = .ok (.istore_n 3, 1) := by decide +kernel
theorem dX12_halved_112 : decode cX12_halved 112 = .ok (.iload 4, 2) := by decide +kernel
theorem dX12_halved_114 : decode cX12_halved 114 = .ok (.iconst 2, 1) := by decide +kernel
theorem dX12_halved_115 : decode cX12_halved 115 = .ok (.iadd, 1) := by decide +kernel
theorem dX12_halved_116 : decode cX12_halved 116 = .ok (.istore 4, 2) := by decide +kernel
theorem dX12_halved_118 : decode cX12_halved 118 = .ok (.goto (-92), 3) := by decide +kernel
theorem dX12_halved_121 : decode cX12_halved 121 = .ok (.iload_n 3, 1) := by decide +kernel
theorem dX12_halved_122 : decode cX12_halved 122 = .ok (.i2l, 1) := by decide +kernel
theorem dX12_halved_123 : decode cX12_halved 123 = .ok (.lreturn, 1) := by decide +kernel
theorem dX12_across_0 : decode cX12_across 0 = .ok (.iconst 0, 1) := by decide +kernel
theorem dX12_across_1 : decode cX12_across 1 = .ok (.istore_n 1, 1) := by decide +kernel
theorem dX12_across_2 : decode cX12_across 2 = .ok (.iconst 0, 1) := by decide +kernel
theorem dX12_across_3 : decode cX12_across 3 = .ok (.istore_n 2, 1) := by decide +kernel
theorem dX12_across_4 : decode cX12_across 4 = .ok (.iload_n 2, 1) := by decide +kernel
theorem dX12_across_5 : decode cX12_across 5 = .ok (.aload_n 0, 1) := by decide +kernel
theorem dX12_across_6 : decode cX12_across 6 = .ok (.getfield 339, 3) := by decide +kernel
theorem dX12_across_9 : decode cX12_across 9 = .ok (.if_icmp .ge 54, 3) := by decide +kernel
theorem dX12_across_12 : decode cX12_across 12 = .ok (.iconst 1, 1) := by decide +kernel
theorem dX12_across_13 : decode cX12_across 13 = .ok (.iload_n 2, 1) := by decide +kernel
theorem dX12_across_14 : decode cX12_across 14 = .ok (.ishl, 1) := by decide +kernel
theorem dX12_across_15 : decode cX12_across 15 = .ok (.istore_n 3, 1) := by decide +kernel
theorem dX12_across_16 : decode cX12_across 16 = .ok (.iconst 0, 1) := by decide +kernel
theorem dX12_across_17 : decode cX12_across 17 = .ok (.istore 4, 2) := by decide +kernel
theorem dX12_across_19 : decode cX12_across 19 = .ok (.aload_n 0, 1) := by decide +kernel
theorem dX12_across_20 : decode cX12_across 20 = .ok (.iload_n 3, 1) := by decide +kernel
theorem dX12_across_21 : decode cX12_across 21 = .ok (.invokevirtual 342, 3) := by decide +kernel
theorem dX12_across_24 : decode cX12_across 24 = .ok (.ifCond .eq 20, 3) := by decide +kernel
theorem dX12_across_27 : decode cX12_across 27 = .ok (.iload_n 3, 1) := by decide +kernel
theorem dX12_across_28 : decode cX12_across 28 = .ok (.aload_n 0, 1) := by decide +kernel
theorem dX12_across_29 : decode cX12_across 29 = .ok (.iload_n 3, 1) := by decide +kernel
theorem dX12_across_30 : decode cX12_across 30 = .ok (.invokevirtual 342, 3) := by decide +kernel
theorem dX12_across_33 : decode cX12_across 33 = .ok (.ior, 1) := by decide +kernel
theorem dX12_across_34 : decode cX12_across 34 = .ok (.istore_n 3, 1) := by decide +kernel
theorem dX12_across_35 : decode cX12_across 35 = .ok (.iload 4, 2) := by decide +kernel
theorem dX12_across_37 : decode cX12_across 37 = .ok (.iconst 1, 1) := by decide +kernel
theorem dX12_across_38 : decode cX12_across 38 = .ok (.iadd, 1) := by decide +kernel
theorem dX12_across_39 : decode cX12_across 39 = .ok (.istore 4, 2) := by decide +kernel
theorem dX12_across_41 : decode cX12_across 41 = .ok (.goto (-22), 3) := by decide +kernel
theorem dX12_across_44 : decode cX12_across 44 = .ok (.iload 4, 2) := by decide +kernel
theorem dX12_across_46 : decode cX12_across 46 = .ok (.iload_n 1, 1) := by decide +kernel
theorem dX12_across_47 : decode cX12_across 47 = .ok (.if_icmp .le 8, 3) := by decide +kernel
theorem dX12_across_50 : decode cX12_across 50 = .ok (.iload 4, 2) := by decide +kernel
theorem dX12_across_52 : decode cX12_across 52 = .ok (.goto 4, 3) := by decide +kernel
theorem dX12_across_55 : decode cX12_across 55 = .ok (.iload_n 1, 1) := by decide +kernel
theorem dX12_across_56 : decode cX12_across 56 = .ok (.istore_n 1, 1) := by decide +kernel
theorem dX12_across_57 : decode cX12_across 57 = .ok (.iinc 2 1, 3) := by decide +kernel
theorem dX12_across_60 : decode cX12_across 60 = .ok (.goto (-56), 3) := by decide +kernel
theorem dX12_across_63 : decode cX12_across 63 = .ok (.iload_n 1, 1) := by decide +kernel
theorem dX12_across_64 : decode cX12_across 64 = .ok (.i2l, 1) := by decide +kernel
theorem dX12_across_65 : decode cX12_across 65 = .ok (.lreturn, 1) := by decide +kernel
theorem dX12_trees_0 : decode cX12_trees 0 = .ok (.aload_n 0, 1) := by decide +kernel
theorem dX12_trees_1 : decode cX12_trees 1 = .ok (.getfield 339, 3) := by decide +kernel
theorem dX12_trees_4 : decode cX12_trees 4 = .ok (.iconst 1, 1) := by decide +kernel
theorem dX12_trees_5 : decode cX12_trees 5 = .ok (.isub, 1) := by decide +kernel
theorem dX12_trees_6 : decode cX12_trees 6 = .ok (.istore_n 1, 1) := by decide +kernel
theorem dX12_trees_7 : decode cX12_trees 7 = .ok (.iconst 0, 1) := by decide +kernel
theorem dX12_trees_8 : decode cX12_trees 8 = .ok (.istore_n 2, 1) := by decide +kernel
theorem dX12_trees_9 : decode cX12_trees 9 = .ok (.iload_n 2, 1) := by decide +kernel
theorem dX12_trees_10 : decode cX12_trees 10 = .ok (.iload_n 1, 1) := by decide +kernel
theorem dX12_trees_11 : decode cX12_trees 11 = .ok (.if_icmp .ge 70, 3) := by decide +kernel
theorem dX12_trees_14 : decode cX12_trees 14 = .ok (.iconst 0, 1) := by decide +kernel
theorem dX12_trees_15 : decode cX12_trees 15 = .ok (.istore_n 3, 1) := by decide +kernel
theorem dX12_trees_16 : decode cX12_trees 16 = .ok (.iload_n 3, 1) := by decide +kernel
theorem dX12_trees_17 : decode cX12_trees 17 = .ok (.iload_n 1, 1) := by decide +kernel
theorem dX12_trees_18 : decode cX12_trees 18 = .ok (.if_icmp .ge 57, 3) := by decide +kernel
theorem dX12_trees_21 : decode cX12_trees 21 = .ok (.aload_n 0, 1) := by decide +kernel
theorem dX12_trees_22 : decode cX12_trees 22 = .ok (.getfield 73, 3) := by decide +kernel
theorem dX12_trees_25 : decode cX12_trees 25 = .ok (.bipush 12, 2) := by decide +kernel
theorem dX12_trees_27 : decode cX12_trees 27 = .ok (.iload_n 2, 1) := by decide +kernel
theorem dX12_trees_28 : decode cX12_trees 28 = .ok (.imul, 1) := by decide +kernel
theorem dX12_trees_29 : decode cX12_trees 29 = .ok (.iload_n 3, 1) := by decide +kernel
theorem dX12_trees_30 : decode cX12_trees 30 = .ok (.iadd, 1) := by decide +kernel
theorem dX12_trees_31 : decode cX12_trees 31 = .ok (.iload_n 2, 1) := by decide +kernel
theorem dX12_trees_32 : decode cX12_trees 32 = .ok (.iload_n 3, 1) := by decide +kernel
theorem dX12_trees_33 : decode cX12_trees 33 = .ok (.if_icmp .ne 16, 3) := by decide +kernel
theorem dX12_trees_36 : decode cX12_trees 36 = .ok (.aload_n 0, 1) := by decide +kernel
theorem dX12_trees_37 : decode cX12_trees 37 = .ok (.getfield 70, 3) := by decide +kernel
theorem dX12_trees_40 : decode cX12_trees 40 = .ok (.iload_n 2, 1) := by decide +kernel
theorem dX12_trees_41 : decode cX12_trees 41 = .ok (.iaload, 1) := by decide +kernel
theorem dX12_trees_42 : decode cX12_trees 42 = .ok (.i2l, 1) := by decide +kernel
theorem dX12_trees_43 : decode cX12_trees 43 = .ok (.invokestatic 106, 3) := by decide +kernel
theorem dX12_trees_46 : decode cX12_trees 46 = .ok (.goto 22, 3) := by decide +kernel
theorem dX12_trees_49 : decode cX12_trees 49 = .ok (.aload_n 0, 1) := by decide +kernel
theorem dX12_trees_50 : decode cX12_trees 50 = .ok (.getfield 70, 3) := by decide +kernel
theorem dX12_trees_53 : decode cX12_trees 53 = .ok (.iload_n 2, 1) := by decide +kernel
theorem dX12_trees_54 : decode cX12_trees 54 = .ok (.iaload, 1) := by decide +kernel
theorem dX12_trees_55 : decode cX12_trees 55 = .ok (.i2l, 1) := by decide +kernel
theorem dX12_trees_56 : decode cX12_trees 56 = .ok (.iload_n 3, 1) := by decide +kernel
theorem dX12_trees_57 : decode cX12_trees 57 = .ok (.invokestatic 86, 3) := by decide +kernel
theorem dX12_trees_60 : decode cX12_trees 60 = .ok (.ifCond .eq 7, 3) := by decide +kernel
theorem dX12_trees_63 : decode cX12_trees 63 = .ok (.iconst (-1), 1) := by decide +kernel
theorem dX12_trees_64 : decode cX12_trees 64 = .ok (.goto 4, 3) := by decide +kernel
theorem dX12_trees_67 : decode cX12_trees 67 = .ok (.iconst 0, 1) := by decide +kernel
theorem dX12_trees_68 : decode cX12_trees 68 = .ok (.iastore, 1) := by decide +kernel
theorem dX12_trees_69 : decode cX12_trees 69 = .ok (.iinc 3 1, 3) := by decide +kernel
theorem dX12_trees_72 : decode cX12_trees 72 = .ok (.goto (-56), 3) := by decide +kernel
theorem dX12_trees_75 : decode cX12_trees 75 = .ok (.iinc 2 1, 3) := by decide +kernel
theorem dX12_trees_78 : decode cX12_trees 78 = .ok (.goto (-69), 3) := by decide +kernel
theorem dX12_trees_81 : decode cX12_trees 81 = .ok (.lconst 1, 1) := by decide +kernel
theorem dX12_trees_82 : decode cX12_trees 82 = .ok (.lstore_n 2, 1) := by decide +kernel
theorem dX12_trees_83 : decode cX12_trees 83 = .ok (.iconst 0, 1) := by decide +kernel
theorem dX12_trees_84 : decode cX12_trees 84 = .ok (.istore 4, 2) := by decide +kernel
theorem dX12_trees_86 : decode cX12_trees 86 = .ok (.iload 4, 2) := by decide +kernel
theorem dX12_trees_88 : decode cX12_trees 88 = .ok (.iload_n 1, 1) := by decide +kernel
theorem dX12_trees_89 : decode cX12_trees 89 = .ok (.if_icmp .ge 139, 3) := by decide +kernel
theorem dX12_trees_92 : decode cX12_trees 92 = .ok (.iload 4, 2) := by decide +kernel
theorem dX12_trees_94 : decode cX12_trees 94 = .ok (.iconst 1, 1) := by decide +kernel
theorem dX12_trees_95 : decode cX12_trees 95 = .ok (.iadd, 1) := by decide +kernel
theorem dX12_trees_96 : decode cX12_trees 96 = .ok (.istore 5, 2) := by decide +kernel
theorem dX12_trees_98 : decode cX12_trees 98 = .ok (.iload 5, 2) := by decide +kernel
theorem dX12_trees_100 : decode cX12_trees 100 = .ok (.iload_n 1, 1) := by decide +kernel
theorem dX12_trees_101 : decode cX12_trees 101 = .ok (.if_icmp .ge 106, 3) := by decide +kernel
theorem dX12_trees_104 : decode cX12_trees 104 = .ok (.iload 4, 2) := by decide +kernel
theorem dX12_trees_106 : decode cX12_trees 106 = .ok (.iconst 1, 1) := by decide +kernel
theorem dX12_trees_107 : decode cX12_trees 107 = .ok (.iadd, 1) := by decide +kernel
theorem dX12_trees_108 : decode cX12_trees 108 = .ok (.istore 6, 2) := by decide +kernel
theorem dX12_trees_110 : decode cX12_trees 110 = .ok (.iload 6, 2) := by decide +kernel
theorem dX12_trees_112 : decode cX12_trees 112 = .ok (.iload_n 1, 1) := by decide +kernel
theorem dX12_trees_113 : decode cX12_trees 113 = .ok (.if_icmp .ge 88, 3) := by decide +kernel
theorem dX12_trees_116 : decode cX12_trees 116 = .ok (.aload_n 0, 1) := by decide +kernel
theorem dX12_trees_117 : decode cX12_trees 117 = .ok (.getfield 73, 3) := by decide +kernel
theorem dX12_trees_120 : decode cX12_trees 120 = .ok (.bipush 12, 2) := by decide +kernel
theorem dX12_trees_122 : decode cX12_trees 122 = .ok (.iload 5, 2) := by decide +kernel
theorem dX12_trees_124 : decode cX12_trees 124 = .ok (.imul, 1) := by decide +kernel
theorem dX12_trees_125 : decode cX12_trees 125 = .ok (.iload 6, 2) := by decide +kernel
theorem dX12_trees_127 : decode cX12_trees 127 = .ok (.iadd, 1) := by decide +kernel
theorem dX12_trees_128 : decode cX12_trees 128 = .ok (.iaload, 1) := by decide +kernel
theorem dX12_trees_129 : decode cX12_trees 129 = .ok (.i2l, 1) := by decide +kernel
theorem dX12_trees_130 : decode cX12_trees 130 = .ok (.aload_n 0, 1) := by decide +kernel
theorem dX12_trees_131 : decode cX12_trees 131 = .ok (.getfield 73, 3) := by decide +kernel
theorem dX12_trees_134 : decode cX12_trees 134 = .ok (.bipush 12, 2) := by decide +kernel
theorem dX12_trees_136 : decode cX12_trees 136 = .ok (.iload 4, 2) := by decide +kernel
theorem dX12_trees_138 : decode cX12_trees 138 = .ok (.imul, 1) := by decide +kernel
theorem dX12_trees_139 : decode cX12_trees 139 = .ok (.iload 4, 2) := by decide +kernel
theorem dX12_trees_141 : decode cX12_trees 141 = .ok (.iadd, 1) := by decide +kernel
theorem dX12_trees_142 : decode cX12_trees 142 = .ok (.iaload, 1) := by decide +kernel
theorem dX12_trees_143 : decode cX12_trees 143 = .ok (.i2l, 1) := by decide +kernel
theorem dX12_trees_144 : decode cX12_trees 144 = .ok (.lmul, 1) := by decide +kernel
theorem dX12_trees_145 : decode cX12_trees 145 = .ok (.aload_n 0, 1) := by decide +kernel
theorem dX12_trees_146 : decode cX12_trees 146 = .ok (.getfield 73, 3) := by decide +kernel
theorem dX12_trees_149 : decode cX12_trees 149 = .ok (.bipush 12, 2) := by decide +kernel
theorem dX12_trees_151 : decode cX12_trees 151 = .ok (.iload 5, 2) := by decide +kernel
theorem dX12_trees_153 : decode cX12_trees 153 = .ok (.imul, 1) := by decide +kernel
theorem dX12_trees_154 : decode cX12_trees 154 = .ok (.iload 4, 2) := by decide +kernel
theorem dX12_trees_156 : decode cX12_trees 156 = .ok (.iadd, 1) := by decide +kernel
theorem dX12_trees_157 : decode cX12_trees 157 = .ok (.iaload, 1) := by decide +kernel
theorem dX12_trees_158 : decode cX12_trees 158 = .ok (.i2l, 1) := by decide +kernel
theorem dX12_trees_159 : decode cX12_trees 159 = .ok (.aload_n 0, 1) := by decide +kernel
theorem dX12_trees_160 : decode cX12_trees 160 = .ok (.getfield 73, 3) := by decide +kernel
theorem dX12_trees_163 : decode cX12_trees 163 = .ok (.bipush 12, 2) := by decide +kernel
theorem dX12_trees_165 : decode cX12_trees 165 = .ok (.iload 4, 2) := by decide +kernel
theorem dX12_trees_167 : decode cX12_trees 167 = .ok (.imul, 1) := by decide +kernel
theorem dX12_trees_168 : decode cX12_trees 168 = .ok (.iload 6, 2) := by decide +kernel
theorem dX12_trees_170 : decode cX12_trees 170 = .ok (.iadd, 1) := by decide +kernel
theorem dX12_trees_171 : decode cX12_trees 171 = .ok (.iaload, 1) := by decide +kernel
theorem dX12_trees_172 : decode cX12_trees 172 = .ok (.i2l, 1) := by decide +kernel
theorem dX12_trees_173 : decode cX12_trees 173 = .ok (.lmul, 1) := by decide +kernel
theorem dX12_trees_174 : decode cX12_trees 174 = .ok (.lsub, 1) := by decide +kernel
theorem dX12_trees_175 : decode cX12_trees 175 = .ok (.lstore 7, 2) := by decide +kernel
theorem dX12_trees_177 : decode cX12_trees 177 = .ok (.aload_n 0, 1) := by decide +kernel
theorem dX12_trees_178 : decode cX12_trees 178 = .ok (.getfield 73, 3) := by decide +kernel
theorem dX12_trees_181 : decode cX12_trees 181 = .ok (.bipush 12, 2) := by decide +kernel
theorem dX12_trees_183 : decode cX12_trees 183 = .ok (.iload 5, 2) := by decide +kernel
theorem dX12_trees_185 : decode cX12_trees 185 = .ok (.imul, 1) := by decide +kernel
theorem dX12_trees_186 : decode cX12_trees 186 = .ok (.iload 6, 2) := by decide +kernel
theorem dX12_trees_188 : decode cX12_trees 188 = .ok (.iadd, 1) := by decide +kernel
theorem dX12_trees_189 : decode cX12_trees 189 = .ok (.lload 7, 2) := by decide +kernel
theorem dX12_trees_191 : decode cX12_trees 191 = .ok (.lload_n 2, 1) := by decide +kernel
theorem dX12_trees_192 : decode cX12_trees 192 = .ok (.ldiv, 1) := by decide +kernel
theorem dX12_trees_193 : decode cX12_trees 193 = .ok (.l2i, 1) := by decide +kernel
theorem dX12_trees_194 : decode cX12_trees 194 = .ok (.iastore, 1) := by decide +kernel
theorem dX12_trees_195 : decode cX12_trees 195 = .ok (.iinc 6 1, 3) := by decide +kernel
theorem dX12_trees_198 : decode cX12_trees 198 = .ok (.goto (-88), 3) := by decide +kernel
theorem dX12_trees_201 : decode cX12_trees 201 = .ok (.iinc 5 1, 3) := by decide +kernel
theorem dX12_trees_204 : decode cX12_trees 204 = .ok (.goto (-106), 3) := by decide +kernel
theorem dX12_trees_207 : decode cX12_trees 207 = .ok (.aload_n 0, 1) := by decide +kernel
theorem dX12_trees_208 : decode cX12_trees 208 = .ok (.getfield 73, 3) := by decide +kernel
theorem dX12_trees_211 : decode cX12_trees 211 = .ok (.bipush 12, 2) := by decide +kernel
theorem dX12_trees_213 : decode cX12_trees 213 = .ok (.iload 4, 2) := by decide +kernel
theorem dX12_trees_215 : decode cX12_trees 215 = .ok (.imul, 1) := by decide +kernel
theorem dX12_trees_216 : decode cX12_trees 216 = .ok (.iload 4, 2) := by decide +kernel
theorem dX12_trees_218 : decode cX12_trees 218 = .ok (.iadd, 1) := by decide +kernel
theorem dX12_trees_219 : decode cX12_trees 219 = .ok (.iaload, 1) := by decide +kernel
theorem dX12_trees_220 : decode cX12_trees 220 = .ok (.i2l, 1) := by decide +kernel
theorem dX12_trees_221 : decode cX12_trees 221 = .ok (.lstore_n 2, 1) := by decide +kernel
theorem dX12_trees_222 : decode cX12_trees 222 = .ok (.iinc 4 1, 3) := by decide +kernel
theorem dX12_trees_225 : decode cX12_trees 225 = .ok (.goto (-139), 3) := by decide +kernel
theorem dX12_trees_228 : decode cX12_trees 228 = .ok (.lload_n 2, 1) := by decide +kernel
theorem dX12_trees_229 : decode cX12_trees 229 = .ok (.lreturn, 1) := by decide +kernel
theorem dX12_unlike_0 : decode cX12_unlike 0 = .ok (.iconst 0, 1) := by decide +kernel
theorem dX12_unlike_1 : decode cX12_unlike 1 = .ok (.istore_n 1, 1) := by decide +kernel
theorem dX12_unlike_2 : decode cX12_unlike 2 = .ok (.iconst 0, 1) := by decide +kernel
theorem dX12_unlike_3 : decode cX12_unlike 3 = .ok (.istore_n 2, 1) := by decide +kernel
theorem dX12_unlike_4 : decode cX12_unlike 4 = .ok (.iload_n 2, 1) := by decide +kernel
theorem dX12_unlike_5 : decode cX12_unlike 5 = .ok (.aload_n 0, 1) := by decide +kernel
theorem dX12_unlike_6 : decode cX12_unlike 6 = .ok (.getfield 339, 3) := by decide +kernel
theorem dX12_unlike_9 : decode cX12_unlike 9 = .ok (.if_icmp .ge 41, 3) := by decide +kernel
theorem dX12_unlike_12 : decode cX12_unlike 12 = .ok (.iload_n 1, 1) := by decide +kernel
theorem dX12_unlike_13 : decode cX12_unlike 13 = .ok (.aload_n 0, 1) := by decide +kernel
theorem dX12_unlike_14 : decode cX12_unlike 14 = .ok (.getfield 67, 3) := by decide +kernel
theorem dX12_unlike_17 : decode cX12_unlike 17 = .ok (.iload_n 2, 1) := by decide +kernel
theorem dX12_unlike_18 : decode cX12_unlike 18 = .ok (.iaload, 1) := by decide +kernel
theorem dX12_unlike_19 : decode cX12_unlike 19 = .ok (.bipush 8, 2) := by decide +kernel
theorem dX12_unlike_21 : decode cX12_unlike 21 = .ok (.irem, 1) := by decide +kernel
theorem dX12_unlike_22 : decode cX12_unlike 22 = .ok (.aload_n 0, 1) := by decide +kernel
theorem dX12_unlike_23 : decode cX12_unlike 23 = .ok (.getfield 67, 3) := by decide +kernel
theorem dX12_unlike_26 : decode cX12_unlike 26 = .ok (.iload_n 2, 1) := by decide +kernel
theorem dX12_unlike_27 : decode cX12_unlike 27 = .ok (.iaload, 1) := by decide +kernel
theorem dX12_unlike_28 : decode cX12_unlike 28 = .ok (.bipush 8, 2) := by decide +kernel
theorem dX12_unlike_30 : decode cX12_unlike 30 = .ok (.idiv, 1) := by decide +kernel
theorem dX12_unlike_31 : decode cX12_unlike 31 = .ok (.iadd, 1) := by decide +kernel
theorem dX12_unlike_32 : decode cX12_unlike 32 = .ok (.iconst 2, 1) := by decide +kernel
theorem dX12_unlike_33 : decode cX12_unlike 33 = .ok (.irem, 1) := by decide +kernel
theorem dX12_unlike_34 : decode cX12_unlike 34 = .ok (.ifCond .ne 7, 3) := by decide +kernel
theorem dX12_unlike_37 : decode cX12_unlike 37 = .ok (.iconst 1, 1) := by decide +kernel
theorem dX12_unlike_38 : decode cX12_unlike 38 = .ok (.goto 4, 3) := by decide +kernel
theorem dX12_unlike_41 : decode cX12_unlike 41 = .ok (.iconst (-1), 1) := by decide +kernel
theorem dX12_unlike_42 : decode cX12_unlike 42 = .ok (.iadd, 1) := by decide +kernel
theorem dX12_unlike_43 : decode cX12_unlike 43 = .ok (.istore_n 1, 1) := by decide +kernel
theorem dX12_unlike_44 : decode cX12_unlike 44 = .ok (.iinc 2 1, 3) := by decide +kernel
theorem dX12_unlike_47 : decode cX12_unlike 47 = .ok (.goto (-43), 3) := by decide +kernel
theorem dX12_unlike_50 : decode cX12_unlike 50 = .ok (.iload_n 1, 1) := by decide +kernel
theorem dX12_unlike_51 : decode cX12_unlike 51 = .ok (.ifCond .ge 9, 3) := by decide +kernel
theorem dX12_unlike_54 : decode cX12_unlike 54 = .ok (.iload_n 1, 1) := by decide +kernel
theorem dX12_unlike_55 : decode cX12_unlike 55 = .ok (.ineg, 1) := by decide +kernel
theorem dX12_unlike_56 : decode cX12_unlike 56 = .ok (.i2l, 1) := by decide +kernel
theorem dX12_unlike_57 : decode cX12_unlike 57 = .ok (.goto 5, 3) := by decide +kernel
theorem dX12_unlike_60 : decode cX12_unlike 60 = .ok (.iload_n 1, 1) := by decide +kernel
theorem dX12_unlike_61 : decode cX12_unlike 61 = .ok (.i2l, 1) := by decide +kernel
theorem dX12_unlike_62 : decode cX12_unlike 62 = .ok (.lreturn, 1) := by decide +kernel
theorem dX12_part_0 : decode cX12_part 0 = .ok (.iload_n 1, 1) := by decide +kernel
theorem dX12_part_1 : decode cX12_part 1 = .ok (.invokestatic 135, 3) := by decide +kernel
theorem dX12_part_4 : decode cX12_part 4 = .ok (.ifCond .eq 13, 3) := by decide +kernel
theorem dX12_part_7 : decode cX12_part 7 = .ok (.iload_n 2, 1) := by decide +kernel
theorem dX12_part_8 : decode cX12_part 8 = .ok (.iconst 0, 1) := by decide +kernel
theorem dX12_part_9 : decode cX12_part 9 = .ok (.bipush 7, 2) := by decide +kernel
theorem dX12_part_11 : decode cX12_part 11 = .ok (.invokestatic 82, 3) := by decide +kernel
theorem dX12_part_14 : decode cX12_part 14 = .ok (.ifCond .ne 7, 3) := by decide +kernel
theorem dX12_part_17 : decode cX12_part 17 = .ok (.ldc2_w 98, 3) := by decide +kernel
theorem dX12_part_20 : decode cX12_part 20 = .ok (.lreturn, 1) := by decide +kernel
theorem dX12_part_21 : decode cX12_part 21 = .ok (.aload_n 0, 1) := by decide +kernel
theorem dX12_part_22 : decode cX12_part 22 = .ok (.getfield 7, 3) := by decide +kernel
theorem dX12_part_25 : decode cX12_part 25 = .ok (.iload_n 1, 1) := by decide +kernel
theorem dX12_part_26 : decode cX12_part 26 = .ok (.laload, 1) := by decide +kernel
theorem dX12_part_27 : decode cX12_part 27 = .ok (.lconst 0, 1) := by decide +kernel
theorem dX12_part_28 : decode cX12_part 28 = .ok (.lcmp, 1) := by decide +kernel
theorem dX12_part_29 : decode cX12_part 29 = .ok (.ifCond .ne 7, 3) := by decide +kernel
theorem dX12_part_32 : decode cX12_part 32 = .ok (.ldc2_w 197, 3) := by decide +kernel
theorem dX12_part_35 : decode cX12_part 35 = .ok (.lreturn, 1) := by decide +kernel
theorem dX12_part_36 : decode cX12_part 36 = .ok (.aload_n 0, 1) := by decide +kernel
theorem dX12_part_37 : decode cX12_part 37 = .ok (.aload_n 0, 1) := by decide +kernel
theorem dX12_part_38 : decode cX12_part 38 = .ok (.getfield 7, 3) := by decide +kernel
theorem dX12_part_41 : decode cX12_part 41 = .ok (.iload_n 1, 1) := by decide +kernel
theorem dX12_part_42 : decode cX12_part 42 = .ok (.laload, 1) := by decide +kernel
theorem dX12_part_43 : decode cX12_part 43 = .ok (.invokevirtual 349, 3) := by decide +kernel
theorem dX12_part_46 : decode cX12_part 46 = .ok (.iload_n 2, 1) := by decide +kernel
theorem dX12_part_47 : decode cX12_part 47 = .ok (.tableswitch 69 0 6 #[41, 46, 51, 51, 51, 59, 64], 41) := by decide +kernel
theorem dX12_part_88 : decode cX12_part 88 = .ok (.aload_n 0, 1) := by decide +kernel
theorem dX12_part_89 : decode cX12_part 89 = .ok (.invokevirtual 352, 3) := by decide +kernel
theorem dX12_part_92 : decode cX12_part 92 = .ok (.lreturn, 1) := by decide +kernel
theorem dX12_part_93 : decode cX12_part 93 = .ok (.aload_n 0, 1) := by decide +kernel
theorem dX12_part_94 : decode cX12_part 94 = .ok (.invokevirtual 355, 3) := by decide +kernel
theorem dX12_part_97 : decode cX12_part 97 = .ok (.lreturn, 1) := by decide +kernel
theorem dX12_part_98 : decode cX12_part 98 = .ok (.aload_n 0, 1) := by decide +kernel
theorem dX12_part_99 : decode cX12_part 99 = .ok (.iload_n 2, 1) := by decide +kernel
theorem dX12_part_100 : decode cX12_part 100 = .ok (.iconst 2, 1) := by decide +kernel
theorem dX12_part_101 : decode cX12_part 101 = .ok (.isub, 1) := by decide +kernel
theorem dX12_part_102 : decode cX12_part 102 = .ok (.invokevirtual 358, 3) := by decide +kernel
theorem dX12_part_105 : decode cX12_part 105 = .ok (.lreturn, 1) := by decide +kernel
theorem dX12_part_106 : decode cX12_part 106 = .ok (.aload_n 0, 1) := by decide +kernel
theorem dX12_part_107 : decode cX12_part 107 = .ok (.invokevirtual 361, 3) := by decide +kernel
theorem dX12_part_110 : decode cX12_part 110 = .ok (.lreturn, 1) := by decide +kernel
theorem dX12_part_111 : decode cX12_part 111 = .ok (.aload_n 0, 1) := by decide +kernel
theorem dX12_part_112 : decode cX12_part 112 = .ok (.invokevirtual 364, 3) := by decide +kernel
theorem dX12_part_115 : decode cX12_part 115 = .ok (.lreturn, 1) := by decide +kernel
theorem dX12_part_116 : decode cX12_part 116 = .ok (.aload_n 0, 1) := by decide +kernel
theorem dX12_part_117 : decode cX12_part 117 = .ok (.invokevirtual 367, 3) := by decide +kernel
theorem dX12_part_120 : decode cX12_part 120 = .ok (.lreturn, 1) := by decide +kernel
theorem dX12_liesIn_0 : decode cX12_liesIn 0 = .ok (.iconst 0, 1) := by decide +kernel
theorem dX12_liesIn_1 : decode cX12_liesIn 1 = .ok (.istore 4, 2) := by decide +kernel
theorem dX12_liesIn_3 : decode cX12_liesIn 3 = .ok (.iconst 0, 1) := by decide +kernel
theorem dX12_liesIn_4 : decode cX12_liesIn 4 = .ok (.istore 5, 2) := by decide +kernel
theorem dX12_liesIn_6 : decode cX12_liesIn 6 = .ok (.iload 5, 2) := by decide +kernel
theorem dX12_liesIn_8 : decode cX12_liesIn 8 = .ok (.bipush 7, 2) := by decide +kernel
theorem dX12_liesIn_10 : decode cX12_liesIn 10 = .ok (.if_icmp .ge 61, 3) := by decide +kernel
theorem dX12_liesIn_13 : decode cX12_liesIn 13 = .ok (.iconst 0, 1) := by decide +kernel
theorem dX12_liesIn_14 : decode cX12_liesIn 14 = .ok (.istore 6, 2) := by decide +kernel
theorem dX12_liesIn_16 : decode cX12_liesIn 16 = .ok (.iload 6, 2) := by decide +kernel
theorem dX12_liesIn_18 : decode cX12_liesIn 18 = .ok (.bipush 7, 2) := by decide +kernel
theorem dX12_liesIn_20 : decode cX12_liesIn 20 = .ok (.if_icmp .ge 45, 3) := by decide +kernel
theorem dX12_liesIn_23 : decode cX12_liesIn 23 = .ok (.lload_n 0, 1) := by decide +kernel
theorem dX12_liesIn_24 : decode cX12_liesIn 24 = .ok (.iload 6, 2) := by decide +kernel
theorem dX12_liesIn_26 : decode cX12_liesIn 26 = .ok (.iload 5, 2) := by decide +kernel
theorem dX12_liesIn_28 : decode cX12_liesIn 28 = .ok (.invokestatic 336, 3) := by decide +kernel
theorem dX12_liesIn_31 : decode cX12_liesIn 31 = .ok (.lstore 7, 2) := by decide +kernel
theorem dX12_liesIn_33 : decode cX12_liesIn 33 = .ok (.lload 7, 2) := by decide +kernel
theorem dX12_liesIn_35 : decode cX12_liesIn 35 = .ok (.lconst 0, 1) := by decide +kernel
theorem dX12_liesIn_36 : decode cX12_liesIn 36 = .ok (.lcmp, 1) := by decide +kernel
theorem dX12_liesIn_37 : decode cX12_liesIn 37 = .ok (.ifCond .eq 22, 3) := by decide +kernel
theorem dX12_liesIn_40 : decode cX12_liesIn 40 = .ok (.lload 7, 2) := by decide +kernel
theorem dX12_liesIn_42 : decode cX12_liesIn 42 = .ok (.lload_n 2, 1) := by decide +kernel
theorem dX12_liesIn_43 : decode cX12_liesIn 43 = .ok (.ldc2_w 98, 3) := by decide +kernel
theorem dX12_liesIn_46 : decode cX12_liesIn 46 = .ok (.lxor, 1) := by decide +kernel
theorem dX12_liesIn_47 : decode cX12_liesIn 47 = .ok (.land, 1) := by decide +kernel
theorem dX12_liesIn_48 : decode cX12_liesIn 48 = .ok (.lconst 0, 1) := by decide +kernel
theorem dX12_liesIn_49 : decode cX12_liesIn 49 = .ok (.lcmp, 1) := by decide +kernel
theorem dX12_liesIn_50 : decode cX12_liesIn 50 = .ok (.ifCond .ne 9, 3) := by decide +kernel
theorem dX12_liesIn_53 : decode cX12_liesIn 53 = .ok (.iload 4, 2) := by decide +kernel
theorem dX12_liesIn_55 : decode cX12_liesIn 55 = .ok (.iconst 1, 1) := by decide +kernel
theorem dX12_liesIn_56 : decode cX12_liesIn 56 = .ok (.iadd, 1) := by decide +kernel
theorem dX12_liesIn_57 : decode cX12_liesIn 57 = .ok (.istore 4, 2) := by decide +kernel
theorem dX12_liesIn_59 : decode cX12_liesIn 59 = .ok (.iinc 6 1, 3) := by decide +kernel
theorem dX12_liesIn_62 : decode cX12_liesIn 62 = .ok (.goto (-46), 3) := by decide +kernel
theorem dX12_liesIn_65 : decode cX12_liesIn 65 = .ok (.iinc 5 1, 3) := by decide +kernel
theorem dX12_liesIn_68 : decode cX12_liesIn 68 = .ok (.goto (-62), 3) := by decide +kernel
theorem dX12_liesIn_71 : decode cX12_liesIn 71 = .ok (.iload 4, 2) := by decide +kernel
theorem dX12_liesIn_73 : decode cX12_liesIn 73 = .ok (.ireturn, 1) := by decide +kernel
theorem dX12_inside_0 : decode cX12_inside 0 = .ok (.iload_n 1, 1) := by decide +kernel
theorem dX12_inside_1 : decode cX12_inside 1 = .ok (.invokestatic 135, 3) := by decide +kernel
theorem dX12_inside_4 : decode cX12_inside 4 = .ok (.ifCond .eq 10, 3) := by decide +kernel
theorem dX12_inside_7 : decode cX12_inside 7 = .ok (.iload_n 2, 1) := by decide +kernel
theorem dX12_inside_8 : decode cX12_inside 8 = .ok (.invokestatic 135, 3) := by decide +kernel
theorem dX12_inside_11 : decode cX12_inside 11 = .ok (.ifCond .ne 5, 3) := by decide +kernel
theorem dX12_inside_14 : decode cX12_inside 14 = .ok (.iconst (-1), 1) := by decide +kernel
theorem dX12_inside_15 : decode cX12_inside 15 = .ok (.ireturn, 1) := by decide +kernel
theorem dX12_inside_16 : decode cX12_inside 16 = .ok (.aload_n 0, 1) := by decide +kernel
theorem dX12_inside_17 : decode cX12_inside 17 = .ok (.getfield 7, 3) := by decide +kernel
theorem dX12_inside_20 : decode cX12_inside 20 = .ok (.iload_n 1, 1) := by decide +kernel
theorem dX12_inside_21 : decode cX12_inside 21 = .ok (.laload, 1) := by decide +kernel
theorem dX12_inside_22 : decode cX12_inside 22 = .ok (.lconst 0, 1) := by decide +kernel
theorem dX12_inside_23 : decode cX12_inside 23 = .ok (.lcmp, 1) := by decide +kernel
theorem dX12_inside_24 : decode cX12_inside 24 = .ok (.ifCond .eq 14, 3) := by decide +kernel
theorem dX12_inside_27 : decode cX12_inside 27 = .ok (.aload_n 0, 1) := by decide +kernel
theorem dX12_inside_28 : decode cX12_inside 28 = .ok (.getfield 7, 3) := by decide +kernel
theorem dX12_inside_31 : decode cX12_inside 31 = .ok (.iload_n 2, 1) := by decide +kernel
theorem dX12_inside_32 : decode cX12_inside 32 = .ok (.laload, 1) := by decide +kernel
theorem dX12_inside_33 : decode cX12_inside 33 = .ok (.lconst 0, 1) := by decide +kernel
theorem dX12_inside_34 : decode cX12_inside 34 = .ok (.lcmp, 1) := by decide +kernel
theorem dX12_inside_35 : decode cX12_inside 35 = .ok (.ifCond .ne 6, 3) := by decide +kernel
theorem dX12_inside_38 : decode cX12_inside 38 = .ok (.bipush (-2), 2) := by decide +kernel
theorem dX12_inside_40 : decode cX12_inside 40 = .ok (.ireturn, 1) := by decide +kernel
theorem dX12_inside_41 : decode cX12_inside 41 = .ok (.aload_n 0, 1) := by decide +kernel
theorem dX12_inside_42 : decode cX12_inside 42 = .ok (.iconst 0, 1) := by decide +kernel
theorem dX12_inside_43 : decode cX12_inside 43 = .ok (.putfield 333, 3) := by decide +kernel
theorem dX12_inside_46 : decode cX12_inside 46 = .ok (.iconst 0, 1) := by decide +kernel
theorem dX12_inside_47 : decode cX12_inside 47 = .ok (.istore 4, 2) := by decide +kernel
theorem dX12_inside_49 : decode cX12_inside 49 = .ok (.iload 4, 2) := by decide +kernel
theorem dX12_inside_51 : decode cX12_inside 51 = .ok (.iload_n 3, 1) := by decide +kernel
theorem dX12_inside_52 : decode cX12_inside 52 = .ok (.ifCond .eq 8, 3) := by decide +kernel
theorem dX12_inside_55 : decode cX12_inside 55 = .ok (.bipush 8, 2) := by decide +kernel
theorem dX12_inside_57 : decode cX12_inside 57 = .ok (.goto 4, 3) := by decide +kernel
theorem dX12_inside_60 : decode cX12_inside 60 = .ok (.iconst 1, 1) := by decide +kernel
theorem dX12_inside_61 : decode cX12_inside 61 = .ok (.if_icmp .ge 36, 3) := by decide +kernel
theorem dX12_inside_64 : decode cX12_inside 64 = .ok (.aload_n 0, 1) := by decide +kernel
theorem dX12_inside_65 : decode cX12_inside 65 = .ok (.aload_n 0, 1) := by decide +kernel
theorem dX12_inside_66 : decode cX12_inside 66 = .ok (.getfield 58, 3) := by decide +kernel
theorem dX12_inside_69 : decode cX12_inside 69 = .ok (.iconst 0, 1) := by decide +kernel
theorem dX12_inside_70 : decode cX12_inside 70 = .ok (.aload_n 0, 1) := by decide +kernel
theorem dX12_inside_71 : decode cX12_inside 71 = .ok (.getfield 333, 3) := by decide +kernel
theorem dX12_inside_74 : decode cX12_inside 74 = .ok (.aload_n 0, 1) := by decide +kernel
theorem dX12_inside_75 : decode cX12_inside 75 = .ok (.getfield 7, 3) := by decide +kernel
theorem dX12_inside_78 : decode cX12_inside 78 = .ok (.iload_n 1, 1) := by decide +kernel
theorem dX12_inside_79 : decode cX12_inside 79 = .ok (.laload, 1) := by decide +kernel
theorem dX12_inside_80 : decode cX12_inside 80 = .ok (.iload 4, 2) := by decide +kernel
theorem dX12_inside_82 : decode cX12_inside 82 = .ok (.invokestatic 159, 3) := by decide +kernel
theorem dX12_inside_85 : decode cX12_inside 85 = .ok (.invokestatic 232, 3) := by decide +kernel
theorem dX12_inside_88 : decode cX12_inside 88 = .ok (.putfield 333, 3) := by decide +kernel
theorem dX12_inside_91 : decode cX12_inside 91 = .ok (.iinc 4 1, 3) := by decide +kernel
theorem dX12_inside_94 : decode cX12_inside 94 = .ok (.goto (-45), 3) := by decide +kernel
theorem dX12_inside_97 : decode cX12_inside 97 = .ok (.iconst 0, 1) := by decide +kernel
theorem dX12_inside_98 : decode cX12_inside 98 = .ok (.istore 4, 2) := by decide +kernel
theorem dX12_inside_100 : decode cX12_inside 100 = .ok (.iconst 0, 1) := by decide +kernel
theorem dX12_inside_101 : decode cX12_inside 101 = .ok (.istore 5, 2) := by decide +kernel
theorem dX12_inside_103 : decode cX12_inside 103 = .ok (.iload 5, 2) := by decide +kernel
theorem dX12_inside_105 : decode cX12_inside 105 = .ok (.aload_n 0, 1) := by decide +kernel
theorem dX12_inside_106 : decode cX12_inside 106 = .ok (.getfield 333, 3) := by decide +kernel
theorem dX12_inside_109 : decode cX12_inside 109 = .ok (.if_icmp .ge 30, 3) := by decide +kernel
theorem dX12_inside_112 : decode cX12_inside 112 = .ok (.iload 4, 2) := by decide +kernel
theorem dX12_inside_114 : decode cX12_inside 114 = .ok (.aload_n 0, 1) := by decide +kernel
theorem dX12_inside_115 : decode cX12_inside 115 = .ok (.getfield 58, 3) := by decide +kernel
theorem dX12_inside_118 : decode cX12_inside 118 = .ok (.iload 5, 2) := by decide +kernel
theorem dX12_inside_120 : decode cX12_inside 120 = .ok (.laload, 1) := by decide +kernel
theorem dX12_inside_121 : decode cX12_inside 121 = .ok (.aload_n 0, 1) := by decide +kernel
theorem dX12_inside_122 : decode cX12_inside 122 = .ok (.getfield 7, 3) := by decide +kernel
theorem dX12_inside_125 : decode cX12_inside 125 = .ok (.iload_n 2, 1) := by decide +kernel
theorem dX12_inside_126 : decode cX12_inside 126 = .ok (.laload, 1) := by decide +kernel
theorem dX12_inside_127 : decode cX12_inside 127 = .ok (.invokestatic 370, 3) := by decide +kernel
theorem dX12_inside_130 : decode cX12_inside 130 = .ok (.iadd, 1) := by decide +kernel
theorem dX12_inside_131 : decode cX12_inside 131 = .ok (.istore 4, 2) := by decide +kernel
theorem dX12_inside_133 : decode cX12_inside 133 = .ok (.iinc 5 1, 3) := by decide +kernel
theorem dX12_inside_136 : decode cX12_inside 136 = .ok (.goto (-33), 3) := by decide +kernel
theorem dX12_inside_139 : decode cX12_inside 139 = .ok (.iload 4, 2) := by decide +kernel
theorem dX12_inside_141 : decode cX12_inside 141 = .ok (.ireturn, 1) := by decide +kernel
theorem dX12_common_0 : decode cX12_common 0 = .ok (.iload_n 1, 1) := by decide +kernel
theorem dX12_common_1 : decode cX12_common 1 = .ok (.invokestatic 135, 3) := by decide +kernel
theorem dX12_common_4 : decode cX12_common 4 = .ok (.ifCond .eq 10, 3) := by decide +kernel
theorem dX12_common_7 : decode cX12_common 7 = .ok (.iload_n 2, 1) := by decide +kernel
theorem dX12_common_8 : decode cX12_common 8 = .ok (.invokestatic 135, 3) := by decide +kernel
theorem dX12_common_11 : decode cX12_common 11 = .ok (.ifCond .ne 5, 3) := by decide +kernel
theorem dX12_common_14 : decode cX12_common 14 = .ok (.iconst (-1), 1) := by decide +kernel
theorem dX12_common_15 : decode cX12_common 15 = .ok (.ireturn, 1) := by decide +kernel
theorem dX12_common_16 : decode cX12_common 16 = .ok (.aload_n 0, 1) := by decide +kernel
theorem dX12_common_17 : decode cX12_common 17 = .ok (.getfield 7, 3) := by decide +kernel
theorem dX12_common_20 : decode cX12_common 20 = .ok (.iload_n 1, 1) := by decide +kernel
theorem dX12_common_21 : decode cX12_common 21 = .ok (.laload, 1) := by decide +kernel
theorem dX12_common_22 : decode cX12_common 22 = .ok (.lconst 0, 1) := by decide +kernel
theorem dX12_common_23 : decode cX12_common 23 = .ok (.lcmp, 1) := by decide +kernel
theorem dX12_common_24 : decode cX12_common 24 = .ok (.ifCond .eq 14, 3) := by decide +kernel
theorem dX12_common_27 : decode cX12_common 27 = .ok (.aload_n 0, 1) := by decide +kernel
theorem dX12_common_28 : decode cX12_common 28 = .ok (.getfield 7, 3) := by decide +kernel
theorem dX12_common_31 : decode cX12_common 31 = .ok (.iload_n 2, 1) := by decide +kernel
theorem dX12_common_32 : decode cX12_common 32 = .ok (.laload, 1) := by decide +kernel
theorem dX12_common_33 : decode cX12_common 33 = .ok (.lconst 0, 1) := by decide +kernel
theorem dX12_common_34 : decode cX12_common 34 = .ok (.lcmp, 1) := by decide +kernel
theorem dX12_common_35 : decode cX12_common 35 = .ok (.ifCond .ne 6, 3) := by decide +kernel
theorem dX12_common_38 : decode cX12_common 38 = .ok (.bipush (-2), 2) := by decide +kernel
theorem dX12_common_40 : decode cX12_common 40 = .ok (.ireturn, 1) := by decide +kernel
theorem dX12_common_41 : decode cX12_common 41 = .ok (.aload_n 0, 1) := by decide +kernel
theorem dX12_common_42 : decode cX12_common 42 = .ok (.aload_n 0, 1) := by decide +kernel
theorem dX12_common_43 : decode cX12_common 43 = .ok (.getfield 7, 3) := by decide +kernel
theorem dX12_common_46 : decode cX12_common 46 = .ok (.iload_n 1, 1) := by decide +kernel
theorem dX12_common_47 : decode cX12_common 47 = .ok (.laload, 1) := by decide +kernel
theorem dX12_common_48 : decode cX12_common 48 = .ok (.invokevirtual 349, 3) := by decide +kernel
theorem dX12_common_51 : decode cX12_common 51 = .ok (.iconst 0, 1) := by decide +kernel
theorem dX12_common_52 : decode cX12_common 52 = .ok (.istore_n 3, 1) := by decide +kernel
theorem dX12_common_53 : decode cX12_common 53 = .ok (.iconst 1, 1) := by decide +kernel
theorem dX12_common_54 : decode cX12_common 54 = .ok (.istore 4, 2) := by decide +kernel
theorem dX12_common_56 : decode cX12_common 56 = .ok (.iload 4, 2) := by decide +kernel
theorem dX12_common_58 : decode cX12_common 58 = .ok (.iconst 1, 1) := by decide +kernel
theorem dX12_common_59 : decode cX12_common 59 = .ok (.aload_n 0, 1) := by decide +kernel
theorem dX12_common_60 : decode cX12_common 60 = .ok (.getfield 339, 3) := by decide +kernel
theorem dX12_common_63 : decode cX12_common 63 = .ok (.ishl, 1) := by decide +kernel
theorem dX12_common_64 : decode cX12_common 64 = .ok (.if_icmp .ge 110, 3) := by decide +kernel
theorem dX12_common_67 : decode cX12_common 67 = .ok (.iload 4, 2) := by decide +kernel
theorem dX12_common_69 : decode cX12_common 69 = .ok (.i2l, 1) := by decide +kernel
theorem dX12_common_70 : decode cX12_common 70 = .ok (.invokestatic 106, 3) := by decide +kernel
theorem dX12_common_73 : decode cX12_common 73 = .ok (.iload_n 3, 1) := by decide +kernel
theorem dX12_common_74 : decode cX12_common 74 = .ok (.if_icmp .gt 6, 3) := by decide +kernel
theorem dX12_common_77 : decode cX12_common 77 = .ok (.goto 91, 3) := by decide +kernel
theorem dX12_common_80 : decode cX12_common 80 = .ok (.aload_n 0, 1) := by decide +kernel
theorem dX12_common_81 : decode cX12_common 81 = .ok (.iload 4, 2) := by decide +kernel
theorem dX12_common_83 : decode cX12_common 83 = .ok (.invokevirtual 345, 3) := by decide +kernel
theorem dX12_common_86 : decode cX12_common 86 = .ok (.lstore 5, 2) := by decide +kernel
theorem dX12_common_88 : decode cX12_common 88 = .ok (.lload 5, 2) := by decide +kernel
theorem dX12_common_90 : decode cX12_common 90 = .ok (.invokestatic 110, 3) := by decide +kernel
theorem dX12_common_93 : decode cX12_common 93 = .ok (.ifCond .ne 6, 3) := by decide +kernel
theorem dX12_common_96 : decode cX12_common 96 = .ok (.goto 72, 3) := by decide +kernel
theorem dX12_common_99 : decode cX12_common 99 = .ok (.iconst 0, 1) := by decide +kernel
theorem dX12_common_100 : decode cX12_common 100 = .ok (.istore 7, 2) := by decide +kernel
theorem dX12_common_102 : decode cX12_common 102 = .ok (.iconst 0, 1) := by decide +kernel
theorem dX12_common_103 : decode cX12_common 103 = .ok (.istore 8, 2) := by decide +kernel
theorem dX12_common_105 : decode cX12_common 105 = .ok (.iload 8, 2) := by decide +kernel
theorem dX12_common_107 : decode cX12_common 107 = .ok (.bipush 8, 2) := by decide +kernel
theorem dX12_common_109 : decode cX12_common 109 = .ok (.if_icmp .ge 43, 3) := by decide +kernel
theorem dX12_common_112 : decode cX12_common 112 = .ok (.iload 7, 2) := by decide +kernel
theorem dX12_common_114 : decode cX12_common 114 = .ok (.ifCond .ne 38, 3) := by decide +kernel
theorem dX12_common_117 : decode cX12_common 117 = .ok (.lload 5, 2) := by decide +kernel
theorem dX12_common_119 : decode cX12_common 119 = .ok (.invokestatic 114, 3) := by decide +kernel
theorem dX12_common_122 : decode cX12_common 122 = .ok (.iload 8, 2) := by decide +kernel
theorem dX12_common_124 : decode cX12_common 124 = .ok (.invokestatic 159, 3) := by decide +kernel
theorem dX12_common_127 : decode cX12_common 127 = .ok (.aload_n 0, 1) := by decide +kernel
theorem dX12_common_128 : decode cX12_common 128 = .ok (.getfield 7, 3) := by decide +kernel
theorem dX12_common_131 : decode cX12_common 131 = .ok (.iload_n 2, 1) := by decide +kernel
theorem dX12_common_132 : decode cX12_common 132 = .ok (.laload, 1) := by decide +kernel
theorem dX12_common_133 : decode cX12_common 133 = .ok (.invokestatic 370, 3) := by decide +kernel
theorem dX12_common_136 : decode cX12_common 136 = .ok (.ifCond .le 7, 3) := by decide +kernel
theorem dX12_common_139 : decode cX12_common 139 = .ok (.iconst 1, 1) := by decide +kernel
theorem dX12_common_140 : decode cX12_common 140 = .ok (.goto 4, 3) := by decide +kernel
theorem dX12_common_143 : decode cX12_common 143 = .ok (.iconst 0, 1) := by decide +kernel
theorem dX12_common_144 : decode cX12_common 144 = .ok (.istore 7, 2) := by decide +kernel
theorem dX12_common_146 : decode cX12_common 146 = .ok (.iinc 8 1, 3) := by decide +kernel
theorem dX12_common_149 : decode cX12_common 149 = .ok (.goto (-44), 3) := by decide +kernel
theorem dX12_common_152 : decode cX12_common 152 = .ok (.iload 7, 2) := by decide +kernel
theorem dX12_common_154 : decode cX12_common 154 = .ok (.ifCond .eq 12, 3) := by decide +kernel
theorem dX12_common_157 : decode cX12_common 157 = .ok (.iload 4, 2) := by decide +kernel
theorem dX12_common_159 : decode cX12_common 159 = .ok (.i2l, 1) := by decide +kernel
theorem dX12_common_160 : decode cX12_common 160 = .ok (.invokestatic 106, 3) := by decide +kernel
theorem dX12_common_163 : decode cX12_common 163 = .ok (.goto 4, 3) := by decide +kernel
theorem dX12_common_166 : decode cX12_common 166 = .ok (.iload_n 3, 1) := by decide +kernel
theorem dX12_common_167 : decode cX12_common 167 = .ok (.istore_n 3, 1) := by decide +kernel
theorem dX12_common_168 : decode cX12_common 168 = .ok (.iinc 4 1, 3) := by decide +kernel
theorem dX12_common_171 : decode cX12_common 171 = .ok (.goto (-115), 3) := by decide +kernel
theorem dX12_common_174 : decode cX12_common 174 = .ok (.iload_n 3, 1) := by decide +kernel
theorem dX12_common_175 : decode cX12_common 175 = .ok (.ireturn, 1) := by decide +kernel
theorem dX12_shared_0 : decode cX12_shared 0 = .ok (.iconst 0, 1) := by decide +kernel
theorem dX12_shared_1 : decode cX12_shared 1 = .ok (.istore 6, 2) := by decide +kernel
theorem dX12_shared_3 : decode cX12_shared 3 = .ok (.iconst 0, 1) := by decide +kernel
theorem dX12_shared_4 : decode cX12_shared 4 = .ok (.istore 7, 2) := by decide +kernel
theorem dX12_shared_6 : decode cX12_shared 6 = .ok (.iload 7, 2) := by decide +kernel
theorem dX12_shared_8 : decode cX12_shared 8 = .ok (.bipush 64, 2) := by decide +kernel
theorem dX12_shared_10 : decode cX12_shared 10 = .ok (.if_icmp .ge 135, 3) := by decide +kernel
theorem dX12_shared_13 : decode cX12_shared 13 = .ok (.lload_n 2, 1) := by decide +kernel
theorem dX12_shared_14 : decode cX12_shared 14 = .ok (.iload 7, 2) := by decide +kernel
theorem dX12_shared_16 : decode cX12_shared 16 = .ok (.invokestatic 86, 3) := by decide +kernel
theorem dX12_shared_19 : decode cX12_shared 19 = .ok (.ifCond .ne 6, 3) := by decide +kernel
theorem dX12_shared_22 : decode cX12_shared 22 = .ok (.goto 117, 3) := by decide +kernel
theorem dX12_shared_25 : decode cX12_shared 25 = .ok (.iload 7, 2) := by decide +kernel
theorem dX12_shared_27 : decode cX12_shared 27 = .ok (.bipush 8, 2) := by decide +kernel
theorem dX12_shared_29 : decode cX12_shared 29 = .ok (.irem, 1) := by decide +kernel
theorem dX12_shared_30 : decode cX12_shared 30 = .ok (.iload 4, 2) := by decide +kernel
theorem dX12_shared_32 : decode cX12_shared 32 = .ok (.iadd, 1) := by decide +kernel
theorem dX12_shared_33 : decode cX12_shared 33 = .ok (.istore 8, 2) := by decide +kernel
theorem dX12_shared_35 : decode cX12_shared 35 = .ok (.iload 7, 2) := by decide +kernel
theorem dX12_shared_37 : decode cX12_shared 37 = .ok (.bipush 8, 2) := by decide +kernel
theorem dX12_shared_39 : decode cX12_shared 39 = .ok (.idiv, 1) := by decide +kernel
theorem dX12_shared_40 : decode cX12_shared 40 = .ok (.iload 5, 2) := by decide +kernel
theorem dX12_shared_42 : decode cX12_shared 42 = .ok (.iadd, 1) := by decide +kernel
theorem dX12_shared_43 : decode cX12_shared 43 = .ok (.istore 9, 2) := by decide +kernel
theorem dX12_shared_45 : decode cX12_shared 45 = .ok (.lload_n 0, 1) := by decide +kernel
theorem dX12_shared_46 : decode cX12_shared 46 = .ok (.iload 8, 2) := by decide +kernel
theorem dX12_shared_48 : decode cX12_shared 48 = .ok (.iload 9, 2) := by decide +kernel
theorem dX12_shared_50 : decode cX12_shared 50 = .ok (.invokestatic 142, 3) := by decide +kernel
theorem dX12_shared_53 : decode cX12_shared 53 = .ok (.ifCond .eq 6, 3) := by decide +kernel
theorem dX12_shared_56 : decode cX12_shared 56 = .ok (.bipush (-3), 2) := by decide +kernel
theorem dX12_shared_58 : decode cX12_shared 58 = .ok (.ireturn, 1) := by decide +kernel
theorem dX12_shared_59 : decode cX12_shared 59 = .ok (.iload 6, 2) := by decide +kernel
theorem dX12_shared_61 : decode cX12_shared 61 = .ok (.lload_n 0, 1) := by decide +kernel
theorem dX12_shared_62 : decode cX12_shared 62 = .ok (.iload 8, 2) := by decide +kernel
theorem dX12_shared_64 : decode cX12_shared 64 = .ok (.iconst 1, 1) := by decide +kernel
theorem dX12_shared_65 : decode cX12_shared 65 = .ok (.iadd, 1) := by decide +kernel
theorem dX12_shared_66 : decode cX12_shared 66 = .ok (.iload 9, 2) := by decide +kernel
theorem dX12_shared_68 : decode cX12_shared 68 = .ok (.invokestatic 142, 3) := by decide +kernel
theorem dX12_shared_71 : decode cX12_shared 71 = .ok (.ifCond .eq 7, 3) := by decide +kernel
theorem dX12_shared_74 : decode cX12_shared 74 = .ok (.iconst 1, 1) := by decide +kernel
theorem dX12_shared_75 : decode cX12_shared 75 = .ok (.goto 4, 3) := by decide +kernel
theorem dX12_shared_78 : decode cX12_shared 78 = .ok (.iconst 0, 1) := by decide +kernel
theorem dX12_shared_79 : decode cX12_shared 79 = .ok (.iadd, 1) := by decide +kernel
theorem dX12_shared_80 : decode cX12_shared 80 = .ok (.lload_n 0, 1) := by decide +kernel
theorem dX12_shared_81 : decode cX12_shared 81 = .ok (.iload 8, 2) := by decide +kernel
theorem dX12_shared_83 : decode cX12_shared 83 = .ok (.iconst 1, 1) := by decide +kernel
theorem dX12_shared_84 : decode cX12_shared 84 = .ok (.isub, 1) := by decide +kernel
theorem dX12_shared_85 : decode cX12_shared 85 = .ok (.iload 9, 2) := by decide +kernel
theorem dX12_shared_87 : decode cX12_shared 87 = .ok (.invokestatic 142, 3) := by decide +kernel
theorem dX12_shared_90 : decode cX12_shared 90 = .ok (.ifCond .eq 7, 3) := by decide +kernel
theorem dX12_shared_93 : decode cX12_shared 93 = .ok (.iconst 1, 1) := by decide +kernel
theorem dX12_shared_94 : decode cX12_shared 94 = .ok (.goto 4, 3) := by decide +kernel
theorem dX12_shared_97 : decode cX12_shared 97 = .ok (.iconst 0, 1) := by decide +kernel
theorem dX12_shared_98 : decode cX12_shared 98 = .ok (.iadd, 1) := by decide +kernel
theorem dX12_shared_99 : decode cX12_shared 99 = .ok (.lload_n 0, 1) := by decide +kernel
theorem dX12_shared_100 : decode cX12_shared 100 = .ok (.iload 8, 2) := by decide +kernel
theorem dX12_shared_102 : decode cX12_shared 102 = .ok (.iload 9, 2) := by decide +kernel
theorem dX12_shared_104 : decode cX12_shared 104 = .ok (.iconst 1, 1) := by decide +kernel
theorem dX12_shared_105 : decode cX12_shared 105 = .ok (.iadd, 1) := by decide +kernel
theorem dX12_shared_106 : decode cX12_shared 106 = .ok (.invokestatic 142, 3) := by decide +kernel
theorem dX12_shared_109 : decode cX12_shared 109 = .ok (.ifCond .eq 7, 3) := by decide +kernel
theorem dX12_shared_112 : decode cX12_shared 112 = .ok (.iconst 1, 1) := by decide +kernel
theorem dX12_shared_113 : decode cX12_shared 113 = .ok (.goto 4, 3) := by decide +kernel
theorem dX12_shared_116 : decode cX12_shared 116 = .ok (.iconst 0, 1) := by decide +kernel
theorem dX12_shared_117 : decode cX12_shared 117 = .ok (.iadd, 1) := by decide +kernel
theorem dX12_shared_118 : decode cX12_shared 118 = .ok (.lload_n 0, 1) := by decide +kernel
theorem dX12_shared_119 : decode cX12_shared 119 = .ok (.iload 8, 2) := by decide +kernel
theorem dX12_shared_121 : decode cX12_shared 121 = .ok (.iload 9, 2) := by decide +kernel
theorem dX12_shared_123 : decode cX12_shared 123 = .ok (.iconst 1, 1) := by decide +kernel
theorem dX12_shared_124 : decode cX12_shared 124 = .ok (.isub, 1) := by decide +kernel
theorem dX12_shared_125 : decode cX12_shared 125 = .ok (.invokestatic 142, 3) := by decide +kernel
theorem dX12_shared_128 : decode cX12_shared 128 = .ok (.ifCond .eq 7, 3) := by decide +kernel
theorem dX12_shared_131 : decode cX12_shared 131 = .ok (.iconst 1, 1) := by decide +kernel
theorem dX12_shared_132 : decode cX12_shared 132 = .ok (.goto 4, 3) := by decide +kernel
theorem dX12_shared_135 : decode cX12_shared 135 = .ok (.iconst 0, 1) := by decide +kernel
theorem dX12_shared_136 : decode cX12_shared 136 = .ok (.iadd, 1) := by decide +kernel
theorem dX12_shared_137 : decode cX12_shared 137 = .ok (.istore 6, 2) := by decide +kernel
theorem dX12_shared_139 : decode cX12_shared 139 = .ok (.iinc 7 1, 3) := by decide +kernel
theorem dX12_shared_142 : decode cX12_shared 142 = .ok (.goto (-136), 3) := by decide +kernel
theorem dX12_shared_145 : decode cX12_shared 145 = .ok (.iload 6, 2) := by decide +kernel
theorem dX12_shared_147 : decode cX12_shared 147 = .ok (.ireturn, 1) := by decide +kernel
theorem dX12_share_0 : decode cX12_share 0 = .ok (.iload_n 1, 1) := by decide +kernel
theorem dX12_share_1 : decode cX12_share 1 = .ok (.invokestatic 135, 3) := by decide +kernel
theorem dX12_share_4 : decode cX12_share 4 = .ok (.ifCond .eq 33, 3) := by decide +kernel
theorem dX12_share_7 : decode cX12_share 7 = .ok (.iload_n 2, 1) := by decide +kernel
theorem dX12_share_8 : decode cX12_share 8 = .ok (.invokestatic 135, 3) := by decide +kernel
theorem dX12_share_11 : decode cX12_share 11 = .ok (.ifCond .eq 26, 3) := by decide +kernel
theorem dX12_share_14 : decode cX12_share 14 = .ok (.iload_n 3, 1) := by decide +kernel
theorem dX12_share_15 : decode cX12_share 15 = .ok (.bipush (-7), 2) := by decide +kernel
theorem dX12_share_17 : decode cX12_share 17 = .ok (.bipush 7, 2) := by decide +kernel
theorem dX12_share_19 : decode cX12_share 19 = .ok (.invokestatic 82, 3) := by decide +kernel
theorem dX12_share_22 : decode cX12_share 22 = .ok (.ifCond .eq 15, 3) := by decide +kernel
theorem dX12_share_25 : decode cX12_share 25 = .ok (.iload 4, 2) := by decide +kernel
theorem dX12_share_27 : decode cX12_share 27 = .ok (.bipush (-7), 2) := by decide +kernel
theorem dX12_share_29 : decode cX12_share 29 = .ok (.bipush 7, 2) := by decide +kernel
theorem dX12_share_31 : decode cX12_share 31 = .ok (.invokestatic 82, 3) := by decide +kernel
theorem dX12_share_34 : decode cX12_share 34 = .ok (.ifCond .ne 5, 3) := by decide +kernel
theorem dX12_share_37 : decode cX12_share 37 = .ok (.iconst (-1), 1) := by decide +kernel
theorem dX12_share_38 : decode cX12_share 38 = .ok (.ireturn, 1) := by decide +kernel
theorem dX12_share_39 : decode cX12_share 39 = .ok (.aload_n 0, 1) := by decide +kernel
theorem dX12_share_40 : decode cX12_share 40 = .ok (.getfield 7, 3) := by decide +kernel
theorem dX12_share_43 : decode cX12_share 43 = .ok (.iload_n 1, 1) := by decide +kernel
theorem dX12_share_44 : decode cX12_share 44 = .ok (.laload, 1) := by decide +kernel
theorem dX12_share_45 : decode cX12_share 45 = .ok (.lconst 0, 1) := by decide +kernel
theorem dX12_share_46 : decode cX12_share 46 = .ok (.lcmp, 1) := by decide +kernel
theorem dX12_share_47 : decode cX12_share 47 = .ok (.ifCond .eq 14, 3) := by decide +kernel
theorem dX12_share_50 : decode cX12_share 50 = .ok (.aload_n 0, 1) := by decide +kernel
theorem dX12_share_51 : decode cX12_share 51 = .ok (.getfield 7, 3) := by decide +kernel
theorem dX12_share_54 : decode cX12_share 54 = .ok (.iload_n 2, 1) := by decide +kernel
theorem dX12_share_55 : decode cX12_share 55 = .ok (.laload, 1) := by decide +kernel
theorem dX12_share_56 : decode cX12_share 56 = .ok (.lconst 0, 1) := by decide +kernel
theorem dX12_share_57 : decode cX12_share 57 = .ok (.lcmp, 1) := by decide +kernel
theorem dX12_share_58 : decode cX12_share 58 = .ok (.ifCond .ne 8, 3) := by decide +kernel
theorem dX12_share_61 : decode cX12_share 61 = .ok (.bipush (-2), 2) := by decide +kernel
theorem dX12_share_63 : decode cX12_share 63 = .ok (.goto 21, 3) := by decide +kernel
theorem dX12_share_66 : decode cX12_share 66 = .ok (.aload_n 0, 1) := by decide +kernel
theorem dX12_share_67 : decode cX12_share 67 = .ok (.getfield 7, 3) := by decide +kernel
theorem dX12_share_70 : decode cX12_share 70 = .ok (.iload_n 1, 1) := by decide +kernel
theorem dX12_share_71 : decode cX12_share 71 = .ok (.laload, 1) := by decide +kernel
theorem dX12_share_72 : decode cX12_share 72 = .ok (.aload_n 0, 1) := by decide +kernel
theorem dX12_share_73 : decode cX12_share 73 = .ok (.getfield 7, 3) := by decide +kernel
theorem dX12_share_76 : decode cX12_share 76 = .ok (.iload_n 2, 1) := by decide +kernel
theorem dX12_share_77 : decode cX12_share 77 = .ok (.laload, 1) := by decide +kernel
theorem dX12_share_78 : decode cX12_share 78 = .ok (.iload_n 3, 1) := by decide +kernel
theorem dX12_share_79 : decode cX12_share 79 = .ok (.iload 4, 2) := by decide +kernel
theorem dX12_share_81 : decode cX12_share 81 = .ok (.invokestatic 374, 3) := by decide +kernel
theorem dX12_share_84 : decode cX12_share 84 = .ok (.ireturn, 1) := by decide +kernel
theorem dX12_spans_0 : decode cX12_spans 0 = .ok (.iload_n 2, 1) := by decide +kernel
theorem dX12_spans_1 : decode cX12_spans 1 = .ok (.ifCond .ge 7, 3) := by decide +kernel
theorem dX12_spans_4 : decode cX12_spans 4 = .ok (.iload_n 2, 1) := by decide +kernel
theorem dX12_spans_5 : decode cX12_spans 5 = .ok (.goto 4, 3) := by decide +kernel
theorem dX12_spans_8 : decode cX12_spans 8 = .ok (.iconst 0, 1) := by decide +kernel
theorem dX12_spans_9 : decode cX12_spans 9 = .ok (.istore_n 3, 1) := by decide +kernel
theorem dX12_spans_10 : decode cX12_spans 10 = .ok (.iload_n 2, 1) := by decide +kernel
theorem dX12_spans_11 : decode cX12_spans 11 = .ok (.iload_n 1, 1) := by decide +kernel
theorem dX12_spans_12 : decode cX12_spans 12 = .ok (.iadd, 1) := by decide +kernel
theorem dX12_spans_13 : decode cX12_spans 13 = .ok (.iload_n 0, 1) := by decide +kernel
theorem dX12_spans_14 : decode cX12_spans 14 = .ok (.if_icmp .le 9, 3) := by decide +kernel
theorem dX12_spans_17 : decode cX12_spans 17 = .ok (.iload_n 2, 1) := by decide +kernel
theorem dX12_spans_18 : decode cX12_spans 18 = .ok (.iload_n 1, 1) := by decide +kernel
theorem dX12_spans_19 : decode cX12_spans 19 = .ok (.iadd, 1) := by decide +kernel
theorem dX12_spans_20 : decode cX12_spans 20 = .ok (.goto 4, 3) := by decide +kernel
theorem dX12_spans_23 : decode cX12_spans 23 = .ok (.iload_n 0, 1) := by decide +kernel
theorem dX12_spans_24 : decode cX12_spans 24 = .ok (.istore 4, 2) := by decide +kernel
theorem dX12_spans_26 : decode cX12_spans 26 = .ok (.iload 4, 2) := by decide +kernel
theorem dX12_spans_28 : decode cX12_spans 28 = .ok (.iload_n 3, 1) := by decide +kernel
theorem dX12_spans_29 : decode cX12_spans 29 = .ok (.isub, 1) := by decide +kernel
theorem dX12_spans_30 : decode cX12_spans 30 = .ok (.ireturn, 1) := by decide +kernel
theorem dX12_touch_0 : decode cX12_touch 0 = .ok (.iload_n 1, 1) := by decide +kernel
theorem dX12_touch_1 : decode cX12_touch 1 = .ok (.invokestatic 135, 3) := by decide +kernel
theorem dX12_touch_4 : decode cX12_touch 4 = .ok (.ifCond .eq 19, 3) := by decide +kernel
theorem dX12_touch_7 : decode cX12_touch 7 = .ok (.iload_n 2, 1) := by decide +kernel
theorem dX12_touch_8 : decode cX12_touch 8 = .ok (.invokestatic 135, 3) := by decide +kernel
theorem dX12_touch_11 : decode cX12_touch 11 = .ok (.ifCond .eq 12, 3) := by decide +kernel
theorem dX12_touch_14 : decode cX12_touch 14 = .ok (.iload_n 3, 1) := by decide +kernel
theorem dX12_touch_15 : decode cX12_touch 15 = .ok (.iconst 0, 1) := by decide +kernel
theorem dX12_touch_16 : decode cX12_touch 16 = .ok (.iconst 5, 1) := by decide +kernel
theorem dX12_touch_17 : decode cX12_touch 17 = .ok (.invokestatic 82, 3) := by decide +kernel
theorem dX12_touch_20 : decode cX12_touch 20 = .ok (.ifCond .ne 5, 3) := by decide +kernel
theorem dX12_touch_23 : decode cX12_touch 23 = .ok (.iconst (-1), 1) := by decide +kernel
theorem dX12_touch_24 : decode cX12_touch 24 = .ok (.ireturn, 1) := by decide +kernel
theorem dX12_touch_25 : decode cX12_touch 25 = .ok (.aload_n 0, 1) := by decide +kernel
theorem dX12_touch_26 : decode cX12_touch 26 = .ok (.getfield 7, 3) := by decide +kernel
theorem dX12_touch_29 : decode cX12_touch 29 = .ok (.iload_n 1, 1) := by decide +kernel
theorem dX12_touch_30 : decode cX12_touch 30 = .ok (.laload, 1) := by decide +kernel
theorem dX12_touch_31 : decode cX12_touch 31 = .ok (.lconst 0, 1) := by decide +kernel
theorem dX12_touch_32 : decode cX12_touch 32 = .ok (.lcmp, 1) := by decide +kernel
theorem dX12_touch_33 : decode cX12_touch 33 = .ok (.ifCond .eq 14, 3) := by decide +kernel
theorem dX12_touch_36 : decode cX12_touch 36 = .ok (.aload_n 0, 1) := by decide +kernel
theorem dX12_touch_37 : decode cX12_touch 37 = .ok (.getfield 7, 3) := by decide +kernel
theorem dX12_touch_40 : decode cX12_touch 40 = .ok (.iload_n 2, 1) := by decide +kernel
theorem dX12_touch_41 : decode cX12_touch 41 = .ok (.laload, 1) := by decide +kernel
theorem dX12_touch_42 : decode cX12_touch 42 = .ok (.lconst 0, 1) := by decide +kernel
theorem dX12_touch_43 : decode cX12_touch 43 = .ok (.lcmp, 1) := by decide +kernel
theorem dX12_touch_44 : decode cX12_touch 44 = .ok (.ifCond .ne 6, 3) := by decide +kernel
theorem dX12_touch_47 : decode cX12_touch 47 = .ok (.bipush (-2), 2) := by decide +kernel
theorem dX12_touch_49 : decode cX12_touch 49 = .ok (.ireturn, 1) := by decide +kernel
theorem dX12_touch_50 : decode cX12_touch 50 = .ok (.aload_n 0, 1) := by decide +kernel
theorem dX12_touch_51 : decode cX12_touch 51 = .ok (.getfield 7, 3) := by decide +kernel
theorem dX12_touch_54 : decode cX12_touch 54 = .ok (.iload_n 1, 1) := by decide +kernel
theorem dX12_touch_55 : decode cX12_touch 55 = .ok (.laload, 1) := by decide +kernel
theorem dX12_touch_56 : decode cX12_touch 56 = .ok (.lstore 4, 2) := by decide +kernel
theorem dX12_touch_58 : decode cX12_touch 58 = .ok (.aload_n 0, 1) := by decide +kernel
theorem dX12_touch_59 : decode cX12_touch 59 = .ok (.getfield 7, 3) := by decide +kernel
theorem dX12_touch_62 : decode cX12_touch 62 = .ok (.iload_n 2, 1) := by decide +kernel
theorem dX12_touch_63 : decode cX12_touch 63 = .ok (.laload, 1) := by decide +kernel
theorem dX12_touch_64 : decode cX12_touch 64 = .ok (.lstore 6, 2) := by decide +kernel
theorem dX12_touch_66 : decode cX12_touch 66 = .ok (.iconst 0, 1) := by decide +kernel
theorem dX12_touch_67 : decode cX12_touch 67 = .ok (.istore 8, 2) := by decide +kernel
theorem dX12_touch_69 : decode cX12_touch 69 = .ok (.iconst 0, 1) := by decide +kernel
theorem dX12_touch_70 : decode cX12_touch 70 = .ok (.istore 9, 2) := by decide +kernel
theorem dX12_touch_72 : decode cX12_touch 72 = .ok (.iconst (-1), 1) := by decide +kernel
theorem dX12_touch_73 : decode cX12_touch 73 = .ok (.istore 10, 2) := by decide +kernel
theorem dX12_touch_75 : decode cX12_touch 75 = .ok (.iconst 0, 1) := by decide +kernel
theorem dX12_touch_76 : decode cX12_touch 76 = .ok (.istore 11, 2) := by decide +kernel
theorem dX12_touch_78 : decode cX12_touch 78 = .ok (.iconst 0, 1) := by decide +kernel
theorem dX12_touch_79 : decode cX12_touch 79 = .ok (.istore 12, 2) := by decide +kernel
theorem dX12_touch_81 : decode cX12_touch 81 = .ok (.sipush 10000, 3) := by decide +kernel
theorem dX12_touch_84 : decode cX12_touch 84 = .ok (.istore 13, 2) := by decide +kernel
theorem dX12_touch_86 : decode cX12_touch 86 = .ok (.bipush (-7), 2) := by decide +kernel
theorem dX12_touch_88 : decode cX12_touch 88 = .ok (.istore 14, 2) := by decide +kernel
theorem dX12_touch_90 : decode cX12_touch 90 = .ok (.iload 14, 2) := by decide +kernel
theorem dX12_touch_92 : decode cX12_touch 92 = .ok (.bipush 8, 2) := by decide +kernel
theorem dX12_touch_94 : decode cX12_touch 94 = .ok (.if_icmp .ge 136, 3) := by decide +kernel
theorem dX12_touch_97 : decode cX12_touch 97 = .ok (.bipush (-7), 2) := by decide +kernel
theorem dX12_touch_99 : decode cX12_touch 99 = .ok (.istore 15, 2) := by decide +kernel
theorem dX12_touch_101 : decode cX12_touch 101 = .ok (.iload 15, 2) := by decide +kernel
theorem dX12_touch_103 : decode cX12_touch 103 = .ok (.bipush 8, 2) := by decide +kernel
theorem dX12_touch_105 : decode cX12_touch 105 = .ok (.if_icmp .ge 119, 3) := by decide +kernel
theorem dX12_touch_108 : decode cX12_touch 108 = .ok (.lload 4, 2) := by decide +kernel
theorem dX12_touch_110 : decode cX12_touch 110 = .ok (.lload 6, 2) := by decide +kernel
theorem dX12_touch_112 : decode cX12_touch 112 = .ok (.iload 15, 2) := by decide +kernel
theorem dX12_touch_114 : decode cX12_touch 114 = .ok (.iload 14, 2) := by decide +kernel
theorem dX12_touch_116 : decode cX12_touch 116 = .ok (.invokestatic 374, 3) := by decide +kernel
theorem dX12_touch_119 : decode cX12_touch 119 = .ok (.istore 16, 2) := by decide +kernel
theorem dX12_touch_121 : decode cX12_touch 121 = .ok (.iload 16, 2) := by decide +kernel
theorem dX12_touch_123 : decode cX12_touch 123 = .ok (.ifCond .ge 12, 3) := by decide +kernel
theorem dX12_touch_126 : decode cX12_touch 126 = .ok (.iload 8, 2) := by decide +kernel
theorem dX12_touch_128 : decode cX12_touch 128 = .ok (.iconst 1, 1) := by decide +kernel
theorem dX12_touch_129 : decode cX12_touch 129 = .ok (.iadd, 1) := by decide +kernel
theorem dX12_touch_130 : decode cX12_touch 130 = .ok (.istore 8, 2) := by decide +kernel
theorem dX12_touch_132 : decode cX12_touch 132 = .ok (.goto 86, 3) := by decide +kernel
theorem dX12_touch_135 : decode cX12_touch 135 = .ok (.iload 9, 2) := by decide +kernel
theorem dX12_touch_137 : decode cX12_touch 137 = .ok (.iload 16, 2) := by decide +kernel
theorem dX12_touch_139 : decode cX12_touch 139 = .ok (.ifCond .le 7, 3) := by decide +kernel
theorem dX12_touch_142 : decode cX12_touch 142 = .ok (.iconst 1, 1) := by decide +kernel
theorem dX12_touch_143 : decode cX12_touch 143 = .ok (.goto 4, 3) := by decide +kernel
theorem dX12_touch_146 : decode cX12_touch 146 = .ok (.iconst 0, 1) := by decide +kernel
theorem dX12_touch_147 : decode cX12_touch 147 = .ok (.iadd, 1) := by decide +kernel
theorem dX12_touch_148 : decode cX12_touch 148 = .ok (.istore 9, 2) := by decide +kernel
theorem dX12_touch_150 : decode cX12_touch 150 = .ok (.iload 16, 2) := by decide +kernel
theorem dX12_touch_152 : decode cX12_touch 152 = .ok (.iload 10, 2) := by decide +kernel
theorem dX12_touch_154 : decode cX12_touch 154 = .ok (.if_icmp .le 15, 3) := by decide +kernel
theorem dX12_touch_157 : decode cX12_touch 157 = .ok (.iload 16, 2) := by decide +kernel
theorem dX12_touch_159 : decode cX12_touch 159 = .ok (.istore 10, 2) := by decide +kernel
theorem dX12_touch_161 : decode cX12_touch 161 = .ok (.iload 15, 2) := by decide +kernel
theorem dX12_touch_163 : decode cX12_touch 163 = .ok (.istore 11, 2) := by decide +kernel
theorem dX12_touch_165 : decode cX12_touch 165 = .ok (.iload 14, 2) := by decide +kernel
theorem dX12_touch_167 : decode cX12_touch 167 = .ok (.istore 12, 2) := by decide +kernel
theorem dX12_touch_169 : decode cX12_touch 169 = .ok (.lload 4, 2) := by decide +kernel
theorem dX12_touch_171 : decode cX12_touch 171 = .ok (.invokestatic 163, 3) := by decide +kernel
theorem dX12_touch_174 : decode cX12_touch 174 = .ok (.lload 6, 2) := by decide +kernel
theorem dX12_touch_176 : decode cX12_touch 176 = .ok (.invokestatic 163, 3) := by decide +kernel
theorem dX12_touch_179 : decode cX12_touch 179 = .ok (.iload 15, 2) := by decide +kernel
theorem dX12_touch_181 : decode cX12_touch 181 = .ok (.invokestatic 378, 3) := by decide +kernel
theorem dX12_touch_184 : decode cX12_touch 184 = .ok (.lload 4, 2) := by decide +kernel
theorem dX12_touch_186 : decode cX12_touch 186 = .ok (.invokestatic 166, 3) := by decide +kernel
theorem dX12_touch_189 : decode cX12_touch 189 = .ok (.lload 6, 2) := by decide +kernel
theorem dX12_touch_191 : decode cX12_touch 191 = .ok (.invokestatic 166, 3) := by decide +kernel
theorem dX12_touch_194 : decode cX12_touch 194 = .ok (.iload 14, 2) := by decide +kernel
theorem dX12_touch_196 : decode cX12_touch 196 = .ok (.invokestatic 378, 3) := by decide +kernel
theorem dX12_touch_199 : decode cX12_touch 199 = .ok (.imul, 1) := by decide +kernel
theorem dX12_touch_200 : decode cX12_touch 200 = .ok (.istore 17, 2) := by decide +kernel
theorem dX12_touch_202 : decode cX12_touch 202 = .ok (.iload 17, 2) := by decide +kernel
theorem dX12_touch_204 : decode cX12_touch 204 = .ok (.iload 13, 2) := by decide +kernel
theorem dX12_touch_206 : decode cX12_touch 206 = .ok (.if_icmp .ge 8, 3) := by decide +kernel
theorem dX12_touch_209 : decode cX12_touch 209 = .ok (.iload 17, 2) := by decide +kernel
theorem dX12_touch_211 : decode cX12_touch 211 = .ok (.goto 5, 3) := by decide +kernel
theorem dX12_touch_214 : decode cX12_touch 214 = .ok (.iload 13, 2) := by decide +kernel
theorem dX12_touch_216 : decode cX12_touch 216 = .ok (.istore 13, 2) := by decide +kernel
theorem dX12_touch_218 : decode cX12_touch 218 = .ok (.iinc 15 1, 3) := by decide +kernel
theorem dX12_touch_221 : decode cX12_touch 221 = .ok (.goto (-120), 3) := by decide +kernel
theorem dX12_touch_224 : decode cX12_touch 224 = .ok (.iinc 14 1, 3) := by decide +kernel
theorem dX12_touch_227 : decode cX12_touch 227 = .ok (.goto (-137), 3) := by decide +kernel
theorem dX12_touch_230 : decode cX12_touch 230 = .ok (.iload_n 3, 1) := by decide +kernel
theorem dX12_touch_231 : decode cX12_touch 231 = .ok (.ifCond .ne 8, 3) := by decide +kernel
theorem dX12_touch_234 : decode cX12_touch 234 = .ok (.iload 8, 2) := by decide +kernel
theorem dX12_touch_236 : decode cX12_touch 236 = .ok (.goto 51, 3) := by decide +kernel
theorem dX12_touch_239 : decode cX12_touch 239 = .ok (.iload_n 3, 1) := by decide +kernel
theorem dX12_touch_240 : decode cX12_touch 240 = .ok (.iconst 1, 1) := by decide +kernel
theorem dX12_touch_241 : decode cX12_touch 241 = .ok (.if_icmp .ne 8, 3) := by decide +kernel
theorem dX12_touch_244 : decode cX12_touch 244 = .ok (.iload 9, 2) := by decide +kernel
theorem dX12_touch_246 : decode cX12_touch 246 = .ok (.goto 41, 3) := by decide +kernel
theorem dX12_touch_249 : decode cX12_touch 249 = .ok (.iload_n 3, 1) := by decide +kernel
theorem dX12_touch_250 : decode cX12_touch 250 = .ok (.iconst 2, 1) := by decide +kernel
theorem dX12_touch_251 : decode cX12_touch 251 = .ok (.if_icmp .ne 8, 3) := by decide +kernel
theorem dX12_touch_254 : decode cX12_touch 254 = .ok (.iload 10, 2) := by decide +kernel
theorem dX12_touch_256 : decode cX12_touch 256 = .ok (.goto 31, 3) := by decide +kernel
theorem dX12_touch_259 : decode cX12_touch 259 = .ok (.iload_n 3, 1) := by decide +kernel
theorem dX12_touch_260 : decode cX12_touch 260 = .ok (.iconst 3, 1) := by decide +kernel
theorem dX12_touch_261 : decode cX12_touch 261 = .ok (.if_icmp .ne 11, 3) := by decide +kernel
theorem dX12_touch_264 : decode cX12_touch 264 = .ok (.iload 11, 2) := by decide +kernel
theorem dX12_touch_266 : decode cX12_touch 266 = .ok (.bipush 10, 2) := by decide +kernel
theorem dX12_touch_268 : decode cX12_touch 268 = .ok (.iadd, 1) := by decide +kernel
theorem dX12_touch_269 : decode cX12_touch 269 = .ok (.goto 18, 3) := by decide +kernel
theorem dX12_touch_272 : decode cX12_touch 272 = .ok (.iload_n 3, 1) := by decide +kernel
theorem dX12_touch_273 : decode cX12_touch 273 = .ok (.iconst 4, 1) := by decide +kernel
theorem dX12_touch_274 : decode cX12_touch 274 = .ok (.if_icmp .ne 11, 3) := by decide +kernel
theorem dX12_touch_277 : decode cX12_touch 277 = .ok (.iload 12, 2) := by decide +kernel
theorem dX12_touch_279 : decode cX12_touch 279 = .ok (.bipush 10, 2) := by decide +kernel
theorem dX12_touch_281 : decode cX12_touch 281 = .ok (.iadd, 1) := by decide +kernel
theorem dX12_touch_282 : decode cX12_touch 282 = .ok (.goto 5, 3) := by decide +kernel
theorem dX12_touch_285 : decode cX12_touch 285 = .ok (.iload 13, 2) := by decide +kernel
theorem dX12_touch_287 : decode cX12_touch 287 = .ok (.ireturn, 1) := by decide +kernel
