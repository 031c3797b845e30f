theorem dX12_init_0 : decode cX12_init 0 = .ok (.aload_n 0, 1) := by decide +kernel
theorem dX12_init_1 : decode cX12_init 1 = .ok (.invokespecial 1, 3) := by decide +kernel
theorem dX12_init_4 : decode cX12_init 4 = .ok (.aload_n 0, 1) := by decide +kernel
theorem dX12_init_5 : decode cX12_init 5 = .ok (.sipush 10760, 3) := by decide +kernel
theorem dX12_init_8 : decode cX12_init 8 = .ok (.newarray .int, 2) := by decide +kernel
theorem dX12_init_10 : decode cX12_init 10 = .ok (.putfield 7, 3) := by decide +kernel
theorem dX12_init_13 : decode cX12_init 13 = .ok (.aload_n 0, 1) := by decide +kernel
theorem dX12_init_14 : decode cX12_init 14 = .ok (.sipush 10760, 3) := by decide +kernel
theorem dX12_init_17 : decode cX12_init 17 = .ok (.newarray .int, 2) := by decide +kernel
theorem dX12_init_19 : decode cX12_init 19 = .ok (.putfield 13, 3) := by decide +kernel
theorem dX12_init_22 : decode cX12_init 22 = .ok (.aload_n 0, 1) := by decide +kernel
theorem dX12_init_23 : decode cX12_init 23 = .ok (.sipush 2408, 3) := by decide +kernel
theorem dX12_init_26 : decode cX12_init 26 = .ok (.newarray .int, 2) := by decide +kernel
theorem dX12_init_28 : decode cX12_init 28 = .ok (.putfield 16, 3) := by decide +kernel
theorem dX12_init_31 : decode cX12_init 31 = .ok (.aload_n 0, 1) := by decide +kernel
theorem dX12_init_32 : decode cX12_init 32 = .ok (.sipush 300, 3) := by decide +kernel
theorem dX12_init_35 : decode cX12_init 35 = .ok (.newarray .int, 2) := by decide +kernel
theorem dX12_init_37 : decode cX12_init 37 = .ok (.putfield 19, 3) := by decide +kernel
theorem dX12_init_40 : decode cX12_init 40 = .ok (.aload_n 0, 1) := by decide +kernel
theorem dX12_init_41 : decode cX12_init 41 = .ok (.iconst (-1), 1) := by decide +kernel
theorem dX12_init_42 : decode cX12_init 42 = .ok (.putfield 22, 3) := by decide +kernel
theorem dX12_init_45 : decode cX12_init 45 = .ok (.aload_n 0, 1) := by decide +kernel
theorem dX12_init_46 : decode cX12_init 46 = .ok (.iconst (-1), 1) := by decide +kernel
theorem dX12_init_47 : decode cX12_init 47 = .ok (.putfield 26, 3) := by decide +kernel
theorem dX12_init_50 : decode cX12_init 50 = .ok (.aload_n 0, 1) := by decide +kernel
theorem dX12_init_51 : decode cX12_init 51 = .ok (.iconst 3, 1) := by decide +kernel
theorem dX12_init_52 : decode cX12_init 52 = .ok (.newarray .boolean, 2) := by decide +kernel
theorem dX12_init_54 : decode cX12_init 54 = .ok (.putfield 29, 3) := by decide +kernel
theorem dX12_init_57 : decode cX12_init 57 = .ok (.aload_n 0, 1) := by decide +kernel
theorem dX12_init_58 : decode cX12_init 58 = .ok (.bipush 10, 2) := by decide +kernel
theorem dX12_init_60 : decode cX12_init 60 = .ok (.newarray .int, 2) := by decide +kernel
theorem dX12_init_62 : decode cX12_init 62 = .ok (.putfield 33, 3) := by decide +kernel
theorem dX12_init_65 : decode cX12_init 65 = .ok (.aload_n 0, 1) := by decide +kernel
theorem dX12_init_66 : decode cX12_init 66 = .ok (.iconst 3, 1) := by decide +kernel
theorem dX12_init_67 : decode cX12_init 67 = .ok (.newarray .int, 2) := by decide +kernel
theorem dX12_init_69 : decode cX12_init 69 = .ok (.putfield 36, 3) := by decide +kernel
theorem dX12_init_72 : decode cX12_init 72 = .ok (.aload_n 0, 1) := by decide +kernel
theorem dX12_init_73 : decode cX12_init 73 = .ok (.iconst 3, 1) := by decide +kernel
theorem dX12_init_74 : decode cX12_init 74 = .ok (.newarray .int, 2) := by decide +kernel
theorem dX12_init_76 : decode cX12_init 76 = .ok (.putfield 39, 3) := by decide +kernel
theorem dX12_init_79 : decode cX12_init 79 = .ok (.aload_n 0, 1) := by decide +kernel
theorem dX12_init_80 : decode cX12_init 80 = .ok (.iconst 3, 1) := by decide +kernel
theorem dX12_init_81 : decode cX12_init 81 = .ok (.newarray .int, 2) := by decide +kernel
theorem dX12_init_83 : decode cX12_init 83 = .ok (.putfield 42, 3) := by decide +kernel
theorem dX12_init_86 : decode cX12_init 86 = .ok (.aload_n 0, 1) := by decide +kernel
theorem dX12_init_87 : decode cX12_init 87 = .ok (.sipush 347, 3) := by decide +kernel
theorem dX12_init_90 : decode cX12_init 90 = .ok (.newarray .int, 2) := by decide +kernel
theorem dX12_init_92 : decode cX12_init 92 = .ok (.putfield 45, 3) := by decide +kernel
theorem dX12_init_95 : decode cX12_init 95 = .ok (.aload_n 0, 1) := by decide +kernel
theorem dX12_init_96 : decode cX12_init 96 = .ok (.getfield 7, 3) := by decide +kernel
theorem dX12_init_99 : decode cX12_init 99 = .ok (.iconst 4, 1) := by decide +kernel
theorem dX12_init_100 : decode cX12_init 100 = .ok (.sipush 409, 3) := by decide +kernel
theorem dX12_init_103 : decode cX12_init 103 = .ok (.iastore, 1) := by decide +kernel
theorem dX12_init_104 : decode cX12_init 104 = .ok (.aload_n 0, 1) := by decide +kernel
theorem dX12_init_105 : decode cX12_init 105 = .ok (.getfield 7, 3) := by decide +kernel
theorem dX12_init_108 : decode cX12_init 108 = .ok (.bipush 7, 2) := by decide +kernel
theorem dX12_init_110 : decode cX12_init 110 = .ok (.iconst 3, 1) := by decide +kernel
theorem dX12_init_111 : decode cX12_init 111 = .ok (.iastore, 1) := by decide +kernel
theorem dX12_init_112 : decode cX12_init 112 = .ok (.aload_n 0, 1) := by decide +kernel
theorem dX12_init_113 : decode cX12_init 113 = .ok (.getfield 7, 3) := by decide +kernel
theorem dX12_init_116 : decode cX12_init 116 = .ok (.bipush 8, 2) := by decide +kernel
theorem dX12_init_118 : decode cX12_init 118 = .ok (.bipush 6, 2) := by decide +kernel
theorem dX12_init_120 : decode cX12_init 120 = .ok (.iastore, 1) := by decide +kernel
theorem dX12_init_121 : decode cX12_init 121 = .ok (.aload_n 0, 1) := by decide +kernel
theorem dX12_init_122 : decode cX12_init 122 = .ok (.getfield 7, 3) := by decide +kernel
theorem dX12_init_125 : decode cX12_init 125 = .ok (.bipush 9, 2) := by decide +kernel
theorem dX12_init_127 : decode cX12_init 127 = .ok (.iconst 4, 1) := by decide +kernel
theorem dX12_init_128 : decode cX12_init 128 = .ok (.iastore, 1) := by decide +kernel
theorem dX12_init_129 : decode cX12_init 129 = .ok (.iconst 0, 1) := by decide +kernel
theorem dX12_init_130 : decode cX12_init 130 = .ok (.istore_n 1, 1) := by decide +kernel
theorem dX12_init_131 : decode cX12_init 131 = .ok (.iload_n 1, 1) := by decide +kernel
theorem dX12_init_132 : decode cX12_init 132 = .ok (.bipush 23, 2) := by decide +kernel
theorem dX12_init_134 : decode cX12_init 134 = .ok (.if_icmp .ge 31, 3) := by decide +kernel
theorem dX12_init_137 : decode cX12_init 137 = .ok (.aload_n 0, 1) := by decide +kernel
theorem dX12_init_138 : decode cX12_init 138 = .ok (.getfield 7, 3) := by decide +kernel
theorem dX12_init_141 : decode cX12_init 141 = .ok (.sipush 139, 3) := by decide +kernel
theorem dX12_init_144 : decode cX12_init 144 = .ok (.iload_n 1, 1) := by decide +kernel
theorem dX12_init_145 : decode cX12_init 145 = .ok (.iadd, 1) := by decide +kernel
theorem dX12_init_146 : decode cX12_init 146 = .ok (.iconst (-1), 1) := by decide +kernel
theorem dX12_init_147 : decode cX12_init 147 = .ok (.iastore, 1) := by decide +kernel
theorem dX12_init_148 : decode cX12_init 148 = .ok (.aload_n 0, 1) := by decide +kernel
theorem dX12_init_149 : decode cX12_init 149 = .ok (.getfield 7, 3) := by decide +kernel
theorem dX12_init_152 : decode cX12_init 152 = .ok (.sipush 162, 3) := by decide +kernel
theorem dX12_init_155 : decode cX12_init 155 = .ok (.iload_n 1, 1) := by decide +kernel
theorem dX12_init_156 : decode cX12_init 156 = .ok (.iadd, 1) := by decide +kernel
theorem dX12_init_157 : decode cX12_init 157 = .ok (.iload_n 1, 1) := by decide +kernel
theorem dX12_init_158 : decode cX12_init 158 = .ok (.iastore, 1) := by decide +kernel
theorem dX12_init_159 : decode cX12_init 159 = .ok (.iinc 1 1, 3) := by decide +kernel
theorem dX12_init_162 : decode cX12_init 162 = .ok (.goto (-31), 3) := by decide +kernel
theorem dX12_init_165 : decode cX12_init 165 = .ok (.aload_n 0, 1) := by decide +kernel
theorem dX12_init_166 : decode cX12_init 166 = .ok (.getfield 7, 3) := by decide +kernel
theorem dX12_init_169 : decode cX12_init 169 = .ok (.aload_n 0, 1) := by decide +kernel
theorem dX12_init_170 : decode cX12_init 170 = .ok (.getfield 13, 3) := by decide +kernel
theorem dX12_init_173 : decode cX12_init 173 = .ok (.invokestatic 48, 3) := by decide +kernel
theorem dX12_init_176 : decode cX12_init 176 = .ok (.return_, 1) := by decide +kernel
theorem dX12_copy_0 : decode cX12_copy 0 = .ok (.iconst 0, 1) := by decide +kernel
theorem dX12_copy_1 : decode cX12_copy 1 = .ok (.istore_n 2, 1) := by decide +kernel
theorem dX12_copy_2 : decode cX12_copy 2 = .ok (.iload_n 2, 1) := by decide +kernel
theorem dX12_copy_3 : decode cX12_copy 3 = .ok (.sipush 10760, 3) := by decide +kernel
theorem dX12_copy_6 : decode cX12_copy 6 = .ok (.if_icmp .ge 15, 3) := by decide +kernel
theorem dX12_copy_9 : decode cX12_copy 9 = .ok (.aload_n 1, 1) := by decide +kernel
theorem dX12_copy_10 : decode cX12_copy 10 = .ok (.iload_n 2, 1) := by decide +kernel
theorem dX12_copy_11 : decode cX12_copy 11 = .ok (.aload_n 0, 1) := by decide +kernel
theorem dX12_copy_12 : decode cX12_copy 12 = .ok (.iload_n 2, 1) := by decide +kernel
theorem dX12_copy_13 : decode cX12_copy 13 = .ok (.iaload, 1) := by decide +kernel
theorem dX12_copy_14 : decode cX12_copy 14 = .ok (.iastore, 1) := by decide +kernel
theorem dX12_copy_15 : decode cX12_copy 15 = .ok (.iinc 2 1, 3) := by decide +kernel
theorem dX12_copy_18 : decode cX12_copy 18 = .ok (.goto (-16), 3) := by decide +kernel
theorem dX12_copy_21 : decode cX12_copy 21 = .ok (.return_, 1) := by decide +kernel
theorem dX12_isIn_0 : decode cX12_isIn 0 = .ok (.iload_n 0, 1) := by decide +kernel
theorem dX12_isIn_1 : decode cX12_isIn 1 = .ok (.iload_n 1, 1) := by decide +kernel
theorem dX12_isIn_2 : decode cX12_isIn 2 = .ok (.if_icmp .lt 12, 3) := by decide +kernel
theorem dX12_isIn_5 : decode cX12_isIn 5 = .ok (.iload_n 0, 1) := by decide +kernel
theorem dX12_isIn_6 : decode cX12_isIn 6 = .ok (.iload_n 2, 1) := by decide +kernel
theorem dX12_isIn_7 : decode cX12_isIn 7 = .ok (.if_icmp .gt 7, 3) := by decide +kernel
theorem dX12_isIn_10 : decode cX12_isIn 10 = .ok (.iconst 1, 1) := by decide +kernel
theorem dX12_isIn_11 : decode cX12_isIn 11 = .ok (.goto 4, 3) := by decide +kernel
theorem dX12_isIn_14 : decode cX12_isIn 14 = .ok (.iconst 0, 1) := by decide +kernel
theorem dX12_isIn_15 : decode cX12_isIn 15 = .ok (.ireturn, 1) := by decide +kernel
theorem dX12_isExtent_0 : decode cX12_isExtent 0 = .ok (.iload_n 0, 1) := by decide +kernel
theorem dX12_isExtent_1 : decode cX12_isExtent 1 = .ok (.iconst 0, 1) := by decide +kernel
theorem dX12_isExtent_2 : decode cX12_isExtent 2 = .ok (.bipush 9, 2) := by decide +kernel
theorem dX12_isExtent_4 : decode cX12_isExtent 4 = .ok (.invokestatic 52, 3) := by decide +kernel
theorem dX12_isExtent_7 : decode cX12_isExtent 7 = .ok (.ireturn, 1) := by decide +kernel
theorem dX12_has_0 : decode cX12_has 0 = .ok (.iload_n 0, 1) := by decide +kernel
theorem dX12_has_1 : decode cX12_has 1 = .ok (.iload_n 1, 1) := by decide +kernel
theorem dX12_has_2 : decode cX12_has 2 = .ok (.ishr, 1) := by decide +kernel
theorem dX12_has_3 : decode cX12_has 3 = .ok (.iconst 1, 1) := by decide +kernel
theorem dX12_has_4 : decode cX12_has 4 = .ok (.iand, 1) := by decide +kernel
theorem dX12_has_5 : decode cX12_has 5 = .ok (.iconst 1, 1) := by decide +kernel
theorem dX12_has_6 : decode cX12_has 6 = .ok (.if_icmp .ne 7, 3) := by decide +kernel
theorem dX12_has_9 : decode cX12_has 9 = .ok (.iconst 1, 1) := by decide +kernel
theorem dX12_has_10 : decode cX12_has 10 = .ok (.goto 4, 3) := by decide +kernel
theorem dX12_has_13 : decode cX12_has 13 = .ok (.iconst 0, 1) := by decide +kernel
theorem dX12_has_14 : decode cX12_has 14 = .ok (.ireturn, 1) := by decide +kernel
theorem dX12_bitsOf_0 : decode cX12_bitsOf 0 = .ok (.iconst 0, 1) := by decide +kernel
theorem dX12_bitsOf_1 : decode cX12_bitsOf 1 = .ok (.istore_n 1, 1) := by decide +kernel
theorem dX12_bitsOf_2 : decode cX12_bitsOf 2 = .ok (.iload_n 0, 1) := by decide +kernel
theorem dX12_bitsOf_3 : decode cX12_bitsOf 3 = .ok (.istore_n 2, 1) := by decide +kernel
theorem dX12_bitsOf_4 : decode cX12_bitsOf 4 = .ok (.iload_n 2, 1) := by decide +kernel
theorem dX12_bitsOf_5 : decode cX12_bitsOf 5 = .ok (.ifCond .eq 15, 3) := by decide +kernel
theorem dX12_bitsOf_8 : decode cX12_bitsOf 8 = .ok (.iinc 1 1, 3) := by decide +kernel
theorem dX12_bitsOf_11 : decode cX12_bitsOf 11 = .ok (.iload_n 2, 1) := by decide +kernel
theorem dX12_bitsOf_12 : decode cX12_bitsOf 12 = .ok (.iload_n 2, 1) := by decide +kernel
theorem dX12_bitsOf_13 : decode cX12_bitsOf 13 = .ok (.iconst 1, 1) := by decide +kernel
theorem dX12_bitsOf_14 : decode cX12_bitsOf 14 = .ok (.isub, 1) := by decide +kernel
theorem dX12_bitsOf_15 : decode cX12_bitsOf 15 = .ok (.iand, 1) := by decide +kernel
theorem dX12_bitsOf_16 : decode cX12_bitsOf 16 = .ok (.istore_n 2, 1) := by decide +kernel
theorem dX12_bitsOf_17 : decode cX12_bitsOf 17 = .ok (.goto (-13), 3) := by decide +kernel
theorem dX12_bitsOf_20 : decode cX12_bitsOf 20 = .ok (.iload_n 1, 1) := by decide +kernel
theorem dX12_bitsOf_21 : decode cX12_bitsOf 21 = .ok (.ireturn, 1) := by decide +kernel
theorem dX12_sizeOf_0 : decode cX12_sizeOf 0 = .ok (.iload_n 0, 1) := by decide +kernel
theorem dX12_sizeOf_1 : decode cX12_sizeOf 1 = .ok (.iconst 4, 1) := by decide +kernel
theorem dX12_sizeOf_2 : decode cX12_sizeOf 2 = .ok (.irem, 1) := by decide +kernel
theorem dX12_sizeOf_3 : decode cX12_sizeOf 3 = .ok (.iconst 1, 1) := by decide +kernel
theorem dX12_sizeOf_4 : decode cX12_sizeOf 4 = .ok (.iadd, 1) := by decide +kernel
theorem dX12_sizeOf_5 : decode cX12_sizeOf 5 = .ok (.ireturn, 1) := by decide +kernel
theorem dX12_firstOf_0 : decode cX12_firstOf 0 = .ok (.bipush 10, 2) := by decide +kernel
theorem dX12_firstOf_2 : decode cX12_firstOf 2 = .ok (.iload_n 0, 1) := by decide +kernel
theorem dX12_firstOf_3 : decode cX12_firstOf 3 = .ok (.iconst 4, 1) := by decide +kernel
theorem dX12_firstOf_4 : decode cX12_firstOf 4 = .ok (.idiv, 1) := by decide +kernel
theorem dX12_firstOf_5 : decode cX12_firstOf 5 = .ok (.imul, 1) := by decide +kernel
theorem dX12_firstOf_6 : decode cX12_firstOf 6 = .ok (.iload_n 0, 1) := by decide +kernel
theorem dX12_firstOf_7 : decode cX12_firstOf 7 = .ok (.iconst 4, 1) := by decide +kernel
theorem dX12_firstOf_8 : decode cX12_firstOf 8 = .ok (.irem, 1) := by decide +kernel
theorem dX12_firstOf_9 : decode cX12_firstOf 9 = .ok (.iload_n 0, 1) := by decide +kernel
theorem dX12_firstOf_10 : decode cX12_firstOf 10 = .ok (.iconst 4, 1) := by decide +kernel
theorem dX12_firstOf_11 : decode cX12_firstOf 11 = .ok (.irem, 1) := by decide +kernel
theorem dX12_firstOf_12 : decode cX12_firstOf 12 = .ok (.iconst 1, 1) := by decide +kernel
theorem dX12_firstOf_13 : decode cX12_firstOf 13 = .ok (.iadd, 1) := by decide +kernel
theorem dX12_firstOf_14 : decode cX12_firstOf 14 = .ok (.imul, 1) := by decide +kernel
theorem dX12_firstOf_15 : decode cX12_firstOf 15 = .ok (.iconst 2, 1) := by decide +kernel
theorem dX12_firstOf_16 : decode cX12_firstOf 16 = .ok (.idiv, 1) := by decide +kernel
theorem dX12_firstOf_17 : decode cX12_firstOf 17 = .ok (.iadd, 1) := by decide +kernel
theorem dX12_firstOf_18 : decode cX12_firstOf 18 = .ok (.ireturn, 1) := by decide +kernel
theorem dX12_isBlock_0 : decode cX12_isBlock 0 = .ok (.iload_n 0, 1) := by decide +kernel
theorem dX12_isBlock_1 : decode cX12_isBlock 1 = .ok (.invokestatic 56, 3) := by decide +kernel
theorem dX12_isBlock_4 : decode cX12_isBlock 4 = .ok (.ifCond .eq 21, 3) := by decide +kernel
theorem dX12_isBlock_7 : decode cX12_isBlock 7 = .ok (.iload_n 1, 1) := by decide +kernel
theorem dX12_isBlock_8 : decode cX12_isBlock 8 = .ok (.iconst 0, 1) := by decide +kernel
theorem dX12_isBlock_9 : decode cX12_isBlock 9 = .ok (.iload_n 0, 1) := by decide +kernel
theorem dX12_isBlock_10 : decode cX12_isBlock 10 = .ok (.invokestatic 60, 3) := by decide +kernel
theorem dX12_isBlock_13 : decode cX12_isBlock 13 = .ok (.iconst 1, 1) := by decide +kernel
theorem dX12_isBlock_14 : decode cX12_isBlock 14 = .ok (.isub, 1) := by decide +kernel
theorem dX12_isBlock_15 : decode cX12_isBlock 15 = .ok (.invokestatic 52, 3) := by decide +kernel
theorem dX12_isBlock_18 : decode cX12_isBlock 18 = .ok (.ifCond .eq 7, 3) := by decide +kernel
theorem dX12_isBlock_21 : decode cX12_isBlock 21 = .ok (.iconst 1, 1) := by decide +kernel
theorem dX12_isBlock_22 : decode cX12_isBlock 22 = .ok (.goto 4, 3) := by decide +kernel
theorem dX12_isBlock_25 : decode cX12_isBlock 25 = .ok (.iconst 0, 1) := by decide +kernel
theorem dX12_isBlock_26 : decode cX12_isBlock 26 = .ok (.ireturn, 1) := by decide +kernel
theorem dX12_isFast_0 : decode cX12_isFast 0 = .ok (.aload_n 0, 1) := by decide +kernel
theorem dX12_isFast_1 : decode cX12_isFast 1 = .ok (.getfield 7, 3) := by decide +kernel
theorem dX12_isFast_4 : decode cX12_isFast 4 = .ok (.bipush 109, 2) := by decide +kernel
theorem dX12_isFast_6 : decode cX12_isFast 6 = .ok (.iload_n 1, 1) := by decide +kernel
theorem dX12_isFast_7 : decode cX12_isFast 7 = .ok (.iadd, 1) := by decide +kernel
theorem dX12_isFast_8 : decode cX12_isFast 8 = .ok (.iaload, 1) := by decide +kernel
theorem dX12_isFast_9 : decode cX12_isFast 9 = .ok (.iconst 1, 1) := by decide +kernel
theorem dX12_isFast_10 : decode cX12_isFast 10 = .ok (.if_icmp .ne 7, 3) := by decide +kernel
theorem dX12_isFast_13 : decode cX12_isFast 13 = .ok (.iconst 1, 1) := by decide +kernel
theorem dX12_isFast_14 : decode cX12_isFast 14 = .ok (.goto 4, 3) := by decide +kernel
theorem dX12_isFast_17 : decode cX12_isFast 17 = .ok (.iconst 0, 1) := by decide +kernel
theorem dX12_isFast_18 : decode cX12_isFast 18 = .ok (.ireturn, 1) := by decide +kernel
theorem dX12_slotOf_0 : decode cX12_slotOf 0 = .ok (.aload_n 0, 1) := by decide +kernel
theorem dX12_slotOf_1 : decode cX12_slotOf 1 = .ok (.getfield 7, 3) := by decide +kernel
theorem dX12_slotOf_4 : decode cX12_slotOf 4 = .ok (.sipush 139, 3) := by decide +kernel
theorem dX12_slotOf_7 : decode cX12_slotOf 7 = .ok (.iload_n 1, 1) := by decide +kernel
theorem dX12_slotOf_8 : decode cX12_slotOf 8 = .ok (.invokestatic 64, 3) := by decide +kernel
theorem dX12_slotOf_11 : decode cX12_slotOf 11 = .ok (.iadd, 1) := by decide +kernel
theorem dX12_slotOf_12 : decode cX12_slotOf 12 = .ok (.iload_n 2, 1) := by decide +kernel
theorem dX12_slotOf_13 : decode cX12_slotOf 13 = .ok (.iadd, 1) := by decide +kernel
theorem dX12_slotOf_14 : decode cX12_slotOf 14 = .ok (.iaload, 1) := by decide +kernel
theorem dX12_slotOf_15 : decode cX12_slotOf 15 = .ok (.ireturn, 1) := by decide +kernel
theorem dX12_four_0 : decode cX12_four 0 = .ok (.bipush 24, 2) := by decide +kernel
theorem dX12_four_2 : decode cX12_four 2 = .ok (.istore_n 2, 1) := by decide +kernel
theorem dX12_four_3 : decode cX12_four 3 = .ok (.iload_n 2, 1) := by decide +kernel
theorem dX12_four_4 : decode cX12_four 4 = .ok (.ifCond .lt 35, 3) := by decide +kernel
theorem dX12_four_7 : decode cX12_four 7 = .ok (.aload_n 0, 1) := by decide +kernel
theorem dX12_four_8 : decode cX12_four 8 = .ok (.getfield 19, 3) := by decide +kernel
theorem dX12_four_11 : decode cX12_four 11 = .ok (.aload_n 0, 1) := by decide +kernel
theorem dX12_four_12 : decode cX12_four 12 = .ok (.getfield 67, 3) := by decide +kernel
theorem dX12_four_15 : decode cX12_four 15 = .ok (.iload_n 1, 1) := by decide +kernel
theorem dX12_four_16 : decode cX12_four 16 = .ok (.iload_n 2, 1) := by decide +kernel
theorem dX12_four_17 : decode cX12_four 17 = .ok (.ishr, 1) := by decide +kernel
theorem dX12_four_18 : decode cX12_four 18 = .ok (.sipush 255, 3) := by decide +kernel
theorem dX12_four_21 : decode cX12_four 21 = .ok (.iand, 1) := by decide +kernel
theorem dX12_four_22 : decode cX12_four 22 = .ok (.iastore, 1) := by decide +kernel
theorem dX12_four_23 : decode cX12_four 23 = .ok (.aload_n 0, 1) := by decide +kernel
theorem dX12_four_24 : decode cX12_four 24 = .ok (.dup, 1) := by decide +kernel
theorem dX12_four_25 : decode cX12_four 25 = .ok (.getfield 67, 3) := by decide +kernel
theorem dX12_four_28 : decode cX12_four 28 = .ok (.iconst 1, 1) := by decide +kernel
theorem dX12_four_29 : decode cX12_four 29 = .ok (.iadd, 1) := by decide +kernel
theorem dX12_four_30 : decode cX12_four 30 = .ok (.putfield 67, 3) := by decide +kernel
theorem dX12_four_33 : decode cX12_four 33 = .ok (.iinc 2 (-8), 3) := by decide +kernel
theorem dX12_four_36 : decode cX12_four 36 = .ok (.goto (-33), 3) := by decide +kernel
theorem dX12_four_39 : decode cX12_four 39 = .ok (.return_, 1) := by decide +kernel
theorem dX12_feed_0 : decode cX12_feed 0 = .ok (.aload_n 0, 1) := by decide +kernel
theorem dX12_feed_1 : decode cX12_feed 1 = .ok (.getfield 67, 3) := by decide +kernel
theorem dX12_feed_4 : decode cX12_feed 4 = .ok (.bipush 20, 2) := by decide +kernel
theorem dX12_feed_6 : decode cX12_feed 6 = .ok (.iadd, 1) := by decide +kernel
theorem dX12_feed_7 : decode cX12_feed 7 = .ok (.sipush 300, 3) := by decide +kernel
theorem dX12_feed_10 : decode cX12_feed 10 = .ok (.if_icmp .le 5, 3) := by decide +kernel
theorem dX12_feed_13 : decode cX12_feed 13 = .ok (.iconst (-1), 1) := by decide +kernel
theorem dX12_feed_14 : decode cX12_feed 14 = .ok (.ireturn, 1) := by decide +kernel
theorem dX12_feed_15 : decode cX12_feed 15 = .ok (.aload_n 0, 1) := by decide +kernel
theorem dX12_feed_16 : decode cX12_feed 16 = .ok (.iload_n 1, 1) := by decide +kernel
theorem dX12_feed_17 : decode cX12_feed 17 = .ok (.invokevirtual 70, 3) := by decide +kernel
theorem dX12_feed_20 : decode cX12_feed 20 = .ok (.aload_n 0, 1) := by decide +kernel
theorem dX12_feed_21 : decode cX12_feed 21 = .ok (.iload_n 2, 1) := by decide +kernel
theorem dX12_feed_22 : decode cX12_feed 22 = .ok (.invokevirtual 70, 3) := by decide +kernel
theorem dX12_feed_25 : decode cX12_feed 25 = .ok (.aload_n 0, 1) := by decide +kernel
theorem dX12_feed_26 : decode cX12_feed 26 = .ok (.iload_n 3, 1) := by decide +kernel
theorem dX12_feed_27 : decode cX12_feed 27 = .ok (.invokevirtual 70, 3) := by decide +kernel
theorem dX12_feed_30 : decode cX12_feed 30 = .ok (.aload_n 0, 1) := by decide +kernel
theorem dX12_feed_31 : decode cX12_feed 31 = .ok (.iload 4, 2) := by decide +kernel
theorem dX12_feed_33 : decode cX12_feed 33 = .ok (.invokevirtual 70, 3) := by decide +kernel
theorem dX12_feed_36 : decode cX12_feed 36 = .ok (.aload_n 0, 1) := by decide +kernel
theorem dX12_feed_37 : decode cX12_feed 37 = .ok (.iload 5, 2) := by decide +kernel
theorem dX12_feed_39 : decode cX12_feed 39 = .ok (.invokevirtual 70, 3) := by decide +kernel
theorem dX12_feed_42 : decode cX12_feed 42 = .ok (.aload_n 0, 1) := by decide +kernel
theorem dX12_feed_43 : decode cX12_feed 43 = .ok (.getfield 67, 3) := by decide +kernel
theorem dX12_feed_46 : decode cX12_feed 46 = .ok (.ireturn, 1) := by decide +kernel
theorem dX12_end_0 : decode cX12_end 0 = .ok (.iload_n 1, 1) := by decide +kernel
theorem dX12_end_1 : decode cX12_end 1 = .ok (.iconst 0, 1) := by decide +kernel
theorem dX12_end_2 : decode cX12_end 2 = .ok (.aload_n 0, 1) := by decide +kernel
theorem dX12_end_3 : decode cX12_end 3 = .ok (.getfield 67, 3) := by decide +kernel
theorem dX12_end_6 : decode cX12_end 6 = .ok (.invokestatic 52, 3) := by decide +kernel
theorem dX12_end_9 : decode cX12_end 9 = .ok (.ifCond .ne 5, 3) := by decide +kernel
theorem dX12_end_12 : decode cX12_end 12 = .ok (.iconst (-1), 1) := by decide +kernel
theorem dX12_end_13 : decode cX12_end 13 = .ok (.ireturn, 1) := by decide +kernel
theorem dX12_end_14 : decode cX12_end 14 = .ok (.aload_n 0, 1) := by decide +kernel
theorem dX12_end_15 : decode cX12_end 15 = .ok (.iload_n 1, 1) := by decide +kernel
theorem dX12_end_16 : decode cX12_end 16 = .ok (.putfield 67, 3) := by decide +kernel
theorem dX12_end_19 : decode cX12_end 19 = .ok (.iload_n 1, 1) := by decide +kernel
theorem dX12_end_20 : decode cX12_end 20 = .ok (.ireturn, 1) := by decide +kernel
theorem dX12_byteAt_0 : decode cX12_byteAt 0 = .ok (.iload_n 1, 1) := by decide +kernel
theorem dX12_byteAt_1 : decode cX12_byteAt 1 = .ok (.aload_n 0, 1) := by decide +kernel
theorem dX12_byteAt_2 : decode cX12_byteAt 2 = .ok (.getfield 67, 3) := by decide +kernel
theorem dX12_byteAt_5 : decode cX12_byteAt 5 = .ok (.if_icmp .ge 12, 3) := by decide +kernel
theorem dX12_byteAt_8 : decode cX12_byteAt 8 = .ok (.aload_n 0, 1) := by decide +kernel
theorem dX12_byteAt_9 : decode cX12_byteAt 9 = .ok (.getfield 19, 3) := by decide +kernel
theorem dX12_byteAt_12 : decode cX12_byteAt 12 = .ok (.iload_n 1, 1) := by decide +kernel
theorem dX12_byteAt_13 : decode cX12_byteAt 13 = .ok (.iaload, 1) := by decide +kernel
theorem dX12_byteAt_14 : decode cX12_byteAt 14 = .ok (.goto 4, 3) := by decide +kernel
theorem dX12_byteAt_17 : decode cX12_byteAt 17 = .ok (.iconst (-1), 1) := by decide +kernel
theorem dX12_byteAt_18 : decode cX12_byteAt 18 = .ok (.ireturn, 1) := by decide +kernel
theorem dX12_isLetterByte_0 : decode cX12_isLetterByte 0 = .ok (.iload_n 0, 1) := by decide +kernel
theorem dX12_isLetterByte_1 : decode cX12_isLetterByte 1 = .ok (.bipush 97, 2) := by decide +kernel
theorem dX12_isLetterByte_3 : decode cX12_isLetterByte 3 = .ok (.if_icmp .lt 9, 3) := by decide +kernel
theorem dX12_isLetterByte_6 : decode cX12_isLetterByte 6 = .ok (.iload_n 0, 1) := by decide +kernel
theorem dX12_isLetterByte_7 : decode cX12_isLetterByte 7 = .ok (.bipush 122, 2) := by decide +kernel
theorem dX12_isLetterByte_9 : decode cX12_isLetterByte 9 = .ok (.if_icmp .le 15, 3) := by decide +kernel
theorem dX12_isLetterByte_12 : decode cX12_isLetterByte 12 = .ok (.iload_n 0, 1) := by decide +kernel
theorem dX12_isLetterByte_13 : decode cX12_isLetterByte 13 = .ok (.bipush 65, 2) := by decide +kernel
theorem dX12_isLetterByte_15 : decode cX12_isLetterByte 15 = .ok (.if_icmp .lt 13, 3) := by decide +kernel
theorem dX12_isLetterByte_18 : decode cX12_isLetterByte 18 = .ok (.iload_n 0, 1) := by decide +kernel
theorem dX12_isLetterByte_19 : decode cX12_isLetterByte 19 = .ok (.bipush 90, 2) := by decide +kernel
theorem dX12_isLetterByte_21 : decode cX12_isLetterByte 21 = .ok (.if_icmp .gt 7, 3) := by decide +kernel
theorem dX12_isLetterByte_24 : decode cX12_isLetterByte 24 = .ok (.iconst 1, 1) := by decide +kernel
theorem dX12_isLetterByte_25 : decode cX12_isLetterByte 25 = .ok (.goto 4, 3) := by decide +kernel
theorem dX12_isLetterByte_28 : decode cX12_isLetterByte 28 = .ok (.iconst 0, 1) := by decide +kernel
theorem dX12_isLetterByte_29 : decode cX12_isLetterByte 29 = .ok (.ireturn, 1) := by decide +kernel
theorem dX12_isFigure_0 : decode cX12_isFigure 0 = .ok (.iload_n 0, 1) := by decide +kernel
theorem dX12_isFigure_1 : decode cX12_isFigure 1 = .ok (.bipush 48, 2) := by decide +kernel
theorem dX12_isFigure_3 : decode cX12_isFigure 3 = .ok (.if_icmp .lt 13, 3) := by decide +kernel
theorem dX12_isFigure_6 : decode cX12_isFigure 6 = .ok (.iload_n 0, 1) := by decide +kernel
theorem dX12_isFigure_7 : decode cX12_isFigure 7 = .ok (.bipush 57, 2) := by decide +kernel
theorem dX12_isFigure_9 : decode cX12_isFigure 9 = .ok (.if_icmp .gt 7, 3) := by decide +kernel
theorem dX12_isFigure_12 : decode cX12_isFigure 12 = .ok (.iconst 1, 1) := by decide +kernel
theorem dX12_isFigure_13 : decode cX12_isFigure 13 = .ok (.goto 4, 3) := by decide +kernel
theorem dX12_isFigure_16 : decode cX12_isFigure 16 = .ok (.iconst 0, 1) := by decide +kernel
theorem dX12_isFigure_17 : decode cX12_isFigure 17 = .ok (.ireturn, 1) := by decide +kernel
theorem dX12_isSign_0 : decode cX12_isSign 0 = .ok (.iload_n 0, 1) := by decide +kernel
theorem dX12_isSign_1 : decode cX12_isSign 1 = .ok (.lookupswitch 77 #[(42, 75), (43, 75), (44, 75), (59, 75), (60, 75), (61, 75), (123, 75), (125, 75)], 75) := by decide +kernel
theorem dX12_isSign_76 : decode cX12_isSign 76 = .ok (.iconst 1, 1) := by decide +kernel
theorem dX12_isSign_77 : decode cX12_isSign 77 = .ok (.ireturn, 1) := by decide +kernel
theorem dX12_isSign_78 : decode cX12_isSign 78 = .ok (.iconst 0, 1) := by decide +kernel
theorem dX12_isSign_79 : decode cX12_isSign 79 = .ok (.ireturn, 1) := by decide +kernel
theorem dX12_isWord_0 : decode cX12_isWord 0 = .ok (.iload_n 2, 1) := by decide +kernel
theorem dX12_isWord_1 : decode cX12_isWord 1 = .ok (.iload 8, 2) := by decide +kernel
theorem dX12_isWord_3 : decode cX12_isWord 3 = .ok (.if_icmp .ne 24, 3) := by decide +kernel
theorem dX12_isWord_6 : decode cX12_isWord 6 = .ok (.aload_n 0, 1) := by decide +kernel
theorem dX12_isWord_7 : decode cX12_isWord 7 = .ok (.iload_n 1, 1) := by decide +kernel
theorem dX12_isWord_8 : decode cX12_isWord 8 = .ok (.invokevirtual 74, 3) := by decide +kernel
theorem dX12_isWord_11 : decode cX12_isWord 11 = .ok (.iload_n 3, 1) := by decide +kernel
theorem dX12_isWord_12 : decode cX12_isWord 12 = .ok (.if_icmp .ne 15, 3) := by decide +kernel
theorem dX12_isWord_15 : decode cX12_isWord 15 = .ok (.aload_n 0, 1) := by decide +kernel
theorem dX12_isWord_16 : decode cX12_isWord 16 = .ok (.iload_n 1, 1) := by decide +kernel
theorem dX12_isWord_17 : decode cX12_isWord 17 = .ok (.iconst 1, 1) := by decide +kernel
theorem dX12_isWord_18 : decode cX12_isWord 18 = .ok (.iadd, 1) := by decide +kernel
theorem dX12_isWord_19 : decode cX12_isWord 19 = .ok (.invokevirtual 74, 3) := by decide +kernel
theorem dX12_isWord_22 : decode cX12_isWord 22 = .ok (.iload 4, 2) := by decide +kernel
theorem dX12_isWord_24 : decode cX12_isWord 24 = .ok (.if_icmp .eq 5, 3) := by decide +kernel
theorem dX12_isWord_27 : decode cX12_isWord 27 = .ok (.iconst 0, 1) := by decide +kernel
theorem dX12_isWord_28 : decode cX12_isWord 28 = .ok (.ireturn, 1) := by decide +kernel
theorem dX12_isWord_29 : decode cX12_isWord 29 = .ok (.iload 8, 2) := by decide +kernel
theorem dX12_isWord_31 : decode cX12_isWord 31 = .ok (.iconst 3, 1) := by decide +kernel
theorem dX12_isWord_32 : decode cX12_isWord 32 = .ok (.if_icmp .lt 15, 3) := by decide +kernel
theorem dX12_isWord_35 : decode cX12_isWord 35 = .ok (.aload_n 0, 1) := by decide +kernel
theorem dX12_isWord_36 : decode cX12_isWord 36 = .ok (.iload_n 1, 1) := by decide +kernel
theorem dX12_isWord_37 : decode cX12_isWord 37 = .ok (.iconst 2, 1) := by decide +kernel
theorem dX12_isWord_38 : decode cX12_isWord 38 = .ok (.iadd, 1) := by decide +kernel
theorem dX12_isWord_39 : decode cX12_isWord 39 = .ok (.invokevirtual 74, 3) := by decide +kernel
theorem dX12_isWord_42 : decode cX12_isWord 42 = .ok (.iload 5, 2) := by decide +kernel
theorem dX12_isWord_44 : decode cX12_isWord 44 = .ok (.if_icmp .ne 43, 3) := by decide +kernel
theorem dX12_isWord_47 : decode cX12_isWord 47 = .ok (.iload 8, 2) := by decide +kernel
theorem dX12_isWord_49 : decode cX12_isWord 49 = .ok (.iconst 4, 1) := by decide +kernel
theorem dX12_isWord_50 : decode cX12_isWord 50 = .ok (.if_icmp .lt 15, 3) := by decide +kernel
theorem dX12_isWord_53 : decode cX12_isWord 53 = .ok (.aload_n 0, 1) := by decide +kernel
theorem dX12_isWord_54 : decode cX12_isWord 54 = .ok (.iload_n 1, 1) := by decide +kernel
theorem dX12_isWord_55 : decode cX12_isWord 55 = .ok (.iconst 3, 1) := by decide +kernel
theorem dX12_isWord_56 : decode cX12_isWord 56 = .ok (.iadd, 1) := by decide +kernel
theorem dX12_isWord_57 : decode cX12_isWord 57 = .ok (.invokevirtual 74, 3) := by decide +kernel
theorem dX12_isWord_60 : decode cX12_isWord 60 = .ok (.iload 6, 2) := by decide +kernel
theorem dX12_isWord_62 : decode cX12_isWord 62 = .ok (.if_icmp .ne 25, 3) := by decide +kernel
theorem dX12_isWord_65 : decode cX12_isWord 65 = .ok (.iload 8, 2) := by decide +kernel
theorem dX12_isWord_67 : decode cX12_isWord 67 = .ok (.iconst 5, 1) := by decide +kernel
theorem dX12_isWord_68 : decode cX12_isWord 68 = .ok (.if_icmp .lt 15, 3) := by decide +kernel
theorem dX12_isWord_71 : decode cX12_isWord 71 = .ok (.aload_n 0, 1) := by decide +kernel
theorem dX12_isWord_72 : decode cX12_isWord 72 = .ok (.iload_n 1, 1) := by decide +kernel
theorem dX12_isWord_73 : decode cX12_isWord 73 = .ok (.iconst 4, 1) := by decide +kernel
theorem dX12_isWord_74 : decode cX12_isWord 74 = .ok (.iadd, 1) := by decide +kernel
theorem dX12_isWord_75 : decode cX12_isWord 75 = .ok (.invokevirtual 74, 3) := by decide +kernel
theorem dX12_isWord_78 : decode cX12_isWord 78 = .ok (.iload 7, 2) := by decide +kernel
theorem dX12_isWord_80 : decode cX12_isWord 80 = .ok (.if_icmp .ne 7, 3) := by decide +kernel
theorem dX12_isWord_83 : decode cX12_isWord 83 = .ok (.iconst 1, 1) := by decide +kernel
theorem dX12_isWord_84 : decode cX12_isWord 84 = .ok (.goto 4, 3) := by decide +kernel
theorem dX12_isWord_87 : decode cX12_isWord 87 = .ok (.iconst 0, 1) := by decide +kernel
theorem dX12_isWord_88 : decode cX12_isWord 88 = .ok (.ireturn, 1) := by decide +kernel
theorem dX12_wordOf_0 : decode cX12_wordOf 0 = .ok (.iload_n 2, 1) := by decide +kernel
theorem dX12_wordOf_1 : decode cX12_wordOf 1 = .ok (.iconst 1, 1) := by decide +kernel
theorem dX12_wordOf_2 : decode cX12_wordOf 2 = .ok (.if_icmp .ne 22, 3) := by decide +kernel
theorem dX12_wordOf_5 : decode cX12_wordOf 5 = .ok (.aload_n 0, 1) := by decide +kernel
theorem dX12_wordOf_6 : decode cX12_wordOf 6 = .ok (.iload_n 1, 1) := by decide +kernel
theorem dX12_wordOf_7 : decode cX12_wordOf 7 = .ok (.invokevirtual 74, 3) := by decide +kernel
theorem dX12_wordOf_10 : decode cX12_wordOf 10 = .ok (.bipush 97, 2) := by decide +kernel
theorem dX12_wordOf_12 : decode cX12_wordOf 12 = .ok (.bipush 99, 2) := by decide +kernel
theorem dX12_wordOf_14 : decode cX12_wordOf 14 = .ok (.invokestatic 52, 3) := by decide +kernel
theorem dX12_wordOf_17 : decode cX12_wordOf 17 = .ok (.ifCond .eq 7, 3) := by decide +kernel
theorem dX12_wordOf_20 : decode cX12_wordOf 20 = .ok (.sipush 207, 3) := by decide +kernel
theorem dX12_wordOf_23 : decode cX12_wordOf 23 = .ok (.ireturn, 1) := by decide +kernel
theorem dX12_wordOf_24 : decode cX12_wordOf 24 = .ok (.aload_n 0, 1) := by decide +kernel
theorem dX12_wordOf_25 : decode cX12_wordOf 25 = .ok (.iload_n 1, 1) := by decide +kernel
theorem dX12_wordOf_26 : decode cX12_wordOf 26 = .ok (.iload_n 2, 1) := by decide +kernel
theorem dX12_wordOf_27 : decode cX12_wordOf 27 = .ok (.bipush 114, 2) := by decide +kernel
theorem dX12_wordOf_29 : decode cX12_wordOf 29 = .ok (.bipush 101, 2) := by decide +kernel
theorem dX12_wordOf_31 : decode cX12_wordOf 31 = .ok (.bipush 97, 2) := by decide +kernel
theorem dX12_wordOf_33 : decode cX12_wordOf 33 = .ok (.bipush 100, 2) := by decide +kernel
theorem dX12_wordOf_35 : decode cX12_wordOf 35 = .ok (.iconst 0, 1) := by decide +kernel
theorem dX12_wordOf_36 : decode cX12_wordOf 36 = .ok (.iconst 4, 1) := by decide +kernel
theorem dX12_wordOf_37 : decode cX12_wordOf 37 = .ok (.invokevirtual 77, 3) := by decide +kernel
theorem dX12_wordOf_40 : decode cX12_wordOf 40 = .ok (.ifCond .eq 7, 3) := by decide +kernel
theorem dX12_wordOf_43 : decode cX12_wordOf 43 = .ok (.sipush 200, 3) := by decide +kernel
theorem dX12_wordOf_46 : decode cX12_wordOf 46 = .ok (.ireturn, 1) := by decide +kernel
theorem dX12_wordOf_47 : decode cX12_wordOf 47 = .ok (.aload_n 0, 1) := by decide +kernel
theorem dX12_wordOf_48 : decode cX12_wordOf 48 = .ok (.iload_n 1, 1) := by decide +kernel
theorem dX12_wordOf_49 : decode cX12_wordOf 49 = .ok (.iload_n 2, 1) := by decide +kernel
theorem dX12_wordOf_50 : decode cX12_wordOf 50 = .ok (.bipush 119, 2) := by decide +kernel
theorem dX12_wordOf_52 : decode cX12_wordOf 52 = .ok (.bipush 114, 2) := by decide +kernel
theorem dX12_wordOf_54 : decode cX12_wordOf 54 = .ok (.bipush 105, 2) := by decide +kernel
theorem dX12_wordOf_56 : decode cX12_wordOf 56 = .ok (.bipush 116, 2) := by decide +kernel
theorem dX12_wordOf_58 : decode cX12_wordOf 58 = .ok (.bipush 101, 2) := by decide +kernel
theorem dX12_wordOf_60 : decode cX12_wordOf 60 = .ok (.iconst 5, 1) := by decide +kernel
theorem dX12_wordOf_61 : decode cX12_wordOf 61 = .ok (.invokevirtual 77, 3) := by decide +kernel
theorem dX12_wordOf_64 : decode cX12_wordOf 64 = .ok (.ifCond .eq 7, 3) := by decide +kernel
theorem dX12_wordOf_67 : decode cX12_wordOf 67 = .ok (.sipush 201, 3) := by decide +kernel
theorem dX12_wordOf_70 : decode cX12_wordOf 70 = .ok (.ireturn, 1) := by decide +kernel
theorem dX12_wordOf_71 : decode cX12_wordOf 71 = .ok (.aload_n 0, 1) := by decide +kernel
theorem dX12_wordOf_72 : decode cX12_wordOf 72 = .ok (.iload_n 1, 1) := by decide +kernel
theorem dX12_wordOf_73 : decode cX12_wordOf 73 = .ok (.iload_n 2, 1) := by decide +kernel
theorem dX12_wordOf_74 : decode cX12_wordOf 74 = .ok (.bipush 115, 2) := by decide +kernel
theorem dX12_wordOf_76 : decode cX12_wordOf 76 = .ok (.bipush 99, 2) := by decide +kernel
theorem dX12_wordOf_78 : decode cX12_wordOf 78 = .ok (.bipush 97, 2) := by decide +kernel
theorem dX12_wordOf_80 : decode cX12_wordOf 80 = .ok (.bipush 110, 2) := by decide +kernel
theorem dX12_wordOf_82 : decode cX12_wordOf 82 = .ok (.iconst 0, 1) := by decide +kernel
theorem dX12_wordOf_83 : decode cX12_wordOf 83 = .ok (.iconst 4, 1) := by decide +kernel
theorem dX12_wordOf_84 : decode cX12_wordOf 84 = .ok (.invokevirtual 77, 3) := by decide +kernel
theorem dX12_wordOf_87 : decode cX12_wordOf 87 = .ok (.ifCond .eq 7, 3) := by decide +kernel
theorem dX12_wordOf_90 : decode cX12_wordOf 90 = .ok (.sipush 202, 3) := by decide +kernel
theorem dX12_wordOf_93 : decode cX12_wordOf 93 = .ok (.ireturn, 1) := by decide +kernel
theorem dX12_wordOf_94 : decode cX12_wordOf 94 = .ok (.aload_n 0, 1) := by decide +kernel
theorem dX12_wordOf_95 : decode cX12_wordOf 95 = .ok (.iload_n 1, 1) := by decide +kernel
theorem dX12_wordOf_96 : decode cX12_wordOf 96 = .ok (.iload_n 2, 1) := by decide +kernel
theorem dX12_wordOf_97 : decode cX12_wordOf 97 = .ok (.bipush 116, 2) := by decide +kernel
theorem dX12_wordOf_99 : decode cX12_wordOf 99 = .ok (.bipush 105, 2) := by decide +kernel
theorem dX12_wordOf_101 : decode cX12_wordOf 101 = .ok (.bipush 99, 2) := by decide +kernel
theorem dX12_wordOf_103 : decode cX12_wordOf 103 = .ok (.bipush 107, 2) := by decide +kernel
theorem dX12_wordOf_105 : decode cX12_wordOf 105 = .ok (.iconst 0, 1) := by decide +kernel
theorem dX12_wordOf_106 : decode cX12_wordOf 106 = .ok (.iconst 4, 1) := by decide +kernel
theorem dX12_wordOf_107 : decode cX12_wordOf 107 = .ok (.invokevirtual 77, 3) := by decide +kernel
theorem dX12_wordOf_110 : decode cX12_wordOf 110 = .ok (.ifCond .eq 7, 3) := by decide +kernel
theorem dX12_wordOf_113 : decode cX12_wordOf 113 = .ok (.sipush 203, 3) := by decide +kernel
theorem dX12_wordOf_116 : decode cX12_wordOf 116 = .ok (.ireturn, 1) := by decide +kernel
theorem dX12_wordOf_117 : decode cX12_wordOf 117 = .ok (.aload_n 0, 1) := by decide +kernel
theorem dX12_wordOf_118 : decode cX12_wordOf 118 = .ok (.iload_n 1, 1) := by decide +kernel
theorem dX12_wordOf_119 : decode cX12_wordOf 119 = .ok (.iload_n 2, 1) := by decide +kernel
theorem dX12_wordOf_120 : decode cX12_wordOf 120 = .ok (.bipush 99, 2) := by decide +kernel
theorem dX12_wordOf_122 : decode cX12_wordOf 122 = .ok (.bipush 114, 2) := by decide +kernel
theorem dX12_wordOf_124 : decode cX12_wordOf 124 = .ok (.bipush 97, 2) := by decide +kernel
theorem dX12_wordOf_126 : decode cX12_wordOf 126 = .ok (.bipush 115, 2) := by decide +kernel
theorem dX12_wordOf_128 : decode cX12_wordOf 128 = .ok (.bipush 104, 2) := by decide +kernel
theorem dX12_wordOf_130 : decode cX12_wordOf 130 = .ok (.iconst 5, 1) := by decide +kernel
theorem dX12_wordOf_131 : decode cX12_wordOf 131 = .ok (.invokevirtual 77, 3) := by decide +kernel
theorem dX12_wordOf_134 : decode cX12_wordOf 134 = .ok (.ifCond .eq 7, 3) := by decide +kernel
theorem dX12_wordOf_137 : decode cX12_wordOf 137 = .ok (.sipush 204, 3) := by decide +kernel
theorem dX12_wordOf_140 : decode cX12_wordOf 140 = .ok (.ireturn, 1) := by decide +kernel
theorem dX12_wordOf_141 : decode cX12_wordOf 141 = .ok (.aload_n 0, 1) := by decide +kernel
theorem dX12_wordOf_142 : decode cX12_wordOf 142 = .ok (.iload_n 1, 1) := by decide +kernel
theorem dX12_wordOf_143 : decode cX12_wordOf 143 = .ok (.iload_n 2, 1) := by decide +kernel
theorem dX12_wordOf_144 : decode cX12_wordOf 144 = .ok (.bipush 108, 2) := by decide +kernel
theorem dX12_wordOf_146 : decode cX12_wordOf 146 = .ok (.bipush 111, 2) := by decide +kernel
theorem dX12_wordOf_148 : decode cX12_wordOf 148 = .ok (.bipush 111, 2) := by decide +kernel
theorem dX12_wordOf_150 : decode cX12_wordOf 150 = .ok (.bipush 112, 2) := by decide +kernel
theorem dX12_wordOf_152 : decode cX12_wordOf 152 = .ok (.iconst 0, 1) := by decide +kernel
theorem dX12_wordOf_153 : decode cX12_wordOf 153 = .ok (.iconst 4, 1) := by decide +kernel
theorem dX12_wordOf_154 : decode cX12_wordOf 154 = .ok (.invokevirtual 77, 3) := by decide +kernel
theorem dX12_wordOf_157 : decode cX12_wordOf 157 = .ok (.ifCond .eq 7, 3) := by decide +kernel
theorem dX12_wordOf_160 : decode cX12_wordOf 160 = .ok (.sipush 205, 3) := by decide +kernel
theorem dX12_wordOf_163 : decode cX12_wordOf 163 = .ok (.ireturn, 1) := by decide +kernel
theorem dX12_wordOf_164 : decode cX12_wordOf 164 = .ok (.aload_n 0, 1) := by decide +kernel
theorem dX12_wordOf_165 : decode cX12_wordOf 165 = .ok (.iload_n 1, 1) := by decide +kernel
theorem dX12_wordOf_166 : decode cX12_wordOf 166 = .ok (.iload_n 2, 1) := by decide +kernel
theorem dX12_wordOf_167 : decode cX12_wordOf 167 = .ok (.bipush 105, 2) := by decide +kernel
theorem dX12_wordOf_169 : decode cX12_wordOf 169 = .ok (.bipush 102, 2) := by decide +kernel
theorem dX12_wordOf_171 : decode cX12_wordOf 171 = .ok (.iconst 0, 1) := by decide +kernel
theorem dX12_wordOf_172 : decode cX12_wordOf 172 = .ok (.iconst 0, 1) := by decide +kernel
theorem dX12_wordOf_173 : decode cX12_wordOf 173 = .ok (.iconst 0, 1) := by decide +kernel
theorem dX12_wordOf_174 : decode cX12_wordOf 174 = .ok (.iconst 2, 1) := by decide +kernel
theorem dX12_wordOf_175 : decode cX12_wordOf 175 = .ok (.invokevirtual 77, 3) := by decide +kernel
theorem dX12_wordOf_178 : decode cX12_wordOf 178 = .ok (.ifCond .eq 9, 3) := by decide +kernel
theorem dX12_wordOf_181 : decode cX12_wordOf 181 = .ok (.sipush 206, 3) := by decide +kernel
theorem dX12_wordOf_184 : decode cX12_wordOf 184 = .ok (.goto 4, 3) := by decide +kernel
theorem dX12_wordOf_187 : decode cX12_wordOf 187 = .ok (.iconst 2, 1) := by decide +kernel
theorem dX12_wordOf_188 : decode cX12_wordOf 188 = .ok (.ireturn, 1) := by decide +kernel
theorem dX12_nextToken_0 : decode cX12_nextToken 0 = .ok (.aload_n 0, 1) := by decide +kernel
theorem dX12_nextToken_1 : decode cX12_nextToken 1 = .ok (.aload_n 0, 1) := by decide +kernel
theorem dX12_nextToken_2 : decode cX12_nextToken 2 = .ok (.getfield 81, 3) := by decide +kernel
theorem dX12_nextToken_5 : decode cX12_nextToken 5 = .ok (.invokevirtual 74, 3) := by decide +kernel
theorem dX12_nextToken_8 : decode cX12_nextToken 8 = .ok (.bipush 32, 2) := by decide +kernel
theorem dX12_nextToken_10 : decode cX12_nextToken 10 = .ok (.if_icmp .eq 16, 3) := by decide +kernel
theorem dX12_nextToken_13 : decode cX12_nextToken 13 = .ok (.aload_n 0, 1) := by decide +kernel
theorem dX12_nextToken_14 : decode cX12_nextToken 14 = .ok (.aload_n 0, 1) := by decide +kernel
theorem dX12_nextToken_15 : decode cX12_nextToken 15 = .ok (.getfield 81, 3) := by decide +kernel
theorem dX12_nextToken_18 : decode cX12_nextToken 18 = .ok (.invokevirtual 74, 3) := by decide +kernel
theorem dX12_nextToken_21 : decode cX12_nextToken 21 = .ok (.bipush 10, 2) := by decide +kernel
theorem dX12_nextToken_23 : decode cX12_nextToken 23 = .ok (.if_icmp .ne 16, 3) := by decide +kernel
theorem dX12_nextToken_26 : decode cX12_nextToken 26 = .ok (.aload_n 0, 1) := by decide +kernel
theorem dX12_nextToken_27 : decode cX12_nextToken 27 = .ok (.dup, 1) := by decide +kernel
theorem dX12_nextToken_28 : decode cX12_nextToken 28 = .ok (.getfield 81, 3) := by decide +kernel
theorem dX12_nextToken_31 : decode cX12_nextToken 31 = .ok (.iconst 1, 1) := by decide +kernel
theorem dX12_nextToken_32 : decode cX12_nextToken 32 = .ok (.iadd, 1) := by decide +kernel
theorem dX12_nextToken_33 : decode cX12_nextToken 33 = .ok (.putfield 81, 3) := by decide +kernel
theorem dX12_nextToken_36 : decode cX12_nextToken 36 = .ok (.goto (-36), 3) := by decide +kernel
theorem dX12_nextToken_39 : decode cX12_nextToken 39 = .ok (.aload_n 0, 1) := by decide +kernel
theorem dX12_nextToken_40 : decode cX12_nextToken 40 = .ok (.aload_n 0, 1) := by decide +kernel
theorem dX12_nextToken_41 : decode cX12_nextToken 41 = .ok (.getfield 81, 3) := by decide +kernel
theorem dX12_nextToken_44 : decode cX12_nextToken 44 = .ok (.putfield 84, 3) := by decide +kernel
theorem dX12_nextToken_47 : decode cX12_nextToken 47 = .ok (.aload_n 0, 1) := by decide +kernel
theorem dX12_nextToken_48 : decode cX12_nextToken 48 = .ok (.iconst 0, 1) := by decide +kernel
theorem dX12_nextToken_49 : decode cX12_nextToken 49 = .ok (.putfield 87, 3) := by decide +kernel
theorem dX12_nextToken_52 : decode cX12_nextToken 52 = .ok (.aload_n 0, 1) := by decide +kernel
theorem dX12_nextToken_53 : decode cX12_nextToken 53 = .ok (.aload_n 0, 1) := by decide +kernel
theorem dX12_nextToken_54 : decode cX12_nextToken 54 = .ok (.getfield 81, 3) := by decide +kernel
theorem dX12_nextToken_57 : decode cX12_nextToken 57 = .ok (.invokevirtual 74, 3) := by decide +kernel
theorem dX12_nextToken_60 : decode cX12_nextToken 60 = .ok (.istore_n 1, 1) := by decide +kernel
theorem dX12_nextToken_61 : decode cX12_nextToken 61 = .ok (.iload_n 1, 1) := by decide +kernel
theorem dX12_nextToken_62 : decode cX12_nextToken 62 = .ok (.ifCond .ge 11, 3) := by decide +kernel
theorem dX12_nextToken_65 : decode cX12_nextToken 65 = .ok (.aload_n 0, 1) := by decide +kernel
theorem dX12_nextToken_66 : decode cX12_nextToken 66 = .ok (.iconst 0, 1) := by decide +kernel
theorem dX12_nextToken_67 : decode cX12_nextToken 67 = .ok (.putfield 90, 3) := by decide +kernel
theorem dX12_nextToken_70 : decode cX12_nextToken 70 = .ok (.goto 187, 3) := by decide +kernel
theorem dX12_nextToken_73 : decode cX12_nextToken 73 = .ok (.iload_n 1, 1) := by decide +kernel
theorem dX12_nextToken_74 : decode cX12_nextToken 74 = .ok (.invokestatic 93, 3) := by decide +kernel
theorem dX12_nextToken_77 : decode cX12_nextToken 77 = .ok (.ifCond .eq 74, 3) := by decide +kernel
theorem dX12_nextToken_80 : decode cX12_nextToken 80 = .ok (.aload_n 0, 1) := by decide +kernel
theorem dX12_nextToken_81 : decode cX12_nextToken 81 = .ok (.iconst 1, 1) := by decide +kernel
theorem dX12_nextToken_82 : decode cX12_nextToken 82 = .ok (.putfield 90, 3) := by decide +kernel
theorem dX12_nextToken_85 : decode cX12_nextToken 85 = .ok (.aload_n 0, 1) := by decide +kernel
theorem dX12_nextToken_86 : decode cX12_nextToken 86 = .ok (.aload_n 0, 1) := by decide +kernel
theorem dX12_nextToken_87 : decode cX12_nextToken 87 = .ok (.getfield 81, 3) := by decide +kernel
theorem dX12_nextToken_90 : decode cX12_nextToken 90 = .ok (.invokevirtual 74, 3) := by decide +kernel
theorem dX12_nextToken_93 : decode cX12_nextToken 93 = .ok (.invokestatic 93, 3) := by decide +kernel
theorem dX12_nextToken_96 : decode cX12_nextToken 96 = .ok (.ifCond .eq 161, 3) := by decide +kernel
theorem dX12_nextToken_99 : decode cX12_nextToken 99 = .ok (.aload_n 0, 1) := by decide +kernel
theorem dX12_nextToken_100 : decode cX12_nextToken 100 = .ok (.aload_n 0, 1) := by decide +kernel
theorem dX12_nextToken_101 : decode cX12_nextToken 101 = .ok (.getfield 87, 3) := by decide +kernel
theorem dX12_nextToken_104 : decode cX12_nextToken 104 = .ok (.ldc 96, 2) := by decide +kernel
theorem dX12_nextToken_106 : decode cX12_nextToken 106 = .ok (.if_icmp .le 10, 3) := by decide +kernel
theorem dX12_nextToken_109 : decode cX12_nextToken 109 = .ok (.aload_n 0, 1) := by decide +kernel
theorem dX12_nextToken_110 : decode cX12_nextToken 110 = .ok (.getfield 87, 3) := by decide +kernel
theorem dX12_nextToken_113 : decode cX12_nextToken 113 = .ok (.goto 22, 3) := by decide +kernel
theorem dX12_nextToken_116 : decode cX12_nextToken 116 = .ok (.bipush 10, 2) := by decide +kernel
theorem dX12_nextToken_118 : decode cX12_nextToken 118 = .ok (.aload_n 0, 1) := by decide +kernel
theorem dX12_nextToken_119 : decode cX12_nextToken 119 = .ok (.getfield 87, 3) := by decide +kernel
theorem dX12_nextToken_122 : decode cX12_nextToken 122 = .ok (.imul, 1) := by decide +kernel
theorem dX12_nextToken_123 : decode cX12_nextToken 123 = .ok (.aload_n 0, 1) := by decide +kernel
theorem dX12_nextToken_124 : decode cX12_nextToken 124 = .ok (.aload_n 0, 1) := by decide +kernel
theorem dX12_nextToken_125 : decode cX12_nextToken 125 = .ok (.getfield 81, 3) := by decide +kernel
theorem dX12_nextToken_128 : decode cX12_nextToken 128 = .ok (.invokevirtual 74, 3) := by decide +kernel
theorem dX12_nextToken_131 : decode cX12_nextToken 131 = .ok (.iadd, 1) := by decide +kernel
theorem dX12_nextToken_132 : decode cX12_nextToken 132 = .ok (.bipush 48, 2) := by decide +kernel
theorem dX12_nextToken_134 : decode cX12_nextToken 134 = .ok (.isub, 1) := by decide +kernel
theorem dX12_nextToken_135 : decode cX12_nextToken 135 = .ok (.putfield 87, 3) := by decide +kernel
theorem dX12_nextToken_138 : decode cX12_nextToken 138 = .ok (.aload_n 0, 1) := by decide +kernel
theorem dX12_nextToken_139 : decode cX12_nextToken 139 = .ok (.dup, 1) := by decide +kernel
theorem dX12_nextToken_140 : decode cX12_nextToken 140 = .ok (.getfield 81, 3) := by decide +kernel
theorem dX12_nextToken_143 : decode cX12_nextToken 143 = .ok (.iconst 1, 1) := by decide +kernel
theorem dX12_nextToken_144 : decode cX12_nextToken 144 = .ok (.iadd, 1) := by decide +kernel
theorem dX12_nextToken_145 : decode cX12_nextToken 145 = .ok (.putfield 81, 3) := by decide +kernel
theorem dX12_nextToken_148 : decode cX12_nextToken 148 = .ok (.goto (-63), 3) := by decide +kernel
theorem dX12_nextToken_151 : decode cX12_nextToken 151 = .ok (.iload_n 1, 1) := by decide +kernel
theorem dX12_nextToken_152 : decode cX12_nextToken 152 = .ok (.invokestatic 97, 3) := by decide +kernel
theorem dX12_nextToken_155 : decode cX12_nextToken 155 = .ok (.ifCond .eq 76, 3) := by decide +kernel
theorem dX12_nextToken_158 : decode cX12_nextToken 158 = .ok (.aload_n 0, 1) := by decide +kernel
theorem dX12_nextToken_159 : decode cX12_nextToken 159 = .ok (.aload_n 0, 1) := by decide +kernel
theorem dX12_nextToken_160 : decode cX12_nextToken 160 = .ok (.getfield 81, 3) := by decide +kernel
theorem dX12_nextToken_163 : decode cX12_nextToken 163 = .ok (.invokevirtual 74, 3) := by decide +kernel
theorem dX12_nextToken_166 : decode cX12_nextToken 166 = .ok (.invokestatic 97, 3) := by decide +kernel
theorem dX12_nextToken_169 : decode cX12_nextToken 169 = .ok (.ifCond .eq 16, 3) := by decide +kernel
theorem dX12_nextToken_172 : decode cX12_nextToken 172 = .ok (.aload_n 0, 1) := by decide +kernel
theorem dX12_nextToken_173 : decode cX12_nextToken 173 = .ok (.dup, 1) := by decide +kernel
theorem dX12_nextToken_174 : decode cX12_nextToken 174 = .ok (.getfield 81, 3) := by decide +kernel
theorem dX12_nextToken_177 : decode cX12_nextToken 177 = .ok (.iconst 1, 1) := by decide +kernel
theorem dX12_nextToken_178 : decode cX12_nextToken 178 = .ok (.iadd, 1) := by decide +kernel
theorem dX12_nextToken_179 : decode cX12_nextToken 179 = .ok (.putfield 81, 3) := by decide +kernel
theorem dX12_nextToken_182 : decode cX12_nextToken 182 = .ok (.goto (-24), 3) := by decide +kernel
theorem dX12_nextToken_185 : decode cX12_nextToken 185 = .ok (.aload_n 0, 1) := by decide +kernel
theorem dX12_nextToken_186 : decode cX12_nextToken 186 = .ok (.aload_n 0, 1) := by decide +kernel
theorem dX12_nextToken_187 : decode cX12_nextToken 187 = .ok (.aload_n 0, 1) := by decide +kernel
theorem dX12_nextToken_188 : decode cX12_nextToken 188 = .ok (.getfield 84, 3) := by decide +kernel
theorem dX12_nextToken_191 : decode cX12_nextToken 191 = .ok (.aload_n 0, 1) := by decide +kernel
theorem dX12_nextToken_192 : decode cX12_nextToken 192 = .ok (.getfield 81, 3) := by decide +kernel
theorem dX12_nextToken_195 : decode cX12_nextToken 195 = .ok (.aload_n 0, 1) := by decide +kernel
theorem dX12_nextToken_196 : decode cX12_nextToken 196 = .ok (.getfield 84, 3) := by decide +kernel
theorem dX12_nextToken_199 : decode cX12_nextToken 199 = .ok (.isub, 1) := by decide +kernel
theorem dX12_nextToken_200 : decode cX12_nextToken 200 = .ok (.invokevirtual 100, 3) := by decide +kernel
theorem dX12_nextToken_203 : decode cX12_nextToken 203 = .ok (.putfield 90, 3) := by decide +kernel
theorem dX12_nextToken_206 : decode cX12_nextToken 206 = .ok (.aload_n 0, 1) := by decide +kernel
theorem dX12_nextToken_207 : decode cX12_nextToken 207 = .ok (.aload_n 0, 1) := by decide +kernel
theorem dX12_nextToken_208 : decode cX12_nextToken 208 = .ok (.getfield 90, 3) := by decide +kernel
theorem dX12_nextToken_211 : decode cX12_nextToken 211 = .ok (.sipush 207, 3) := by decide +kernel
theorem dX12_nextToken_214 : decode cX12_nextToken 214 = .ok (.if_icmp .ne 10, 3) := by decide +kernel
theorem dX12_nextToken_217 : decode cX12_nextToken 217 = .ok (.iload_n 1, 1) := by decide +kernel
theorem dX12_nextToken_218 : decode cX12_nextToken 218 = .ok (.bipush 97, 2) := by decide +kernel
theorem dX12_nextToken_220 : decode cX12_nextToken 220 = .ok (.isub, 1) := by decide +kernel
theorem dX12_nextToken_221 : decode cX12_nextToken 221 = .ok (.goto 4, 3) := by decide +kernel
theorem dX12_nextToken_224 : decode cX12_nextToken 224 = .ok (.iconst 0, 1) := by decide +kernel
theorem dX12_nextToken_225 : decode cX12_nextToken 225 = .ok (.putfield 87, 3) := by decide +kernel
theorem dX12_nextToken_228 : decode cX12_nextToken 228 = .ok (.goto 29, 3) := by decide +kernel
theorem dX12_nextToken_231 : decode cX12_nextToken 231 = .ok (.aload_n 0, 1) := by decide +kernel
theorem dX12_nextToken_232 : decode cX12_nextToken 232 = .ok (.iload_n 1, 1) := by decide +kernel
theorem dX12_nextToken_233 : decode cX12_nextToken 233 = .ok (.invokestatic 104, 3) := by decide +kernel
theorem dX12_nextToken_236 : decode cX12_nextToken 236 = .ok (.ifCond .eq 7, 3) := by decide +kernel
theorem dX12_nextToken_239 : decode cX12_nextToken 239 = .ok (.iload_n 1, 1) := by decide +kernel
theorem dX12_nextToken_240 : decode cX12_nextToken 240 = .ok (.goto 4, 3) := by decide +kernel
theorem dX12_nextToken_243 : decode cX12_nextToken 243 = .ok (.iconst 2, 1) := by decide +kernel
theorem dX12_nextToken_244 : decode cX12_nextToken 244 = .ok (.putfield 90, 3) := by decide +kernel
theorem dX12_nextToken_247 : decode cX12_nextToken 247 = .ok (.aload_n 0, 1) := by decide +kernel
theorem dX12_nextToken_248 : decode cX12_nextToken 248 = .ok (.dup, 1) := by decide +kernel
theorem dX12_nextToken_249 : decode cX12_nextToken 249 = .ok (.getfield 81, 3) := by decide +kernel
theorem dX12_nextToken_252 : decode cX12_nextToken 252 = .ok (.iconst 1, 1) := by decide +kernel
theorem dX12_nextToken_253 : decode cX12_nextToken 253 = .ok (.iadd, 1) := by decide +kernel
theorem dX12_nextToken_254 : decode cX12_nextToken 254 = .ok (.putfield 81, 3) := by decide +kernel
theorem dX12_nextToken_257 : decode cX12_nextToken 257 = .ok (.aload_n 0, 1) := by decide +kernel
theorem dX12_nextToken_258 : decode cX12_nextToken 258 = .ok (.getfield 90, 3) := by decide +kernel
theorem dX12_nextToken_261 : decode cX12_nextToken 261 = .ok (.ifCond .ne 4, 3) := by decide +kernel
theorem dX12_nextToken_264 : decode cX12_nextToken 264 = .ok (.return_, 1) := by decide +kernel
theorem dX12_nextToken_265 : decode cX12_nextToken 265 = .ok (.aload_n 0, 1) := by decide +kernel
theorem dX12_nextToken_266 : decode cX12_nextToken 266 = .ok (.getfield 107, 3) := by decide +kernel
theorem dX12_nextToken_269 : decode cX12_nextToken 269 = .ok (.iconst 1, 1) := by decide +kernel
theorem dX12_nextToken_270 : decode cX12_nextToken 270 = .ok (.iadd, 1) := by decide +kernel
theorem dX12_nextToken_271 : decode cX12_nextToken 271 = .ok (.iconst 2, 1) := by decide +kernel
theorem dX12_nextToken_272 : decode cX12_nextToken 272 = .ok (.aload_n 0, 1) := by decide +kernel
theorem dX12_nextToken_273 : decode cX12_nextToken 273 = .ok (.getfield 16, 3) := by decide +kernel
theorem dX12_nextToken_276 : decode cX12_nextToken 276 = .ok (.aload_n 0, 1) := by decide +kernel
theorem dX12_nextToken_277 : decode cX12_nextToken 277 = .ok (.getfield 107, 3) := by decide +kernel
theorem dX12_nextToken_280 : decode cX12_nextToken 280 = .ok (.iaload, 1) := by decide +kernel
theorem dX12_nextToken_281 : decode cX12_nextToken 281 = .ok (.imul, 1) := by decide +kernel
theorem dX12_nextToken_282 : decode cX12_nextToken 282 = .ok (.iadd, 1) := by decide +kernel
theorem dX12_nextToken_283 : decode cX12_nextToken 283 = .ok (.istore_n 2, 1) := by decide +kernel
theorem dX12_nextToken_284 : decode cX12_nextToken 284 = .ok (.aload_n 0, 1) := by decide +kernel
theorem dX12_nextToken_285 : decode cX12_nextToken 285 = .ok (.getfield 16, 3) := by decide +kernel
theorem dX12_nextToken_288 : decode cX12_nextToken 288 = .ok (.iload_n 2, 1) := by decide +kernel
theorem dX12_nextToken_289 : decode cX12_nextToken 289 = .ok (.aload_n 0, 1) := by decide +kernel
theorem dX12_nextToken_290 : decode cX12_nextToken 290 = .ok (.getfield 90, 3) := by decide +kernel
theorem dX12_nextToken_293 : decode cX12_nextToken 293 = .ok (.iastore, 1) := by decide +kernel
theorem dX12_nextToken_294 : decode cX12_nextToken 294 = .ok (.aload_n 0, 1) := by decide +kernel
theorem dX12_nextToken_295 : decode cX12_nextToken 295 = .ok (.getfield 16, 3) := by decide +kernel
theorem dX12_nextToken_298 : decode cX12_nextToken 298 = .ok (.iload_n 2, 1) := by decide +kernel
theorem dX12_nextToken_299 : decode cX12_nextToken 299 = .ok (.iconst 1, 1) := by decide +kernel
theorem dX12_nextToken_300 : decode cX12_nextToken 300 = .ok (.iadd, 1) := by decide +kernel
theorem dX12_nextToken_301 : decode cX12_nextToken 301 = .ok (.aload_n 0, 1) := by decide +kernel
theorem dX12_nextToken_302 : decode cX12_nextToken 302 = .ok (.getfield 87, 3) := by decide +kernel
theorem dX12_nextToken_305 : decode cX12_nextToken 305 = .ok (.iastore, 1) := by decide +kernel
theorem dX12_nextToken_306 : decode cX12_nextToken 306 = .ok (.aload_n 0, 1) := by decide +kernel
theorem dX12_nextToken_307 : decode cX12_nextToken 307 = .ok (.getfield 16, 3) := by decide +kernel
theorem dX12_nextToken_310 : decode cX12_nextToken 310 = .ok (.aload_n 0, 1) := by decide +kernel
theorem dX12_nextToken_311 : decode cX12_nextToken 311 = .ok (.getfield 107, 3) := by decide +kernel
theorem dX12_nextToken_314 : decode cX12_nextToken 314 = .ok (.dup2, 1) := by decide +kernel
theorem dX12_nextToken_315 : decode cX12_nextToken 315 = .ok (.iaload, 1) := by decide +kernel
theorem dX12_nextToken_316 : decode cX12_nextToken 316 = .ok (.iconst 1, 1) := by decide +kernel
theorem dX12_nextToken_317 : decode cX12_nextToken 317 = .ok (.iadd, 1) := by decide +kernel
theorem dX12_nextToken_318 : decode cX12_nextToken 318 = .ok (.iastore, 1) := by decide +kernel
theorem dX12_nextToken_319 : decode cX12_nextToken 319 = .ok (.return_, 1) := by decide +kernel
theorem dX12_one_0 : decode cX12_one 0 = .ok (.aload_n 0, 1) := by decide +kernel
theorem dX12_one_1 : decode cX12_one 1 = .ok (.getfield 90, 3) := by decide +kernel
theorem dX12_one_4 : decode cX12_one 4 = .ok (.sipush 207, 3) := by decide +kernel
theorem dX12_one_7 : decode cX12_one 7 = .ok (.if_icmp .ne 13, 3) := by decide +kernel
theorem dX12_one_10 : decode cX12_one 10 = .ok (.aload_n 0, 1) := by decide +kernel
theorem dX12_one_11 : decode cX12_one 11 = .ok (.getfield 87, 3) := by decide +kernel
theorem dX12_one_14 : decode cX12_one 14 = .ok (.iload_n 1, 1) := by decide +kernel
theorem dX12_one_15 : decode cX12_one 15 = .ok (.if_icmp .lt 27, 3) := by decide +kernel
theorem dX12_one_18 : decode cX12_one 18 = .ok (.iconst 4, 1) := by decide +kernel
theorem dX12_one_19 : decode cX12_one 19 = .ok (.ireturn, 1) := by decide +kernel
theorem dX12_one_20 : decode cX12_one 20 = .ok (.aload_n 0, 1) := by decide +kernel
theorem dX12_one_21 : decode cX12_one 21 = .ok (.getfield 90, 3) := by decide +kernel
theorem dX12_one_24 : decode cX12_one 24 = .ok (.iconst 1, 1) := by decide +kernel
theorem dX12_one_25 : decode cX12_one 25 = .ok (.if_icmp .eq 5, 3) := by decide +kernel
theorem dX12_one_28 : decode cX12_one 28 = .ok (.iconst 1, 1) := by decide +kernel
theorem dX12_one_29 : decode cX12_one 29 = .ok (.ireturn, 1) := by decide +kernel
theorem dX12_one_30 : decode cX12_one 30 = .ok (.aload_n 0, 1) := by decide +kernel
theorem dX12_one_31 : decode cX12_one 31 = .ok (.getfield 87, 3) := by decide +kernel
theorem dX12_one_34 : decode cX12_one 34 = .ok (.sipush 9999, 3) := by decide +kernel
theorem dX12_one_37 : decode cX12_one 37 = .ok (.if_icmp .le 5, 3) := by decide +kernel
theorem dX12_one_40 : decode cX12_one 40 = .ok (.iconst 2, 1) := by decide +kernel
theorem dX12_one_41 : decode cX12_one 41 = .ok (.ireturn, 1) := by decide +kernel
theorem dX12_one_42 : decode cX12_one 42 = .ok (.aload_n 0, 1) := by decide +kernel
theorem dX12_one_43 : decode cX12_one 43 = .ok (.invokevirtual 110, 3) := by decide +kernel
theorem dX12_one_46 : decode cX12_one 46 = .ok (.iconst 0, 1) := by decide +kernel
theorem dX12_one_47 : decode cX12_one 47 = .ok (.ireturn, 1) := by decide +kernel
theorem dX12_summed_0 : decode cX12_summed 0 = .ok (.aload_n 0, 1) := by decide +kernel
theorem dX12_summed_1 : decode cX12_summed 1 = .ok (.iload_n 1, 1) := by decide +kernel
theorem dX12_summed_2 : decode cX12_summed 2 = .ok (.invokevirtual 113, 3) := by decide +kernel
theorem dX12_summed_5 : decode cX12_summed 5 = .ok (.istore_n 2, 1) := by decide +kernel
theorem dX12_summed_6 : decode cX12_summed 6 = .ok (.iload_n 2, 1) := by decide +kernel
theorem dX12_summed_7 : decode cX12_summed 7 = .ok (.ifCond .ne 34, 3) := by decide +kernel
theorem dX12_summed_10 : decode cX12_summed 10 = .ok (.aload_n 0, 1) := by decide +kernel
theorem dX12_summed_11 : decode cX12_summed 11 = .ok (.getfield 90, 3) := by decide +kernel
theorem dX12_summed_14 : decode cX12_summed 14 = .ok (.bipush 42, 2) := by decide +kernel
theorem dX12_summed_16 : decode cX12_summed 16 = .ok (.if_icmp .eq 12, 3) := by decide +kernel
theorem dX12_summed_19 : decode cX12_summed 19 = .ok (.aload_n 0, 1) := by decide +kernel
theorem dX12_summed_20 : decode cX12_summed 20 = .ok (.getfield 90, 3) := by decide +kernel
theorem dX12_summed_23 : decode cX12_summed 23 = .ok (.bipush 43, 2) := by decide +kernel
theorem dX12_summed_25 : decode cX12_summed 25 = .ok (.if_icmp .ne 16, 3) := by decide +kernel
theorem dX12_summed_28 : decode cX12_summed 28 = .ok (.aload_n 0, 1) := by decide +kernel
theorem dX12_summed_29 : decode cX12_summed 29 = .ok (.invokevirtual 110, 3) := by decide +kernel
theorem dX12_summed_32 : decode cX12_summed 32 = .ok (.aload_n 0, 1) := by decide +kernel
theorem dX12_summed_33 : decode cX12_summed 33 = .ok (.iload_n 1, 1) := by decide +kernel
theorem dX12_summed_34 : decode cX12_summed 34 = .ok (.invokevirtual 113, 3) := by decide +kernel
theorem dX12_summed_37 : decode cX12_summed 37 = .ok (.istore_n 2, 1) := by decide +kernel
theorem dX12_summed_38 : decode cX12_summed 38 = .ok (.goto (-32), 3) := by decide +kernel
theorem dX12_summed_41 : decode cX12_summed 41 = .ok (.iload_n 2, 1) := by decide +kernel
theorem dX12_summed_42 : decode cX12_summed 42 = .ok (.ireturn, 1) := by decide +kernel
theorem dX12_sums_0 : decode cX12_sums 0 = .ok (.iconst 0, 1) := by decide +kernel
theorem dX12_sums_1 : decode cX12_sums 1 = .ok (.istore_n 3, 1) := by decide +kernel
theorem dX12_sums_2 : decode cX12_sums 2 = .ok (.iload_n 3, 1) := by decide +kernel
theorem dX12_sums_3 : decode cX12_sums 3 = .ok (.iload_n 1, 1) := by decide +kernel
theorem dX12_sums_4 : decode cX12_sums 4 = .ok (.if_icmp .ge 43, 3) := by decide +kernel
theorem dX12_sums_7 : decode cX12_sums 7 = .ok (.iload_n 3, 1) := by decide +kernel
theorem dX12_sums_8 : decode cX12_sums 8 = .ok (.ifCond .le 18, 3) := by decide +kernel
theorem dX12_sums_11 : decode cX12_sums 11 = .ok (.aload_n 0, 1) := by decide +kernel
theorem dX12_sums_12 : decode cX12_sums 12 = .ok (.getfield 90, 3) := by decide +kernel
theorem dX12_sums_15 : decode cX12_sums 15 = .ok (.bipush 44, 2) := by decide +kernel
theorem dX12_sums_17 : decode cX12_sums 17 = .ok (.if_icmp .eq 5, 3) := by decide +kernel
theorem dX12_sums_20 : decode cX12_sums 20 = .ok (.iconst 1, 1) := by decide +kernel
theorem dX12_sums_21 : decode cX12_sums 21 = .ok (.ireturn, 1) := by decide +kernel
theorem dX12_sums_22 : decode cX12_sums 22 = .ok (.aload_n 0, 1) := by decide +kernel
theorem dX12_sums_23 : decode cX12_sums 23 = .ok (.invokevirtual 110, 3) := by decide +kernel
theorem dX12_sums_26 : decode cX12_sums 26 = .ok (.aload_n 0, 1) := by decide +kernel
theorem dX12_sums_27 : decode cX12_sums 27 = .ok (.iload_n 2, 1) := by decide +kernel
theorem dX12_sums_28 : decode cX12_sums 28 = .ok (.invokevirtual 116, 3) := by decide +kernel
theorem dX12_sums_31 : decode cX12_sums 31 = .ok (.istore 4, 2) := by decide +kernel
theorem dX12_sums_33 : decode cX12_sums 33 = .ok (.iload 4, 2) := by decide +kernel
theorem dX12_sums_35 : decode cX12_sums 35 = .ok (.ifCond .eq 6, 3) := by decide +kernel
theorem dX12_sums_38 : decode cX12_sums 38 = .ok (.iload 4, 2) := by decide +kernel
theorem dX12_sums_40 : decode cX12_sums 40 = .ok (.ireturn, 1) := by decide +kernel
theorem dX12_sums_41 : decode cX12_sums 41 = .ok (.iinc 3 1, 3) := by decide +kernel
theorem dX12_sums_44 : decode cX12_sums 44 = .ok (.goto (-42), 3) := by decide +kernel
theorem dX12_sums_47 : decode cX12_sums 47 = .ok (.aload_n 0, 1) := by decide +kernel
theorem dX12_sums_48 : decode cX12_sums 48 = .ok (.getfield 90, 3) := by decide +kernel
theorem dX12_sums_51 : decode cX12_sums 51 = .ok (.bipush 59, 2) := by decide +kernel
theorem dX12_sums_53 : decode cX12_sums 53 = .ok (.if_icmp .eq 5, 3) := by decide +kernel
theorem dX12_sums_56 : decode cX12_sums 56 = .ok (.iconst 1, 1) := by decide +kernel
theorem dX12_sums_57 : decode cX12_sums 57 = .ok (.ireturn, 1) := by decide +kernel
theorem dX12_sums_58 : decode cX12_sums 58 = .ok (.aload_n 0, 1) := by decide +kernel
theorem dX12_sums_59 : decode cX12_sums 59 = .ok (.invokevirtual 110, 3) := by decide +kernel
theorem dX12_sums_62 : decode cX12_sums 62 = .ok (.iconst 0, 1) := by decide +kernel
theorem dX12_sums_63 : decode cX12_sums 63 = .ok (.ireturn, 1) := by decide +kernel
theorem dX12_opened_0 : decode cX12_opened 0 = .ok (.aload_n 0, 1) := by decide +kernel
theorem dX12_opened_1 : decode cX12_opened 1 = .ok (.getfield 90, 3) := by decide +kernel
theorem dX12_opened_4 : decode cX12_opened 4 = .ok (.bipush 123, 2) := by decide +kernel
theorem dX12_opened_6 : decode cX12_opened 6 = .ok (.if_icmp .eq 5, 3) := by decide +kernel
theorem dX12_opened_9 : decode cX12_opened 9 = .ok (.iconst 1, 1) := by decide +kernel
theorem dX12_opened_10 : decode cX12_opened 10 = .ok (.ireturn, 1) := by decide +kernel
theorem dX12_opened_11 : decode cX12_opened 11 = .ok (.aload_n 0, 1) := by decide +kernel
theorem dX12_opened_12 : decode cX12_opened 12 = .ok (.getfield 29, 3) := by decide +kernel
theorem dX12_opened_15 : decode cX12_opened 15 = .ok (.aload_n 0, 1) := by decide +kernel
theorem dX12_opened_16 : decode cX12_opened 16 = .ok (.getfield 119, 3) := by decide +kernel
theorem dX12_opened_19 : decode cX12_opened 19 = .ok (.iload_n 1, 1) := by decide +kernel
theorem dX12_opened_20 : decode cX12_opened 20 = .ok (.bastore, 1) := by decide +kernel
theorem dX12_opened_21 : decode cX12_opened 21 = .ok (.aload_n 0, 1) := by decide +kernel
theorem dX12_opened_22 : decode cX12_opened 22 = .ok (.dup, 1) := by decide +kernel
theorem dX12_opened_23 : decode cX12_opened 23 = .ok (.getfield 119, 3) := by decide +kernel
theorem dX12_opened_26 : decode cX12_opened 26 = .ok (.iconst 1, 1) := by decide +kernel
theorem dX12_opened_27 : decode cX12_opened 27 = .ok (.iadd, 1) := by decide +kernel
theorem dX12_opened_28 : decode cX12_opened 28 = .ok (.putfield 119, 3) := by decide +kernel
theorem dX12_opened_31 : decode cX12_opened 31 = .ok (.aload_n 0, 1) := by decide +kernel
theorem dX12_opened_32 : decode cX12_opened 32 = .ok (.dup, 1) := by decide +kernel
theorem dX12_opened_33 : decode cX12_opened 33 = .ok (.getfield 122, 3) := by decide +kernel
theorem dX12_opened_36 : decode cX12_opened 36 = .ok (.iload_n 1, 1) := by decide +kernel
theorem dX12_opened_37 : decode cX12_opened 37 = .ok (.ifCond .eq 7, 3) := by decide +kernel
theorem dX12_opened_40 : decode cX12_opened 40 = .ok (.iconst 1, 1) := by decide +kernel
theorem dX12_opened_41 : decode cX12_opened 41 = .ok (.goto 4, 3) := by decide +kernel
theorem dX12_opened_44 : decode cX12_opened 44 = .ok (.iconst 0, 1) := by decide +kernel
theorem dX12_opened_45 : decode cX12_opened 45 = .ok (.iadd, 1) := by decide +kernel
theorem dX12_opened_46 : decode cX12_opened 46 = .ok (.putfield 122, 3) := by decide +kernel
theorem dX12_opened_49 : decode cX12_opened 49 = .ok (.aload_n 0, 1) := by decide +kernel
theorem dX12_opened_50 : decode cX12_opened 50 = .ok (.invokevirtual 110, 3) := by decide +kernel
theorem dX12_opened_53 : decode cX12_opened 53 = .ok (.iconst 0, 1) := by decide +kernel
theorem dX12_opened_54 : decode cX12_opened 54 = .ok (.ireturn, 1) := by decide +kernel
theorem dX12_closed_0 : decode cX12_closed 0 = .ok (.aload_n 0, 1) := by decide +kernel
theorem dX12_closed_1 : decode cX12_closed 1 = .ok (.dup, 1) := by decide +kernel
theorem dX12_closed_2 : decode cX12_closed 2 = .ok (.getfield 119, 3) := by decide +kernel
theorem dX12_closed_5 : decode cX12_closed 5 = .ok (.iconst 1, 1) := by decide +kernel
theorem dX12_closed_6 : decode cX12_closed 6 = .ok (.isub, 1) := by decide +kernel
theorem dX12_closed_7 : decode cX12_closed 7 = .ok (.putfield 119, 3) := by decide +kernel
theorem dX12_closed_10 : decode cX12_closed 10 = .ok (.aload_n 0, 1) := by decide +kernel
theorem dX12_closed_11 : decode cX12_closed 11 = .ok (.dup, 1) := by decide +kernel
theorem dX12_closed_12 : decode cX12_closed 12 = .ok (.getfield 122, 3) := by decide +kernel
theorem dX12_closed_15 : decode cX12_closed 15 = .ok (.aload_n 0, 1) := by decide +kernel
theorem dX12_closed_16 : decode cX12_closed 16 = .ok (.getfield 29, 3) := by decide +kernel
theorem dX12_closed_19 : decode cX12_closed 19 = .ok (.aload_n 0, 1) := by decide +kernel
theorem dX12_closed_20 : decode cX12_closed 20 = .ok (.getfield 119, 3) := by decide +kernel
theorem dX12_closed_23 : decode cX12_closed 23 = .ok (.baload, 1) := by decide +kernel
theorem dX12_closed_24 : decode cX12_closed 24 = .ok (.ifCond .eq 7, 3) := by decide +kernel
theorem dX12_closed_27 : decode cX12_closed 27 = .ok (.iconst 1, 1) := by decide +kernel
theorem dX12_closed_28 : decode cX12_closed 28 = .ok (.goto 4, 3) := by decide +kernel
theorem dX12_closed_31 : decode cX12_closed 31 = .ok (.iconst 0, 1) := by decide +kernel
theorem dX12_closed_32 : decode cX12_closed 32 = .ok (.isub, 1) := by decide +kernel
theorem dX12_closed_33 : decode cX12_closed 33 = .ok (.putfield 122, 3) := by decide +kernel
theorem dX12_closed_36 : decode cX12_closed 36 = .ok (.aload_n 0, 1) := by decide +kernel
theorem dX12_closed_37 : decode cX12_closed 37 = .ok (.invokevirtual 110, 3) := by decide +kernel
theorem dX12_closed_40 : decode cX12_closed 40 = .ok (.return_, 1) := by decide +kernel
theorem dX12_loopHead_0 : decode cX12_loopHead 0 = .ok (.aload_n 0, 1) := by decide +kernel
theorem dX12_loopHead_1 : decode cX12_loopHead 1 = .ok (.getfield 90, 3) := by decide +kernel
theorem dX12_loopHead_4 : decode cX12_loopHead 4 = .ok (.iconst 1, 1) := by decide +kernel
theorem dX12_loopHead_5 : decode cX12_loopHead 5 = .ok (.if_icmp .eq 5, 3) := by decide +kernel
theorem dX12_loopHead_8 : decode cX12_loopHead 8 = .ok (.iconst 1, 1) := by decide +kernel
theorem dX12_loopHead_9 : decode cX12_loopHead 9 = .ok (.ireturn, 1) := by decide +kernel
theorem dX12_loopHead_10 : decode cX12_loopHead 10 = .ok (.aload_n 0, 1) := by decide +kernel
theorem dX12_loopHead_11 : decode cX12_loopHead 11 = .ok (.getfield 87, 3) := by decide +kernel
theorem dX12_loopHead_14 : decode cX12_loopHead 14 = .ok (.iconst 1, 1) := by decide +kernel
theorem dX12_loopHead_15 : decode cX12_loopHead 15 = .ok (.bipush 9, 2) := by decide +kernel
theorem dX12_loopHead_17 : decode cX12_loopHead 17 = .ok (.invokestatic 52, 3) := by decide +kernel
theorem dX12_loopHead_20 : decode cX12_loopHead 20 = .ok (.ifCond .ne 5, 3) := by decide +kernel
theorem dX12_loopHead_23 : decode cX12_loopHead 23 = .ok (.iconst 2, 1) := by decide +kernel
theorem dX12_loopHead_24 : decode cX12_loopHead 24 = .ok (.ireturn, 1) := by decide +kernel
theorem dX12_loopHead_25 : decode cX12_loopHead 25 = .ok (.aload_n 0, 1) := by decide +kernel
theorem dX12_loopHead_26 : decode cX12_loopHead 26 = .ok (.invokevirtual 110, 3) := by decide +kernel
theorem dX12_loopHead_29 : decode cX12_loopHead 29 = .ok (.aload_n 0, 1) := by decide +kernel
theorem dX12_loopHead_30 : decode cX12_loopHead 30 = .ok (.iconst 1, 1) := by decide +kernel
theorem dX12_loopHead_31 : decode cX12_loopHead 31 = .ok (.invokevirtual 125, 3) := by decide +kernel
theorem dX12_loopHead_34 : decode cX12_loopHead 34 = .ok (.ireturn, 1) := by decide +kernel
theorem dX12_choiceHead_0 : decode cX12_choiceHead 0 = .ok (.aload_n 0, 1) := by decide +kernel
theorem dX12_choiceHead_1 : decode cX12_choiceHead 1 = .ok (.aload_n 0, 1) := by decide +kernel
theorem dX12_choiceHead_2 : decode cX12_choiceHead 2 = .ok (.getfield 122, 3) := by decide +kernel
theorem dX12_choiceHead_5 : decode cX12_choiceHead 5 = .ok (.invokevirtual 116, 3) := by decide +kernel
theorem dX12_choiceHead_8 : decode cX12_choiceHead 8 = .ok (.istore_n 1, 1) := by decide +kernel
theorem dX12_choiceHead_9 : decode cX12_choiceHead 9 = .ok (.iload_n 1, 1) := by decide +kernel
theorem dX12_choiceHead_10 : decode cX12_choiceHead 10 = .ok (.ifCond .eq 5, 3) := by decide +kernel
theorem dX12_choiceHead_13 : decode cX12_choiceHead 13 = .ok (.iload_n 1, 1) := by decide +kernel
theorem dX12_choiceHead_14 : decode cX12_choiceHead 14 = .ok (.ireturn, 1) := by decide +kernel
theorem dX12_choiceHead_15 : decode cX12_choiceHead 15 = .ok (.aload_n 0, 1) := by decide +kernel
theorem dX12_choiceHead_16 : decode cX12_choiceHead 16 = .ok (.getfield 90, 3) := by decide +kernel
theorem dX12_choiceHead_19 : decode cX12_choiceHead 19 = .ok (.bipush 60, 2) := by decide +kernel
theorem dX12_choiceHead_21 : decode cX12_choiceHead 21 = .ok (.if_icmp .eq 14, 3) := by decide +kernel
theorem dX12_choiceHead_24 : decode cX12_choiceHead 24 = .ok (.aload_n 0, 1) := by decide +kernel
theorem dX12_choiceHead_25 : decode cX12_choiceHead 25 = .ok (.getfield 90, 3) := by decide +kernel
theorem dX12_choiceHead_28 : decode cX12_choiceHead 28 = .ok (.bipush 61, 2) := by decide +kernel
theorem dX12_choiceHead_30 : decode cX12_choiceHead 30 = .ok (.if_icmp .eq 5, 3) := by decide +kernel
theorem dX12_choiceHead_33 : decode cX12_choiceHead 33 = .ok (.iconst 1, 1) := by decide +kernel
theorem dX12_choiceHead_34 : decode cX12_choiceHead 34 = .ok (.ireturn, 1) := by decide +kernel
theorem dX12_choiceHead_35 : decode cX12_choiceHead 35 = .ok (.aload_n 0, 1) := by decide +kernel
theorem dX12_choiceHead_36 : decode cX12_choiceHead 36 = .ok (.invokevirtual 110, 3) := by decide +kernel
theorem dX12_choiceHead_39 : decode cX12_choiceHead 39 = .ok (.aload_n 0, 1) := by decide +kernel
theorem dX12_choiceHead_40 : decode cX12_choiceHead 40 = .ok (.aload_n 0, 1) := by decide +kernel
theorem dX12_choiceHead_41 : decode cX12_choiceHead 41 = .ok (.getfield 122, 3) := by decide +kernel
theorem dX12_choiceHead_44 : decode cX12_choiceHead 44 = .ok (.invokevirtual 116, 3) := by decide +kernel
theorem dX12_choiceHead_47 : decode cX12_choiceHead 47 = .ok (.istore_n 1, 1) := by decide +kernel
theorem dX12_choiceHead_48 : decode cX12_choiceHead 48 = .ok (.iload_n 1, 1) := by decide +kernel
theorem dX12_choiceHead_49 : decode cX12_choiceHead 49 = .ok (.ifCond .eq 7, 3) := by decide +kernel
theorem dX12_choiceHead_52 : decode cX12_choiceHead 52 = .ok (.iload_n 1, 1) := by decide +kernel
theorem dX12_choiceHead_53 : decode cX12_choiceHead 53 = .ok (.goto 8, 3) := by decide +kernel
theorem dX12_choiceHead_56 : decode cX12_choiceHead 56 = .ok (.aload_n 0, 1) := by decide +kernel
theorem dX12_choiceHead_57 : decode cX12_choiceHead 57 = .ok (.iconst 0, 1) := by decide +kernel
theorem dX12_choiceHead_58 : decode cX12_choiceHead 58 = .ok (.invokevirtual 125, 3) := by decide +kernel
theorem dX12_choiceHead_61 : decode cX12_choiceHead 61 = .ok (.ireturn, 1) := by decide +kernel
theorem dX12_statement_0 : decode cX12_statement 0 = .ok (.aload_n 0, 1) := by decide +kernel
theorem dX12_statement_1 : decode cX12_statement 1 = .ok (.getfield 90, 3) := by decide +kernel
theorem dX12_statement_4 : decode cX12_statement 4 = .ok (.istore_n 1, 1) := by decide +kernel
theorem dX12_statement_5 : decode cX12_statement 5 = .ok (.iload_n 1, 1) := by decide +kernel
theorem dX12_statement_6 : decode cX12_statement 6 = .ok (.sipush 200, 3) := by decide +kernel
theorem dX12_statement_9 : decode cX12_statement 9 = .ok (.sipush 206, 3) := by decide +kernel
theorem dX12_statement_12 : decode cX12_statement 12 = .ok (.invokestatic 52, 3) := by decide +kernel
theorem dX12_statement_15 : decode cX12_statement 15 = .ok (.ifCond .ne 5, 3) := by decide +kernel
theorem dX12_statement_18 : decode cX12_statement 18 = .ok (.iconst 1, 1) := by decide +kernel
theorem dX12_statement_19 : decode cX12_statement 19 = .ok (.ireturn, 1) := by decide +kernel
theorem dX12_statement_20 : decode cX12_statement 20 = .ok (.iload_n 1, 1) := by decide +kernel
theorem dX12_statement_21 : decode cX12_statement 21 = .ok (.sipush 205, 3) := by decide +kernel
theorem dX12_statement_24 : decode cX12_statement 24 = .ok (.if_icmp .lt 13, 3) := by decide +kernel
theorem dX12_statement_27 : decode cX12_statement 27 = .ok (.aload_n 0, 1) := by decide +kernel
theorem dX12_statement_28 : decode cX12_statement 28 = .ok (.getfield 119, 3) := by decide +kernel
theorem dX12_statement_31 : decode cX12_statement 31 = .ok (.iconst 3, 1) := by decide +kernel
theorem dX12_statement_32 : decode cX12_statement 32 = .ok (.if_icmp .ne 5, 3) := by decide +kernel
theorem dX12_statement_35 : decode cX12_statement 35 = .ok (.iconst 3, 1) := by decide +kernel
theorem dX12_statement_36 : decode cX12_statement 36 = .ok (.ireturn, 1) := by decide +kernel
theorem dX12_statement_37 : decode cX12_statement 37 = .ok (.aload_n 0, 1) := by decide +kernel
theorem dX12_statement_38 : decode cX12_statement 38 = .ok (.getfield 129, 3) := by decide +kernel
theorem dX12_statement_41 : decode cX12_statement 41 = .ok (.bipush 40, 2) := by decide +kernel
theorem dX12_statement_43 : decode cX12_statement 43 = .ok (.if_icmp .ne 5, 3) := by decide +kernel
theorem dX12_statement_46 : decode cX12_statement 46 = .ok (.iconst 5, 1) := by decide +kernel
theorem dX12_statement_47 : decode cX12_statement 47 = .ok (.ireturn, 1) := by decide +kernel
theorem dX12_statement_48 : decode cX12_statement 48 = .ok (.aload_n 0, 1) := by decide +kernel
theorem dX12_statement_49 : decode cX12_statement 49 = .ok (.dup, 1) := by decide +kernel
theorem dX12_statement_50 : decode cX12_statement 50 = .ok (.getfield 129, 3) := by decide +kernel
theorem dX12_statement_53 : decode cX12_statement 53 = .ok (.iconst 1, 1) := by decide +kernel
theorem dX12_statement_54 : decode cX12_statement 54 = .ok (.iadd, 1) := by decide +kernel
theorem dX12_statement_55 : decode cX12_statement 55 = .ok (.putfield 129, 3) := by decide +kernel
theorem dX12_statement_58 : decode cX12_statement 58 = .ok (.aload_n 0, 1) := by decide +kernel
theorem dX12_statement_59 : decode cX12_statement 59 = .ok (.invokevirtual 110, 3) := by decide +kernel
theorem dX12_statement_62 : decode cX12_statement 62 = .ok (.iload_n 1, 1) := by decide +kernel
theorem dX12_statement_63 : decode cX12_statement 63 = .ok (.tableswitch 71 200 206 #[41, 51, 41, 71, 71, 61, 66], 41) := by decide +kernel
theorem dX12_statement_104 : decode cX12_statement 104 = .ok (.aload_n 0, 1) := by decide +kernel
theorem dX12_statement_105 : decode cX12_statement 105 = .ok (.iconst 2, 1) := by decide +kernel
theorem dX12_statement_106 : decode cX12_statement 106 = .ok (.aload_n 0, 1) := by decide +kernel
theorem dX12_statement_107 : decode cX12_statement 107 = .ok (.getfield 122, 3) := by decide +kernel
theorem dX12_statement_110 : decode cX12_statement 110 = .ok (.invokevirtual 132, 3) := by decide +kernel
theorem dX12_statement_113 : decode cX12_statement 113 = .ok (.ireturn, 1) := by decide +kernel
theorem dX12_statement_114 : decode cX12_statement 114 = .ok (.aload_n 0, 1) := by decide +kernel
theorem dX12_statement_115 : decode cX12_statement 115 = .ok (.iconst 3, 1) := by decide +kernel
theorem dX12_statement_116 : decode cX12_statement 116 = .ok (.aload_n 0, 1) := by decide +kernel
theorem dX12_statement_117 : decode cX12_statement 117 = .ok (.getfield 122, 3) := by decide +kernel
theorem dX12_statement_120 : decode cX12_statement 120 = .ok (.invokevirtual 132, 3) := by decide +kernel
theorem dX12_statement_123 : decode cX12_statement 123 = .ok (.ireturn, 1) := by decide +kernel
theorem dX12_statement_124 : decode cX12_statement 124 = .ok (.aload_n 0, 1) := by decide +kernel
theorem dX12_statement_125 : decode cX12_statement 125 = .ok (.invokevirtual 135, 3) := by decide +kernel
theorem dX12_statement_128 : decode cX12_statement 128 = .ok (.ireturn, 1) := by decide +kernel
theorem dX12_statement_129 : decode cX12_statement 129 = .ok (.aload_n 0, 1) := by decide +kernel
theorem dX12_statement_130 : decode cX12_statement 130 = .ok (.invokevirtual 139, 3) := by decide +kernel
theorem dX12_statement_133 : decode cX12_statement 133 = .ok (.ireturn, 1) := by decide +kernel
theorem dX12_statement_134 : decode cX12_statement 134 = .ok (.aload_n 0, 1) := by decide +kernel
theorem dX12_statement_135 : decode cX12_statement 135 = .ok (.iconst 0, 1) := by decide +kernel
theorem dX12_statement_136 : decode cX12_statement 136 = .ok (.aload_n 0, 1) := by decide +kernel
theorem dX12_statement_137 : decode cX12_statement 137 = .ok (.getfield 122, 3) := by decide +kernel
theorem dX12_statement_140 : decode cX12_statement 140 = .ok (.invokevirtual 132, 3) := by decide +kernel
theorem dX12_statement_143 : decode cX12_statement 143 = .ok (.ireturn, 1) := by decide +kernel
theorem dX12_readText_0 : decode cX12_readText 0 = .ok (.aload_n 0, 1) := by decide +kernel
theorem dX12_readText_1 : decode cX12_readText 1 = .ok (.sipush 602, 3) := by decide +kernel
theorem dX12_readText_4 : decode cX12_readText 4 = .ok (.aload_n 0, 1) := by decide +kernel
theorem dX12_readText_5 : decode cX12_readText 5 = .ok (.getfield 7, 3) := by decide +kernel
theorem dX12_readText_8 : decode cX12_readText 8 = .ok (.iconst 0, 1) := by decide +kernel
theorem dX12_readText_9 : decode cX12_readText 9 = .ok (.iaload, 1) := by decide +kernel
theorem dX12_readText_10 : decode cX12_readText 10 = .ok (.imul, 1) := by decide +kernel
theorem dX12_readText_11 : decode cX12_readText 11 = .ok (.putfield 107, 3) := by decide +kernel
theorem dX12_readText_14 : decode cX12_readText 14 = .ok (.aload_n 0, 1) := by decide +kernel
theorem dX12_readText_15 : decode cX12_readText 15 = .ok (.getfield 16, 3) := by decide +kernel
theorem dX12_readText_18 : decode cX12_readText 18 = .ok (.aload_n 0, 1) := by decide +kernel
theorem dX12_readText_19 : decode cX12_readText 19 = .ok (.getfield 107, 3) := by decide +kernel
theorem dX12_readText_22 : decode cX12_readText 22 = .ok (.iconst 0, 1) := by decide +kernel
theorem dX12_readText_23 : decode cX12_readText 23 = .ok (.iastore, 1) := by decide +kernel
theorem dX12_readText_24 : decode cX12_readText 24 = .ok (.aload_n 0, 1) := by decide +kernel
theorem dX12_readText_25 : decode cX12_readText 25 = .ok (.iconst 0, 1) := by decide +kernel
theorem dX12_readText_26 : decode cX12_readText 26 = .ok (.putfield 129, 3) := by decide +kernel
theorem dX12_readText_29 : decode cX12_readText 29 = .ok (.aload_n 0, 1) := by decide +kernel
theorem dX12_readText_30 : decode cX12_readText 30 = .ok (.iconst 0, 1) := by decide +kernel
theorem dX12_readText_31 : decode cX12_readText 31 = .ok (.putfield 119, 3) := by decide +kernel
theorem dX12_readText_34 : decode cX12_readText 34 = .ok (.aload_n 0, 1) := by decide +kernel
theorem dX12_readText_35 : decode cX12_readText 35 = .ok (.iconst 0, 1) := by decide +kernel
theorem dX12_readText_36 : decode cX12_readText 36 = .ok (.putfield 122, 3) := by decide +kernel
theorem dX12_readText_39 : decode cX12_readText 39 = .ok (.aload_n 0, 1) := by decide +kernel
theorem dX12_readText_40 : decode cX12_readText 40 = .ok (.iconst 0, 1) := by decide +kernel
theorem dX12_readText_41 : decode cX12_readText 41 = .ok (.putfield 81, 3) := by decide +kernel
theorem dX12_readText_44 : decode cX12_readText 44 = .ok (.aload_n 0, 1) := by decide +kernel
theorem dX12_readText_45 : decode cX12_readText 45 = .ok (.invokevirtual 110, 3) := by decide +kernel
theorem dX12_readText_48 : decode cX12_readText 48 = .ok (.aload_n 0, 1) := by decide +kernel
theorem dX12_readText_49 : decode cX12_readText 49 = .ok (.getfield 90, 3) := by decide +kernel
theorem dX12_readText_52 : decode cX12_readText 52 = .ok (.ifCond .ne 10, 3) := by decide +kernel
theorem dX12_readText_55 : decode cX12_readText 55 = .ok (.aload_n 0, 1) := by decide +kernel
theorem dX12_readText_56 : decode cX12_readText 56 = .ok (.getfield 119, 3) := by decide +kernel
theorem dX12_readText_59 : decode cX12_readText 59 = .ok (.ifCond .le 40, 3) := by decide +kernel
theorem dX12_readText_62 : decode cX12_readText 62 = .ok (.aload_n 0, 1) := by decide +kernel
theorem dX12_readText_63 : decode cX12_readText 63 = .ok (.getfield 90, 3) := by decide +kernel
theorem dX12_readText_66 : decode cX12_readText 66 = .ok (.bipush 125, 2) := by decide +kernel
theorem dX12_readText_68 : decode cX12_readText 68 = .ok (.if_icmp .ne 17, 3) := by decide +kernel
theorem dX12_readText_71 : decode cX12_readText 71 = .ok (.aload_n 0, 1) := by decide +kernel
theorem dX12_readText_72 : decode cX12_readText 72 = .ok (.getfield 119, 3) := by decide +kernel
theorem dX12_readText_75 : decode cX12_readText 75 = .ok (.ifCond .le 10, 3) := by decide +kernel
theorem dX12_readText_78 : decode cX12_readText 78 = .ok (.aload_n 0, 1) := by decide +kernel
theorem dX12_readText_79 : decode cX12_readText 79 = .ok (.invokevirtual 142, 3) := by decide +kernel
theorem dX12_readText_82 : decode cX12_readText 82 = .ok (.goto (-34), 3) := by decide +kernel
theorem dX12_readText_85 : decode cX12_readText 85 = .ok (.aload_n 0, 1) := by decide +kernel
theorem dX12_readText_86 : decode cX12_readText 86 = .ok (.invokevirtual 145, 3) := by decide +kernel
theorem dX12_readText_89 : decode cX12_readText 89 = .ok (.istore_n 1, 1) := by decide +kernel
theorem dX12_readText_90 : decode cX12_readText 90 = .ok (.iload_n 1, 1) := by decide +kernel
theorem dX12_readText_91 : decode cX12_readText 91 = .ok (.ifCond .eq 5, 3) := by decide +kernel
theorem dX12_readText_94 : decode cX12_readText 94 = .ok (.iload_n 1, 1) := by decide +kernel
theorem dX12_readText_95 : decode cX12_readText 95 = .ok (.ireturn, 1) := by decide +kernel
theorem dX12_readText_96 : decode cX12_readText 96 = .ok (.goto (-48), 3) := by decide +kernel
theorem dX12_readText_99 : decode cX12_readText 99 = .ok (.iconst 0, 1) := by decide +kernel
theorem dX12_readText_100 : decode cX12_readText 100 = .ok (.ireturn, 1) := by decide +kernel
theorem dX12_text_0 : decode cX12_text 0 = .ok (.aload_n 0, 1) := by decide +kernel
theorem dX12_text_1 : decode cX12_text 1 = .ok (.getfield 7, 3) := by decide +kernel
theorem dX12_text_4 : decode cX12_text 4 = .ok (.iconst 0, 1) := by decide +kernel
theorem dX12_text_5 : decode cX12_text 5 = .ok (.iaload, 1) := by decide +kernel
theorem dX12_text_6 : decode cX12_text 6 = .ok (.iconst 4, 1) := by decide +kernel
theorem dX12_text_7 : decode cX12_text 7 = .ok (.if_icmp .ne 5, 3) := by decide +kernel
theorem dX12_text_10 : decode cX12_text 10 = .ok (.iconst (-1), 1) := by decide +kernel
theorem dX12_text_11 : decode cX12_text 11 = .ok (.ireturn, 1) := by decide +kernel
theorem dX12_text_12 : decode cX12_text 12 = .ok (.aload_n 0, 1) := by decide +kernel
theorem dX12_text_13 : decode cX12_text 13 = .ok (.aload_n 0, 1) := by decide +kernel
theorem dX12_text_14 : decode cX12_text 14 = .ok (.invokevirtual 148, 3) := by decide +kernel
theorem dX12_text_17 : decode cX12_text 17 = .ok (.putfield 22, 3) := by decide +kernel
theorem dX12_text_20 : decode cX12_text 20 = .ok (.aload_n 0, 1) := by decide +kernel
theorem dX12_text_21 : decode cX12_text 21 = .ok (.aload_n 0, 1) := by decide +kernel
theorem dX12_text_22 : decode cX12_text 22 = .ok (.getfield 22, 3) := by decide +kernel
theorem dX12_text_25 : decode cX12_text 25 = .ok (.ifCond .ne 7, 3) := by decide +kernel
theorem dX12_text_28 : decode cX12_text 28 = .ok (.iconst (-1), 1) := by decide +kernel
theorem dX12_text_29 : decode cX12_text 29 = .ok (.goto 7, 3) := by decide +kernel
theorem dX12_text_32 : decode cX12_text 32 = .ok (.aload_n 0, 1) := by decide +kernel
theorem dX12_text_33 : decode cX12_text 33 = .ok (.getfield 84, 3) := by decide +kernel
theorem dX12_text_36 : decode cX12_text 36 = .ok (.putfield 26, 3) := by decide +kernel
theorem dX12_text_39 : decode cX12_text 39 = .ok (.aload_n 0, 1) := by decide +kernel
theorem dX12_text_40 : decode cX12_text 40 = .ok (.iconst 0, 1) := by decide +kernel
theorem dX12_text_41 : decode cX12_text 41 = .ok (.putfield 67, 3) := by decide +kernel
theorem dX12_text_44 : decode cX12_text 44 = .ok (.aload_n 0, 1) := by decide +kernel
theorem dX12_text_45 : decode cX12_text 45 = .ok (.getfield 22, 3) := by decide +kernel
theorem dX12_text_48 : decode cX12_text 48 = .ok (.ifCond .eq 5, 3) := by decide +kernel
theorem dX12_text_51 : decode cX12_text 51 = .ok (.iconst (-1), 1) := by decide +kernel
theorem dX12_text_52 : decode cX12_text 52 = .ok (.ireturn, 1) := by decide +kernel
theorem dX12_text_53 : decode cX12_text 53 = .ok (.aload_n 0, 1) := by decide +kernel
theorem dX12_text_54 : decode cX12_text 54 = .ok (.getfield 7, 3) := by decide +kernel
theorem dX12_text_57 : decode cX12_text 57 = .ok (.iconst 0, 1) := by decide +kernel
theorem dX12_text_58 : decode cX12_text 58 = .ok (.dup2, 1) := by decide +kernel
theorem dX12_text_59 : decode cX12_text 59 = .ok (.iaload, 1) := by decide +kernel
theorem dX12_text_60 : decode cX12_text 60 = .ok (.iconst 1, 1) := by decide +kernel
theorem dX12_text_61 : decode cX12_text 61 = .ok (.iadd, 1) := by decide +kernel
theorem dX12_text_62 : decode cX12_text 62 = .ok (.iastore, 1) := by decide +kernel
theorem dX12_text_63 : decode cX12_text 63 = .ok (.aload_n 0, 1) := by decide +kernel
theorem dX12_text_64 : decode cX12_text 64 = .ok (.getfield 7, 3) := by decide +kernel
theorem dX12_text_67 : decode cX12_text 67 = .ok (.iconst 0, 1) := by decide +kernel
theorem dX12_text_68 : decode cX12_text 68 = .ok (.iaload, 1) := by decide +kernel
theorem dX12_text_69 : decode cX12_text 69 = .ok (.iconst 1, 1) := by decide +kernel
theorem dX12_text_70 : decode cX12_text 70 = .ok (.isub, 1) := by decide +kernel
theorem dX12_text_71 : decode cX12_text 71 = .ok (.ireturn, 1) := by decide +kernel
theorem dX12_fault_0 : decode cX12_fault 0 = .ok (.iload_n 1, 1) := by decide +kernel
theorem dX12_fault_1 : decode cX12_fault 1 = .ok (.ifCond .ne 10, 3) := by decide +kernel
theorem dX12_fault_4 : decode cX12_fault 4 = .ok (.aload_n 0, 1) := by decide +kernel
theorem dX12_fault_5 : decode cX12_fault 5 = .ok (.getfield 22, 3) := by decide +kernel
theorem dX12_fault_8 : decode cX12_fault 8 = .ok (.goto 16, 3) := by decide +kernel
theorem dX12_fault_11 : decode cX12_fault 11 = .ok (.iload_n 1, 1) := by decide +kernel
theorem dX12_fault_12 : decode cX12_fault 12 = .ok (.iconst 1, 1) := by decide +kernel
theorem dX12_fault_13 : decode cX12_fault 13 = .ok (.if_icmp .ne 10, 3) := by decide +kernel
theorem dX12_fault_16 : decode cX12_fault 16 = .ok (.aload_n 0, 1) := by decide +kernel
theorem dX12_fault_17 : decode cX12_fault 17 = .ok (.getfield 26, 3) := by decide +kernel
theorem dX12_fault_20 : decode cX12_fault 20 = .ok (.goto 4, 3) := by decide +kernel
theorem dX12_fault_23 : decode cX12_fault 23 = .ok (.iconst (-1), 1) := by decide +kernel
theorem dX12_fault_24 : decode cX12_fault 24 = .ok (.ireturn, 1) := by decide +kernel
theorem dX12_writeDown_0 : decode cX12_writeDown 0 = .ok (.aload_n 0, 1) := by decide +kernel
theorem dX12_writeDown_1 : decode cX12_writeDown 1 = .ok (.getfield 7, 3) := by decide +kernel
theorem dX12_writeDown_4 : decode cX12_writeDown 4 = .ok (.bipush 18, 2) := by decide +kernel
theorem dX12_writeDown_6 : decode cX12_writeDown 6 = .ok (.iaload, 1) := by decide +kernel
theorem dX12_writeDown_7 : decode cX12_writeDown 7 = .ok (.bipush 25, 2) := by decide +kernel
theorem dX12_writeDown_9 : decode cX12_writeDown 9 = .ok (.if_icmp .ne 49, 3) := by decide +kernel
theorem dX12_writeDown_12 : decode cX12_writeDown 12 = .ok (.sipush 240, 3) := by decide +kernel
theorem dX12_writeDown_15 : decode cX12_writeDown 15 = .ok (.istore 4, 2) := by decide +kernel
theorem dX12_writeDown_17 : decode cX12_writeDown 17 = .ok (.iload 4, 2) := by decide +kernel
theorem dX12_writeDown_19 : decode cX12_writeDown 19 = .ok (.sipush 336, 3) := by decide +kernel
theorem dX12_writeDown_22 : decode cX12_writeDown 22 = .ok (.if_icmp .ge 25, 3) := by decide +kernel
theorem dX12_writeDown_25 : decode cX12_writeDown 25 = .ok (.aload_n 0, 1) := by decide +kernel
theorem dX12_writeDown_26 : decode cX12_writeDown 26 = .ok (.getfield 7, 3) := by decide +kernel
theorem dX12_writeDown_29 : decode cX12_writeDown 29 = .ok (.iload 4, 2) := by decide +kernel
theorem dX12_writeDown_31 : decode cX12_writeDown 31 = .ok (.aload_n 0, 1) := by decide +kernel
theorem dX12_writeDown_32 : decode cX12_writeDown 32 = .ok (.getfield 7, 3) := by decide +kernel
theorem dX12_writeDown_35 : decode cX12_writeDown 35 = .ok (.iload 4, 2) := by decide +kernel
theorem dX12_writeDown_37 : decode cX12_writeDown 37 = .ok (.iconst 4, 1) := by decide +kernel
theorem dX12_writeDown_38 : decode cX12_writeDown 38 = .ok (.iadd, 1) := by decide +kernel
theorem dX12_writeDown_39 : decode cX12_writeDown 39 = .ok (.iaload, 1) := by decide +kernel
theorem dX12_writeDown_40 : decode cX12_writeDown 40 = .ok (.iastore, 1) := by decide +kernel
theorem dX12_writeDown_41 : decode cX12_writeDown 41 = .ok (.iinc 4 1, 3) := by decide +kernel
theorem dX12_writeDown_44 : decode cX12_writeDown 44 = .ok (.goto (-27), 3) := by decide +kernel
theorem dX12_writeDown_47 : decode cX12_writeDown 47 = .ok (.aload_n 0, 1) := by decide +kernel
theorem dX12_writeDown_48 : decode cX12_writeDown 48 = .ok (.getfield 7, 3) := by decide +kernel
theorem dX12_writeDown_51 : decode cX12_writeDown 51 = .ok (.bipush 18, 2) := by decide +kernel
theorem dX12_writeDown_53 : decode cX12_writeDown 53 = .ok (.dup2, 1) := by decide +kernel
theorem dX12_writeDown_54 : decode cX12_writeDown 54 = .ok (.iaload, 1) := by decide +kernel
theorem dX12_writeDown_55 : decode cX12_writeDown 55 = .ok (.iconst 1, 1) := by decide +kernel
theorem dX12_writeDown_56 : decode cX12_writeDown 56 = .ok (.isub, 1) := by decide +kernel
theorem dX12_writeDown_57 : decode cX12_writeDown 57 = .ok (.iastore, 1) := by decide +kernel
theorem dX12_writeDown_58 : decode cX12_writeDown 58 = .ok (.sipush 240, 3) := by decide +kernel
theorem dX12_writeDown_61 : decode cX12_writeDown 61 = .ok (.iconst 4, 1) := by decide +kernel
theorem dX12_writeDown_62 : decode cX12_writeDown 62 = .ok (.aload_n 0, 1) := by decide +kernel
theorem dX12_writeDown_63 : decode cX12_writeDown 63 = .ok (.getfield 7, 3) := by decide +kernel
theorem dX12_writeDown_66 : decode cX12_writeDown 66 = .ok (.bipush 18, 2) := by decide +kernel
theorem dX12_writeDown_68 : decode cX12_writeDown 68 = .ok (.iaload, 1) := by decide +kernel
theorem dX12_writeDown_69 : decode cX12_writeDown 69 = .ok (.imul, 1) := by decide +kernel
theorem dX12_writeDown_70 : decode cX12_writeDown 70 = .ok (.iadd, 1) := by decide +kernel
theorem dX12_writeDown_71 : decode cX12_writeDown 71 = .ok (.istore 4, 2) := by decide +kernel
theorem dX12_writeDown_73 : decode cX12_writeDown 73 = .ok (.aload_n 0, 1) := by decide +kernel
theorem dX12_writeDown_74 : decode cX12_writeDown 74 = .ok (.getfield 7, 3) := by decide +kernel
theorem dX12_writeDown_77 : decode cX12_writeDown 77 = .ok (.iload 4, 2) := by decide +kernel
theorem dX12_writeDown_79 : decode cX12_writeDown 79 = .ok (.aload_n 0, 1) := by decide +kernel
theorem dX12_writeDown_80 : decode cX12_writeDown 80 = .ok (.getfield 7, 3) := by decide +kernel
theorem dX12_writeDown_83 : decode cX12_writeDown 83 = .ok (.iconst 3, 1) := by decide +kernel
theorem dX12_writeDown_84 : decode cX12_writeDown 84 = .ok (.iaload, 1) := by decide +kernel
theorem dX12_writeDown_85 : decode cX12_writeDown 85 = .ok (.iastore, 1) := by decide +kernel
theorem dX12_writeDown_86 : decode cX12_writeDown 86 = .ok (.aload_n 0, 1) := by decide +kernel
theorem dX12_writeDown_87 : decode cX12_writeDown 87 = .ok (.getfield 7, 3) := by decide +kernel
theorem dX12_writeDown_90 : decode cX12_writeDown 90 = .ok (.iload 4, 2) := by decide +kernel
theorem dX12_writeDown_92 : decode cX12_writeDown 92 = .ok (.iconst 1, 1) := by decide +kernel
theorem dX12_writeDown_93 : decode cX12_writeDown 93 = .ok (.iadd, 1) := by decide +kernel
theorem dX12_writeDown_94 : decode cX12_writeDown 94 = .ok (.iload_n 1, 1) := by decide +kernel
theorem dX12_writeDown_95 : decode cX12_writeDown 95 = .ok (.iastore, 1) := by decide +kernel
theorem dX12_writeDown_96 : decode cX12_writeDown 96 = .ok (.aload_n 0, 1) := by decide +kernel
theorem dX12_writeDown_97 : decode cX12_writeDown 97 = .ok (.getfield 7, 3) := by decide +kernel
theorem dX12_writeDown_100 : decode cX12_writeDown 100 = .ok (.iload 4, 2) := by decide +kernel
theorem dX12_writeDown_102 : decode cX12_writeDown 102 = .ok (.iconst 2, 1) := by decide +kernel
theorem dX12_writeDown_103 : decode cX12_writeDown 103 = .ok (.iadd, 1) := by decide +kernel
theorem dX12_writeDown_104 : decode cX12_writeDown 104 = .ok (.iload_n 2, 1) := by decide +kernel
theorem dX12_writeDown_105 : decode cX12_writeDown 105 = .ok (.iastore, 1) := by decide +kernel
theorem dX12_writeDown_106 : decode cX12_writeDown 106 = .ok (.aload_n 0, 1) := by decide +kernel
theorem dX12_writeDown_107 : decode cX12_writeDown 107 = .ok (.getfield 7, 3) := by decide +kernel
theorem dX12_writeDown_110 : decode cX12_writeDown 110 = .ok (.iload 4, 2) := by decide +kernel
theorem dX12_writeDown_112 : decode cX12_writeDown 112 = .ok (.iconst 3, 1) := by decide +kernel
theorem dX12_writeDown_113 : decode cX12_writeDown 113 = .ok (.iadd, 1) := by decide +kernel
theorem dX12_writeDown_114 : decode cX12_writeDown 114 = .ok (.iload_n 3, 1) := by decide +kernel
theorem dX12_writeDown_115 : decode cX12_writeDown 115 = .ok (.iastore, 1) := by decide +kernel
theorem dX12_writeDown_116 : decode cX12_writeDown 116 = .ok (.aload_n 0, 1) := by decide +kernel
theorem dX12_writeDown_117 : decode cX12_writeDown 117 = .ok (.getfield 7, 3) := by decide +kernel
theorem dX12_writeDown_120 : decode cX12_writeDown 120 = .ok (.bipush 18, 2) := by decide +kernel
theorem dX12_writeDown_122 : decode cX12_writeDown 122 = .ok (.dup2, 1) := by decide +kernel
theorem dX12_writeDown_123 : decode cX12_writeDown 123 = .ok (.iaload, 1) := by decide +kernel
theorem dX12_writeDown_124 : decode cX12_writeDown 124 = .ok (.iconst 1, 1) := by decide +kernel
theorem dX12_writeDown_125 : decode cX12_writeDown 125 = .ok (.iadd, 1) := by decide +kernel
theorem dX12_writeDown_126 : decode cX12_writeDown 126 = .ok (.iastore, 1) := by decide +kernel
theorem dX12_writeDown_127 : decode cX12_writeDown 127 = .ok (.return_, 1) := by decide +kernel
theorem dX12_headAt_0 : decode cX12_headAt 0 = .ok (.iconst 0, 1) := by decide +kernel
theorem dX12_headAt_1 : decode cX12_headAt 1 = .ok (.istore_n 2, 1) := by decide +kernel
theorem dX12_headAt_2 : decode cX12_headAt 2 = .ok (.iload_n 2, 1) := by decide +kernel
theorem dX12_headAt_3 : decode cX12_headAt 3 = .ok (.aload_n 0, 1) := by decide +kernel
theorem dX12_headAt_4 : decode cX12_headAt 4 = .ok (.getfield 7, 3) := by decide +kernel
theorem dX12_headAt_7 : decode cX12_headAt 7 = .ok (.bipush 16, 2) := by decide +kernel
theorem dX12_headAt_9 : decode cX12_headAt 9 = .ok (.iaload, 1) := by decide +kernel
theorem dX12_headAt_10 : decode cX12_headAt 10 = .ok (.if_icmp .ge 27, 3) := by decide +kernel
theorem dX12_headAt_13 : decode cX12_headAt 13 = .ok (.aload_n 0, 1) := by decide +kernel
theorem dX12_headAt_14 : decode cX12_headAt 14 = .ok (.getfield 7, 3) := by decide +kernel
theorem dX12_headAt_17 : decode cX12_headAt 17 = .ok (.sipush 194, 3) := by decide +kernel
theorem dX12_headAt_20 : decode cX12_headAt 20 = .ok (.iconst 2, 1) := by decide +kernel
theorem dX12_headAt_21 : decode cX12_headAt 21 = .ok (.iload_n 2, 1) := by decide +kernel
theorem dX12_headAt_22 : decode cX12_headAt 22 = .ok (.imul, 1) := by decide +kernel
theorem dX12_headAt_23 : decode cX12_headAt 23 = .ok (.iadd, 1) := by decide +kernel
theorem dX12_headAt_24 : decode cX12_headAt 24 = .ok (.iaload, 1) := by decide +kernel
theorem dX12_headAt_25 : decode cX12_headAt 25 = .ok (.iload_n 1, 1) := by decide +kernel
theorem dX12_headAt_26 : decode cX12_headAt 26 = .ok (.if_icmp .ne 5, 3) := by decide +kernel
theorem dX12_headAt_29 : decode cX12_headAt 29 = .ok (.iload_n 2, 1) := by decide +kernel
theorem dX12_headAt_30 : decode cX12_headAt 30 = .ok (.ireturn, 1) := by decide +kernel
theorem dX12_headAt_31 : decode cX12_headAt 31 = .ok (.iinc 2 1, 3) := by decide +kernel
theorem dX12_headAt_34 : decode cX12_headAt 34 = .ok (.goto (-32), 3) := by decide +kernel
theorem dX12_headAt_37 : decode cX12_headAt 37 = .ok (.iconst (-1), 1) := by decide +kernel
theorem dX12_headAt_38 : decode cX12_headAt 38 = .ok (.ireturn, 1) := by decide +kernel
theorem dX12_outHead_0 : decode cX12_outHead 0 = .ok (.sipush 194, 3) := by decide +kernel
theorem dX12_outHead_3 : decode cX12_outHead 3 = .ok (.iconst 2, 1) := by decide +kernel
theorem dX12_outHead_4 : decode cX12_outHead 4 = .ok (.iload_n 1, 1) := by decide +kernel
theorem dX12_outHead_5 : decode cX12_outHead 5 = .ok (.imul, 1) := by decide +kernel
theorem dX12_outHead_6 : decode cX12_outHead 6 = .ok (.iadd, 1) := by decide +kernel
theorem dX12_outHead_7 : decode cX12_outHead 7 = .ok (.istore_n 2, 1) := by decide +kernel
theorem dX12_outHead_8 : decode cX12_outHead 8 = .ok (.iload_n 2, 1) := by decide +kernel
theorem dX12_outHead_9 : decode cX12_outHead 9 = .ok (.sipush 194, 3) := by decide +kernel
theorem dX12_outHead_12 : decode cX12_outHead 12 = .ok (.iconst 2, 1) := by decide +kernel
theorem dX12_outHead_13 : decode cX12_outHead 13 = .ok (.aload_n 0, 1) := by decide +kernel
theorem dX12_outHead_14 : decode cX12_outHead 14 = .ok (.getfield 7, 3) := by decide +kernel
theorem dX12_outHead_17 : decode cX12_outHead 17 = .ok (.bipush 16, 2) := by decide +kernel
theorem dX12_outHead_19 : decode cX12_outHead 19 = .ok (.iaload, 1) := by decide +kernel
theorem dX12_outHead_20 : decode cX12_outHead 20 = .ok (.imul, 1) := by decide +kernel
theorem dX12_outHead_21 : decode cX12_outHead 21 = .ok (.iadd, 1) := by decide +kernel
theorem dX12_outHead_22 : decode cX12_outHead 22 = .ok (.iconst 2, 1) := by decide +kernel
theorem dX12_outHead_23 : decode cX12_outHead 23 = .ok (.isub, 1) := by decide +kernel
theorem dX12_outHead_24 : decode cX12_outHead 24 = .ok (.if_icmp .ge 23, 3) := by decide +kernel
theorem dX12_outHead_27 : decode cX12_outHead 27 = .ok (.aload_n 0, 1) := by decide +kernel
theorem dX12_outHead_28 : decode cX12_outHead 28 = .ok (.getfield 7, 3) := by decide +kernel
theorem dX12_outHead_31 : decode cX12_outHead 31 = .ok (.iload_n 2, 1) := by decide +kernel
theorem dX12_outHead_32 : decode cX12_outHead 32 = .ok (.aload_n 0, 1) := by decide +kernel
theorem dX12_outHead_33 : decode cX12_outHead 33 = .ok (.getfield 7, 3) := by decide +kernel
theorem dX12_outHead_36 : decode cX12_outHead 36 = .ok (.iload_n 2, 1) := by decide +kernel
theorem dX12_outHead_37 : decode cX12_outHead 37 = .ok (.iconst 2, 1) := by decide +kernel
theorem dX12_outHead_38 : decode cX12_outHead 38 = .ok (.iadd, 1) := by decide +kernel
theorem dX12_outHead_39 : decode cX12_outHead 39 = .ok (.iaload, 1) := by decide +kernel
theorem dX12_outHead_40 : decode cX12_outHead 40 = .ok (.iastore, 1) := by decide +kernel
theorem dX12_outHead_41 : decode cX12_outHead 41 = .ok (.iinc 2 1, 3) := by decide +kernel
theorem dX12_outHead_44 : decode cX12_outHead 44 = .ok (.goto (-36), 3) := by decide +kernel
theorem dX12_outHead_47 : decode cX12_outHead 47 = .ok (.aload_n 0, 1) := by decide +kernel
theorem dX12_outHead_48 : decode cX12_outHead 48 = .ok (.getfield 7, 3) := by decide +kernel
theorem dX12_outHead_51 : decode cX12_outHead 51 = .ok (.bipush 16, 2) := by decide +kernel
theorem dX12_outHead_53 : decode cX12_outHead 53 = .ok (.dup2, 1) := by decide +kernel
theorem dX12_outHead_54 : decode cX12_outHead 54 = .ok (.iaload, 1) := by decide +kernel
theorem dX12_outHead_55 : decode cX12_outHead 55 = .ok (.iconst 1, 1) := by decide +kernel
theorem dX12_outHead_56 : decode cX12_outHead 56 = .ok (.isub, 1) := by decide +kernel
theorem dX12_outHead_57 : decode cX12_outHead 57 = .ok (.iastore, 1) := by decide +kernel
theorem dX12_outHead_58 : decode cX12_outHead 58 = .ok (.aload_n 0, 1) := by decide +kernel
theorem dX12_outHead_59 : decode cX12_outHead 59 = .ok (.getfield 7, 3) := by decide +kernel
theorem dX12_outHead_62 : decode cX12_outHead 62 = .ok (.sipush 194, 3) := by decide +kernel
theorem dX12_outHead_65 : decode cX12_outHead 65 = .ok (.iconst 2, 1) := by decide +kernel
theorem dX12_outHead_66 : decode cX12_outHead 66 = .ok (.aload_n 0, 1) := by decide +kernel
theorem dX12_outHead_67 : decode cX12_outHead 67 = .ok (.getfield 7, 3) := by decide +kernel
theorem dX12_outHead_70 : decode cX12_outHead 70 = .ok (.bipush 16, 2) := by decide +kernel
theorem dX12_outHead_72 : decode cX12_outHead 72 = .ok (.iaload, 1) := by decide +kernel
theorem dX12_outHead_73 : decode cX12_outHead 73 = .ok (.imul, 1) := by decide +kernel
theorem dX12_outHead_74 : decode cX12_outHead 74 = .ok (.iadd, 1) := by decide +kernel
theorem dX12_outHead_75 : decode cX12_outHead 75 = .ok (.iconst 0, 1) := by decide +kernel
theorem dX12_outHead_76 : decode cX12_outHead 76 = .ok (.iastore, 1) := by decide +kernel
theorem dX12_outHead_77 : decode cX12_outHead 77 = .ok (.aload_n 0, 1) := by decide +kernel
theorem dX12_outHead_78 : decode cX12_outHead 78 = .ok (.getfield 7, 3) := by decide +kernel
theorem dX12_outHead_81 : decode cX12_outHead 81 = .ok (.sipush 194, 3) := by decide +kernel
theorem dX12_outHead_84 : decode cX12_outHead 84 = .ok (.iconst 2, 1) := by decide +kernel
theorem dX12_outHead_85 : decode cX12_outHead 85 = .ok (.aload_n 0, 1) := by decide +kernel
theorem dX12_outHead_86 : decode cX12_outHead 86 = .ok (.getfield 7, 3) := by decide +kernel
theorem dX12_outHead_89 : decode cX12_outHead 89 = .ok (.bipush 16, 2) := by decide +kernel
theorem dX12_outHead_91 : decode cX12_outHead 91 = .ok (.iaload, 1) := by decide +kernel
theorem dX12_outHead_92 : decode cX12_outHead 92 = .ok (.imul, 1) := by decide +kernel
theorem dX12_outHead_93 : decode cX12_outHead 93 = .ok (.iadd, 1) := by decide +kernel
theorem dX12_outHead_94 : decode cX12_outHead 94 = .ok (.iconst 1, 1) := by decide +kernel
theorem dX12_outHead_95 : decode cX12_outHead 95 = .ok (.iadd, 1) := by decide +kernel
theorem dX12_outHead_96 : decode cX12_outHead 96 = .ok (.iconst 0, 1) := by decide +kernel
theorem dX12_outHead_97 : decode cX12_outHead 97 = .ok (.iastore, 1) := by decide +kernel
theorem dX12_outHead_98 : decode cX12_outHead 98 = .ok (.return_, 1) := by decide +kernel
theorem dX12_headed_0 : decode cX12_headed 0 = .ok (.iconst 1, 1) := by decide +kernel
theorem dX12_headed_1 : decode cX12_headed 1 = .ok (.istore_n 2, 1) := by decide +kernel
theorem dX12_headed_2 : decode cX12_headed 2 = .ok (.aload_n 0, 1) := by decide +kernel
theorem dX12_headed_3 : decode cX12_headed 3 = .ok (.iload_n 1, 1) := by decide +kernel
theorem dX12_headed_4 : decode cX12_headed 4 = .ok (.invokevirtual 151, 3) := by decide +kernel
theorem dX12_headed_7 : decode cX12_headed 7 = .ok (.istore_n 3, 1) := by decide +kernel
theorem dX12_headed_8 : decode cX12_headed 8 = .ok (.iload_n 3, 1) := by decide +kernel
theorem dX12_headed_9 : decode cX12_headed 9 = .ok (.ifCond .lt 25, 3) := by decide +kernel
theorem dX12_headed_12 : decode cX12_headed 12 = .ok (.aload_n 0, 1) := by decide +kernel
theorem dX12_headed_13 : decode cX12_headed 13 = .ok (.getfield 7, 3) := by decide +kernel
theorem dX12_headed_16 : decode cX12_headed 16 = .ok (.sipush 194, 3) := by decide +kernel
theorem dX12_headed_19 : decode cX12_headed 19 = .ok (.iconst 2, 1) := by decide +kernel
theorem dX12_headed_20 : decode cX12_headed 20 = .ok (.iload_n 3, 1) := by decide +kernel
theorem dX12_headed_21 : decode cX12_headed 21 = .ok (.imul, 1) := by decide +kernel
theorem dX12_headed_22 : decode cX12_headed 22 = .ok (.iadd, 1) := by decide +kernel
theorem dX12_headed_23 : decode cX12_headed 23 = .ok (.iconst 1, 1) := by decide +kernel
theorem dX12_headed_24 : decode cX12_headed 24 = .ok (.iadd, 1) := by decide +kernel
theorem dX12_headed_25 : decode cX12_headed 25 = .ok (.iaload, 1) := by decide +kernel
theorem dX12_headed_26 : decode cX12_headed 26 = .ok (.iconst 1, 1) := by decide +kernel
theorem dX12_headed_27 : decode cX12_headed 27 = .ok (.iadd, 1) := by decide +kernel
theorem dX12_headed_28 : decode cX12_headed 28 = .ok (.istore_n 2, 1) := by decide +kernel
theorem dX12_headed_29 : decode cX12_headed 29 = .ok (.aload_n 0, 1) := by decide +kernel
theorem dX12_headed_30 : decode cX12_headed 30 = .ok (.iload_n 3, 1) := by decide +kernel
theorem dX12_headed_31 : decode cX12_headed 31 = .ok (.invokevirtual 154, 3) := by decide +kernel
theorem dX12_headed_34 : decode cX12_headed 34 = .ok (.aload_n 0, 1) := by decide +kernel
theorem dX12_headed_35 : decode cX12_headed 35 = .ok (.iload_n 1, 1) := by decide +kernel
theorem dX12_headed_36 : decode cX12_headed 36 = .ok (.iconst 1, 1) := by decide +kernel
theorem dX12_headed_37 : decode cX12_headed 37 = .ok (.iadd, 1) := by decide +kernel
theorem dX12_headed_38 : decode cX12_headed 38 = .ok (.invokevirtual 151, 3) := by decide +kernel
theorem dX12_headed_41 : decode cX12_headed 41 = .ok (.istore_n 3, 1) := by decide +kernel
theorem dX12_headed_42 : decode cX12_headed 42 = .ok (.iload_n 3, 1) := by decide +kernel
theorem dX12_headed_43 : decode cX12_headed 43 = .ok (.ifCond .lt 8, 3) := by decide +kernel
theorem dX12_headed_46 : decode cX12_headed 46 = .ok (.aload_n 0, 1) := by decide +kernel
theorem dX12_headed_47 : decode cX12_headed 47 = .ok (.iload_n 3, 1) := by decide +kernel
theorem dX12_headed_48 : decode cX12_headed 48 = .ok (.invokevirtual 154, 3) := by decide +kernel
theorem dX12_headed_51 : decode cX12_headed 51 = .ok (.aload_n 0, 1) := by decide +kernel
theorem dX12_headed_52 : decode cX12_headed 52 = .ok (.getfield 7, 3) := by decide +kernel
theorem dX12_headed_55 : decode cX12_headed 55 = .ok (.bipush 16, 2) := by decide +kernel
theorem dX12_headed_57 : decode cX12_headed 57 = .ok (.iaload, 1) := by decide +kernel
theorem dX12_headed_58 : decode cX12_headed 58 = .ok (.iconst 3, 1) := by decide +kernel
theorem dX12_headed_59 : decode cX12_headed 59 = .ok (.if_icmp .ne 8, 3) := by decide +kernel
theorem dX12_headed_62 : decode cX12_headed 62 = .ok (.aload_n 0, 1) := by decide +kernel
theorem dX12_headed_63 : decode cX12_headed 63 = .ok (.iconst 0, 1) := by decide +kernel
theorem dX12_headed_64 : decode cX12_headed 64 = .ok (.invokevirtual 154, 3) := by decide +kernel
theorem dX12_headed_67 : decode cX12_headed 67 = .ok (.aload_n 0, 1) := by decide +kernel
theorem dX12_headed_68 : decode cX12_headed 68 = .ok (.getfield 7, 3) := by decide +kernel
theorem dX12_headed_71 : decode cX12_headed 71 = .ok (.sipush 194, 3) := by decide +kernel
theorem dX12_headed_74 : decode cX12_headed 74 = .ok (.iconst 2, 1) := by decide +kernel
theorem dX12_headed_75 : decode cX12_headed 75 = .ok (.aload_n 0, 1) := by decide +kernel
theorem dX12_headed_76 : decode cX12_headed 76 = .ok (.getfield 7, 3) := by decide +kernel
theorem dX12_headed_79 : decode cX12_headed 79 = .ok (.bipush 16, 2) := by decide +kernel
theorem dX12_headed_81 : decode cX12_headed 81 = .ok (.iaload, 1) := by decide +kernel
theorem dX12_headed_82 : decode cX12_headed 82 = .ok (.imul, 1) := by decide +kernel
theorem dX12_headed_83 : decode cX12_headed 83 = .ok (.iadd, 1) := by decide +kernel
theorem dX12_headed_84 : decode cX12_headed 84 = .ok (.iload_n 1, 1) := by decide +kernel
theorem dX12_headed_85 : decode cX12_headed 85 = .ok (.iconst 1, 1) := by decide +kernel
theorem dX12_headed_86 : decode cX12_headed 86 = .ok (.iadd, 1) := by decide +kernel
theorem dX12_headed_87 : decode cX12_headed 87 = .ok (.iastore, 1) := by decide +kernel
theorem dX12_headed_88 : decode cX12_headed 88 = .ok (.aload_n 0, 1) := by decide +kernel
theorem dX12_headed_89 : decode cX12_headed 89 = .ok (.getfield 7, 3) := by decide +kernel
theorem dX12_headed_92 : decode cX12_headed 92 = .ok (.sipush 194, 3) := by decide +kernel
theorem dX12_headed_95 : decode cX12_headed 95 = .ok (.iconst 2, 1) := by decide +kernel
theorem dX12_headed_96 : decode cX12_headed 96 = .ok (.aload_n 0, 1) := by decide +kernel
theorem dX12_headed_97 : decode cX12_headed 97 = .ok (.getfield 7, 3) := by decide +kernel
theorem dX12_headed_100 : decode cX12_headed 100 = .ok (.bipush 16, 2) := by decide +kernel
theorem dX12_headed_102 : decode cX12_headed 102 = .ok (.iaload, 1) := by decide +kernel
theorem dX12_headed_103 : decode cX12_headed 103 = .ok (.imul, 1) := by decide +kernel
theorem dX12_headed_104 : decode cX12_headed 104 = .ok (.iadd, 1) := by decide +kernel
theorem dX12_headed_105 : decode cX12_headed 105 = .ok (.iconst 1, 1) := by decide +kernel
theorem dX12_headed_106 : decode cX12_headed 106 = .ok (.iadd, 1) := by decide +kernel
theorem dX12_headed_107 : decode cX12_headed 107 = .ok (.iload_n 2, 1) := by decide +kernel
theorem dX12_headed_108 : decode cX12_headed 108 = .ok (.iastore, 1) := by decide +kernel
theorem dX12_headed_109 : decode cX12_headed 109 = .ok (.aload_n 0, 1) := by decide +kernel
theorem dX12_headed_110 : decode cX12_headed 110 = .ok (.getfield 7, 3) := by decide +kernel
theorem dX12_headed_113 : decode cX12_headed 113 = .ok (.bipush 16, 2) := by decide +kernel
theorem dX12_headed_115 : decode cX12_headed 115 = .ok (.dup2, 1) := by decide +kernel
theorem dX12_headed_116 : decode cX12_headed 116 = .ok (.iaload, 1) := by decide +kernel
theorem dX12_headed_117 : decode cX12_headed 117 = .ok (.iconst 1, 1) := by decide +kernel
theorem dX12_headed_118 : decode cX12_headed 118 = .ok (.iadd, 1) := by decide +kernel
theorem dX12_headed_119 : decode cX12_headed 119 = .ok (.iastore, 1) := by decide +kernel
theorem dX12_headed_120 : decode cX12_headed 120 = .ok (.iload_n 2, 1) := by decide +kernel
theorem dX12_headed_121 : decode cX12_headed 121 = .ok (.ireturn, 1) := by decide +kernel
theorem dX12_access_0 : decode cX12_access 0 = .ok (.aload_n 0, 1) := by decide +kernel
theorem dX12_access_1 : decode cX12_access 1 = .ok (.getfield 7, 3) := by decide +kernel
theorem dX12_access_4 : decode cX12_access 4 = .ok (.bipush 10, 2) := by decide +kernel
theorem dX12_access_6 : decode cX12_access 6 = .ok (.dup2, 1) := by decide +kernel
theorem dX12_access_7 : decode cX12_access 7 = .ok (.iaload, 1) := by decide +kernel
theorem dX12_access_8 : decode cX12_access 8 = .ok (.iconst 1, 1) := by decide +kernel
theorem dX12_access_9 : decode cX12_access 9 = .ok (.iadd, 1) := by decide +kernel
theorem dX12_access_10 : decode cX12_access 10 = .ok (.iastore, 1) := by decide +kernel
theorem dX12_access_11 : decode cX12_access 11 = .ok (.aload_n 0, 1) := by decide +kernel
theorem dX12_access_12 : decode cX12_access 12 = .ok (.getfield 7, 3) := by decide +kernel
theorem dX12_access_15 : decode cX12_access 15 = .ok (.bipush 6, 2) := by decide +kernel
theorem dX12_access_17 : decode cX12_access 17 = .ok (.dup2, 1) := by decide +kernel
theorem dX12_access_18 : decode cX12_access 18 = .ok (.iaload, 1) := by decide +kernel
theorem dX12_access_19 : decode cX12_access 19 = .ok (.aload_n 0, 1) := by decide +kernel
theorem dX12_access_20 : decode cX12_access 20 = .ok (.iload_n 1, 1) := by decide +kernel
theorem dX12_access_21 : decode cX12_access 21 = .ok (.invokevirtual 157, 3) := by decide +kernel
theorem dX12_access_24 : decode cX12_access 24 = .ok (.ifCond .eq 8, 3) := by decide +kernel
theorem dX12_access_27 : decode cX12_access 27 = .ok (.iload 4, 2) := by decide +kernel
theorem dX12_access_29 : decode cX12_access 29 = .ok (.goto 5, 3) := by decide +kernel
theorem dX12_access_32 : decode cX12_access 32 = .ok (.iload 5, 2) := by decide +kernel
theorem dX12_access_34 : decode cX12_access 34 = .ok (.iadd, 1) := by decide +kernel
theorem dX12_access_35 : decode cX12_access 35 = .ok (.iastore, 1) := by decide +kernel
theorem dX12_access_36 : decode cX12_access 36 = .ok (.aload_n 0, 1) := by decide +kernel
theorem dX12_access_37 : decode cX12_access 37 = .ok (.iload_n 1, 1) := by decide +kernel
theorem dX12_access_38 : decode cX12_access 38 = .ok (.invokevirtual 157, 3) := by decide +kernel
theorem dX12_access_41 : decode cX12_access 41 = .ok (.ifCond .eq 14, 3) := by decide +kernel
theorem dX12_access_44 : decode cX12_access 44 = .ok (.aload_n 0, 1) := by decide +kernel
theorem dX12_access_45 : decode cX12_access 45 = .ok (.getfield 7, 3) := by decide +kernel
theorem dX12_access_48 : decode cX12_access 48 = .ok (.bipush 11, 2) := by decide +kernel
theorem dX12_access_50 : decode cX12_access 50 = .ok (.dup2, 1) := by decide +kernel
theorem dX12_access_51 : decode cX12_access 51 = .ok (.iaload, 1) := by decide +kernel
theorem dX12_access_52 : decode cX12_access 52 = .ok (.iconst 1, 1) := by decide +kernel
theorem dX12_access_53 : decode cX12_access 53 = .ok (.iadd, 1) := by decide +kernel
theorem dX12_access_54 : decode cX12_access 54 = .ok (.iastore, 1) := by decide +kernel
theorem dX12_access_55 : decode cX12_access 55 = .ok (.aload_n 0, 1) := by decide +kernel
theorem dX12_access_56 : decode cX12_access 56 = .ok (.iload_n 1, 1) := by decide +kernel
theorem dX12_access_57 : decode cX12_access 57 = .ok (.invokestatic 64, 3) := by decide +kernel
theorem dX12_access_60 : decode cX12_access 60 = .ok (.iload_n 2, 1) := by decide +kernel
theorem dX12_access_61 : decode cX12_access 61 = .ok (.iadd, 1) := by decide +kernel
theorem dX12_access_62 : decode cX12_access 62 = .ok (.invokevirtual 160, 3) := by decide +kernel
theorem dX12_access_65 : decode cX12_access 65 = .ok (.iconst 4, 1) := by decide +kernel
theorem dX12_access_66 : decode cX12_access 66 = .ok (.if_icmp .lt 28, 3) := by decide +kernel
theorem dX12_access_69 : decode cX12_access 69 = .ok (.aload_n 0, 1) := by decide +kernel
theorem dX12_access_70 : decode cX12_access 70 = .ok (.getfield 7, 3) := by decide +kernel
theorem dX12_access_73 : decode cX12_access 73 = .ok (.bipush 49, 2) := by decide +kernel
theorem dX12_access_75 : decode cX12_access 75 = .ok (.iload_n 1, 1) := by decide +kernel
theorem dX12_access_76 : decode cX12_access 76 = .ok (.iadd, 1) := by decide +kernel
theorem dX12_access_77 : decode cX12_access 77 = .ok (.dup2, 1) := by decide +kernel
theorem dX12_access_78 : decode cX12_access 78 = .ok (.iaload, 1) := by decide +kernel
theorem dX12_access_79 : decode cX12_access 79 = .ok (.iconst 1, 1) := by decide +kernel
theorem dX12_access_80 : decode cX12_access 80 = .ok (.iadd, 1) := by decide +kernel
theorem dX12_access_81 : decode cX12_access 81 = .ok (.iastore, 1) := by decide +kernel
theorem dX12_access_82 : decode cX12_access 82 = .ok (.aload_n 0, 1) := by decide +kernel
theorem dX12_access_83 : decode cX12_access 83 = .ok (.getfield 7, 3) := by decide +kernel
theorem dX12_access_86 : decode cX12_access 86 = .ok (.bipush 12, 2) := by decide +kernel
theorem dX12_access_88 : decode cX12_access 88 = .ok (.dup2, 1) := by decide +kernel
theorem dX12_access_89 : decode cX12_access 89 = .ok (.iaload, 1) := by decide +kernel
theorem dX12_access_90 : decode cX12_access 90 = .ok (.iconst 1, 1) := by decide +kernel
theorem dX12_access_91 : decode cX12_access 91 = .ok (.iadd, 1) := by decide +kernel
theorem dX12_access_92 : decode cX12_access 92 = .ok (.iastore, 1) := by decide +kernel
theorem dX12_access_93 : decode cX12_access 93 = .ok (.return_, 1) := by decide +kernel
theorem dX12_access_94 : decode cX12_access 94 = .ok (.aload_n 0, 1) := by decide +kernel
theorem dX12_access_95 : decode cX12_access 95 = .ok (.getfield 7, 3) := by decide +kernel
theorem dX12_access_98 : decode cX12_access 98 = .ok (.bipush 39, 2) := by decide +kernel
theorem dX12_access_100 : decode cX12_access 100 = .ok (.iload_n 1, 1) := by decide +kernel
theorem dX12_access_101 : decode cX12_access 101 = .ok (.iadd, 1) := by decide +kernel
theorem dX12_access_102 : decode cX12_access 102 = .ok (.dup2, 1) := by decide +kernel
theorem dX12_access_103 : decode cX12_access 103 = .ok (.iaload, 1) := by decide +kernel
theorem dX12_access_104 : decode cX12_access 104 = .ok (.iconst 1, 1) := by decide +kernel
theorem dX12_access_105 : decode cX12_access 105 = .ok (.iadd, 1) := by decide +kernel
theorem dX12_access_106 : decode cX12_access 106 = .ok (.iastore, 1) := by decide +kernel
theorem dX12_access_107 : decode cX12_access 107 = .ok (.aload_n 0, 1) := by decide +kernel
theorem dX12_access_108 : decode cX12_access 108 = .ok (.getfield 7, 3) := by decide +kernel
theorem dX12_access_111 : decode cX12_access 111 = .ok (.bipush 19, 2) := by decide +kernel
theorem dX12_access_113 : decode cX12_access 113 = .ok (.iload_n 1, 1) := by decide +kernel
theorem dX12_access_114 : decode cX12_access 114 = .ok (.iadd, 1) := by decide +kernel
theorem dX12_access_115 : decode cX12_access 115 = .ok (.aload_n 0, 1) := by decide +kernel
theorem dX12_access_116 : decode cX12_access 116 = .ok (.getfield 7, 3) := by decide +kernel
theorem dX12_access_119 : decode cX12_access 119 = .ok (.bipush 19, 2) := by decide +kernel
theorem dX12_access_121 : decode cX12_access 121 = .ok (.iload_n 1, 1) := by decide +kernel
theorem dX12_access_122 : decode cX12_access 122 = .ok (.iadd, 1) := by decide +kernel
theorem dX12_access_123 : decode cX12_access 123 = .ok (.iaload, 1) := by decide +kernel
theorem dX12_access_124 : decode cX12_access 124 = .ok (.iload_n 3, 1) := by decide +kernel
theorem dX12_access_125 : decode cX12_access 125 = .ok (.iadd, 1) := by decide +kernel
theorem dX12_access_126 : decode cX12_access 126 = .ok (.sipush 9999, 3) := by decide +kernel
theorem dX12_access_129 : decode cX12_access 129 = .ok (.if_icmp .le 9, 3) := by decide +kernel
theorem dX12_access_132 : decode cX12_access 132 = .ok (.sipush 9999, 3) := by decide +kernel
theorem dX12_access_135 : decode cX12_access 135 = .ok (.goto 14, 3) := by decide +kernel
theorem dX12_access_138 : decode cX12_access 138 = .ok (.aload_n 0, 1) := by decide +kernel
theorem dX12_access_139 : decode cX12_access 139 = .ok (.getfield 7, 3) := by decide +kernel
theorem dX12_access_142 : decode cX12_access 142 = .ok (.bipush 19, 2) := by decide +kernel
theorem dX12_access_144 : decode cX12_access 144 = .ok (.iload_n 1, 1) := by decide +kernel
theorem dX12_access_145 : decode cX12_access 145 = .ok (.iadd, 1) := by decide +kernel
theorem dX12_access_146 : decode cX12_access 146 = .ok (.iaload, 1) := by decide +kernel
theorem dX12_access_147 : decode cX12_access 147 = .ok (.iload_n 3, 1) := by decide +kernel
theorem dX12_access_148 : decode cX12_access 148 = .ok (.iadd, 1) := by decide +kernel
theorem dX12_access_149 : decode cX12_access 149 = .ok (.iastore, 1) := by decide +kernel
theorem dX12_access_150 : decode cX12_access 150 = .ok (.aload_n 0, 1) := by decide +kernel
theorem dX12_access_151 : decode cX12_access 151 = .ok (.getfield 7, 3) := by decide +kernel
theorem dX12_access_154 : decode cX12_access 154 = .ok (.bipush 29, 2) := by decide +kernel
theorem dX12_access_156 : decode cX12_access 156 = .ok (.iload_n 1, 1) := by decide +kernel
theorem dX12_access_157 : decode cX12_access 157 = .ok (.iadd, 1) := by decide +kernel
theorem dX12_access_158 : decode cX12_access 158 = .ok (.dup2, 1) := by decide +kernel
theorem dX12_access_159 : decode cX12_access 159 = .ok (.iaload, 1) := by decide +kernel
theorem dX12_access_160 : decode cX12_access 160 = .ok (.iconst 1, 1) := by decide +kernel
theorem dX12_access_161 : decode cX12_access 161 = .ok (.ior, 1) := by decide +kernel
theorem dX12_access_162 : decode cX12_access 162 = .ok (.iastore, 1) := by decide +kernel
theorem dX12_access_163 : decode cX12_access 163 = .ok (.return_, 1) := by decide +kernel
theorem dX12_readNow_0 : decode cX12_readNow 0 = .ok (.aload_n 0, 1) := by decide +kernel
theorem dX12_readNow_1 : decode cX12_readNow 1 = .ok (.iload_n 1, 1) := by decide +kernel
theorem dX12_readNow_2 : decode cX12_readNow 2 = .ok (.iload_n 2, 1) := by decide +kernel
theorem dX12_readNow_3 : decode cX12_readNow 3 = .ok (.bipush 8, 2) := by decide +kernel
theorem dX12_readNow_5 : decode cX12_readNow 5 = .ok (.iconst 1, 1) := by decide +kernel
theorem dX12_readNow_6 : decode cX12_readNow 6 = .ok (.bipush 8, 2) := by decide +kernel
theorem dX12_readNow_8 : decode cX12_readNow 8 = .ok (.invokevirtual 163, 3) := by decide +kernel
theorem dX12_readNow_11 : decode cX12_readNow 11 = .ok (.aload_n 0, 1) := by decide +kernel
theorem dX12_readNow_12 : decode cX12_readNow 12 = .ok (.getfield 7, 3) := by decide +kernel
theorem dX12_readNow_15 : decode cX12_readNow 15 = .ok (.bipush 119, 2) := by decide +kernel
theorem dX12_readNow_17 : decode cX12_readNow 17 = .ok (.iload_n 1, 1) := by decide +kernel
theorem dX12_readNow_18 : decode cX12_readNow 18 = .ok (.iadd, 1) := by decide +kernel
theorem dX12_readNow_19 : decode cX12_readNow 19 = .ok (.dup2, 1) := by decide +kernel
theorem dX12_readNow_20 : decode cX12_readNow 20 = .ok (.iaload, 1) := by decide +kernel
theorem dX12_readNow_21 : decode cX12_readNow 21 = .ok (.iconst 1, 1) := by decide +kernel
theorem dX12_readNow_22 : decode cX12_readNow 22 = .ok (.iadd, 1) := by decide +kernel
theorem dX12_readNow_23 : decode cX12_readNow 23 = .ok (.iastore, 1) := by decide +kernel
theorem dX12_readNow_24 : decode cX12_readNow 24 = .ok (.aload_n 0, 1) := by decide +kernel
theorem dX12_readNow_25 : decode cX12_readNow 25 = .ok (.iload_n 1, 1) := by decide +kernel
theorem dX12_readNow_26 : decode cX12_readNow 26 = .ok (.invokevirtual 157, 3) := by decide +kernel
theorem dX12_readNow_29 : decode cX12_readNow 29 = .ok (.ifCond .eq 21, 3) := by decide +kernel
theorem dX12_readNow_32 : decode cX12_readNow 32 = .ok (.aload_n 0, 1) := by decide +kernel
theorem dX12_readNow_33 : decode cX12_readNow 33 = .ok (.getfield 7, 3) := by decide +kernel
theorem dX12_readNow_36 : decode cX12_readNow 36 = .ok (.sipush 185, 3) := by decide +kernel
theorem dX12_readNow_39 : decode cX12_readNow 39 = .ok (.aload_n 0, 1) := by decide +kernel
theorem dX12_readNow_40 : decode cX12_readNow 40 = .ok (.iload_n 1, 1) := by decide +kernel
theorem dX12_readNow_41 : decode cX12_readNow 41 = .ok (.iload_n 2, 1) := by decide +kernel
theorem dX12_readNow_42 : decode cX12_readNow 42 = .ok (.invokevirtual 167, 3) := by decide +kernel
theorem dX12_readNow_45 : decode cX12_readNow 45 = .ok (.iadd, 1) := by decide +kernel
theorem dX12_readNow_46 : decode cX12_readNow 46 = .ok (.iaload, 1) := by decide +kernel
theorem dX12_readNow_47 : decode cX12_readNow 47 = .ok (.goto 18, 3) := by decide +kernel
theorem dX12_readNow_50 : decode cX12_readNow 50 = .ok (.aload_n 0, 1) := by decide +kernel
theorem dX12_readNow_51 : decode cX12_readNow 51 = .ok (.getfield 7, 3) := by decide +kernel
theorem dX12_readNow_54 : decode cX12_readNow 54 = .ok (.sipush 162, 3) := by decide +kernel
theorem dX12_readNow_57 : decode cX12_readNow 57 = .ok (.iload_n 1, 1) := by decide +kernel
theorem dX12_readNow_58 : decode cX12_readNow 58 = .ok (.invokestatic 64, 3) := by decide +kernel
theorem dX12_readNow_61 : decode cX12_readNow 61 = .ok (.iadd, 1) := by decide +kernel
theorem dX12_readNow_62 : decode cX12_readNow 62 = .ok (.iload_n 2, 1) := by decide +kernel
theorem dX12_readNow_63 : decode cX12_readNow 63 = .ok (.iadd, 1) := by decide +kernel
theorem dX12_readNow_64 : decode cX12_readNow 64 = .ok (.iaload, 1) := by decide +kernel
theorem dX12_readNow_65 : decode cX12_readNow 65 = .ok (.ireturn, 1) := by decide +kernel
theorem dX12_writeNow_0 : decode cX12_writeNow 0 = .ok (.aload_n 0, 1) := by decide +kernel
theorem dX12_writeNow_1 : decode cX12_writeNow 1 = .ok (.iload_n 1, 1) := by decide +kernel
theorem dX12_writeNow_2 : decode cX12_writeNow 2 = .ok (.iload_n 2, 1) := by decide +kernel
theorem dX12_writeNow_3 : decode cX12_writeNow 3 = .ok (.bipush 12, 2) := by decide +kernel
theorem dX12_writeNow_5 : decode cX12_writeNow 5 = .ok (.iconst 2, 1) := by decide +kernel
theorem dX12_writeNow_6 : decode cX12_writeNow 6 = .ok (.bipush 10, 2) := by decide +kernel
theorem dX12_writeNow_8 : decode cX12_writeNow 8 = .ok (.invokevirtual 163, 3) := by decide +kernel
theorem dX12_writeNow_11 : decode cX12_writeNow 11 = .ok (.aload_n 0, 1) := by decide +kernel
theorem dX12_writeNow_12 : decode cX12_writeNow 12 = .ok (.getfield 7, 3) := by decide +kernel
theorem dX12_writeNow_15 : decode cX12_writeNow 15 = .ok (.sipush 129, 3) := by decide +kernel
theorem dX12_writeNow_18 : decode cX12_writeNow 18 = .ok (.iload_n 1, 1) := by decide +kernel
theorem dX12_writeNow_19 : decode cX12_writeNow 19 = .ok (.iadd, 1) := by decide +kernel
theorem dX12_writeNow_20 : decode cX12_writeNow 20 = .ok (.dup2, 1) := by decide +kernel
theorem dX12_writeNow_21 : decode cX12_writeNow 21 = .ok (.iaload, 1) := by decide +kernel
theorem dX12_writeNow_22 : decode cX12_writeNow 22 = .ok (.iconst 1, 1) := by decide +kernel
theorem dX12_writeNow_23 : decode cX12_writeNow 23 = .ok (.iadd, 1) := by decide +kernel
theorem dX12_writeNow_24 : decode cX12_writeNow 24 = .ok (.iastore, 1) := by decide +kernel
theorem dX12_writeNow_25 : decode cX12_writeNow 25 = .ok (.aload_n 0, 1) := by decide +kernel
theorem dX12_writeNow_26 : decode cX12_writeNow 26 = .ok (.iload_n 1, 1) := by decide +kernel
theorem dX12_writeNow_27 : decode cX12_writeNow 27 = .ok (.invokevirtual 157, 3) := by decide +kernel
theorem dX12_writeNow_30 : decode cX12_writeNow 30 = .ok (.ifCond .eq 36, 3) := by decide +kernel
theorem dX12_writeNow_33 : decode cX12_writeNow 33 = .ok (.aload_n 0, 1) := by decide +kernel
theorem dX12_writeNow_34 : decode cX12_writeNow 34 = .ok (.getfield 7, 3) := by decide +kernel
theorem dX12_writeNow_37 : decode cX12_writeNow 37 = .ok (.sipush 185, 3) := by decide +kernel
theorem dX12_writeNow_40 : decode cX12_writeNow 40 = .ok (.aload_n 0, 1) := by decide +kernel
theorem dX12_writeNow_41 : decode cX12_writeNow 41 = .ok (.iload_n 1, 1) := by decide +kernel
theorem dX12_writeNow_42 : decode cX12_writeNow 42 = .ok (.iload_n 2, 1) := by decide +kernel
theorem dX12_writeNow_43 : decode cX12_writeNow 43 = .ok (.invokevirtual 167, 3) := by decide +kernel
theorem dX12_writeNow_46 : decode cX12_writeNow 46 = .ok (.iadd, 1) := by decide +kernel
theorem dX12_writeNow_47 : decode cX12_writeNow 47 = .ok (.iload_n 3, 1) := by decide +kernel
theorem dX12_writeNow_48 : decode cX12_writeNow 48 = .ok (.iastore, 1) := by decide +kernel
theorem dX12_writeNow_49 : decode cX12_writeNow 49 = .ok (.aload_n 0, 1) := by decide +kernel
theorem dX12_writeNow_50 : decode cX12_writeNow 50 = .ok (.getfield 7, 3) := by decide +kernel
theorem dX12_writeNow_53 : decode cX12_writeNow 53 = .ok (.bipush 79, 2) := by decide +kernel
theorem dX12_writeNow_55 : decode cX12_writeNow 55 = .ok (.iload_n 1, 1) := by decide +kernel
theorem dX12_writeNow_56 : decode cX12_writeNow 56 = .ok (.iadd, 1) := by decide +kernel
theorem dX12_writeNow_57 : decode cX12_writeNow 57 = .ok (.dup2, 1) := by decide +kernel
theorem dX12_writeNow_58 : decode cX12_writeNow 58 = .ok (.iaload, 1) := by decide +kernel
theorem dX12_writeNow_59 : decode cX12_writeNow 59 = .ok (.iconst 1, 1) := by decide +kernel
theorem dX12_writeNow_60 : decode cX12_writeNow 60 = .ok (.iload_n 2, 1) := by decide +kernel
theorem dX12_writeNow_61 : decode cX12_writeNow 61 = .ok (.ishl, 1) := by decide +kernel
theorem dX12_writeNow_62 : decode cX12_writeNow 62 = .ok (.ior, 1) := by decide +kernel
theorem dX12_writeNow_63 : decode cX12_writeNow 63 = .ok (.iastore, 1) := by decide +kernel
theorem dX12_writeNow_64 : decode cX12_writeNow 64 = .ok (.iconst 1, 1) := by decide +kernel
theorem dX12_writeNow_65 : decode cX12_writeNow 65 = .ok (.ireturn, 1) := by decide +kernel
theorem dX12_writeNow_66 : decode cX12_writeNow 66 = .ok (.aload_n 0, 1) := by decide +kernel
theorem dX12_writeNow_67 : decode cX12_writeNow 67 = .ok (.getfield 7, 3) := by decide +kernel
theorem dX12_writeNow_70 : decode cX12_writeNow 70 = .ok (.sipush 162, 3) := by decide +kernel
theorem dX12_writeNow_73 : decode cX12_writeNow 73 = .ok (.iload_n 1, 1) := by decide +kernel
theorem dX12_writeNow_74 : decode cX12_writeNow 74 = .ok (.invokestatic 64, 3) := by decide +kernel
theorem dX12_writeNow_77 : decode cX12_writeNow 77 = .ok (.iadd, 1) := by decide +kernel
theorem dX12_writeNow_78 : decode cX12_writeNow 78 = .ok (.iload_n 2, 1) := by decide +kernel
theorem dX12_writeNow_79 : decode cX12_writeNow 79 = .ok (.iadd, 1) := by decide +kernel
theorem dX12_writeNow_80 : decode cX12_writeNow 80 = .ok (.iload_n 3, 1) := by decide +kernel
theorem dX12_writeNow_81 : decode cX12_writeNow 81 = .ok (.iastore, 1) := by decide +kernel
theorem dX12_writeNow_82 : decode cX12_writeNow 82 = .ok (.aload_n 0, 1) := by decide +kernel
theorem dX12_writeNow_83 : decode cX12_writeNow 83 = .ok (.iload_n 1, 1) := by decide +kernel
theorem dX12_writeNow_84 : decode cX12_writeNow 84 = .ok (.invokevirtual 170, 3) := by decide +kernel
theorem dX12_writeNow_87 : decode cX12_writeNow 87 = .ok (.istore 4, 2) := by decide +kernel
theorem dX12_writeNow_89 : decode cX12_writeNow 89 = .ok (.iload 4, 2) := by decide +kernel
theorem dX12_writeNow_91 : decode cX12_writeNow 91 = .ok (.ifCond .lt 26, 3) := by decide +kernel
theorem dX12_writeNow_94 : decode cX12_writeNow 94 = .ok (.aload_n 0, 1) := by decide +kernel
theorem dX12_writeNow_95 : decode cX12_writeNow 95 = .ok (.getfield 7, 3) := by decide +kernel
theorem dX12_writeNow_98 : decode cX12_writeNow 98 = .ok (.sipush 200, 3) := by decide +kernel
theorem dX12_writeNow_101 : decode cX12_writeNow 101 = .ok (.iconst 4, 1) := by decide +kernel
theorem dX12_writeNow_102 : decode cX12_writeNow 102 = .ok (.iload 4, 2) := by decide +kernel
theorem dX12_writeNow_104 : decode cX12_writeNow 104 = .ok (.imul, 1) := by decide +kernel
theorem dX12_writeNow_105 : decode cX12_writeNow 105 = .ok (.iadd, 1) := by decide +kernel
theorem dX12_writeNow_106 : decode cX12_writeNow 106 = .ok (.iconst 3, 1) := by decide +kernel
theorem dX12_writeNow_107 : decode cX12_writeNow 107 = .ok (.iadd, 1) := by decide +kernel
theorem dX12_writeNow_108 : decode cX12_writeNow 108 = .ok (.dup2, 1) := by decide +kernel
theorem dX12_writeNow_109 : decode cX12_writeNow 109 = .ok (.iaload, 1) := by decide +kernel
theorem dX12_writeNow_110 : decode cX12_writeNow 110 = .ok (.iconst 1, 1) := by decide +kernel
theorem dX12_writeNow_111 : decode cX12_writeNow 111 = .ok (.iload_n 2, 1) := by decide +kernel
theorem dX12_writeNow_112 : decode cX12_writeNow 112 = .ok (.ishl, 1) := by decide +kernel
theorem dX12_writeNow_113 : decode cX12_writeNow 113 = .ok (.iconst (-1), 1) := by decide +kernel
theorem dX12_writeNow_114 : decode cX12_writeNow 114 = .ok (.ixor, 1) := by decide +kernel
theorem dX12_writeNow_115 : decode cX12_writeNow 115 = .ok (.iand, 1) := by decide +kernel
theorem dX12_writeNow_116 : decode cX12_writeNow 116 = .ok (.iastore, 1) := by decide +kernel
theorem dX12_writeNow_117 : decode cX12_writeNow 117 = .ok (.iconst 0, 1) := by decide +kernel
theorem dX12_writeNow_118 : decode cX12_writeNow 118 = .ok (.ireturn, 1) := by decide +kernel
theorem dX12_moveAt_0 : decode cX12_moveAt 0 = .ok (.iconst 0, 1) := by decide +kernel
theorem dX12_moveAt_1 : decode cX12_moveAt 1 = .ok (.istore_n 2, 1) := by decide +kernel
theorem dX12_moveAt_2 : decode cX12_moveAt 2 = .ok (.iload_n 2, 1) := by decide +kernel
theorem dX12_moveAt_3 : decode cX12_moveAt 3 = .ok (.aload_n 0, 1) := by decide +kernel
theorem dX12_moveAt_4 : decode cX12_moveAt 4 = .ok (.getfield 7, 3) := by decide +kernel
theorem dX12_moveAt_7 : decode cX12_moveAt 7 = .ok (.bipush 17, 2) := by decide +kernel
theorem dX12_moveAt_9 : decode cX12_moveAt 9 = .ok (.iaload, 1) := by decide +kernel
theorem dX12_moveAt_10 : decode cX12_moveAt 10 = .ok (.if_icmp .ge 27, 3) := by decide +kernel
theorem dX12_moveAt_13 : decode cX12_moveAt 13 = .ok (.aload_n 0, 1) := by decide +kernel
theorem dX12_moveAt_14 : decode cX12_moveAt 14 = .ok (.getfield 7, 3) := by decide +kernel
theorem dX12_moveAt_17 : decode cX12_moveAt 17 = .ok (.sipush 200, 3) := by decide +kernel
theorem dX12_moveAt_20 : decode cX12_moveAt 20 = .ok (.iconst 4, 1) := by decide +kernel
theorem dX12_moveAt_21 : decode cX12_moveAt 21 = .ok (.iload_n 2, 1) := by decide +kernel
theorem dX12_moveAt_22 : decode cX12_moveAt 22 = .ok (.imul, 1) := by decide +kernel
theorem dX12_moveAt_23 : decode cX12_moveAt 23 = .ok (.iadd, 1) := by decide +kernel
theorem dX12_moveAt_24 : decode cX12_moveAt 24 = .ok (.iaload, 1) := by decide +kernel
theorem dX12_moveAt_25 : decode cX12_moveAt 25 = .ok (.iload_n 1, 1) := by decide +kernel
theorem dX12_moveAt_26 : decode cX12_moveAt 26 = .ok (.if_icmp .ne 5, 3) := by decide +kernel
theorem dX12_moveAt_29 : decode cX12_moveAt 29 = .ok (.iload_n 2, 1) := by decide +kernel
theorem dX12_moveAt_30 : decode cX12_moveAt 30 = .ok (.ireturn, 1) := by decide +kernel
theorem dX12_moveAt_31 : decode cX12_moveAt 31 = .ok (.iinc 2 1, 3) := by decide +kernel
theorem dX12_moveAt_34 : decode cX12_moveAt 34 = .ok (.goto (-32), 3) := by decide +kernel
theorem dX12_moveAt_37 : decode cX12_moveAt 37 = .ok (.iconst (-1), 1) := by decide +kernel
theorem dX12_moveAt_38 : decode cX12_moveAt 38 = .ok (.ireturn, 1) := by decide +kernel
theorem dX12_ofMove_0 : decode cX12_ofMove 0 = .ok (.aload_n 0, 1) := by decide +kernel
theorem dX12_ofMove_1 : decode cX12_ofMove 1 = .ok (.getfield 7, 3) := by decide +kernel
theorem dX12_ofMove_4 : decode cX12_ofMove 4 = .ok (.sipush 200, 3) := by decide +kernel
theorem dX12_ofMove_7 : decode cX12_ofMove 7 = .ok (.iconst 4, 1) := by decide +kernel
theorem dX12_ofMove_8 : decode cX12_ofMove 8 = .ok (.iload_n 1, 1) := by decide +kernel
theorem dX12_ofMove_9 : decode cX12_ofMove 9 = .ok (.imul, 1) := by decide +kernel
theorem dX12_ofMove_10 : decode cX12_ofMove 10 = .ok (.iadd, 1) := by decide +kernel
theorem dX12_ofMove_11 : decode cX12_ofMove 11 = .ok (.iload_n 2, 1) := by decide +kernel
theorem dX12_ofMove_12 : decode cX12_ofMove 12 = .ok (.iadd, 1) := by decide +kernel
theorem dX12_ofMove_13 : decode cX12_ofMove 13 = .ok (.iaload, 1) := by decide +kernel
theorem dX12_ofMove_14 : decode cX12_ofMove 14 = .ok (.ireturn, 1) := by decide +kernel
theorem dX12_addMove_0 : decode cX12_addMove 0 = .ok (.sipush 200, 3) := by decide +kernel
theorem dX12_addMove_3 : decode cX12_addMove 3 = .ok (.iconst 4, 1) := by decide +kernel
theorem dX12_addMove_4 : decode cX12_addMove 4 = .ok (.aload_n 0, 1) := by decide +kernel
theorem dX12_addMove_5 : decode cX12_addMove 5 = .ok (.getfield 7, 3) := by decide +kernel
theorem dX12_addMove_8 : decode cX12_addMove 8 = .ok (.bipush 17, 2) := by decide +kernel
theorem dX12_addMove_10 : decode cX12_addMove 10 = .ok (.iaload, 1) := by decide +kernel
theorem dX12_addMove_11 : decode cX12_addMove 11 = .ok (.imul, 1) := by decide +kernel
theorem dX12_addMove_12 : decode cX12_addMove 12 = .ok (.iadd, 1) := by decide +kernel
theorem dX12_addMove_13 : decode cX12_addMove 13 = .ok (.istore_n 2, 1) := by decide +kernel
theorem dX12_addMove_14 : decode cX12_addMove 14 = .ok (.aload_n 0, 1) := by decide +kernel
theorem dX12_addMove_15 : decode cX12_addMove 15 = .ok (.getfield 7, 3) := by decide +kernel
theorem dX12_addMove_18 : decode cX12_addMove 18 = .ok (.iload_n 2, 1) := by decide +kernel
theorem dX12_addMove_19 : decode cX12_addMove 19 = .ok (.iload_n 1, 1) := by decide +kernel
theorem dX12_addMove_20 : decode cX12_addMove 20 = .ok (.iastore, 1) := by decide +kernel
theorem dX12_addMove_21 : decode cX12_addMove 21 = .ok (.aload_n 0, 1) := by decide +kernel
theorem dX12_addMove_22 : decode cX12_addMove 22 = .ok (.getfield 7, 3) := by decide +kernel
theorem dX12_addMove_25 : decode cX12_addMove 25 = .ok (.iload_n 2, 1) := by decide +kernel
theorem dX12_addMove_26 : decode cX12_addMove 26 = .ok (.iconst 1, 1) := by decide +kernel
theorem dX12_addMove_27 : decode cX12_addMove 27 = .ok (.iadd, 1) := by decide +kernel
theorem dX12_addMove_28 : decode cX12_addMove 28 = .ok (.aload_n 0, 1) := by decide +kernel
theorem dX12_addMove_29 : decode cX12_addMove 29 = .ok (.iload_n 1, 1) := by decide +kernel
theorem dX12_addMove_30 : decode cX12_addMove 30 = .ok (.invokevirtual 157, 3) := by decide +kernel
theorem dX12_addMove_33 : decode cX12_addMove 33 = .ok (.ifCond .eq 7, 3) := by decide +kernel
theorem dX12_addMove_36 : decode cX12_addMove 36 = .ok (.iconst 0, 1) := by decide +kernel
theorem dX12_addMove_37 : decode cX12_addMove 37 = .ok (.goto 4, 3) := by decide +kernel
theorem dX12_addMove_40 : decode cX12_addMove 40 = .ok (.iconst 1, 1) := by decide +kernel
theorem dX12_addMove_41 : decode cX12_addMove 41 = .ok (.iastore, 1) := by decide +kernel
theorem dX12_addMove_42 : decode cX12_addMove 42 = .ok (.aload_n 0, 1) := by decide +kernel
theorem dX12_addMove_43 : decode cX12_addMove 43 = .ok (.getfield 7, 3) := by decide +kernel
theorem dX12_addMove_46 : decode cX12_addMove 46 = .ok (.iload_n 2, 1) := by decide +kernel
theorem dX12_addMove_47 : decode cX12_addMove 47 = .ok (.iconst 2, 1) := by decide +kernel
theorem dX12_addMove_48 : decode cX12_addMove 48 = .ok (.iadd, 1) := by decide +kernel
theorem dX12_addMove_49 : decode cX12_addMove 49 = .ok (.iconst 0, 1) := by decide +kernel
theorem dX12_addMove_50 : decode cX12_addMove 50 = .ok (.iastore, 1) := by decide +kernel
theorem dX12_addMove_51 : decode cX12_addMove 51 = .ok (.aload_n 0, 1) := by decide +kernel
theorem dX12_addMove_52 : decode cX12_addMove 52 = .ok (.getfield 7, 3) := by decide +kernel
theorem dX12_addMove_55 : decode cX12_addMove 55 = .ok (.iload_n 2, 1) := by decide +kernel
theorem dX12_addMove_56 : decode cX12_addMove 56 = .ok (.iconst 3, 1) := by decide +kernel
theorem dX12_addMove_57 : decode cX12_addMove 57 = .ok (.iadd, 1) := by decide +kernel
theorem dX12_addMove_58 : decode cX12_addMove 58 = .ok (.iconst 0, 1) := by decide +kernel
theorem dX12_addMove_59 : decode cX12_addMove 59 = .ok (.iastore, 1) := by decide +kernel
theorem dX12_addMove_60 : decode cX12_addMove 60 = .ok (.aload_n 0, 1) := by decide +kernel
theorem dX12_addMove_61 : decode cX12_addMove 61 = .ok (.getfield 7, 3) := by decide +kernel
theorem dX12_addMove_64 : decode cX12_addMove 64 = .ok (.bipush 17, 2) := by decide +kernel
theorem dX12_addMove_66 : decode cX12_addMove 66 = .ok (.dup2, 1) := by decide +kernel
theorem dX12_addMove_67 : decode cX12_addMove 67 = .ok (.iaload, 1) := by decide +kernel
theorem dX12_addMove_68 : decode cX12_addMove 68 = .ok (.iconst 1, 1) := by decide +kernel
theorem dX12_addMove_69 : decode cX12_addMove 69 = .ok (.iadd, 1) := by decide +kernel
theorem dX12_addMove_70 : decode cX12_addMove 70 = .ok (.iastore, 1) := by decide +kernel
theorem dX12_addMove_71 : decode cX12_addMove 71 = .ok (.return_, 1) := by decide +kernel
theorem dX12_outMove_0 : decode cX12_outMove 0 = .ok (.sipush 200, 3) := by decide +kernel
theorem dX12_outMove_3 : decode cX12_outMove 3 = .ok (.iconst 4, 1) := by decide +kernel
theorem dX12_outMove_4 : decode cX12_outMove 4 = .ok (.iload_n 1, 1) := by decide +kernel
theorem dX12_outMove_5 : decode cX12_outMove 5 = .ok (.imul, 1) := by decide +kernel
theorem dX12_outMove_6 : decode cX12_outMove 6 = .ok (.iadd, 1) := by decide +kernel
theorem dX12_outMove_7 : decode cX12_outMove 7 = .ok (.istore_n 2, 1) := by decide +kernel
theorem dX12_outMove_8 : decode cX12_outMove 8 = .ok (.iload_n 2, 1) := by decide +kernel
theorem dX12_outMove_9 : decode cX12_outMove 9 = .ok (.sipush 200, 3) := by decide +kernel
theorem dX12_outMove_12 : decode cX12_outMove 12 = .ok (.iconst 4, 1) := by decide +kernel
theorem dX12_outMove_13 : decode cX12_outMove 13 = .ok (.aload_n 0, 1) := by decide +kernel
theorem dX12_outMove_14 : decode cX12_outMove 14 = .ok (.getfield 7, 3) := by decide +kernel
theorem dX12_outMove_17 : decode cX12_outMove 17 = .ok (.bipush 17, 2) := by decide +kernel
theorem dX12_outMove_19 : decode cX12_outMove 19 = .ok (.iaload, 1) := by decide +kernel
theorem dX12_outMove_20 : decode cX12_outMove 20 = .ok (.imul, 1) := by decide +kernel
theorem dX12_outMove_21 : decode cX12_outMove 21 = .ok (.iadd, 1) := by decide +kernel
theorem dX12_outMove_22 : decode cX12_outMove 22 = .ok (.iconst 4, 1) := by decide +kernel
theorem dX12_outMove_23 : decode cX12_outMove 23 = .ok (.isub, 1) := by decide +kernel
theorem dX12_outMove_24 : decode cX12_outMove 24 = .ok (.if_icmp .ge 23, 3) := by decide +kernel
theorem dX12_outMove_27 : decode cX12_outMove 27 = .ok (.aload_n 0, 1) := by decide +kernel
theorem dX12_outMove_28 : decode cX12_outMove 28 = .ok (.getfield 7, 3) := by decide +kernel
theorem dX12_outMove_31 : decode cX12_outMove 31 = .ok (.iload_n 2, 1) := by decide +kernel
theorem dX12_outMove_32 : decode cX12_outMove 32 = .ok (.aload_n 0, 1) := by decide +kernel
theorem dX12_outMove_33 : decode cX12_outMove 33 = .ok (.getfield 7, 3) := by decide +kernel
theorem dX12_outMove_36 : decode cX12_outMove 36 = .ok (.iload_n 2, 1) := by decide +kernel
theorem dX12_outMove_37 : decode cX12_outMove 37 = .ok (.iconst 4, 1) := by decide +kernel
theorem dX12_outMove_38 : decode cX12_outMove 38 = .ok (.iadd, 1) := by decide +kernel
theorem dX12_outMove_39 : decode cX12_outMove 39 = .ok (.iaload, 1) := by decide +kernel
theorem dX12_outMove_40 : decode cX12_outMove 40 = .ok (.iastore, 1) := by decide +kernel
theorem dX12_outMove_41 : decode cX12_outMove 41 = .ok (.iinc 2 1, 3) := by decide +kernel
theorem dX12_outMove_44 : decode cX12_outMove 44 = .ok (.goto (-36), 3) := by decide +kernel
theorem dX12_outMove_47 : decode cX12_outMove 47 = .ok (.aload_n 0, 1) := by decide +kernel
theorem dX12_outMove_48 : decode cX12_outMove 48 = .ok (.getfield 7, 3) := by decide +kernel
theorem dX12_outMove_51 : decode cX12_outMove 51 = .ok (.bipush 17, 2) := by decide +kernel
theorem dX12_outMove_53 : decode cX12_outMove 53 = .ok (.dup2, 1) := by decide +kernel
theorem dX12_outMove_54 : decode cX12_outMove 54 = .ok (.iaload, 1) := by decide +kernel
theorem dX12_outMove_55 : decode cX12_outMove 55 = .ok (.iconst 1, 1) := by decide +kernel
theorem dX12_outMove_56 : decode cX12_outMove 56 = .ok (.isub, 1) := by decide +kernel
theorem dX12_outMove_57 : decode cX12_outMove 57 = .ok (.iastore, 1) := by decide +kernel
theorem dX12_outMove_58 : decode cX12_outMove 58 = .ok (.iconst 0, 1) := by decide +kernel
theorem dX12_outMove_59 : decode cX12_outMove 59 = .ok (.istore_n 2, 1) := by decide +kernel
theorem dX12_outMove_60 : decode cX12_outMove 60 = .ok (.iload_n 2, 1) := by decide +kernel
theorem dX12_outMove_61 : decode cX12_outMove 61 = .ok (.iconst 4, 1) := by decide +kernel
theorem dX12_outMove_62 : decode cX12_outMove 62 = .ok (.if_icmp .ge 30, 3) := by decide +kernel
theorem dX12_outMove_65 : decode cX12_outMove 65 = .ok (.aload_n 0, 1) := by decide +kernel
theorem dX12_outMove_66 : decode cX12_outMove 66 = .ok (.getfield 7, 3) := by decide +kernel
theorem dX12_outMove_69 : decode cX12_outMove 69 = .ok (.sipush 200, 3) := by decide +kernel
theorem dX12_outMove_72 : decode cX12_outMove 72 = .ok (.iconst 4, 1) := by decide +kernel
theorem dX12_outMove_73 : decode cX12_outMove 73 = .ok (.aload_n 0, 1) := by decide +kernel
theorem dX12_outMove_74 : decode cX12_outMove 74 = .ok (.getfield 7, 3) := by decide +kernel
theorem dX12_outMove_77 : decode cX12_outMove 77 = .ok (.bipush 17, 2) := by decide +kernel
theorem dX12_outMove_79 : decode cX12_outMove 79 = .ok (.iaload, 1) := by decide +kernel
theorem dX12_outMove_80 : decode cX12_outMove 80 = .ok (.imul, 1) := by decide +kernel
theorem dX12_outMove_81 : decode cX12_outMove 81 = .ok (.iadd, 1) := by decide +kernel
theorem dX12_outMove_82 : decode cX12_outMove 82 = .ok (.iload_n 2, 1) := by decide +kernel
theorem dX12_outMove_83 : decode cX12_outMove 83 = .ok (.iadd, 1) := by decide +kernel
theorem dX12_outMove_84 : decode cX12_outMove 84 = .ok (.iconst 0, 1) := by decide +kernel
theorem dX12_outMove_85 : decode cX12_outMove 85 = .ok (.iastore, 1) := by decide +kernel
theorem dX12_outMove_86 : decode cX12_outMove 86 = .ok (.iinc 2 1, 3) := by decide +kernel
theorem dX12_outMove_89 : decode cX12_outMove 89 = .ok (.goto (-29), 3) := by decide +kernel
theorem dX12_outMove_92 : decode cX12_outMove 92 = .ok (.return_, 1) := by decide +kernel
theorem dX12_freeSlots_0 : decode cX12_freeSlots 0 = .ok (.iconst 0, 1) := by decide +kernel
theorem dX12_freeSlots_1 : decode cX12_freeSlots 1 = .ok (.istore_n 2, 1) := by decide +kernel
theorem dX12_freeSlots_2 : decode cX12_freeSlots 2 = .ok (.iload_n 2, 1) := by decide +kernel
theorem dX12_freeSlots_3 : decode cX12_freeSlots 3 = .ok (.iload_n 1, 1) := by decide +kernel
theorem dX12_freeSlots_4 : decode cX12_freeSlots 4 = .ok (.invokestatic 60, 3) := by decide +kernel
theorem dX12_freeSlots_7 : decode cX12_freeSlots 7 = .ok (.if_icmp .ge 25, 3) := by decide +kernel
theorem dX12_freeSlots_10 : decode cX12_freeSlots 10 = .ok (.aload_n 0, 1) := by decide +kernel
theorem dX12_freeSlots_11 : decode cX12_freeSlots 11 = .ok (.getfield 7, 3) := by decide +kernel
theorem dX12_freeSlots_14 : decode cX12_freeSlots 14 = .ok (.sipush 139, 3) := by decide +kernel
theorem dX12_freeSlots_17 : decode cX12_freeSlots 17 = .ok (.iload_n 1, 1) := by decide +kernel
theorem dX12_freeSlots_18 : decode cX12_freeSlots 18 = .ok (.invokestatic 64, 3) := by decide +kernel
theorem dX12_freeSlots_21 : decode cX12_freeSlots 21 = .ok (.iadd, 1) := by decide +kernel
theorem dX12_freeSlots_22 : decode cX12_freeSlots 22 = .ok (.iload_n 2, 1) := by decide +kernel
theorem dX12_freeSlots_23 : decode cX12_freeSlots 23 = .ok (.iadd, 1) := by decide +kernel
theorem dX12_freeSlots_24 : decode cX12_freeSlots 24 = .ok (.iconst (-1), 1) := by decide +kernel
theorem dX12_freeSlots_25 : decode cX12_freeSlots 25 = .ok (.iastore, 1) := by decide +kernel
theorem dX12_freeSlots_26 : decode cX12_freeSlots 26 = .ok (.iinc 2 1, 3) := by decide +kernel
theorem dX12_freeSlots_29 : decode cX12_freeSlots 29 = .ok (.goto (-27), 3) := by decide +kernel
theorem dX12_freeSlots_32 : decode cX12_freeSlots 32 = .ok (.return_, 1) := by decide +kernel
theorem dX12_holderOf_0 : decode cX12_holderOf 0 = .ok (.iconst 0, 1) := by decide +kernel
theorem dX12_holderOf_1 : decode cX12_holderOf 1 = .ok (.istore_n 2, 1) := by decide +kernel
theorem dX12_holderOf_2 : decode cX12_holderOf 2 = .ok (.iload_n 2, 1) := by decide +kernel
theorem dX12_holderOf_3 : decode cX12_holderOf 3 = .ok (.bipush 23, 2) := by decide +kernel
theorem dX12_holderOf_5 : decode cX12_holderOf 5 = .ok (.if_icmp .ge 25, 3) := by decide +kernel
theorem dX12_holderOf_8 : decode cX12_holderOf 8 = .ok (.aload_n 0, 1) := by decide +kernel
theorem dX12_holderOf_9 : decode cX12_holderOf 9 = .ok (.getfield 7, 3) := by decide +kernel
theorem dX12_holderOf_12 : decode cX12_holderOf 12 = .ok (.sipush 139, 3) := by decide +kernel
theorem dX12_holderOf_15 : decode cX12_holderOf 15 = .ok (.iload_n 2, 1) := by decide +kernel
theorem dX12_holderOf_16 : decode cX12_holderOf 16 = .ok (.iadd, 1) := by decide +kernel
theorem dX12_holderOf_17 : decode cX12_holderOf 17 = .ok (.iaload, 1) := by decide +kernel
theorem dX12_holderOf_18 : decode cX12_holderOf 18 = .ok (.iload_n 1, 1) := by decide +kernel
theorem dX12_holderOf_19 : decode cX12_holderOf 19 = .ok (.if_icmp .ne 5, 3) := by decide +kernel
theorem dX12_holderOf_22 : decode cX12_holderOf 22 = .ok (.iload_n 2, 1) := by decide +kernel
theorem dX12_holderOf_23 : decode cX12_holderOf 23 = .ok (.ireturn, 1) := by decide +kernel
theorem dX12_holderOf_24 : decode cX12_holderOf 24 = .ok (.iinc 2 1, 3) := by decide +kernel
theorem dX12_holderOf_27 : decode cX12_holderOf 27 = .ok (.goto (-25), 3) := by decide +kernel
theorem dX12_holderOf_30 : decode cX12_holderOf 30 = .ok (.iconst (-1), 1) := by decide +kernel
theorem dX12_holderOf_31 : decode cX12_holderOf 31 = .ok (.ireturn, 1) := by decide +kernel
theorem dX12_freeFrom_0 : decode cX12_freeFrom 0 = .ok (.iload_n 1, 1) := by decide +kernel
theorem dX12_freeFrom_1 : decode cX12_freeFrom 1 = .ok (.istore_n 2, 1) := by decide +kernel
theorem dX12_freeFrom_2 : decode cX12_freeFrom 2 = .ok (.iload_n 2, 1) := by decide +kernel
theorem dX12_freeFrom_3 : decode cX12_freeFrom 3 = .ok (.bipush 9, 2) := by decide +kernel
theorem dX12_freeFrom_5 : decode cX12_freeFrom 5 = .ok (.if_icmp .ge 20, 3) := by decide +kernel
theorem dX12_freeFrom_8 : decode cX12_freeFrom 8 = .ok (.aload_n 0, 1) := by decide +kernel
theorem dX12_freeFrom_9 : decode cX12_freeFrom 9 = .ok (.iload_n 2, 1) := by decide +kernel
theorem dX12_freeFrom_10 : decode cX12_freeFrom 10 = .ok (.invokevirtual 173, 3) := by decide +kernel
theorem dX12_freeFrom_13 : decode cX12_freeFrom 13 = .ok (.iconst (-1), 1) := by decide +kernel
theorem dX12_freeFrom_14 : decode cX12_freeFrom 14 = .ok (.if_icmp .ne 5, 3) := by decide +kernel
theorem dX12_freeFrom_17 : decode cX12_freeFrom 17 = .ok (.iload_n 2, 1) := by decide +kernel
theorem dX12_freeFrom_18 : decode cX12_freeFrom 18 = .ok (.ireturn, 1) := by decide +kernel
theorem dX12_freeFrom_19 : decode cX12_freeFrom 19 = .ok (.iinc 2 1, 3) := by decide +kernel
theorem dX12_freeFrom_22 : decode cX12_freeFrom 22 = .ok (.goto (-20), 3) := by decide +kernel
theorem dX12_freeFrom_25 : decode cX12_freeFrom 25 = .ok (.iconst (-1), 1) := by decide +kernel
theorem dX12_freeFrom_26 : decode cX12_freeFrom 26 = .ok (.ireturn, 1) := by decide +kernel
theorem dX12_manyFree_0 : decode cX12_manyFree 0 = .ok (.bipush 9, 2) := by decide +kernel
theorem dX12_manyFree_2 : decode cX12_manyFree 2 = .ok (.istore_n 1, 1) := by decide +kernel
theorem dX12_manyFree_3 : decode cX12_manyFree 3 = .ok (.iconst 0, 1) := by decide +kernel
theorem dX12_manyFree_4 : decode cX12_manyFree 4 = .ok (.istore_n 2, 1) := by decide +kernel
theorem dX12_manyFree_5 : decode cX12_manyFree 5 = .ok (.iload_n 2, 1) := by decide +kernel
theorem dX12_manyFree_6 : decode cX12_manyFree 6 = .ok (.bipush 23, 2) := by decide +kernel
theorem dX12_manyFree_8 : decode cX12_manyFree 8 = .ok (.if_icmp .ge 31, 3) := by decide +kernel
theorem dX12_manyFree_11 : decode cX12_manyFree 11 = .ok (.iload_n 1, 1) := by decide +kernel
theorem dX12_manyFree_12 : decode cX12_manyFree 12 = .ok (.aload_n 0, 1) := by decide +kernel
theorem dX12_manyFree_13 : decode cX12_manyFree 13 = .ok (.getfield 7, 3) := by decide +kernel
theorem dX12_manyFree_16 : decode cX12_manyFree 16 = .ok (.sipush 139, 3) := by decide +kernel
theorem dX12_manyFree_19 : decode cX12_manyFree 19 = .ok (.iload_n 2, 1) := by decide +kernel
theorem dX12_manyFree_20 : decode cX12_manyFree 20 = .ok (.iadd, 1) := by decide +kernel
theorem dX12_manyFree_21 : decode cX12_manyFree 21 = .ok (.iaload, 1) := by decide +kernel
theorem dX12_manyFree_22 : decode cX12_manyFree 22 = .ok (.iconst (-1), 1) := by decide +kernel
theorem dX12_manyFree_23 : decode cX12_manyFree 23 = .ok (.if_icmp .ne 7, 3) := by decide +kernel
theorem dX12_manyFree_26 : decode cX12_manyFree 26 = .ok (.iconst 0, 1) := by decide +kernel
theorem dX12_manyFree_27 : decode cX12_manyFree 27 = .ok (.goto 4, 3) := by decide +kernel
theorem dX12_manyFree_30 : decode cX12_manyFree 30 = .ok (.iconst 1, 1) := by decide +kernel
theorem dX12_manyFree_31 : decode cX12_manyFree 31 = .ok (.isub, 1) := by decide +kernel
theorem dX12_manyFree_32 : decode cX12_manyFree 32 = .ok (.istore_n 1, 1) := by decide +kernel
theorem dX12_manyFree_33 : decode cX12_manyFree 33 = .ok (.iinc 2 1, 3) := by decide +kernel
theorem dX12_manyFree_36 : decode cX12_manyFree 36 = .ok (.goto (-31), 3) := by decide +kernel
theorem dX12_manyFree_39 : decode cX12_manyFree 39 = .ok (.iload_n 1, 1) := by decide +kernel
theorem dX12_manyFree_40 : decode cX12_manyFree 40 = .ok (.ireturn, 1) := by decide +kernel
theorem dX12_dropMove_0 : decode cX12_dropMove 0 = .ok (.aload_n 0, 1) := by decide +kernel
theorem dX12_dropMove_1 : decode cX12_dropMove 1 = .ok (.iload_n 1, 1) := by decide +kernel
theorem dX12_dropMove_2 : decode cX12_dropMove 2 = .ok (.iconst 0, 1) := by decide +kernel
theorem dX12_dropMove_3 : decode cX12_dropMove 3 = .ok (.invokevirtual 176, 3) := by decide +kernel
theorem dX12_dropMove_6 : decode cX12_dropMove 6 = .ok (.istore_n 2, 1) := by decide +kernel
theorem dX12_dropMove_7 : decode cX12_dropMove 7 = .ok (.aload_n 0, 1) := by decide +kernel
theorem dX12_dropMove_8 : decode cX12_dropMove 8 = .ok (.iload_n 1, 1) := by decide +kernel
theorem dX12_dropMove_9 : decode cX12_dropMove 9 = .ok (.iconst 1, 1) := by decide +kernel
theorem dX12_dropMove_10 : decode cX12_dropMove 10 = .ok (.invokevirtual 176, 3) := by decide +kernel
theorem dX12_dropMove_13 : decode cX12_dropMove 13 = .ok (.istore_n 3, 1) := by decide +kernel
theorem dX12_dropMove_14 : decode cX12_dropMove 14 = .ok (.iload_n 3, 1) := by decide +kernel
theorem dX12_dropMove_15 : decode cX12_dropMove 15 = .ok (.iconst 1, 1) := by decide +kernel
theorem dX12_dropMove_16 : decode cX12_dropMove 16 = .ok (.if_icmp .ne 8, 3) := by decide +kernel
theorem dX12_dropMove_19 : decode cX12_dropMove 19 = .ok (.aload_n 0, 1) := by decide +kernel
theorem dX12_dropMove_20 : decode cX12_dropMove 20 = .ok (.iload_n 2, 1) := by decide +kernel
theorem dX12_dropMove_21 : decode cX12_dropMove 21 = .ok (.invokevirtual 179, 3) := by decide +kernel
theorem dX12_dropMove_24 : decode cX12_dropMove 24 = .ok (.aload_n 0, 1) := by decide +kernel
theorem dX12_dropMove_25 : decode cX12_dropMove 25 = .ok (.iload_n 1, 1) := by decide +kernel
theorem dX12_dropMove_26 : decode cX12_dropMove 26 = .ok (.invokevirtual 182, 3) := by decide +kernel
theorem dX12_dropMove_29 : decode cX12_dropMove 29 = .ok (.aload_n 0, 1) := by decide +kernel
theorem dX12_dropMove_30 : decode cX12_dropMove 30 = .ok (.iconst 2, 1) := by decide +kernel
theorem dX12_dropMove_31 : decode cX12_dropMove 31 = .ok (.iload_n 2, 1) := by decide +kernel
theorem dX12_dropMove_32 : decode cX12_dropMove 32 = .ok (.iload_n 3, 1) := by decide +kernel
theorem dX12_dropMove_33 : decode cX12_dropMove 33 = .ok (.invokevirtual 185, 3) := by decide +kernel
theorem dX12_dropMove_36 : decode cX12_dropMove 36 = .ok (.return_, 1) := by decide +kernel
theorem dX12_toCopy_0 : decode cX12_toCopy 0 = .ok (.aload_n 0, 1) := by decide +kernel
theorem dX12_toCopy_1 : decode cX12_toCopy 1 = .ok (.iload_n 1, 1) := by decide +kernel
theorem dX12_toCopy_2 : decode cX12_toCopy 2 = .ok (.iconst 0, 1) := by decide +kernel
theorem dX12_toCopy_3 : decode cX12_toCopy 3 = .ok (.invokevirtual 176, 3) := by decide +kernel
theorem dX12_toCopy_6 : decode cX12_toCopy 6 = .ok (.istore_n 2, 1) := by decide +kernel
theorem dX12_toCopy_7 : decode cX12_toCopy 7 = .ok (.aload_n 0, 1) := by decide +kernel
theorem dX12_toCopy_8 : decode cX12_toCopy 8 = .ok (.iload_n 1, 1) := by decide +kernel
theorem dX12_toCopy_9 : decode cX12_toCopy 9 = .ok (.iconst 1, 1) := by decide +kernel
theorem dX12_toCopy_10 : decode cX12_toCopy 10 = .ok (.invokevirtual 176, 3) := by decide +kernel
theorem dX12_toCopy_13 : decode cX12_toCopy 13 = .ok (.ifCond .ne 15, 3) := by decide +kernel
theorem dX12_toCopy_16 : decode cX12_toCopy 16 = .ok (.aload_n 0, 1) := by decide +kernel
theorem dX12_toCopy_17 : decode cX12_toCopy 17 = .ok (.getfield 7, 3) := by decide +kernel
theorem dX12_toCopy_20 : decode cX12_toCopy 20 = .ok (.bipush 79, 2) := by decide +kernel
theorem dX12_toCopy_22 : decode cX12_toCopy 22 = .ok (.iload_n 2, 1) := by decide +kernel
theorem dX12_toCopy_23 : decode cX12_toCopy 23 = .ok (.iadd, 1) := by decide +kernel
theorem dX12_toCopy_24 : decode cX12_toCopy 24 = .ok (.iaload, 1) := by decide +kernel
theorem dX12_toCopy_25 : decode cX12_toCopy 25 = .ok (.goto 20, 3) := by decide +kernel
theorem dX12_toCopy_28 : decode cX12_toCopy 28 = .ok (.iconst 1, 1) := by decide +kernel
theorem dX12_toCopy_29 : decode cX12_toCopy 29 = .ok (.iload_n 2, 1) := by decide +kernel
theorem dX12_toCopy_30 : decode cX12_toCopy 30 = .ok (.invokestatic 60, 3) := by decide +kernel
theorem dX12_toCopy_33 : decode cX12_toCopy 33 = .ok (.ishl, 1) := by decide +kernel
theorem dX12_toCopy_34 : decode cX12_toCopy 34 = .ok (.iconst 1, 1) := by decide +kernel
theorem dX12_toCopy_35 : decode cX12_toCopy 35 = .ok (.isub, 1) := by decide +kernel
theorem dX12_toCopy_36 : decode cX12_toCopy 36 = .ok (.aload_n 0, 1) := by decide +kernel
theorem dX12_toCopy_37 : decode cX12_toCopy 37 = .ok (.iload_n 1, 1) := by decide +kernel
theorem dX12_toCopy_38 : decode cX12_toCopy 38 = .ok (.iconst 3, 1) := by decide +kernel
theorem dX12_toCopy_39 : decode cX12_toCopy 39 = .ok (.invokevirtual 176, 3) := by decide +kernel
theorem dX12_toCopy_42 : decode cX12_toCopy 42 = .ok (.iconst (-1), 1) := by decide +kernel
theorem dX12_toCopy_43 : decode cX12_toCopy 43 = .ok (.ixor, 1) := by decide +kernel
theorem dX12_toCopy_44 : decode cX12_toCopy 44 = .ok (.iand, 1) := by decide +kernel
theorem dX12_toCopy_45 : decode cX12_toCopy 45 = .ok (.ireturn, 1) := by decide +kernel
theorem dX12_isBegun_0 : decode cX12_isBegun 0 = .ok (.aload_n 0, 1) := by decide +kernel
theorem dX12_isBegun_1 : decode cX12_isBegun 1 = .ok (.iload_n 1, 1) := by decide +kernel
theorem dX12_isBegun_2 : decode cX12_isBegun 2 = .ok (.iconst 2, 1) := by decide +kernel
theorem dX12_isBegun_3 : decode cX12_isBegun 3 = .ok (.invokevirtual 176, 3) := by decide +kernel
theorem dX12_isBegun_6 : decode cX12_isBegun 6 = .ok (.iconst 1, 1) := by decide +kernel
theorem dX12_isBegun_7 : decode cX12_isBegun 7 = .ok (.if_icmp .ne 5, 3) := by decide +kernel
theorem dX12_isBegun_10 : decode cX12_isBegun 10 = .ok (.iconst 1, 1) := by decide +kernel
theorem dX12_isBegun_11 : decode cX12_isBegun 11 = .ok (.ireturn, 1) := by decide +kernel
theorem dX12_isBegun_12 : decode cX12_isBegun 12 = .ok (.aload_n 0, 1) := by decide +kernel
theorem dX12_isBegun_13 : decode cX12_isBegun 13 = .ok (.iload_n 1, 1) := by decide +kernel
theorem dX12_isBegun_14 : decode cX12_isBegun 14 = .ok (.iconst 0, 1) := by decide +kernel
theorem dX12_isBegun_15 : decode cX12_isBegun 15 = .ok (.invokevirtual 176, 3) := by decide +kernel
theorem dX12_isBegun_18 : decode cX12_isBegun 18 = .ok (.istore_n 2, 1) := by decide +kernel
theorem dX12_isBegun_19 : decode cX12_isBegun 19 = .ok (.aload_n 0, 1) := by decide +kernel
theorem dX12_isBegun_20 : decode cX12_isBegun 20 = .ok (.iload_n 1, 1) := by decide +kernel
theorem dX12_isBegun_21 : decode cX12_isBegun 21 = .ok (.iconst 1, 1) := by decide +kernel
theorem dX12_isBegun_22 : decode cX12_isBegun 22 = .ok (.invokevirtual 176, 3) := by decide +kernel
theorem dX12_isBegun_25 : decode cX12_isBegun 25 = .ok (.iconst 1, 1) := by decide +kernel
theorem dX12_isBegun_26 : decode cX12_isBegun 26 = .ok (.if_icmp .ne 52, 3) := by decide +kernel
theorem dX12_isBegun_29 : decode cX12_isBegun 29 = .ok (.aload_n 0, 1) := by decide +kernel
theorem dX12_isBegun_30 : decode cX12_isBegun 30 = .ok (.invokevirtual 189, 3) := by decide +kernel
theorem dX12_isBegun_33 : decode cX12_isBegun 33 = .ok (.iload_n 2, 1) := by decide +kernel
theorem dX12_isBegun_34 : decode cX12_isBegun 34 = .ok (.invokestatic 60, 3) := by decide +kernel
theorem dX12_isBegun_37 : decode cX12_isBegun 37 = .ok (.if_icmp .ge 5, 3) := by decide +kernel
theorem dX12_isBegun_40 : decode cX12_isBegun 40 = .ok (.iconst 0, 1) := by decide +kernel
theorem dX12_isBegun_41 : decode cX12_isBegun 41 = .ok (.ireturn, 1) := by decide +kernel
theorem dX12_isBegun_42 : decode cX12_isBegun 42 = .ok (.iconst 0, 1) := by decide +kernel
theorem dX12_isBegun_43 : decode cX12_isBegun 43 = .ok (.istore_n 3, 1) := by decide +kernel
theorem dX12_isBegun_44 : decode cX12_isBegun 44 = .ok (.iload_n 3, 1) := by decide +kernel
theorem dX12_isBegun_45 : decode cX12_isBegun 45 = .ok (.iload_n 2, 1) := by decide +kernel
theorem dX12_isBegun_46 : decode cX12_isBegun 46 = .ok (.invokestatic 60, 3) := by decide +kernel
theorem dX12_isBegun_49 : decode cX12_isBegun 49 = .ok (.if_icmp .ge 29, 3) := by decide +kernel
theorem dX12_isBegun_52 : decode cX12_isBegun 52 = .ok (.aload_n 0, 1) := by decide +kernel
theorem dX12_isBegun_53 : decode cX12_isBegun 53 = .ok (.getfield 7, 3) := by decide +kernel
theorem dX12_isBegun_56 : decode cX12_isBegun 56 = .ok (.sipush 139, 3) := by decide +kernel
theorem dX12_isBegun_59 : decode cX12_isBegun 59 = .ok (.iload_n 2, 1) := by decide +kernel
theorem dX12_isBegun_60 : decode cX12_isBegun 60 = .ok (.invokestatic 64, 3) := by decide +kernel
theorem dX12_isBegun_63 : decode cX12_isBegun 63 = .ok (.iadd, 1) := by decide +kernel
theorem dX12_isBegun_64 : decode cX12_isBegun 64 = .ok (.iload_n 3, 1) := by decide +kernel
theorem dX12_isBegun_65 : decode cX12_isBegun 65 = .ok (.iadd, 1) := by decide +kernel
theorem dX12_isBegun_66 : decode cX12_isBegun 66 = .ok (.aload_n 0, 1) := by decide +kernel
theorem dX12_isBegun_67 : decode cX12_isBegun 67 = .ok (.iconst 0, 1) := by decide +kernel
theorem dX12_isBegun_68 : decode cX12_isBegun 68 = .ok (.invokevirtual 192, 3) := by decide +kernel
theorem dX12_isBegun_71 : decode cX12_isBegun 71 = .ok (.iastore, 1) := by decide +kernel
theorem dX12_isBegun_72 : decode cX12_isBegun 72 = .ok (.iinc 3 1, 3) := by decide +kernel
theorem dX12_isBegun_75 : decode cX12_isBegun 75 = .ok (.goto (-31), 3) := by decide +kernel
theorem dX12_isBegun_78 : decode cX12_isBegun 78 = .ok (.aload_n 0, 1) := by decide +kernel
theorem dX12_isBegun_79 : decode cX12_isBegun 79 = .ok (.getfield 7, 3) := by decide +kernel
theorem dX12_isBegun_82 : decode cX12_isBegun 82 = .ok (.sipush 200, 3) := by decide +kernel
theorem dX12_isBegun_85 : decode cX12_isBegun 85 = .ok (.iconst 4, 1) := by decide +kernel
theorem dX12_isBegun_86 : decode cX12_isBegun 86 = .ok (.iload_n 1, 1) := by decide +kernel
theorem dX12_isBegun_87 : decode cX12_isBegun 87 = .ok (.imul, 1) := by decide +kernel
theorem dX12_isBegun_88 : decode cX12_isBegun 88 = .ok (.iadd, 1) := by decide +kernel
theorem dX12_isBegun_89 : decode cX12_isBegun 89 = .ok (.iconst 2, 1) := by decide +kernel
theorem dX12_isBegun_90 : decode cX12_isBegun 90 = .ok (.iadd, 1) := by decide +kernel
theorem dX12_isBegun_91 : decode cX12_isBegun 91 = .ok (.iconst 1, 1) := by decide +kernel
theorem dX12_isBegun_92 : decode cX12_isBegun 92 = .ok (.iastore, 1) := by decide +kernel
theorem dX12_isBegun_93 : decode cX12_isBegun 93 = .ok (.aload_n 0, 1) := by decide +kernel
theorem dX12_isBegun_94 : decode cX12_isBegun 94 = .ok (.iconst 0, 1) := by decide +kernel
theorem dX12_isBegun_95 : decode cX12_isBegun 95 = .ok (.iload_n 2, 1) := by decide +kernel
theorem dX12_isBegun_96 : decode cX12_isBegun 96 = .ok (.aload_n 0, 1) := by decide +kernel
theorem dX12_isBegun_97 : decode cX12_isBegun 97 = .ok (.iload_n 1, 1) := by decide +kernel
theorem dX12_isBegun_98 : decode cX12_isBegun 98 = .ok (.iconst 1, 1) := by decide +kernel
theorem dX12_isBegun_99 : decode cX12_isBegun 99 = .ok (.invokevirtual 176, 3) := by decide +kernel
theorem dX12_isBegun_102 : decode cX12_isBegun 102 = .ok (.invokevirtual 185, 3) := by decide +kernel
theorem dX12_isBegun_105 : decode cX12_isBegun 105 = .ok (.iconst 1, 1) := by decide +kernel
theorem dX12_isBegun_106 : decode cX12_isBegun 106 = .ok (.ireturn, 1) := by decide +kernel
theorem dX12_copyBlock_0 : decode cX12_copyBlock 0 = .ok (.aload_n 0, 1) := by decide +kernel
theorem dX12_copyBlock_1 : decode cX12_copyBlock 1 = .ok (.iload_n 1, 1) := by decide +kernel
theorem dX12_copyBlock_2 : decode cX12_copyBlock 2 = .ok (.iconst 0, 1) := by decide +kernel
theorem dX12_copyBlock_3 : decode cX12_copyBlock 3 = .ok (.invokevirtual 176, 3) := by decide +kernel
theorem dX12_copyBlock_6 : decode cX12_copyBlock 6 = .ok (.istore_n 2, 1) := by decide +kernel
theorem dX12_copyBlock_7 : decode cX12_copyBlock 7 = .ok (.iconst 0, 1) := by decide +kernel
theorem dX12_copyBlock_8 : decode cX12_copyBlock 8 = .ok (.istore_n 3, 1) := by decide +kernel
theorem dX12_copyBlock_9 : decode cX12_copyBlock 9 = .ok (.aload_n 0, 1) := by decide +kernel
theorem dX12_copyBlock_10 : decode cX12_copyBlock 10 = .ok (.iload_n 1, 1) := by decide +kernel
theorem dX12_copyBlock_11 : decode cX12_copyBlock 11 = .ok (.invokevirtual 195, 3) := by decide +kernel
theorem dX12_copyBlock_14 : decode cX12_copyBlock 14 = .ok (.iload_n 3, 1) := by decide +kernel
theorem dX12_copyBlock_15 : decode cX12_copyBlock 15 = .ok (.invokestatic 198, 3) := by decide +kernel
theorem dX12_copyBlock_18 : decode cX12_copyBlock 18 = .ok (.ifCond .ne 9, 3) := by decide +kernel
theorem dX12_copyBlock_21 : decode cX12_copyBlock 21 = .ok (.iinc 3 1, 3) := by decide +kernel
theorem dX12_copyBlock_24 : decode cX12_copyBlock 24 = .ok (.goto (-15), 3) := by decide +kernel
theorem dX12_copyBlock_27 : decode cX12_copyBlock 27 = .ok (.sipush 162, 3) := by decide +kernel
theorem dX12_copyBlock_30 : decode cX12_copyBlock 30 = .ok (.iload_n 2, 1) := by decide +kernel
theorem dX12_copyBlock_31 : decode cX12_copyBlock 31 = .ok (.invokestatic 64, 3) := by decide +kernel
theorem dX12_copyBlock_34 : decode cX12_copyBlock 34 = .ok (.iadd, 1) := by decide +kernel
theorem dX12_copyBlock_35 : decode cX12_copyBlock 35 = .ok (.iload_n 3, 1) := by decide +kernel
theorem dX12_copyBlock_36 : decode cX12_copyBlock 36 = .ok (.iadd, 1) := by decide +kernel
theorem dX12_copyBlock_37 : decode cX12_copyBlock 37 = .ok (.istore 4, 2) := by decide +kernel
theorem dX12_copyBlock_39 : decode cX12_copyBlock 39 = .ok (.sipush 185, 3) := by decide +kernel
theorem dX12_copyBlock_42 : decode cX12_copyBlock 42 = .ok (.aload_n 0, 1) := by decide +kernel
theorem dX12_copyBlock_43 : decode cX12_copyBlock 43 = .ok (.iload_n 2, 1) := by decide +kernel
theorem dX12_copyBlock_44 : decode cX12_copyBlock 44 = .ok (.iload_n 3, 1) := by decide +kernel
theorem dX12_copyBlock_45 : decode cX12_copyBlock 45 = .ok (.invokevirtual 167, 3) := by decide +kernel
theorem dX12_copyBlock_48 : decode cX12_copyBlock 48 = .ok (.iadd, 1) := by decide +kernel
theorem dX12_copyBlock_49 : decode cX12_copyBlock 49 = .ok (.istore 5, 2) := by decide +kernel
theorem dX12_copyBlock_51 : decode cX12_copyBlock 51 = .ok (.aload_n 0, 1) := by decide +kernel
theorem dX12_copyBlock_52 : decode cX12_copyBlock 52 = .ok (.iload_n 1, 1) := by decide +kernel
theorem dX12_copyBlock_53 : decode cX12_copyBlock 53 = .ok (.iconst 1, 1) := by decide +kernel
theorem dX12_copyBlock_54 : decode cX12_copyBlock 54 = .ok (.invokevirtual 176, 3) := by decide +kernel
theorem dX12_copyBlock_57 : decode cX12_copyBlock 57 = .ok (.iconst 1, 1) := by decide +kernel
theorem dX12_copyBlock_58 : decode cX12_copyBlock 58 = .ok (.if_icmp .ne 40, 3) := by decide +kernel
theorem dX12_copyBlock_61 : decode cX12_copyBlock 61 = .ok (.aload_n 0, 1) := by decide +kernel
theorem dX12_copyBlock_62 : decode cX12_copyBlock 62 = .ok (.getfield 7, 3) := by decide +kernel
theorem dX12_copyBlock_65 : decode cX12_copyBlock 65 = .ok (.iload 5, 2) := by decide +kernel
theorem dX12_copyBlock_67 : decode cX12_copyBlock 67 = .ok (.aload_n 0, 1) := by decide +kernel
theorem dX12_copyBlock_68 : decode cX12_copyBlock 68 = .ok (.getfield 7, 3) := by decide +kernel
theorem dX12_copyBlock_71 : decode cX12_copyBlock 71 = .ok (.iload 4, 2) := by decide +kernel
theorem dX12_copyBlock_73 : decode cX12_copyBlock 73 = .ok (.iaload, 1) := by decide +kernel
theorem dX12_copyBlock_74 : decode cX12_copyBlock 74 = .ok (.iastore, 1) := by decide +kernel
theorem dX12_copyBlock_75 : decode cX12_copyBlock 75 = .ok (.aload_n 0, 1) := by decide +kernel
theorem dX12_copyBlock_76 : decode cX12_copyBlock 76 = .ok (.getfield 7, 3) := by decide +kernel
theorem dX12_copyBlock_79 : decode cX12_copyBlock 79 = .ok (.sipush 200, 3) := by decide +kernel
theorem dX12_copyBlock_82 : decode cX12_copyBlock 82 = .ok (.iconst 4, 1) := by decide +kernel
theorem dX12_copyBlock_83 : decode cX12_copyBlock 83 = .ok (.iload_n 1, 1) := by decide +kernel
theorem dX12_copyBlock_84 : decode cX12_copyBlock 84 = .ok (.imul, 1) := by decide +kernel
theorem dX12_copyBlock_85 : decode cX12_copyBlock 85 = .ok (.iadd, 1) := by decide +kernel
theorem dX12_copyBlock_86 : decode cX12_copyBlock 86 = .ok (.iconst 3, 1) := by decide +kernel
theorem dX12_copyBlock_87 : decode cX12_copyBlock 87 = .ok (.iadd, 1) := by decide +kernel
theorem dX12_copyBlock_88 : decode cX12_copyBlock 88 = .ok (.dup2, 1) := by decide +kernel
theorem dX12_copyBlock_89 : decode cX12_copyBlock 89 = .ok (.iaload, 1) := by decide +kernel
theorem dX12_copyBlock_90 : decode cX12_copyBlock 90 = .ok (.iconst 1, 1) := by decide +kernel
theorem dX12_copyBlock_91 : decode cX12_copyBlock 91 = .ok (.iload_n 3, 1) := by decide +kernel
theorem dX12_copyBlock_92 : decode cX12_copyBlock 92 = .ok (.ishl, 1) := by decide +kernel
theorem dX12_copyBlock_93 : decode cX12_copyBlock 93 = .ok (.ior, 1) := by decide +kernel
theorem dX12_copyBlock_94 : decode cX12_copyBlock 94 = .ok (.iastore, 1) := by decide +kernel
theorem dX12_copyBlock_95 : decode cX12_copyBlock 95 = .ok (.goto 34, 3) := by decide +kernel
theorem dX12_copyBlock_98 : decode cX12_copyBlock 98 = .ok (.aload_n 0, 1) := by decide +kernel
theorem dX12_copyBlock_99 : decode cX12_copyBlock 99 = .ok (.getfield 7, 3) := by decide +kernel
theorem dX12_copyBlock_102 : decode cX12_copyBlock 102 = .ok (.iload 4, 2) := by decide +kernel
theorem dX12_copyBlock_104 : decode cX12_copyBlock 104 = .ok (.aload_n 0, 1) := by decide +kernel
theorem dX12_copyBlock_105 : decode cX12_copyBlock 105 = .ok (.getfield 7, 3) := by decide +kernel
theorem dX12_copyBlock_108 : decode cX12_copyBlock 108 = .ok (.iload 5, 2) := by decide +kernel
theorem dX12_copyBlock_110 : decode cX12_copyBlock 110 = .ok (.iaload, 1) := by decide +kernel
theorem dX12_copyBlock_111 : decode cX12_copyBlock 111 = .ok (.iastore, 1) := by decide +kernel
theorem dX12_copyBlock_112 : decode cX12_copyBlock 112 = .ok (.aload_n 0, 1) := by decide +kernel
theorem dX12_copyBlock_113 : decode cX12_copyBlock 113 = .ok (.getfield 7, 3) := by decide +kernel
theorem dX12_copyBlock_116 : decode cX12_copyBlock 116 = .ok (.bipush 79, 2) := by decide +kernel
theorem dX12_copyBlock_118 : decode cX12_copyBlock 118 = .ok (.iload_n 2, 1) := by decide +kernel
theorem dX12_copyBlock_119 : decode cX12_copyBlock 119 = .ok (.iadd, 1) := by decide +kernel
theorem dX12_copyBlock_120 : decode cX12_copyBlock 120 = .ok (.dup2, 1) := by decide +kernel
theorem dX12_copyBlock_121 : decode cX12_copyBlock 121 = .ok (.iaload, 1) := by decide +kernel
theorem dX12_copyBlock_122 : decode cX12_copyBlock 122 = .ok (.iconst 1, 1) := by decide +kernel
theorem dX12_copyBlock_123 : decode cX12_copyBlock 123 = .ok (.iload_n 3, 1) := by decide +kernel
theorem dX12_copyBlock_124 : decode cX12_copyBlock 124 = .ok (.ishl, 1) := by decide +kernel
theorem dX12_copyBlock_125 : decode cX12_copyBlock 125 = .ok (.iconst (-1), 1) := by decide +kernel
theorem dX12_copyBlock_126 : decode cX12_copyBlock 126 = .ok (.ixor, 1) := by decide +kernel
theorem dX12_copyBlock_127 : decode cX12_copyBlock 127 = .ok (.iand, 1) := by decide +kernel
theorem dX12_copyBlock_128 : decode cX12_copyBlock 128 = .ok (.iastore, 1) := by decide +kernel
theorem dX12_copyBlock_129 : decode cX12_copyBlock 129 = .ok (.aload_n 0, 1) := by decide +kernel
theorem dX12_copyBlock_130 : decode cX12_copyBlock 130 = .ok (.getfield 7, 3) := by decide +kernel
theorem dX12_copyBlock_133 : decode cX12_copyBlock 133 = .ok (.bipush 6, 2) := by decide +kernel
theorem dX12_copyBlock_135 : decode cX12_copyBlock 135 = .ok (.dup2, 1) := by decide +kernel
theorem dX12_copyBlock_136 : decode cX12_copyBlock 136 = .ok (.iaload, 1) := by decide +kernel
theorem dX12_copyBlock_137 : decode cX12_copyBlock 137 = .ok (.bipush 9, 2) := by decide +kernel
theorem dX12_copyBlock_139 : decode cX12_copyBlock 139 = .ok (.iadd, 1) := by decide +kernel
theorem dX12_copyBlock_140 : decode cX12_copyBlock 140 = .ok (.iastore, 1) := by decide +kernel
theorem dX12_copyBlock_141 : decode cX12_copyBlock 141 = .ok (.aload_n 0, 1) := by decide +kernel
theorem dX12_copyBlock_142 : decode cX12_copyBlock 142 = .ok (.getfield 7, 3) := by decide +kernel
theorem dX12_copyBlock_145 : decode cX12_copyBlock 145 = .ok (.bipush 13, 2) := by decide +kernel
theorem dX12_copyBlock_147 : decode cX12_copyBlock 147 = .ok (.dup2, 1) := by decide +kernel
theorem dX12_copyBlock_148 : decode cX12_copyBlock 148 = .ok (.iaload, 1) := by decide +kernel
theorem dX12_copyBlock_149 : decode cX12_copyBlock 149 = .ok (.iconst 1, 1) := by decide +kernel
theorem dX12_copyBlock_150 : decode cX12_copyBlock 150 = .ok (.iadd, 1) := by decide +kernel
theorem dX12_copyBlock_151 : decode cX12_copyBlock 151 = .ok (.iastore, 1) := by decide +kernel
theorem dX12_copyBlock_152 : decode cX12_copyBlock 152 = .ok (.return_, 1) := by decide +kernel
theorem dX12_switchMove_0 : decode cX12_switchMove 0 = .ok (.aload_n 0, 1) := by decide +kernel
theorem dX12_switchMove_1 : decode cX12_switchMove 1 = .ok (.iload_n 1, 1) := by decide +kernel
theorem dX12_switchMove_2 : decode cX12_switchMove 2 = .ok (.iconst 0, 1) := by decide +kernel
theorem dX12_switchMove_3 : decode cX12_switchMove 3 = .ok (.invokevirtual 176, 3) := by decide +kernel
theorem dX12_switchMove_6 : decode cX12_switchMove 6 = .ok (.istore_n 2, 1) := by decide +kernel
theorem dX12_switchMove_7 : decode cX12_switchMove 7 = .ok (.aload_n 0, 1) := by decide +kernel
theorem dX12_switchMove_8 : decode cX12_switchMove 8 = .ok (.iload_n 1, 1) := by decide +kernel
theorem dX12_switchMove_9 : decode cX12_switchMove 9 = .ok (.iconst 1, 1) := by decide +kernel
theorem dX12_switchMove_10 : decode cX12_switchMove 10 = .ok (.invokevirtual 176, 3) := by decide +kernel
theorem dX12_switchMove_13 : decode cX12_switchMove 13 = .ok (.istore_n 3, 1) := by decide +kernel
theorem dX12_switchMove_14 : decode cX12_switchMove 14 = .ok (.aload_n 0, 1) := by decide +kernel
theorem dX12_switchMove_15 : decode cX12_switchMove 15 = .ok (.getfield 7, 3) := by decide +kernel
theorem dX12_switchMove_18 : decode cX12_switchMove 18 = .ok (.bipush 109, 2) := by decide +kernel
theorem dX12_switchMove_20 : decode cX12_switchMove 20 = .ok (.iload_n 2, 1) := by decide +kernel
theorem dX12_switchMove_21 : decode cX12_switchMove 21 = .ok (.iadd, 1) := by decide +kernel
theorem dX12_switchMove_22 : decode cX12_switchMove 22 = .ok (.iload_n 3, 1) := by decide +kernel
theorem dX12_switchMove_23 : decode cX12_switchMove 23 = .ok (.iastore, 1) := by decide +kernel
theorem dX12_switchMove_24 : decode cX12_switchMove 24 = .ok (.aload_n 0, 1) := by decide +kernel
theorem dX12_switchMove_25 : decode cX12_switchMove 25 = .ok (.getfield 7, 3) := by decide +kernel
theorem dX12_switchMove_28 : decode cX12_switchMove 28 = .ok (.bipush 79, 2) := by decide +kernel
theorem dX12_switchMove_30 : decode cX12_switchMove 30 = .ok (.iload_n 2, 1) := by decide +kernel
theorem dX12_switchMove_31 : decode cX12_switchMove 31 = .ok (.iadd, 1) := by decide +kernel
theorem dX12_switchMove_32 : decode cX12_switchMove 32 = .ok (.iconst 0, 1) := by decide +kernel
theorem dX12_switchMove_33 : decode cX12_switchMove 33 = .ok (.iastore, 1) := by decide +kernel
theorem dX12_switchMove_34 : decode cX12_switchMove 34 = .ok (.iload_n 3, 1) := by decide +kernel
theorem dX12_switchMove_35 : decode cX12_switchMove 35 = .ok (.ifCond .ne 8, 3) := by decide +kernel
theorem dX12_switchMove_38 : decode cX12_switchMove 38 = .ok (.aload_n 0, 1) := by decide +kernel
theorem dX12_switchMove_39 : decode cX12_switchMove 39 = .ok (.iload_n 2, 1) := by decide +kernel
theorem dX12_switchMove_40 : decode cX12_switchMove 40 = .ok (.invokevirtual 179, 3) := by decide +kernel
theorem dX12_switchMove_43 : decode cX12_switchMove 43 = .ok (.aload_n 0, 1) := by decide +kernel
theorem dX12_switchMove_44 : decode cX12_switchMove 44 = .ok (.getfield 7, 3) := by decide +kernel
theorem dX12_switchMove_47 : decode cX12_switchMove 47 = .ok (.bipush 59, 2) := by decide +kernel
theorem dX12_switchMove_49 : decode cX12_switchMove 49 = .ok (.iload_n 2, 1) := by decide +kernel
theorem dX12_switchMove_50 : decode cX12_switchMove 50 = .ok (.iadd, 1) := by decide +kernel
theorem dX12_switchMove_51 : decode cX12_switchMove 51 = .ok (.aload_n 0, 1) := by decide +kernel
theorem dX12_switchMove_52 : decode cX12_switchMove 52 = .ok (.getfield 7, 3) := by decide +kernel
theorem dX12_switchMove_55 : decode cX12_switchMove 55 = .ok (.iconst 5, 1) := by decide +kernel
theorem dX12_switchMove_56 : decode cX12_switchMove 56 = .ok (.iaload, 1) := by decide +kernel
theorem dX12_switchMove_57 : decode cX12_switchMove 57 = .ok (.iconst 3, 1) := by decide +kernel
theorem dX12_switchMove_58 : decode cX12_switchMove 58 = .ok (.iadd, 1) := by decide +kernel
theorem dX12_switchMove_59 : decode cX12_switchMove 59 = .ok (.iastore, 1) := by decide +kernel
theorem dX12_switchMove_60 : decode cX12_switchMove 60 = .ok (.aload_n 0, 1) := by decide +kernel
theorem dX12_switchMove_61 : decode cX12_switchMove 61 = .ok (.getfield 7, 3) := by decide +kernel
theorem dX12_switchMove_64 : decode cX12_switchMove 64 = .ok (.bipush 119, 2) := by decide +kernel
theorem dX12_switchMove_66 : decode cX12_switchMove 66 = .ok (.iload_n 2, 1) := by decide +kernel
theorem dX12_switchMove_67 : decode cX12_switchMove 67 = .ok (.iadd, 1) := by decide +kernel
theorem dX12_switchMove_68 : decode cX12_switchMove 68 = .ok (.iconst 0, 1) := by decide +kernel
theorem dX12_switchMove_69 : decode cX12_switchMove 69 = .ok (.iastore, 1) := by decide +kernel
theorem dX12_switchMove_70 : decode cX12_switchMove 70 = .ok (.aload_n 0, 1) := by decide +kernel
theorem dX12_switchMove_71 : decode cX12_switchMove 71 = .ok (.getfield 7, 3) := by decide +kernel
theorem dX12_switchMove_74 : decode cX12_switchMove 74 = .ok (.sipush 129, 3) := by decide +kernel
theorem dX12_switchMove_77 : decode cX12_switchMove 77 = .ok (.iload_n 2, 1) := by decide +kernel
theorem dX12_switchMove_78 : decode cX12_switchMove 78 = .ok (.iadd, 1) := by decide +kernel
theorem dX12_switchMove_79 : decode cX12_switchMove 79 = .ok (.iconst 0, 1) := by decide +kernel
theorem dX12_switchMove_80 : decode cX12_switchMove 80 = .ok (.iastore, 1) := by decide +kernel
theorem dX12_switchMove_81 : decode cX12_switchMove 81 = .ok (.aload_n 0, 1) := by decide +kernel
theorem dX12_switchMove_82 : decode cX12_switchMove 82 = .ok (.getfield 7, 3) := by decide +kernel
theorem dX12_switchMove_85 : decode cX12_switchMove 85 = .ok (.bipush 14, 2) := by decide +kernel
theorem dX12_switchMove_87 : decode cX12_switchMove 87 = .ok (.dup2, 1) := by decide +kernel
theorem dX12_switchMove_88 : decode cX12_switchMove 88 = .ok (.iaload, 1) := by decide +kernel
theorem dX12_switchMove_89 : decode cX12_switchMove 89 = .ok (.iconst 1, 1) := by decide +kernel
theorem dX12_switchMove_90 : decode cX12_switchMove 90 = .ok (.iadd, 1) := by decide +kernel
theorem dX12_switchMove_91 : decode cX12_switchMove 91 = .ok (.iastore, 1) := by decide +kernel
theorem dX12_switchMove_92 : decode cX12_switchMove 92 = .ok (.aload_n 0, 1) := by decide +kernel
theorem dX12_switchMove_93 : decode cX12_switchMove 93 = .ok (.getfield 7, 3) := by decide +kernel
theorem dX12_switchMove_96 : decode cX12_switchMove 96 = .ok (.sipush 340, 3) := by decide +kernel
theorem dX12_switchMove_99 : decode cX12_switchMove 99 = .ok (.iload_n 2, 1) := by decide +kernel
theorem dX12_switchMove_100 : decode cX12_switchMove 100 = .ok (.iadd, 1) := by decide +kernel
theorem dX12_switchMove_101 : decode cX12_switchMove 101 = .ok (.dup2, 1) := by decide +kernel
theorem dX12_switchMove_102 : decode cX12_switchMove 102 = .ok (.iaload, 1) := by decide +kernel
theorem dX12_switchMove_103 : decode cX12_switchMove 103 = .ok (.iconst 1, 1) := by decide +kernel
theorem dX12_switchMove_104 : decode cX12_switchMove 104 = .ok (.iadd, 1) := by decide +kernel
theorem dX12_switchMove_105 : decode cX12_switchMove 105 = .ok (.iastore, 1) := by decide +kernel
theorem dX12_switchMove_106 : decode cX12_switchMove 106 = .ok (.aload_n 0, 1) := by decide +kernel
theorem dX12_switchMove_107 : decode cX12_switchMove 107 = .ok (.iload_n 1, 1) := by decide +kernel
theorem dX12_switchMove_108 : decode cX12_switchMove 108 = .ok (.invokevirtual 182, 3) := by decide +kernel
theorem dX12_switchMove_111 : decode cX12_switchMove 111 = .ok (.aload_n 0, 1) := by decide +kernel
theorem dX12_switchMove_112 : decode cX12_switchMove 112 = .ok (.iconst 1, 1) := by decide +kernel
theorem dX12_switchMove_113 : decode cX12_switchMove 113 = .ok (.iload_n 2, 1) := by decide +kernel
theorem dX12_switchMove_114 : decode cX12_switchMove 114 = .ok (.iload_n 3, 1) := by decide +kernel
theorem dX12_switchMove_115 : decode cX12_switchMove 115 = .ok (.invokevirtual 185, 3) := by decide +kernel
theorem dX12_switchMove_118 : decode cX12_switchMove 118 = .ok (.return_, 1) := by decide +kernel
theorem dX12_goMoves_0 : decode cX12_goMoves 0 = .ok (.aload_n 0, 1) := by decide +kernel
theorem dX12_goMoves_1 : decode cX12_goMoves 1 = .ok (.getfield 7, 3) := by decide +kernel
theorem dX12_goMoves_4 : decode cX12_goMoves 4 = .ok (.bipush 7, 2) := by decide +kernel
theorem dX12_goMoves_6 : decode cX12_goMoves 6 = .ok (.iaload, 1) := by decide +kernel
theorem dX12_goMoves_7 : decode cX12_goMoves 7 = .ok (.istore_n 1, 1) := by decide +kernel
theorem dX12_goMoves_8 : decode cX12_goMoves 8 = .ok (.iconst 0, 1) := by decide +kernel
theorem dX12_goMoves_9 : decode cX12_goMoves 9 = .ok (.istore_n 2, 1) := by decide +kernel
theorem dX12_goMoves_10 : decode cX12_goMoves 10 = .ok (.iload_n 2, 1) := by decide +kernel
theorem dX12_goMoves_11 : decode cX12_goMoves 11 = .ok (.aload_n 0, 1) := by decide +kernel
theorem dX12_goMoves_12 : decode cX12_goMoves 12 = .ok (.getfield 7, 3) := by decide +kernel
theorem dX12_goMoves_15 : decode cX12_goMoves 15 = .ok (.bipush 17, 2) := by decide +kernel
theorem dX12_goMoves_17 : decode cX12_goMoves 17 = .ok (.iaload, 1) := by decide +kernel
theorem dX12_goMoves_18 : decode cX12_goMoves 18 = .ok (.if_icmp .ge 47, 3) := by decide +kernel
theorem dX12_goMoves_21 : decode cX12_goMoves 21 = .ok (.iload_n 1, 1) := by decide +kernel
theorem dX12_goMoves_22 : decode cX12_goMoves 22 = .ok (.ifCond .le 43, 3) := by decide +kernel
theorem dX12_goMoves_25 : decode cX12_goMoves 25 = .ok (.aload_n 0, 1) := by decide +kernel
theorem dX12_goMoves_26 : decode cX12_goMoves 26 = .ok (.iload_n 2, 1) := by decide +kernel
theorem dX12_goMoves_27 : decode cX12_goMoves 27 = .ok (.invokevirtual 202, 3) := by decide +kernel
theorem dX12_goMoves_30 : decode cX12_goMoves 30 = .ok (.ifCond .ne 6, 3) := by decide +kernel
theorem dX12_goMoves_33 : decode cX12_goMoves 33 = .ok (.goto 26, 3) := by decide +kernel
theorem dX12_goMoves_36 : decode cX12_goMoves 36 = .ok (.iload_n 1, 1) := by decide +kernel
theorem dX12_goMoves_37 : decode cX12_goMoves 37 = .ok (.ifCond .le 22, 3) := by decide +kernel
theorem dX12_goMoves_40 : decode cX12_goMoves 40 = .ok (.aload_n 0, 1) := by decide +kernel
theorem dX12_goMoves_41 : decode cX12_goMoves 41 = .ok (.iload_n 2, 1) := by decide +kernel
theorem dX12_goMoves_42 : decode cX12_goMoves 42 = .ok (.invokevirtual 195, 3) := by decide +kernel
theorem dX12_goMoves_45 : decode cX12_goMoves 45 = .ok (.ifCond .eq 14, 3) := by decide +kernel
theorem dX12_goMoves_48 : decode cX12_goMoves 48 = .ok (.aload_n 0, 1) := by decide +kernel
theorem dX12_goMoves_49 : decode cX12_goMoves 49 = .ok (.iload_n 2, 1) := by decide +kernel
theorem dX12_goMoves_50 : decode cX12_goMoves 50 = .ok (.invokevirtual 205, 3) := by decide +kernel
theorem dX12_goMoves_53 : decode cX12_goMoves 53 = .ok (.iinc 1 (-1), 3) := by decide +kernel
theorem dX12_goMoves_56 : decode cX12_goMoves 56 = .ok (.goto (-20), 3) := by decide +kernel
theorem dX12_goMoves_59 : decode cX12_goMoves 59 = .ok (.iinc 2 1, 3) := by decide +kernel
theorem dX12_goMoves_62 : decode cX12_goMoves 62 = .ok (.goto (-52), 3) := by decide +kernel
theorem dX12_goMoves_65 : decode cX12_goMoves 65 = .ok (.iconst 0, 1) := by decide +kernel
theorem dX12_goMoves_66 : decode cX12_goMoves 66 = .ok (.istore_n 2, 1) := by decide +kernel
theorem dX12_goMoves_67 : decode cX12_goMoves 67 = .ok (.iload_n 2, 1) := by decide +kernel
theorem dX12_goMoves_68 : decode cX12_goMoves 68 = .ok (.aload_n 0, 1) := by decide +kernel
theorem dX12_goMoves_69 : decode cX12_goMoves 69 = .ok (.getfield 7, 3) := by decide +kernel
theorem dX12_goMoves_72 : decode cX12_goMoves 72 = .ok (.bipush 17, 2) := by decide +kernel
theorem dX12_goMoves_74 : decode cX12_goMoves 74 = .ok (.iaload, 1) := by decide +kernel
theorem dX12_goMoves_75 : decode cX12_goMoves 75 = .ok (.if_icmp .ge 35, 3) := by decide +kernel
theorem dX12_goMoves_78 : decode cX12_goMoves 78 = .ok (.aload_n 0, 1) := by decide +kernel
theorem dX12_goMoves_79 : decode cX12_goMoves 79 = .ok (.iload_n 2, 1) := by decide +kernel
theorem dX12_goMoves_80 : decode cX12_goMoves 80 = .ok (.iconst 2, 1) := by decide +kernel
theorem dX12_goMoves_81 : decode cX12_goMoves 81 = .ok (.invokevirtual 176, 3) := by decide +kernel
theorem dX12_goMoves_84 : decode cX12_goMoves 84 = .ok (.iconst 1, 1) := by decide +kernel
theorem dX12_goMoves_85 : decode cX12_goMoves 85 = .ok (.if_icmp .ne 19, 3) := by decide +kernel
theorem dX12_goMoves_88 : decode cX12_goMoves 88 = .ok (.aload_n 0, 1) := by decide +kernel
theorem dX12_goMoves_89 : decode cX12_goMoves 89 = .ok (.iload_n 2, 1) := by decide +kernel
theorem dX12_goMoves_90 : decode cX12_goMoves 90 = .ok (.invokevirtual 195, 3) := by decide +kernel
theorem dX12_goMoves_93 : decode cX12_goMoves 93 = .ok (.ifCond .ne 11, 3) := by decide +kernel
theorem dX12_goMoves_96 : decode cX12_goMoves 96 = .ok (.aload_n 0, 1) := by decide +kernel
theorem dX12_goMoves_97 : decode cX12_goMoves 97 = .ok (.iload_n 2, 1) := by decide +kernel
theorem dX12_goMoves_98 : decode cX12_goMoves 98 = .ok (.invokevirtual 208, 3) := by decide +kernel
theorem dX12_goMoves_101 : decode cX12_goMoves 101 = .ok (.goto (-34), 3) := by decide +kernel
theorem dX12_goMoves_104 : decode cX12_goMoves 104 = .ok (.iinc 2 1, 3) := by decide +kernel
theorem dX12_goMoves_107 : decode cX12_goMoves 107 = .ok (.goto (-40), 3) := by decide +kernel
theorem dX12_goMoves_110 : decode cX12_goMoves 110 = .ok (.return_, 1) := by decide +kernel
theorem dX12_begunOf_0 : decode cX12_begunOf 0 = .ok (.aload_n 0, 1) := by decide +kernel
theorem dX12_begunOf_1 : decode cX12_begunOf 1 = .ok (.iload_n 1, 1) := by decide +kernel
theorem dX12_begunOf_2 : decode cX12_begunOf 2 = .ok (.invokevirtual 170, 3) := by decide +kernel
theorem dX12_begunOf_5 : decode cX12_begunOf 5 = .ok (.istore_n 2, 1) := by decide +kernel
theorem dX12_begunOf_6 : decode cX12_begunOf 6 = .ok (.iload_n 2, 1) := by decide +kernel
theorem dX12_begunOf_7 : decode cX12_begunOf 7 = .ok (.iconst (-1), 1) := by decide +kernel
theorem dX12_begunOf_8 : decode cX12_begunOf 8 = .ok (.if_icmp .eq 12, 3) := by decide +kernel
theorem dX12_begunOf_11 : decode cX12_begunOf 11 = .ok (.aload_n 0, 1) := by decide +kernel
theorem dX12_begunOf_12 : decode cX12_begunOf 12 = .ok (.iload_n 2, 1) := by decide +kernel
theorem dX12_begunOf_13 : decode cX12_begunOf 13 = .ok (.iconst 2, 1) := by decide +kernel
theorem dX12_begunOf_14 : decode cX12_begunOf 14 = .ok (.invokevirtual 176, 3) := by decide +kernel
theorem dX12_begunOf_17 : decode cX12_begunOf 17 = .ok (.ifCond .ne 7, 3) := by decide +kernel
theorem dX12_begunOf_20 : decode cX12_begunOf 20 = .ok (.iconst (-1), 1) := by decide +kernel
theorem dX12_begunOf_21 : decode cX12_begunOf 21 = .ok (.goto 9, 3) := by decide +kernel
theorem dX12_begunOf_24 : decode cX12_begunOf 24 = .ok (.aload_n 0, 1) := by decide +kernel
theorem dX12_begunOf_25 : decode cX12_begunOf 25 = .ok (.iload_n 2, 1) := by decide +kernel
theorem dX12_begunOf_26 : decode cX12_begunOf 26 = .ok (.iconst 1, 1) := by decide +kernel
theorem dX12_begunOf_27 : decode cX12_begunOf 27 = .ok (.invokevirtual 176, 3) := by decide +kernel
theorem dX12_begunOf_30 : decode cX12_begunOf 30 = .ok (.ireturn, 1) := by decide +kernel
theorem dX12_copiedFor_0 : decode cX12_copiedFor 0 = .ok (.aload_n 0, 1) := by decide +kernel
theorem dX12_copiedFor_1 : decode cX12_copiedFor 1 = .ok (.iload_n 1, 1) := by decide +kernel
theorem dX12_copiedFor_2 : decode cX12_copiedFor 2 = .ok (.invokevirtual 211, 3) := by decide +kernel
theorem dX12_copiedFor_5 : decode cX12_copiedFor 5 = .ok (.iconst (-1), 1) := by decide +kernel
theorem dX12_copiedFor_6 : decode cX12_copiedFor 6 = .ok (.if_icmp .ne 12, 3) := by decide +kernel
theorem dX12_copiedFor_9 : decode cX12_copiedFor 9 = .ok (.iload_n 2, 1) := by decide +kernel
theorem dX12_copiedFor_10 : decode cX12_copiedFor 10 = .ok (.aload_n 0, 1) := by decide +kernel
theorem dX12_copiedFor_11 : decode cX12_copiedFor 11 = .ok (.iload_n 1, 1) := by decide +kernel
theorem dX12_copiedFor_12 : decode cX12_copiedFor 12 = .ok (.invokevirtual 157, 3) := by decide +kernel
theorem dX12_copiedFor_15 : decode cX12_copiedFor 15 = .ok (.if_icmp .ne 5, 3) := by decide +kernel
theorem dX12_copiedFor_18 : decode cX12_copiedFor 18 = .ok (.iconst 0, 1) := by decide +kernel
theorem dX12_copiedFor_19 : decode cX12_copiedFor 19 = .ok (.ireturn, 1) := by decide +kernel
theorem dX12_copiedFor_20 : decode cX12_copiedFor 20 = .ok (.iload_n 2, 1) := by decide +kernel
theorem dX12_copiedFor_21 : decode cX12_copiedFor 21 = .ok (.ifCond .eq 10, 3) := by decide +kernel
theorem dX12_copiedFor_24 : decode cX12_copiedFor 24 = .ok (.iload_n 1, 1) := by decide +kernel
theorem dX12_copiedFor_25 : decode cX12_copiedFor 25 = .ok (.invokestatic 60, 3) := by decide +kernel
theorem dX12_copiedFor_28 : decode cX12_copiedFor 28 = .ok (.goto 15, 3) := by decide +kernel
theorem dX12_copiedFor_31 : decode cX12_copiedFor 31 = .ok (.aload_n 0, 1) := by decide +kernel
theorem dX12_copiedFor_32 : decode cX12_copiedFor 32 = .ok (.getfield 7, 3) := by decide +kernel
theorem dX12_copiedFor_35 : decode cX12_copiedFor 35 = .ok (.bipush 79, 2) := by decide +kernel
theorem dX12_copiedFor_37 : decode cX12_copiedFor 37 = .ok (.iload_n 1, 1) := by decide +kernel
theorem dX12_copiedFor_38 : decode cX12_copiedFor 38 = .ok (.iadd, 1) := by decide +kernel
theorem dX12_copiedFor_39 : decode cX12_copiedFor 39 = .ok (.iaload, 1) := by decide +kernel
theorem dX12_copiedFor_40 : decode cX12_copiedFor 40 = .ok (.invokestatic 214, 3) := by decide +kernel
theorem dX12_copiedFor_43 : decode cX12_copiedFor 43 = .ok (.ireturn, 1) := by decide +kernel
theorem dX12_mayBe_0 : decode cX12_mayBe 0 = .ok (.aload_n 0, 1) := by decide +kernel
theorem dX12_mayBe_1 : decode cX12_mayBe 1 = .ok (.iload_n 1, 1) := by decide +kernel
theorem dX12_mayBe_2 : decode cX12_mayBe 2 = .ok (.invokevirtual 211, 3) := by decide +kernel
theorem dX12_mayBe_5 : decode cX12_mayBe 5 = .ok (.istore_n 3, 1) := by decide +kernel
theorem dX12_mayBe_6 : decode cX12_mayBe 6 = .ok (.iload_n 3, 1) := by decide +kernel
theorem dX12_mayBe_7 : decode cX12_mayBe 7 = .ok (.iconst (-1), 1) := by decide +kernel
theorem dX12_mayBe_8 : decode cX12_mayBe 8 = .ok (.if_icmp .eq 23, 3) := by decide +kernel
theorem dX12_mayBe_11 : decode cX12_mayBe 11 = .ok (.iload_n 2, 1) := by decide +kernel
theorem dX12_mayBe_12 : decode cX12_mayBe 12 = .ok (.iload_n 3, 1) := by decide +kernel
theorem dX12_mayBe_13 : decode cX12_mayBe 13 = .ok (.iconst 1, 1) := by decide +kernel
theorem dX12_mayBe_14 : decode cX12_mayBe 14 = .ok (.if_icmp .ne 7, 3) := by decide +kernel
theorem dX12_mayBe_17 : decode cX12_mayBe 17 = .ok (.iconst 1, 1) := by decide +kernel
theorem dX12_mayBe_18 : decode cX12_mayBe 18 = .ok (.goto 4, 3) := by decide +kernel
theorem dX12_mayBe_21 : decode cX12_mayBe 21 = .ok (.iconst 0, 1) := by decide +kernel
theorem dX12_mayBe_22 : decode cX12_mayBe 22 = .ok (.if_icmp .ne 7, 3) := by decide +kernel
theorem dX12_mayBe_25 : decode cX12_mayBe 25 = .ok (.iconst 1, 1) := by decide +kernel
theorem dX12_mayBe_26 : decode cX12_mayBe 26 = .ok (.goto 4, 3) := by decide +kernel
theorem dX12_mayBe_29 : decode cX12_mayBe 29 = .ok (.iconst 0, 1) := by decide +kernel
theorem dX12_mayBe_30 : decode cX12_mayBe 30 = .ok (.ireturn, 1) := by decide +kernel
theorem dX12_mayBe_31 : decode cX12_mayBe 31 = .ok (.aload_n 0, 1) := by decide +kernel
theorem dX12_mayBe_32 : decode cX12_mayBe 32 = .ok (.getfield 7, 3) := by decide +kernel
theorem dX12_mayBe_35 : decode cX12_mayBe 35 = .ok (.bipush 59, 2) := by decide +kernel
theorem dX12_mayBe_37 : decode cX12_mayBe 37 = .ok (.iload_n 1, 1) := by decide +kernel
theorem dX12_mayBe_38 : decode cX12_mayBe 38 = .ok (.iadd, 1) := by decide +kernel
theorem dX12_mayBe_39 : decode cX12_mayBe 39 = .ok (.iaload, 1) := by decide +kernel
theorem dX12_mayBe_40 : decode cX12_mayBe 40 = .ok (.aload_n 0, 1) := by decide +kernel
theorem dX12_mayBe_41 : decode cX12_mayBe 41 = .ok (.getfield 7, 3) := by decide +kernel
theorem dX12_mayBe_44 : decode cX12_mayBe 44 = .ok (.iconst 5, 1) := by decide +kernel
theorem dX12_mayBe_45 : decode cX12_mayBe 45 = .ok (.iaload, 1) := by decide +kernel
theorem dX12_mayBe_46 : decode cX12_mayBe 46 = .ok (.if_icmp .le 14, 3) := by decide +kernel
theorem dX12_mayBe_49 : decode cX12_mayBe 49 = .ok (.iload_n 2, 1) := by decide +kernel
theorem dX12_mayBe_50 : decode cX12_mayBe 50 = .ok (.aload_n 0, 1) := by decide +kernel
theorem dX12_mayBe_51 : decode cX12_mayBe 51 = .ok (.iload_n 1, 1) := by decide +kernel
theorem dX12_mayBe_52 : decode cX12_mayBe 52 = .ok (.invokevirtual 157, 3) := by decide +kernel
theorem dX12_mayBe_55 : decode cX12_mayBe 55 = .ok (.if_icmp .eq 5, 3) := by decide +kernel
theorem dX12_mayBe_58 : decode cX12_mayBe 58 = .ok (.iconst 0, 1) := by decide +kernel
theorem dX12_mayBe_59 : decode cX12_mayBe 59 = .ok (.ireturn, 1) := by decide +kernel
theorem dX12_mayBe_60 : decode cX12_mayBe 60 = .ok (.iload_n 2, 1) := by decide +kernel
theorem dX12_mayBe_61 : decode cX12_mayBe 61 = .ok (.ifCond .eq 61, 3) := by decide +kernel
theorem dX12_mayBe_64 : decode cX12_mayBe 64 = .ok (.aload_n 0, 1) := by decide +kernel
theorem dX12_mayBe_65 : decode cX12_mayBe 65 = .ok (.iload_n 1, 1) := by decide +kernel
theorem dX12_mayBe_66 : decode cX12_mayBe 66 = .ok (.invokevirtual 157, 3) := by decide +kernel
theorem dX12_mayBe_69 : decode cX12_mayBe 69 = .ok (.ifCond .ne 53, 3) := by decide +kernel
theorem dX12_mayBe_72 : decode cX12_mayBe 72 = .ok (.aload_n 0, 1) := by decide +kernel
theorem dX12_mayBe_73 : decode cX12_mayBe 73 = .ok (.getfield 7, 3) := by decide +kernel
theorem dX12_mayBe_76 : decode cX12_mayBe 76 = .ok (.bipush 69, 2) := by decide +kernel
theorem dX12_mayBe_78 : decode cX12_mayBe 78 = .ok (.iload_n 1, 1) := by decide +kernel
theorem dX12_mayBe_79 : decode cX12_mayBe 79 = .ok (.iadd, 1) := by decide +kernel
theorem dX12_mayBe_80 : decode cX12_mayBe 80 = .ok (.iaload, 1) := by decide +kernel
theorem dX12_mayBe_81 : decode cX12_mayBe 81 = .ok (.iconst 1, 1) := by decide +kernel
theorem dX12_mayBe_82 : decode cX12_mayBe 82 = .ok (.if_icmp .eq 40, 3) := by decide +kernel
theorem dX12_mayBe_85 : decode cX12_mayBe 85 = .ok (.aload_n 0, 1) := by decide +kernel
theorem dX12_mayBe_86 : decode cX12_mayBe 86 = .ok (.getfield 7, 3) := by decide +kernel
theorem dX12_mayBe_89 : decode cX12_mayBe 89 = .ok (.bipush 29, 2) := by decide +kernel
theorem dX12_mayBe_91 : decode cX12_mayBe 91 = .ok (.iload_n 1, 1) := by decide +kernel
theorem dX12_mayBe_92 : decode cX12_mayBe 92 = .ok (.iadd, 1) := by decide +kernel
theorem dX12_mayBe_93 : decode cX12_mayBe 93 = .ok (.iaload, 1) := by decide +kernel
theorem dX12_mayBe_94 : decode cX12_mayBe 94 = .ok (.invokestatic 214, 3) := by decide +kernel
theorem dX12_mayBe_97 : decode cX12_mayBe 97 = .ok (.iconst 2, 1) := by decide +kernel
theorem dX12_mayBe_98 : decode cX12_mayBe 98 = .ok (.if_icmp .lt 28, 3) := by decide +kernel
theorem dX12_mayBe_101 : decode cX12_mayBe 101 = .ok (.aload_n 0, 1) := by decide +kernel
theorem dX12_mayBe_102 : decode cX12_mayBe 102 = .ok (.getfield 7, 3) := by decide +kernel
theorem dX12_mayBe_105 : decode cX12_mayBe 105 = .ok (.bipush 49, 2) := by decide +kernel
theorem dX12_mayBe_107 : decode cX12_mayBe 107 = .ok (.iload_n 1, 1) := by decide +kernel
theorem dX12_mayBe_108 : decode cX12_mayBe 108 = .ok (.iadd, 1) := by decide +kernel
theorem dX12_mayBe_109 : decode cX12_mayBe 109 = .ok (.iaload, 1) := by decide +kernel
theorem dX12_mayBe_110 : decode cX12_mayBe 110 = .ok (.aload_n 0, 1) := by decide +kernel
theorem dX12_mayBe_111 : decode cX12_mayBe 111 = .ok (.getfield 7, 3) := by decide +kernel
theorem dX12_mayBe_114 : decode cX12_mayBe 114 = .ok (.bipush 39, 2) := by decide +kernel
theorem dX12_mayBe_116 : decode cX12_mayBe 116 = .ok (.iload_n 1, 1) := by decide +kernel
theorem dX12_mayBe_117 : decode cX12_mayBe 117 = .ok (.iadd, 1) := by decide +kernel
theorem dX12_mayBe_118 : decode cX12_mayBe 118 = .ok (.iaload, 1) := by decide +kernel
theorem dX12_mayBe_119 : decode cX12_mayBe 119 = .ok (.if_icmp .gt 7, 3) := by decide +kernel
theorem dX12_mayBe_122 : decode cX12_mayBe 122 = .ok (.iconst 1, 1) := by decide +kernel
theorem dX12_mayBe_123 : decode cX12_mayBe 123 = .ok (.goto 4, 3) := by decide +kernel
theorem dX12_mayBe_126 : decode cX12_mayBe 126 = .ok (.iconst 0, 1) := by decide +kernel
theorem dX12_mayBe_127 : decode cX12_mayBe 127 = .ok (.ireturn, 1) := by decide +kernel
theorem dX12_isAllowed_0 : decode cX12_isAllowed 0 = .ok (.iconst 0, 1) := by decide +kernel
theorem dX12_isAllowed_1 : decode cX12_isAllowed 1 = .ok (.istore_n 3, 1) := by decide +kernel
theorem dX12_isAllowed_2 : decode cX12_isAllowed 2 = .ok (.iconst 0, 1) := by decide +kernel
theorem dX12_isAllowed_3 : decode cX12_isAllowed 3 = .ok (.istore 4, 2) := by decide +kernel
theorem dX12_isAllowed_5 : decode cX12_isAllowed 5 = .ok (.iconst 0, 1) := by decide +kernel
theorem dX12_isAllowed_6 : decode cX12_isAllowed 6 = .ok (.istore 5, 2) := by decide +kernel
theorem dX12_isAllowed_8 : decode cX12_isAllowed 8 = .ok (.iload 5, 2) := by decide +kernel
theorem dX12_isAllowed_10 : decode cX12_isAllowed 10 = .ok (.bipush 10, 2) := by decide +kernel
theorem dX12_isAllowed_12 : decode cX12_isAllowed 12 = .ok (.if_icmp .ge 60, 3) := by decide +kernel
theorem dX12_isAllowed_15 : decode cX12_isAllowed 15 = .ok (.iload_n 1, 1) := by decide +kernel
theorem dX12_isAllowed_16 : decode cX12_isAllowed 16 = .ok (.iload 5, 2) := by decide +kernel
theorem dX12_isAllowed_18 : decode cX12_isAllowed 18 = .ok (.invokestatic 198, 3) := by decide +kernel
theorem dX12_isAllowed_21 : decode cX12_isAllowed 21 = .ok (.istore 6, 2) := by decide +kernel
theorem dX12_isAllowed_23 : decode cX12_isAllowed 23 = .ok (.aload_n 0, 1) := by decide +kernel
theorem dX12_isAllowed_24 : decode cX12_isAllowed 24 = .ok (.iload 5, 2) := by decide +kernel
theorem dX12_isAllowed_26 : decode cX12_isAllowed 26 = .ok (.iload 6, 2) := by decide +kernel
theorem dX12_isAllowed_28 : decode cX12_isAllowed 28 = .ok (.invokevirtual 217, 3) := by decide +kernel
theorem dX12_isAllowed_31 : decode cX12_isAllowed 31 = .ok (.ifCond .ne 5, 3) := by decide +kernel
theorem dX12_isAllowed_34 : decode cX12_isAllowed 34 = .ok (.iconst 0, 1) := by decide +kernel
theorem dX12_isAllowed_35 : decode cX12_isAllowed 35 = .ok (.ireturn, 1) := by decide +kernel
theorem dX12_isAllowed_36 : decode cX12_isAllowed 36 = .ok (.iload_n 3, 1) := by decide +kernel
theorem dX12_isAllowed_37 : decode cX12_isAllowed 37 = .ok (.iload 6, 2) := by decide +kernel
theorem dX12_isAllowed_39 : decode cX12_isAllowed 39 = .ok (.ifCond .eq 11, 3) := by decide +kernel
theorem dX12_isAllowed_42 : decode cX12_isAllowed 42 = .ok (.iload 5, 2) := by decide +kernel
theorem dX12_isAllowed_44 : decode cX12_isAllowed 44 = .ok (.invokestatic 60, 3) := by decide +kernel
theorem dX12_isAllowed_47 : decode cX12_isAllowed 47 = .ok (.goto 4, 3) := by decide +kernel
theorem dX12_isAllowed_50 : decode cX12_isAllowed 50 = .ok (.iconst 0, 1) := by decide +kernel
theorem dX12_isAllowed_51 : decode cX12_isAllowed 51 = .ok (.iadd, 1) := by decide +kernel
theorem dX12_isAllowed_52 : decode cX12_isAllowed 52 = .ok (.istore_n 3, 1) := by decide +kernel
theorem dX12_isAllowed_53 : decode cX12_isAllowed 53 = .ok (.iload 4, 2) := by decide +kernel
theorem dX12_isAllowed_55 : decode cX12_isAllowed 55 = .ok (.aload_n 0, 1) := by decide +kernel
theorem dX12_isAllowed_56 : decode cX12_isAllowed 56 = .ok (.iload 5, 2) := by decide +kernel
theorem dX12_isAllowed_58 : decode cX12_isAllowed 58 = .ok (.iload 6, 2) := by decide +kernel
theorem dX12_isAllowed_60 : decode cX12_isAllowed 60 = .ok (.invokevirtual 221, 3) := by decide +kernel
theorem dX12_isAllowed_63 : decode cX12_isAllowed 63 = .ok (.iadd, 1) := by decide +kernel
theorem dX12_isAllowed_64 : decode cX12_isAllowed 64 = .ok (.istore 4, 2) := by decide +kernel
theorem dX12_isAllowed_66 : decode cX12_isAllowed 66 = .ok (.iinc 5 1, 3) := by decide +kernel
theorem dX12_isAllowed_69 : decode cX12_isAllowed 69 = .ok (.goto (-61), 3) := by decide +kernel
theorem dX12_isAllowed_72 : decode cX12_isAllowed 72 = .ok (.iload_n 3, 1) := by decide +kernel
theorem dX12_isAllowed_73 : decode cX12_isAllowed 73 = .ok (.bipush 9, 2) := by decide +kernel
theorem dX12_isAllowed_75 : decode cX12_isAllowed 75 = .ok (.if_icmp .gt 13, 3) := by decide +kernel
theorem dX12_isAllowed_78 : decode cX12_isAllowed 78 = .ok (.iload 4, 2) := by decide +kernel
theorem dX12_isAllowed_80 : decode cX12_isAllowed 80 = .ok (.iload_n 2, 1) := by decide +kernel
theorem dX12_isAllowed_81 : decode cX12_isAllowed 81 = .ok (.if_icmp .gt 7, 3) := by decide +kernel
theorem dX12_isAllowed_84 : decode cX12_isAllowed 84 = .ok (.iconst 1, 1) := by decide +kernel
theorem dX12_isAllowed_85 : decode cX12_isAllowed 85 = .ok (.goto 4, 3) := by decide +kernel
theorem dX12_isAllowed_88 : decode cX12_isAllowed 88 = .ok (.iconst 0, 1) := by decide +kernel
theorem dX12_isAllowed_89 : decode cX12_isAllowed 89 = .ok (.ireturn, 1) := by decide +kernel
theorem dX12_worthOf_0 : decode cX12_worthOf 0 = .ok (.iconst 0, 1) := by decide +kernel
theorem dX12_worthOf_1 : decode cX12_worthOf 1 = .ok (.istore_n 2, 1) := by decide +kernel
theorem dX12_worthOf_2 : decode cX12_worthOf 2 = .ok (.iconst 0, 1) := by decide +kernel
theorem dX12_worthOf_3 : decode cX12_worthOf 3 = .ok (.istore_n 3, 1) := by decide +kernel
theorem dX12_worthOf_4 : decode cX12_worthOf 4 = .ok (.iload_n 3, 1) := by decide +kernel
theorem dX12_worthOf_5 : decode cX12_worthOf 5 = .ok (.bipush 10, 2) := by decide +kernel
theorem dX12_worthOf_7 : decode cX12_worthOf 7 = .ok (.if_icmp .ge 117, 3) := by decide +kernel
theorem dX12_worthOf_10 : decode cX12_worthOf 10 = .ok (.iload_n 2, 1) := by decide +kernel
theorem dX12_worthOf_11 : decode cX12_worthOf 11 = .ok (.aload_n 0, 1) := by decide +kernel
theorem dX12_worthOf_12 : decode cX12_worthOf 12 = .ok (.getfield 7, 3) := by decide +kernel
theorem dX12_worthOf_15 : decode cX12_worthOf 15 = .ok (.bipush 9, 2) := by decide +kernel
theorem dX12_worthOf_17 : decode cX12_worthOf 17 = .ok (.iaload, 1) := by decide +kernel
theorem dX12_worthOf_18 : decode cX12_worthOf 18 = .ok (.aload_n 0, 1) := by decide +kernel
theorem dX12_worthOf_19 : decode cX12_worthOf 19 = .ok (.iload_n 3, 1) := by decide +kernel
theorem dX12_worthOf_20 : decode cX12_worthOf 20 = .ok (.iload_n 1, 1) := by decide +kernel
theorem dX12_worthOf_21 : decode cX12_worthOf 21 = .ok (.iload_n 3, 1) := by decide +kernel
theorem dX12_worthOf_22 : decode cX12_worthOf 22 = .ok (.invokestatic 198, 3) := by decide +kernel
theorem dX12_worthOf_25 : decode cX12_worthOf 25 = .ok (.invokevirtual 221, 3) := by decide +kernel
theorem dX12_worthOf_28 : decode cX12_worthOf 28 = .ok (.imul, 1) := by decide +kernel
theorem dX12_worthOf_29 : decode cX12_worthOf 29 = .ok (.isub, 1) := by decide +kernel
theorem dX12_worthOf_30 : decode cX12_worthOf 30 = .ok (.istore_n 2, 1) := by decide +kernel
theorem dX12_worthOf_31 : decode cX12_worthOf 31 = .ok (.iload_n 1, 1) := by decide +kernel
theorem dX12_worthOf_32 : decode cX12_worthOf 32 = .ok (.iload_n 3, 1) := by decide +kernel
theorem dX12_worthOf_33 : decode cX12_worthOf 33 = .ok (.invokestatic 198, 3) := by decide +kernel
theorem dX12_worthOf_36 : decode cX12_worthOf 36 = .ok (.ifCond .ne 6, 3) := by decide +kernel
theorem dX12_worthOf_39 : decode cX12_worthOf 39 = .ok (.goto 79, 3) := by decide +kernel
theorem dX12_worthOf_42 : decode cX12_worthOf 42 = .ok (.iload_n 2, 1) := by decide +kernel
theorem dX12_worthOf_43 : decode cX12_worthOf 43 = .ok (.aload_n 0, 1) := by decide +kernel
theorem dX12_worthOf_44 : decode cX12_worthOf 44 = .ok (.getfield 7, 3) := by decide +kernel
theorem dX12_worthOf_47 : decode cX12_worthOf 47 = .ok (.bipush 19, 2) := by decide +kernel
theorem dX12_worthOf_49 : decode cX12_worthOf 49 = .ok (.iload_n 3, 1) := by decide +kernel
theorem dX12_worthOf_50 : decode cX12_worthOf 50 = .ok (.iadd, 1) := by decide +kernel
theorem dX12_worthOf_51 : decode cX12_worthOf 51 = .ok (.iaload, 1) := by decide +kernel
theorem dX12_worthOf_52 : decode cX12_worthOf 52 = .ok (.aload_n 0, 1) := by decide +kernel
theorem dX12_worthOf_53 : decode cX12_worthOf 53 = .ok (.iload_n 3, 1) := by decide +kernel
theorem dX12_worthOf_54 : decode cX12_worthOf 54 = .ok (.invokevirtual 157, 3) := by decide +kernel
theorem dX12_worthOf_57 : decode cX12_worthOf 57 = .ok (.ifCond .eq 17, 3) := by decide +kernel
theorem dX12_worthOf_60 : decode cX12_worthOf 60 = .ok (.aload_n 0, 1) := by decide +kernel
theorem dX12_worthOf_61 : decode cX12_worthOf 61 = .ok (.getfield 7, 3) := by decide +kernel
theorem dX12_worthOf_64 : decode cX12_worthOf 64 = .ok (.bipush 19, 2) := by decide +kernel
theorem dX12_worthOf_66 : decode cX12_worthOf 66 = .ok (.iload_n 3, 1) := by decide +kernel
theorem dX12_worthOf_67 : decode cX12_worthOf 67 = .ok (.iadd, 1) := by decide +kernel
theorem dX12_worthOf_68 : decode cX12_worthOf 68 = .ok (.iaload, 1) := by decide +kernel
theorem dX12_worthOf_69 : decode cX12_worthOf 69 = .ok (.iconst 4, 1) := by decide +kernel
theorem dX12_worthOf_70 : decode cX12_worthOf 70 = .ok (.idiv, 1) := by decide +kernel
theorem dX12_worthOf_71 : decode cX12_worthOf 71 = .ok (.goto 4, 3) := by decide +kernel
theorem dX12_worthOf_74 : decode cX12_worthOf 74 = .ok (.iconst 0, 1) := by decide +kernel
theorem dX12_worthOf_75 : decode cX12_worthOf 75 = .ok (.iadd, 1) := by decide +kernel
theorem dX12_worthOf_76 : decode cX12_worthOf 76 = .ok (.iadd, 1) := by decide +kernel
theorem dX12_worthOf_77 : decode cX12_worthOf 77 = .ok (.istore_n 2, 1) := by decide +kernel
theorem dX12_worthOf_78 : decode cX12_worthOf 78 = .ok (.iload_n 2, 1) := by decide +kernel
theorem dX12_worthOf_79 : decode cX12_worthOf 79 = .ok (.aload_n 0, 1) := by decide +kernel
theorem dX12_worthOf_80 : decode cX12_worthOf 80 = .ok (.getfield 7, 3) := by decide +kernel
theorem dX12_worthOf_83 : decode cX12_worthOf 83 = .ok (.bipush 69, 2) := by decide +kernel
theorem dX12_worthOf_85 : decode cX12_worthOf 85 = .ok (.iload_n 3, 1) := by decide +kernel
theorem dX12_worthOf_86 : decode cX12_worthOf 86 = .ok (.iadd, 1) := by decide +kernel
theorem dX12_worthOf_87 : decode cX12_worthOf 87 = .ok (.iaload, 1) := by decide +kernel
theorem dX12_worthOf_88 : decode cX12_worthOf 88 = .ok (.iconst 1, 1) := by decide +kernel
theorem dX12_worthOf_89 : decode cX12_worthOf 89 = .ok (.if_icmp .ne 8, 3) := by decide +kernel
theorem dX12_worthOf_92 : decode cX12_worthOf 92 = .ok (.ldc 225, 2) := by decide +kernel
theorem dX12_worthOf_94 : decode cX12_worthOf 94 = .ok (.goto 22, 3) := by decide +kernel
theorem dX12_worthOf_97 : decode cX12_worthOf 97 = .ok (.aload_n 0, 1) := by decide +kernel
theorem dX12_worthOf_98 : decode cX12_worthOf 98 = .ok (.getfield 7, 3) := by decide +kernel
theorem dX12_worthOf_101 : decode cX12_worthOf 101 = .ok (.bipush 69, 2) := by decide +kernel
theorem dX12_worthOf_103 : decode cX12_worthOf 103 = .ok (.iload_n 3, 1) := by decide +kernel
theorem dX12_worthOf_104 : decode cX12_worthOf 104 = .ok (.iadd, 1) := by decide +kernel
theorem dX12_worthOf_105 : decode cX12_worthOf 105 = .ok (.iaload, 1) := by decide +kernel
theorem dX12_worthOf_106 : decode cX12_worthOf 106 = .ok (.iconst 2, 1) := by decide +kernel
theorem dX12_worthOf_107 : decode cX12_worthOf 107 = .ok (.if_icmp .ne 8, 3) := by decide +kernel
theorem dX12_worthOf_110 : decode cX12_worthOf 110 = .ok (.ldc 226, 2) := by decide +kernel
theorem dX12_worthOf_112 : decode cX12_worthOf 112 = .ok (.goto 4, 3) := by decide +kernel
theorem dX12_worthOf_115 : decode cX12_worthOf 115 = .ok (.iconst 0, 1) := by decide +kernel
theorem dX12_worthOf_116 : decode cX12_worthOf 116 = .ok (.iadd, 1) := by decide +kernel
theorem dX12_worthOf_117 : decode cX12_worthOf 117 = .ok (.istore_n 2, 1) := by decide +kernel
theorem dX12_worthOf_118 : decode cX12_worthOf 118 = .ok (.iinc 3 1, 3) := by decide +kernel
theorem dX12_worthOf_121 : decode cX12_worthOf 121 = .ok (.goto (-117), 3) := by decide +kernel
theorem dX12_worthOf_124 : decode cX12_worthOf 124 = .ok (.iload_n 2, 1) := by decide +kernel
theorem dX12_worthOf_125 : decode cX12_worthOf 125 = .ok (.ireturn, 1) := by decide +kernel
theorem dX12_bestSet_0 : decode cX12_bestSet 0 = .ok (.iconst (-1), 1) := by decide +kernel
theorem dX12_bestSet_1 : decode cX12_bestSet 1 = .ok (.istore_n 2, 1) := by decide +kernel
theorem dX12_bestSet_2 : decode cX12_bestSet 2 = .ok (.iconst 0, 1) := by decide +kernel
theorem dX12_bestSet_3 : decode cX12_bestSet 3 = .ok (.istore_n 3, 1) := by decide +kernel
theorem dX12_bestSet_4 : decode cX12_bestSet 4 = .ok (.iload_n 3, 1) := by decide +kernel
theorem dX12_bestSet_5 : decode cX12_bestSet 5 = .ok (.sipush 1024, 3) := by decide +kernel
theorem dX12_bestSet_8 : decode cX12_bestSet 8 = .ok (.if_icmp .ge 38, 3) := by decide +kernel
theorem dX12_bestSet_11 : decode cX12_bestSet 11 = .ok (.aload_n 0, 1) := by decide +kernel
theorem dX12_bestSet_12 : decode cX12_bestSet 12 = .ok (.iload_n 3, 1) := by decide +kernel
theorem dX12_bestSet_13 : decode cX12_bestSet 13 = .ok (.iload_n 1, 1) := by decide +kernel
theorem dX12_bestSet_14 : decode cX12_bestSet 14 = .ok (.invokevirtual 227, 3) := by decide +kernel
theorem dX12_bestSet_17 : decode cX12_bestSet 17 = .ok (.ifCond .eq 23, 3) := by decide +kernel
theorem dX12_bestSet_20 : decode cX12_bestSet 20 = .ok (.iload_n 2, 1) := by decide +kernel
theorem dX12_bestSet_21 : decode cX12_bestSet 21 = .ok (.iconst (-1), 1) := by decide +kernel
theorem dX12_bestSet_22 : decode cX12_bestSet 22 = .ok (.if_icmp .eq 16, 3) := by decide +kernel
theorem dX12_bestSet_25 : decode cX12_bestSet 25 = .ok (.aload_n 0, 1) := by decide +kernel
theorem dX12_bestSet_26 : decode cX12_bestSet 26 = .ok (.iload_n 3, 1) := by decide +kernel
theorem dX12_bestSet_27 : decode cX12_bestSet 27 = .ok (.invokevirtual 230, 3) := by decide +kernel
theorem dX12_bestSet_30 : decode cX12_bestSet 30 = .ok (.aload_n 0, 1) := by decide +kernel
theorem dX12_bestSet_31 : decode cX12_bestSet 31 = .ok (.iload_n 2, 1) := by decide +kernel
theorem dX12_bestSet_32 : decode cX12_bestSet 32 = .ok (.invokevirtual 230, 3) := by decide +kernel
theorem dX12_bestSet_35 : decode cX12_bestSet 35 = .ok (.if_icmp .le 5, 3) := by decide +kernel
theorem dX12_bestSet_38 : decode cX12_bestSet 38 = .ok (.iload_n 3, 1) := by decide +kernel
theorem dX12_bestSet_39 : decode cX12_bestSet 39 = .ok (.istore_n 2, 1) := by decide +kernel
theorem dX12_bestSet_40 : decode cX12_bestSet 40 = .ok (.iinc 3 1, 3) := by decide +kernel
theorem dX12_bestSet_43 : decode cX12_bestSet 43 = .ok (.goto (-39), 3) := by decide +kernel
theorem dX12_bestSet_46 : decode cX12_bestSet 46 = .ok (.iload_n 2, 1) := by decide +kernel
theorem dX12_bestSet_47 : decode cX12_bestSet 47 = .ok (.ireturn, 1) := by decide +kernel
theorem dX12_layNew_0 : decode cX12_layNew 0 = .ok (.iconst 0, 1) := by decide +kernel
theorem dX12_layNew_1 : decode cX12_layNew 1 = .ok (.istore_n 2, 1) := by decide +kernel
theorem dX12_layNew_2 : decode cX12_layNew 2 = .ok (.iconst 0, 1) := by decide +kernel
theorem dX12_layNew_3 : decode cX12_layNew 3 = .ok (.istore_n 3, 1) := by decide +kernel
theorem dX12_layNew_4 : decode cX12_layNew 4 = .ok (.iload_n 3, 1) := by decide +kernel
theorem dX12_layNew_5 : decode cX12_layNew 5 = .ok (.bipush 10, 2) := by decide +kernel
theorem dX12_layNew_7 : decode cX12_layNew 7 = .ok (.if_icmp .ge 47, 3) := by decide +kernel
theorem dX12_layNew_10 : decode cX12_layNew 10 = .ok (.aload_n 0, 1) := by decide +kernel
theorem dX12_layNew_11 : decode cX12_layNew 11 = .ok (.iload_n 3, 1) := by decide +kernel
theorem dX12_layNew_12 : decode cX12_layNew 12 = .ok (.invokevirtual 157, 3) := by decide +kernel
theorem dX12_layNew_15 : decode cX12_layNew 15 = .ok (.ifCond .eq 33, 3) := by decide +kernel
theorem dX12_layNew_18 : decode cX12_layNew 18 = .ok (.iload_n 1, 1) := by decide +kernel
theorem dX12_layNew_19 : decode cX12_layNew 19 = .ok (.iload_n 3, 1) := by decide +kernel
theorem dX12_layNew_20 : decode cX12_layNew 20 = .ok (.invokestatic 198, 3) := by decide +kernel
theorem dX12_layNew_23 : decode cX12_layNew 23 = .ok (.ifCond .ne 25, 3) := by decide +kernel
theorem dX12_layNew_26 : decode cX12_layNew 26 = .ok (.aload_n 0, 1) := by decide +kernel
theorem dX12_layNew_27 : decode cX12_layNew 27 = .ok (.iload_n 3, 1) := by decide +kernel
theorem dX12_layNew_28 : decode cX12_layNew 28 = .ok (.invokevirtual 211, 3) := by decide +kernel
theorem dX12_layNew_31 : decode cX12_layNew 31 = .ok (.iconst (-1), 1) := by decide +kernel
theorem dX12_layNew_32 : decode cX12_layNew 32 = .ok (.if_icmp .eq 6, 3) := by decide +kernel
theorem dX12_layNew_35 : decode cX12_layNew 35 = .ok (.goto 13, 3) := by decide +kernel
theorem dX12_layNew_38 : decode cX12_layNew 38 = .ok (.aload_n 0, 1) := by decide +kernel
theorem dX12_layNew_39 : decode cX12_layNew 39 = .ok (.getfield 33, 3) := by decide +kernel
theorem dX12_layNew_42 : decode cX12_layNew 42 = .ok (.iload_n 2, 1) := by decide +kernel
theorem dX12_layNew_43 : decode cX12_layNew 43 = .ok (.iload_n 3, 1) := by decide +kernel
theorem dX12_layNew_44 : decode cX12_layNew 44 = .ok (.iastore, 1) := by decide +kernel
theorem dX12_layNew_45 : decode cX12_layNew 45 = .ok (.iinc 2 1, 3) := by decide +kernel
theorem dX12_layNew_48 : decode cX12_layNew 48 = .ok (.iinc 3 1, 3) := by decide +kernel
theorem dX12_layNew_51 : decode cX12_layNew 51 = .ok (.goto (-47), 3) := by decide +kernel
theorem dX12_layNew_54 : decode cX12_layNew 54 = .ok (.iload_n 2, 1) := by decide +kernel
theorem dX12_layNew_55 : decode cX12_layNew 55 = .ok (.istore_n 3, 1) := by decide +kernel
theorem dX12_layNew_56 : decode cX12_layNew 56 = .ok (.iconst 0, 1) := by decide +kernel
theorem dX12_layNew_57 : decode cX12_layNew 57 = .ok (.istore 4, 2) := by decide +kernel
theorem dX12_layNew_59 : decode cX12_layNew 59 = .ok (.iload 4, 2) := by decide +kernel
theorem dX12_layNew_61 : decode cX12_layNew 61 = .ok (.bipush 10, 2) := by decide +kernel
theorem dX12_layNew_63 : decode cX12_layNew 63 = .ok (.if_icmp .ge 113, 3) := by decide +kernel
theorem dX12_layNew_66 : decode cX12_layNew 66 = .ok (.aload_n 0, 1) := by decide +kernel
theorem dX12_layNew_67 : decode cX12_layNew 67 = .ok (.iload 4, 2) := by decide +kernel
theorem dX12_layNew_69 : decode cX12_layNew 69 = .ok (.invokevirtual 157, 3) := by decide +kernel
theorem dX12_layNew_72 : decode cX12_layNew 72 = .ok (.ifCond .ne 98, 3) := by decide +kernel
theorem dX12_layNew_75 : decode cX12_layNew 75 = .ok (.iload_n 1, 1) := by decide +kernel
theorem dX12_layNew_76 : decode cX12_layNew 76 = .ok (.iload 4, 2) := by decide +kernel
theorem dX12_layNew_78 : decode cX12_layNew 78 = .ok (.invokestatic 198, 3) := by decide +kernel
theorem dX12_layNew_81 : decode cX12_layNew 81 = .ok (.ifCond .eq 89, 3) := by decide +kernel
theorem dX12_layNew_84 : decode cX12_layNew 84 = .ok (.aload_n 0, 1) := by decide +kernel
theorem dX12_layNew_85 : decode cX12_layNew 85 = .ok (.iload 4, 2) := by decide +kernel
theorem dX12_layNew_87 : decode cX12_layNew 87 = .ok (.invokevirtual 211, 3) := by decide +kernel
theorem dX12_layNew_90 : decode cX12_layNew 90 = .ok (.iconst (-1), 1) := by decide +kernel
theorem dX12_layNew_91 : decode cX12_layNew 91 = .ok (.if_icmp .eq 6, 3) := by decide +kernel
theorem dX12_layNew_94 : decode cX12_layNew 94 = .ok (.goto 76, 3) := by decide +kernel
theorem dX12_layNew_97 : decode cX12_layNew 97 = .ok (.iload_n 2, 1) := by decide +kernel
theorem dX12_layNew_98 : decode cX12_layNew 98 = .ok (.istore 5, 2) := by decide +kernel
theorem dX12_layNew_100 : decode cX12_layNew 100 = .ok (.iload 5, 2) := by decide +kernel
theorem dX12_layNew_102 : decode cX12_layNew 102 = .ok (.iload_n 3, 1) := by decide +kernel
theorem dX12_layNew_103 : decode cX12_layNew 103 = .ok (.if_icmp .le 55, 3) := by decide +kernel
theorem dX12_layNew_106 : decode cX12_layNew 106 = .ok (.aload_n 0, 1) := by decide +kernel
theorem dX12_layNew_107 : decode cX12_layNew 107 = .ok (.getfield 7, 3) := by decide +kernel
theorem dX12_layNew_110 : decode cX12_layNew 110 = .ok (.bipush 19, 2) := by decide +kernel
theorem dX12_layNew_112 : decode cX12_layNew 112 = .ok (.aload_n 0, 1) := by decide +kernel
theorem dX12_layNew_113 : decode cX12_layNew 113 = .ok (.getfield 33, 3) := by decide +kernel
theorem dX12_layNew_116 : decode cX12_layNew 116 = .ok (.iload 5, 2) := by decide +kernel
theorem dX12_layNew_118 : decode cX12_layNew 118 = .ok (.iconst 1, 1) := by decide +kernel
theorem dX12_layNew_119 : decode cX12_layNew 119 = .ok (.isub, 1) := by decide +kernel
theorem dX12_layNew_120 : decode cX12_layNew 120 = .ok (.iaload, 1) := by decide +kernel
theorem dX12_layNew_121 : decode cX12_layNew 121 = .ok (.iadd, 1) := by decide +kernel
theorem dX12_layNew_122 : decode cX12_layNew 122 = .ok (.iaload, 1) := by decide +kernel
theorem dX12_layNew_123 : decode cX12_layNew 123 = .ok (.aload_n 0, 1) := by decide +kernel
theorem dX12_layNew_124 : decode cX12_layNew 124 = .ok (.getfield 7, 3) := by decide +kernel
theorem dX12_layNew_127 : decode cX12_layNew 127 = .ok (.bipush 19, 2) := by decide +kernel
theorem dX12_layNew_129 : decode cX12_layNew 129 = .ok (.iload 4, 2) := by decide +kernel
theorem dX12_layNew_131 : decode cX12_layNew 131 = .ok (.iadd, 1) := by decide +kernel
theorem dX12_layNew_132 : decode cX12_layNew 132 = .ok (.iaload, 1) := by decide +kernel
theorem dX12_layNew_133 : decode cX12_layNew 133 = .ok (.if_icmp .ge 25, 3) := by decide +kernel
theorem dX12_layNew_136 : decode cX12_layNew 136 = .ok (.aload_n 0, 1) := by decide +kernel
theorem dX12_layNew_137 : decode cX12_layNew 137 = .ok (.getfield 33, 3) := by decide +kernel
theorem dX12_layNew_140 : decode cX12_layNew 140 = .ok (.iload 5, 2) := by decide +kernel
theorem dX12_layNew_142 : decode cX12_layNew 142 = .ok (.aload_n 0, 1) := by decide +kernel
theorem dX12_layNew_143 : decode cX12_layNew 143 = .ok (.getfield 33, 3) := by decide +kernel
theorem dX12_layNew_146 : decode cX12_layNew 146 = .ok (.iload 5, 2) := by decide +kernel
theorem dX12_layNew_148 : decode cX12_layNew 148 = .ok (.iconst 1, 1) := by decide +kernel
theorem dX12_layNew_149 : decode cX12_layNew 149 = .ok (.isub, 1) := by decide +kernel
theorem dX12_layNew_150 : decode cX12_layNew 150 = .ok (.iaload, 1) := by decide +kernel
theorem dX12_layNew_151 : decode cX12_layNew 151 = .ok (.iastore, 1) := by decide +kernel
theorem dX12_layNew_152 : decode cX12_layNew 152 = .ok (.iinc 5 (-1), 3) := by decide +kernel
theorem dX12_layNew_155 : decode cX12_layNew 155 = .ok (.goto (-55), 3) := by decide +kernel
theorem dX12_layNew_158 : decode cX12_layNew 158 = .ok (.aload_n 0, 1) := by decide +kernel
theorem dX12_layNew_159 : decode cX12_layNew 159 = .ok (.getfield 33, 3) := by decide +kernel
theorem dX12_layNew_162 : decode cX12_layNew 162 = .ok (.iload 5, 2) := by decide +kernel
theorem dX12_layNew_164 : decode cX12_layNew 164 = .ok (.iload 4, 2) := by decide +kernel
theorem dX12_layNew_166 : decode cX12_layNew 166 = .ok (.iastore, 1) := by decide +kernel
theorem dX12_layNew_167 : decode cX12_layNew 167 = .ok (.iinc 2 1, 3) := by decide +kernel
theorem dX12_layNew_170 : decode cX12_layNew 170 = .ok (.iinc 4 1, 3) := by decide +kernel
theorem dX12_layNew_173 : decode cX12_layNew 173 = .ok (.goto (-114), 3) := by decide +kernel
theorem dX12_layNew_176 : decode cX12_layNew 176 = .ok (.iload_n 2, 1) := by decide +kernel
theorem dX12_layNew_177 : decode cX12_layNew 177 = .ok (.ireturn, 1) := by decide +kernel
theorem dX12_makePlan_0 : decode cX12_makePlan 0 = .ok (.iconst 0, 1) := by decide +kernel
theorem dX12_makePlan_1 : decode cX12_makePlan 1 = .ok (.istore_n 1, 1) := by decide +kernel
theorem dX12_makePlan_2 : decode cX12_makePlan 2 = .ok (.iload_n 1, 1) := by decide +kernel
theorem dX12_makePlan_3 : decode cX12_makePlan 3 = .ok (.aload_n 0, 1) := by decide +kernel
theorem dX12_makePlan_4 : decode cX12_makePlan 4 = .ok (.getfield 7, 3) := by decide +kernel
theorem dX12_makePlan_7 : decode cX12_makePlan 7 = .ok (.bipush 17, 2) := by decide +kernel
theorem dX12_makePlan_9 : decode cX12_makePlan 9 = .ok (.iaload, 1) := by decide +kernel
theorem dX12_makePlan_10 : decode cX12_makePlan 10 = .ok (.if_icmp .ge 26, 3) := by decide +kernel
theorem dX12_makePlan_13 : decode cX12_makePlan 13 = .ok (.aload_n 0, 1) := by decide +kernel
theorem dX12_makePlan_14 : decode cX12_makePlan 14 = .ok (.iload_n 1, 1) := by decide +kernel
theorem dX12_makePlan_15 : decode cX12_makePlan 15 = .ok (.iconst 2, 1) := by decide +kernel
theorem dX12_makePlan_16 : decode cX12_makePlan 16 = .ok (.invokevirtual 176, 3) := by decide +kernel
theorem dX12_makePlan_19 : decode cX12_makePlan 19 = .ok (.ifCond .ne 11, 3) := by decide +kernel
theorem dX12_makePlan_22 : decode cX12_makePlan 22 = .ok (.aload_n 0, 1) := by decide +kernel
theorem dX12_makePlan_23 : decode cX12_makePlan 23 = .ok (.iload_n 1, 1) := by decide +kernel
theorem dX12_makePlan_24 : decode cX12_makePlan 24 = .ok (.invokevirtual 233, 3) := by decide +kernel
theorem dX12_makePlan_27 : decode cX12_makePlan 27 = .ok (.goto (-25), 3) := by decide +kernel
theorem dX12_makePlan_30 : decode cX12_makePlan 30 = .ok (.iinc 1 1, 3) := by decide +kernel
theorem dX12_makePlan_33 : decode cX12_makePlan 33 = .ok (.goto (-31), 3) := by decide +kernel
theorem dX12_makePlan_36 : decode cX12_makePlan 36 = .ok (.aload_n 0, 1) := by decide +kernel
theorem dX12_makePlan_37 : decode cX12_makePlan 37 = .ok (.aload_n 0, 1) := by decide +kernel
theorem dX12_makePlan_38 : decode cX12_makePlan 38 = .ok (.getfield 7, 3) := by decide +kernel
theorem dX12_makePlan_41 : decode cX12_makePlan 41 = .ok (.bipush 8, 2) := by decide +kernel
theorem dX12_makePlan_43 : decode cX12_makePlan 43 = .ok (.iaload, 1) := by decide +kernel
theorem dX12_makePlan_44 : decode cX12_makePlan 44 = .ok (.invokevirtual 236, 3) := by decide +kernel
theorem dX12_makePlan_47 : decode cX12_makePlan 47 = .ok (.istore_n 2, 1) := by decide +kernel
theorem dX12_makePlan_48 : decode cX12_makePlan 48 = .ok (.aload_n 0, 1) := by decide +kernel
theorem dX12_makePlan_49 : decode cX12_makePlan 49 = .ok (.iload_n 2, 1) := by decide +kernel
theorem dX12_makePlan_50 : decode cX12_makePlan 50 = .ok (.invokevirtual 239, 3) := by decide +kernel
theorem dX12_makePlan_53 : decode cX12_makePlan 53 = .ok (.istore_n 3, 1) := by decide +kernel
theorem dX12_makePlan_54 : decode cX12_makePlan 54 = .ok (.iconst 0, 1) := by decide +kernel
theorem dX12_makePlan_55 : decode cX12_makePlan 55 = .ok (.istore 4, 2) := by decide +kernel
theorem dX12_makePlan_57 : decode cX12_makePlan 57 = .ok (.iload 4, 2) := by decide +kernel
theorem dX12_makePlan_59 : decode cX12_makePlan 59 = .ok (.iload_n 3, 1) := by decide +kernel
theorem dX12_makePlan_60 : decode cX12_makePlan 60 = .ok (.if_icmp .ge 20, 3) := by decide +kernel
theorem dX12_makePlan_63 : decode cX12_makePlan 63 = .ok (.aload_n 0, 1) := by decide +kernel
theorem dX12_makePlan_64 : decode cX12_makePlan 64 = .ok (.aload_n 0, 1) := by decide +kernel
theorem dX12_makePlan_65 : decode cX12_makePlan 65 = .ok (.getfield 33, 3) := by decide +kernel
theorem dX12_makePlan_68 : decode cX12_makePlan 68 = .ok (.iload 4, 2) := by decide +kernel
theorem dX12_makePlan_70 : decode cX12_makePlan 70 = .ok (.iaload, 1) := by decide +kernel
theorem dX12_makePlan_71 : decode cX12_makePlan 71 = .ok (.invokevirtual 242, 3) := by decide +kernel
theorem dX12_makePlan_74 : decode cX12_makePlan 74 = .ok (.iinc 4 1, 3) := by decide +kernel
theorem dX12_makePlan_77 : decode cX12_makePlan 77 = .ok (.goto (-20), 3) := by decide +kernel
theorem dX12_makePlan_80 : decode cX12_makePlan 80 = .ok (.aload_n 0, 1) := by decide +kernel
theorem dX12_makePlan_81 : decode cX12_makePlan 81 = .ok (.iconst 3, 1) := by decide +kernel
theorem dX12_makePlan_82 : decode cX12_makePlan 82 = .ok (.iload_n 2, 1) := by decide +kernel
theorem dX12_makePlan_83 : decode cX12_makePlan 83 = .ok (.iload_n 3, 1) := by decide +kernel
theorem dX12_makePlan_84 : decode cX12_makePlan 84 = .ok (.invokevirtual 185, 3) := by decide +kernel
theorem dX12_makePlan_87 : decode cX12_makePlan 87 = .ok (.return_, 1) := by decide +kernel
theorem dX12_endEpoch_0 : decode cX12_endEpoch 0 = .ok (.aload_n 0, 1) := by decide +kernel
theorem dX12_endEpoch_1 : decode cX12_endEpoch 1 = .ok (.invokevirtual 245, 3) := by decide +kernel
theorem dX12_endEpoch_4 : decode cX12_endEpoch 4 = .ok (.aload_n 0, 1) := by decide +kernel
theorem dX12_endEpoch_5 : decode cX12_endEpoch 5 = .ok (.getfield 7, 3) := by decide +kernel
theorem dX12_endEpoch_8 : decode cX12_endEpoch 8 = .ok (.iconst 5, 1) := by decide +kernel
theorem dX12_endEpoch_9 : decode cX12_endEpoch 9 = .ok (.dup2, 1) := by decide +kernel
theorem dX12_endEpoch_10 : decode cX12_endEpoch 10 = .ok (.iaload, 1) := by decide +kernel
theorem dX12_endEpoch_11 : decode cX12_endEpoch 11 = .ok (.iconst 1, 1) := by decide +kernel
theorem dX12_endEpoch_12 : decode cX12_endEpoch 12 = .ok (.iadd, 1) := by decide +kernel
theorem dX12_endEpoch_13 : decode cX12_endEpoch 13 = .ok (.iastore, 1) := by decide +kernel
theorem dX12_endEpoch_14 : decode cX12_endEpoch 14 = .ok (.iconst 0, 1) := by decide +kernel
theorem dX12_endEpoch_15 : decode cX12_endEpoch 15 = .ok (.istore_n 1, 1) := by decide +kernel
theorem dX12_endEpoch_16 : decode cX12_endEpoch 16 = .ok (.iload_n 1, 1) := by decide +kernel
theorem dX12_endEpoch_17 : decode cX12_endEpoch 17 = .ok (.bipush 10, 2) := by decide +kernel
theorem dX12_endEpoch_19 : decode cX12_endEpoch 19 = .ok (.if_icmp .ge 102, 3) := by decide +kernel
theorem dX12_endEpoch_22 : decode cX12_endEpoch 22 = .ok (.aload_n 0, 1) := by decide +kernel
theorem dX12_endEpoch_23 : decode cX12_endEpoch 23 = .ok (.getfield 7, 3) := by decide +kernel
theorem dX12_endEpoch_26 : decode cX12_endEpoch 26 = .ok (.bipush 19, 2) := by decide +kernel
theorem dX12_endEpoch_28 : decode cX12_endEpoch 28 = .ok (.iload_n 1, 1) := by decide +kernel
theorem dX12_endEpoch_29 : decode cX12_endEpoch 29 = .ok (.iadd, 1) := by decide +kernel
theorem dX12_endEpoch_30 : decode cX12_endEpoch 30 = .ok (.dup2, 1) := by decide +kernel
theorem dX12_endEpoch_31 : decode cX12_endEpoch 31 = .ok (.iaload, 1) := by decide +kernel
theorem dX12_endEpoch_32 : decode cX12_endEpoch 32 = .ok (.iconst 1, 1) := by decide +kernel
theorem dX12_endEpoch_33 : decode cX12_endEpoch 33 = .ok (.ishr, 1) := by decide +kernel
theorem dX12_endEpoch_34 : decode cX12_endEpoch 34 = .ok (.iastore, 1) := by decide +kernel
theorem dX12_endEpoch_35 : decode cX12_endEpoch 35 = .ok (.aload_n 0, 1) := by decide +kernel
theorem dX12_endEpoch_36 : decode cX12_endEpoch 36 = .ok (.getfield 7, 3) := by decide +kernel
theorem dX12_endEpoch_39 : decode cX12_endEpoch 39 = .ok (.bipush 29, 2) := by decide +kernel
theorem dX12_endEpoch_41 : decode cX12_endEpoch 41 = .ok (.iload_n 1, 1) := by decide +kernel
theorem dX12_endEpoch_42 : decode cX12_endEpoch 42 = .ok (.iadd, 1) := by decide +kernel
theorem dX12_endEpoch_43 : decode cX12_endEpoch 43 = .ok (.aload_n 0, 1) := by decide +kernel
theorem dX12_endEpoch_44 : decode cX12_endEpoch 44 = .ok (.getfield 7, 3) := by decide +kernel
theorem dX12_endEpoch_47 : decode cX12_endEpoch 47 = .ok (.bipush 29, 2) := by decide +kernel
theorem dX12_endEpoch_49 : decode cX12_endEpoch 49 = .ok (.iload_n 1, 1) := by decide +kernel
theorem dX12_endEpoch_50 : decode cX12_endEpoch 50 = .ok (.iadd, 1) := by decide +kernel
theorem dX12_endEpoch_51 : decode cX12_endEpoch 51 = .ok (.iaload, 1) := by decide +kernel
theorem dX12_endEpoch_52 : decode cX12_endEpoch 52 = .ok (.iconst 1, 1) := by decide +kernel
theorem dX12_endEpoch_53 : decode cX12_endEpoch 53 = .ok (.ishl, 1) := by decide +kernel
theorem dX12_endEpoch_54 : decode cX12_endEpoch 54 = .ok (.sipush 255, 3) := by decide +kernel
theorem dX12_endEpoch_57 : decode cX12_endEpoch 57 = .ok (.iand, 1) := by decide +kernel
theorem dX12_endEpoch_58 : decode cX12_endEpoch 58 = .ok (.iastore, 1) := by decide +kernel
theorem dX12_endEpoch_59 : decode cX12_endEpoch 59 = .ok (.aload_n 0, 1) := by decide +kernel
theorem dX12_endEpoch_60 : decode cX12_endEpoch 60 = .ok (.getfield 7, 3) := by decide +kernel
theorem dX12_endEpoch_63 : decode cX12_endEpoch 63 = .ok (.bipush 39, 2) := by decide +kernel
theorem dX12_endEpoch_65 : decode cX12_endEpoch 65 = .ok (.iload_n 1, 1) := by decide +kernel
theorem dX12_endEpoch_66 : decode cX12_endEpoch 66 = .ok (.iadd, 1) := by decide +kernel
theorem dX12_endEpoch_67 : decode cX12_endEpoch 67 = .ok (.iconst 0, 1) := by decide +kernel
theorem dX12_endEpoch_68 : decode cX12_endEpoch 68 = .ok (.iastore, 1) := by decide +kernel
theorem dX12_endEpoch_69 : decode cX12_endEpoch 69 = .ok (.aload_n 0, 1) := by decide +kernel
theorem dX12_endEpoch_70 : decode cX12_endEpoch 70 = .ok (.getfield 7, 3) := by decide +kernel
theorem dX12_endEpoch_73 : decode cX12_endEpoch 73 = .ok (.bipush 49, 2) := by decide +kernel
theorem dX12_endEpoch_75 : decode cX12_endEpoch 75 = .ok (.iload_n 1, 1) := by decide +kernel
theorem dX12_endEpoch_76 : decode cX12_endEpoch 76 = .ok (.iadd, 1) := by decide +kernel
theorem dX12_endEpoch_77 : decode cX12_endEpoch 77 = .ok (.iconst 0, 1) := by decide +kernel
theorem dX12_endEpoch_78 : decode cX12_endEpoch 78 = .ok (.iastore, 1) := by decide +kernel
theorem dX12_endEpoch_79 : decode cX12_endEpoch 79 = .ok (.aload_n 0, 1) := by decide +kernel
theorem dX12_endEpoch_80 : decode cX12_endEpoch 80 = .ok (.getfield 7, 3) := by decide +kernel
theorem dX12_endEpoch_83 : decode cX12_endEpoch 83 = .ok (.bipush 89, 2) := by decide +kernel
theorem dX12_endEpoch_85 : decode cX12_endEpoch 85 = .ok (.iload_n 1, 1) := by decide +kernel
theorem dX12_endEpoch_86 : decode cX12_endEpoch 86 = .ok (.iadd, 1) := by decide +kernel
theorem dX12_endEpoch_87 : decode cX12_endEpoch 87 = .ok (.aload_n 0, 1) := by decide +kernel
theorem dX12_endEpoch_88 : decode cX12_endEpoch 88 = .ok (.getfield 7, 3) := by decide +kernel
theorem dX12_endEpoch_91 : decode cX12_endEpoch 91 = .ok (.bipush 19, 2) := by decide +kernel
theorem dX12_endEpoch_93 : decode cX12_endEpoch 93 = .ok (.iload_n 1, 1) := by decide +kernel
theorem dX12_endEpoch_94 : decode cX12_endEpoch 94 = .ok (.iadd, 1) := by decide +kernel
theorem dX12_endEpoch_95 : decode cX12_endEpoch 95 = .ok (.iaload, 1) := by decide +kernel
theorem dX12_endEpoch_96 : decode cX12_endEpoch 96 = .ok (.iastore, 1) := by decide +kernel
theorem dX12_endEpoch_97 : decode cX12_endEpoch 97 = .ok (.aload_n 0, 1) := by decide +kernel
theorem dX12_endEpoch_98 : decode cX12_endEpoch 98 = .ok (.getfield 7, 3) := by decide +kernel
theorem dX12_endEpoch_101 : decode cX12_endEpoch 101 = .ok (.bipush 99, 2) := by decide +kernel
theorem dX12_endEpoch_103 : decode cX12_endEpoch 103 = .ok (.iload_n 1, 1) := by decide +kernel
theorem dX12_endEpoch_104 : decode cX12_endEpoch 104 = .ok (.iadd, 1) := by decide +kernel
theorem dX12_endEpoch_105 : decode cX12_endEpoch 105 = .ok (.aload_n 0, 1) := by decide +kernel
theorem dX12_endEpoch_106 : decode cX12_endEpoch 106 = .ok (.getfield 7, 3) := by decide +kernel
theorem dX12_endEpoch_109 : decode cX12_endEpoch 109 = .ok (.bipush 29, 2) := by decide +kernel
theorem dX12_endEpoch_111 : decode cX12_endEpoch 111 = .ok (.iload_n 1, 1) := by decide +kernel
theorem dX12_endEpoch_112 : decode cX12_endEpoch 112 = .ok (.iadd, 1) := by decide +kernel
theorem dX12_endEpoch_113 : decode cX12_endEpoch 113 = .ok (.iaload, 1) := by decide +kernel
theorem dX12_endEpoch_114 : decode cX12_endEpoch 114 = .ok (.iastore, 1) := by decide +kernel
theorem dX12_endEpoch_115 : decode cX12_endEpoch 115 = .ok (.iinc 1 1, 3) := by decide +kernel
theorem dX12_endEpoch_118 : decode cX12_endEpoch 118 = .ok (.goto (-102), 3) := by decide +kernel
theorem dX12_endEpoch_121 : decode cX12_endEpoch 121 = .ok (.return_, 1) := by decide +kernel
theorem dX12_tick_0 : decode cX12_tick 0 = .ok (.aload_n 0, 1) := by decide +kernel
theorem dX12_tick_1 : decode cX12_tick 1 = .ok (.getfield 7, 3) := by decide +kernel
theorem dX12_tick_4 : decode cX12_tick 4 = .ok (.iconst 3, 1) := by decide +kernel
theorem dX12_tick_5 : decode cX12_tick 5 = .ok (.dup2, 1) := by decide +kernel
theorem dX12_tick_6 : decode cX12_tick 6 = .ok (.iaload, 1) := by decide +kernel
theorem dX12_tick_7 : decode cX12_tick 7 = .ok (.iconst 1, 1) := by decide +kernel
theorem dX12_tick_8 : decode cX12_tick 8 = .ok (.iadd, 1) := by decide +kernel
theorem dX12_tick_9 : decode cX12_tick 9 = .ok (.iastore, 1) := by decide +kernel
theorem dX12_tick_10 : decode cX12_tick 10 = .ok (.aload_n 0, 1) := by decide +kernel
theorem dX12_tick_11 : decode cX12_tick 11 = .ok (.invokevirtual 248, 3) := by decide +kernel
theorem dX12_tick_14 : decode cX12_tick 14 = .ok (.aload_n 0, 1) := by decide +kernel
theorem dX12_tick_15 : decode cX12_tick 15 = .ok (.getfield 7, 3) := by decide +kernel
theorem dX12_tick_18 : decode cX12_tick 18 = .ok (.iconst 3, 1) := by decide +kernel
theorem dX12_tick_19 : decode cX12_tick 19 = .ok (.iaload, 1) := by decide +kernel
theorem dX12_tick_20 : decode cX12_tick 20 = .ok (.iconst 4, 1) := by decide +kernel
theorem dX12_tick_21 : decode cX12_tick 21 = .ok (.irem, 1) := by decide +kernel
theorem dX12_tick_22 : decode cX12_tick 22 = .ok (.ifCond .ne 7, 3) := by decide +kernel
theorem dX12_tick_25 : decode cX12_tick 25 = .ok (.aload_n 0, 1) := by decide +kernel
theorem dX12_tick_26 : decode cX12_tick 26 = .ok (.invokevirtual 251, 3) := by decide +kernel
theorem dX12_tick_29 : decode cX12_tick 29 = .ok (.return_, 1) := by decide +kernel
theorem dX12_crashNow_0 : decode cX12_crashNow 0 = .ok (.aload_n 0, 1) := by decide +kernel
theorem dX12_crashNow_1 : decode cX12_crashNow 1 = .ok (.getfield 7, 3) := by decide +kernel
theorem dX12_crashNow_4 : decode cX12_crashNow 4 = .ok (.bipush 17, 2) := by decide +kernel
theorem dX12_crashNow_6 : decode cX12_crashNow 6 = .ok (.iaload, 1) := by decide +kernel
theorem dX12_crashNow_7 : decode cX12_crashNow 7 = .ok (.istore_n 1, 1) := by decide +kernel
theorem dX12_crashNow_8 : decode cX12_crashNow 8 = .ok (.aload_n 0, 1) := by decide +kernel
theorem dX12_crashNow_9 : decode cX12_crashNow 9 = .ok (.invokevirtual 189, 3) := by decide +kernel
theorem dX12_crashNow_12 : decode cX12_crashNow 12 = .ok (.istore_n 2, 1) := by decide +kernel
theorem dX12_crashNow_13 : decode cX12_crashNow 13 = .ok (.aload_n 0, 1) := by decide +kernel
theorem dX12_crashNow_14 : decode cX12_crashNow 14 = .ok (.getfield 7, 3) := by decide +kernel
theorem dX12_crashNow_17 : decode cX12_crashNow 17 = .ok (.bipush 17, 2) := by decide +kernel
theorem dX12_crashNow_19 : decode cX12_crashNow 19 = .ok (.iaload, 1) := by decide +kernel
theorem dX12_crashNow_20 : decode cX12_crashNow 20 = .ok (.ifCond .le 31, 3) := by decide +kernel
theorem dX12_crashNow_23 : decode cX12_crashNow 23 = .ok (.aload_n 0, 1) := by decide +kernel
theorem dX12_crashNow_24 : decode cX12_crashNow 24 = .ok (.iconst 0, 1) := by decide +kernel
theorem dX12_crashNow_25 : decode cX12_crashNow 25 = .ok (.iconst 1, 1) := by decide +kernel
theorem dX12_crashNow_26 : decode cX12_crashNow 26 = .ok (.invokevirtual 176, 3) := by decide +kernel
theorem dX12_crashNow_29 : decode cX12_crashNow 29 = .ok (.iconst 1, 1) := by decide +kernel
theorem dX12_crashNow_30 : decode cX12_crashNow 30 = .ok (.if_icmp .ne 13, 3) := by decide +kernel
theorem dX12_crashNow_33 : decode cX12_crashNow 33 = .ok (.aload_n 0, 1) := by decide +kernel
theorem dX12_crashNow_34 : decode cX12_crashNow 34 = .ok (.aload_n 0, 1) := by decide +kernel
theorem dX12_crashNow_35 : decode cX12_crashNow 35 = .ok (.iconst 0, 1) := by decide +kernel
theorem dX12_crashNow_36 : decode cX12_crashNow 36 = .ok (.iconst 0, 1) := by decide +kernel
theorem dX12_crashNow_37 : decode cX12_crashNow 37 = .ok (.invokevirtual 176, 3) := by decide +kernel
theorem dX12_crashNow_40 : decode cX12_crashNow 40 = .ok (.invokevirtual 179, 3) := by decide +kernel
theorem dX12_crashNow_43 : decode cX12_crashNow 43 = .ok (.aload_n 0, 1) := by decide +kernel
theorem dX12_crashNow_44 : decode cX12_crashNow 44 = .ok (.iconst 0, 1) := by decide +kernel
theorem dX12_crashNow_45 : decode cX12_crashNow 45 = .ok (.invokevirtual 182, 3) := by decide +kernel
theorem dX12_crashNow_48 : decode cX12_crashNow 48 = .ok (.goto (-35), 3) := by decide +kernel
theorem dX12_crashNow_51 : decode cX12_crashNow 51 = .ok (.aload_n 0, 1) := by decide +kernel
theorem dX12_crashNow_52 : decode cX12_crashNow 52 = .ok (.getfield 7, 3) := by decide +kernel
theorem dX12_crashNow_55 : decode cX12_crashNow 55 = .ok (.bipush 16, 2) := by decide +kernel
theorem dX12_crashNow_57 : decode cX12_crashNow 57 = .ok (.iaload, 1) := by decide +kernel
theorem dX12_crashNow_58 : decode cX12_crashNow 58 = .ok (.ifCond .le 11, 3) := by decide +kernel
theorem dX12_crashNow_61 : decode cX12_crashNow 61 = .ok (.aload_n 0, 1) := by decide +kernel
theorem dX12_crashNow_62 : decode cX12_crashNow 62 = .ok (.iconst 0, 1) := by decide +kernel
theorem dX12_crashNow_63 : decode cX12_crashNow 63 = .ok (.invokevirtual 154, 3) := by decide +kernel
theorem dX12_crashNow_66 : decode cX12_crashNow 66 = .ok (.goto (-15), 3) := by decide +kernel
theorem dX12_crashNow_69 : decode cX12_crashNow 69 = .ok (.iconst 0, 1) := by decide +kernel
theorem dX12_crashNow_70 : decode cX12_crashNow 70 = .ok (.istore_n 3, 1) := by decide +kernel
theorem dX12_crashNow_71 : decode cX12_crashNow 71 = .ok (.iload_n 3, 1) := by decide +kernel
theorem dX12_crashNow_72 : decode cX12_crashNow 72 = .ok (.bipush 10, 2) := by decide +kernel
theorem dX12_crashNow_74 : decode cX12_crashNow 74 = .ok (.if_icmp .ge 94, 3) := by decide +kernel
theorem dX12_crashNow_77 : decode cX12_crashNow 77 = .ok (.aload_n 0, 1) := by decide +kernel
theorem dX12_crashNow_78 : decode cX12_crashNow 78 = .ok (.getfield 7, 3) := by decide +kernel
theorem dX12_crashNow_81 : decode cX12_crashNow 81 = .ok (.bipush 19, 2) := by decide +kernel
theorem dX12_crashNow_83 : decode cX12_crashNow 83 = .ok (.iload_n 3, 1) := by decide +kernel
theorem dX12_crashNow_84 : decode cX12_crashNow 84 = .ok (.iadd, 1) := by decide +kernel
theorem dX12_crashNow_85 : decode cX12_crashNow 85 = .ok (.aload_n 0, 1) := by decide +kernel
theorem dX12_crashNow_86 : decode cX12_crashNow 86 = .ok (.getfield 7, 3) := by decide +kernel
theorem dX12_crashNow_89 : decode cX12_crashNow 89 = .ok (.bipush 89, 2) := by decide +kernel
theorem dX12_crashNow_91 : decode cX12_crashNow 91 = .ok (.iload_n 3, 1) := by decide +kernel
theorem dX12_crashNow_92 : decode cX12_crashNow 92 = .ok (.iadd, 1) := by decide +kernel
theorem dX12_crashNow_93 : decode cX12_crashNow 93 = .ok (.iaload, 1) := by decide +kernel
theorem dX12_crashNow_94 : decode cX12_crashNow 94 = .ok (.iastore, 1) := by decide +kernel
theorem dX12_crashNow_95 : decode cX12_crashNow 95 = .ok (.aload_n 0, 1) := by decide +kernel
theorem dX12_crashNow_96 : decode cX12_crashNow 96 = .ok (.getfield 7, 3) := by decide +kernel
theorem dX12_crashNow_99 : decode cX12_crashNow 99 = .ok (.bipush 29, 2) := by decide +kernel
theorem dX12_crashNow_101 : decode cX12_crashNow 101 = .ok (.iload_n 3, 1) := by decide +kernel
theorem dX12_crashNow_102 : decode cX12_crashNow 102 = .ok (.iadd, 1) := by decide +kernel
theorem dX12_crashNow_103 : decode cX12_crashNow 103 = .ok (.aload_n 0, 1) := by decide +kernel
theorem dX12_crashNow_104 : decode cX12_crashNow 104 = .ok (.getfield 7, 3) := by decide +kernel
theorem dX12_crashNow_107 : decode cX12_crashNow 107 = .ok (.bipush 99, 2) := by decide +kernel
theorem dX12_crashNow_109 : decode cX12_crashNow 109 = .ok (.iload_n 3, 1) := by decide +kernel
theorem dX12_crashNow_110 : decode cX12_crashNow 110 = .ok (.iadd, 1) := by decide +kernel
theorem dX12_crashNow_111 : decode cX12_crashNow 111 = .ok (.iaload, 1) := by decide +kernel
theorem dX12_crashNow_112 : decode cX12_crashNow 112 = .ok (.iastore, 1) := by decide +kernel
theorem dX12_crashNow_113 : decode cX12_crashNow 113 = .ok (.aload_n 0, 1) := by decide +kernel
theorem dX12_crashNow_114 : decode cX12_crashNow 114 = .ok (.getfield 7, 3) := by decide +kernel
theorem dX12_crashNow_117 : decode cX12_crashNow 117 = .ok (.bipush 39, 2) := by decide +kernel
theorem dX12_crashNow_119 : decode cX12_crashNow 119 = .ok (.iload_n 3, 1) := by decide +kernel
theorem dX12_crashNow_120 : decode cX12_crashNow 120 = .ok (.iadd, 1) := by decide +kernel
theorem dX12_crashNow_121 : decode cX12_crashNow 121 = .ok (.iconst 0, 1) := by decide +kernel
theorem dX12_crashNow_122 : decode cX12_crashNow 122 = .ok (.iastore, 1) := by decide +kernel
theorem dX12_crashNow_123 : decode cX12_crashNow 123 = .ok (.aload_n 0, 1) := by decide +kernel
theorem dX12_crashNow_124 : decode cX12_crashNow 124 = .ok (.getfield 7, 3) := by decide +kernel
theorem dX12_crashNow_127 : decode cX12_crashNow 127 = .ok (.bipush 49, 2) := by decide +kernel
theorem dX12_crashNow_129 : decode cX12_crashNow 129 = .ok (.iload_n 3, 1) := by decide +kernel
theorem dX12_crashNow_130 : decode cX12_crashNow 130 = .ok (.iadd, 1) := by decide +kernel
theorem dX12_crashNow_131 : decode cX12_crashNow 131 = .ok (.iconst 0, 1) := by decide +kernel
theorem dX12_crashNow_132 : decode cX12_crashNow 132 = .ok (.iastore, 1) := by decide +kernel
theorem dX12_crashNow_133 : decode cX12_crashNow 133 = .ok (.aload_n 0, 1) := by decide +kernel
theorem dX12_crashNow_134 : decode cX12_crashNow 134 = .ok (.getfield 7, 3) := by decide +kernel
theorem dX12_crashNow_137 : decode cX12_crashNow 137 = .ok (.bipush 79, 2) := by decide +kernel
theorem dX12_crashNow_139 : decode cX12_crashNow 139 = .ok (.iload_n 3, 1) := by decide +kernel
theorem dX12_crashNow_140 : decode cX12_crashNow 140 = .ok (.iadd, 1) := by decide +kernel
theorem dX12_crashNow_141 : decode cX12_crashNow 141 = .ok (.aload_n 0, 1) := by decide +kernel
theorem dX12_crashNow_142 : decode cX12_crashNow 142 = .ok (.iload_n 3, 1) := by decide +kernel
theorem dX12_crashNow_143 : decode cX12_crashNow 143 = .ok (.invokevirtual 157, 3) := by decide +kernel
theorem dX12_crashNow_146 : decode cX12_crashNow 146 = .ok (.ifCond .eq 14, 3) := by decide +kernel
theorem dX12_crashNow_149 : decode cX12_crashNow 149 = .ok (.iconst 1, 1) := by decide +kernel
theorem dX12_crashNow_150 : decode cX12_crashNow 150 = .ok (.iload_n 3, 1) := by decide +kernel
theorem dX12_crashNow_151 : decode cX12_crashNow 151 = .ok (.invokestatic 60, 3) := by decide +kernel
theorem dX12_crashNow_154 : decode cX12_crashNow 154 = .ok (.ishl, 1) := by decide +kernel
theorem dX12_crashNow_155 : decode cX12_crashNow 155 = .ok (.iconst 1, 1) := by decide +kernel
theorem dX12_crashNow_156 : decode cX12_crashNow 156 = .ok (.isub, 1) := by decide +kernel
theorem dX12_crashNow_157 : decode cX12_crashNow 157 = .ok (.goto 4, 3) := by decide +kernel
theorem dX12_crashNow_160 : decode cX12_crashNow 160 = .ok (.iconst 0, 1) := by decide +kernel
theorem dX12_crashNow_161 : decode cX12_crashNow 161 = .ok (.iastore, 1) := by decide +kernel
theorem dX12_crashNow_162 : decode cX12_crashNow 162 = .ok (.iinc 3 1, 3) := by decide +kernel
theorem dX12_crashNow_165 : decode cX12_crashNow 165 = .ok (.goto (-94), 3) := by decide +kernel
theorem dX12_crashNow_168 : decode cX12_crashNow 168 = .ok (.aload_n 0, 1) := by decide +kernel
theorem dX12_crashNow_169 : decode cX12_crashNow 169 = .ok (.getfield 7, 3) := by decide +kernel
theorem dX12_crashNow_172 : decode cX12_crashNow 172 = .ok (.bipush 15, 2) := by decide +kernel
theorem dX12_crashNow_174 : decode cX12_crashNow 174 = .ok (.dup2, 1) := by decide +kernel
theorem dX12_crashNow_175 : decode cX12_crashNow 175 = .ok (.iaload, 1) := by decide +kernel
theorem dX12_crashNow_176 : decode cX12_crashNow 176 = .ok (.iconst 1, 1) := by decide +kernel
theorem dX12_crashNow_177 : decode cX12_crashNow 177 = .ok (.iadd, 1) := by decide +kernel
theorem dX12_crashNow_178 : decode cX12_crashNow 178 = .ok (.iastore, 1) := by decide +kernel
theorem dX12_crashNow_179 : decode cX12_crashNow 179 = .ok (.aload_n 0, 1) := by decide +kernel
theorem dX12_crashNow_180 : decode cX12_crashNow 180 = .ok (.iconst 4, 1) := by decide +kernel
theorem dX12_crashNow_181 : decode cX12_crashNow 181 = .ok (.iload_n 1, 1) := by decide +kernel
theorem dX12_crashNow_182 : decode cX12_crashNow 182 = .ok (.aload_n 0, 1) := by decide +kernel
theorem dX12_crashNow_183 : decode cX12_crashNow 183 = .ok (.invokevirtual 189, 3) := by decide +kernel
theorem dX12_crashNow_186 : decode cX12_crashNow 186 = .ok (.iload_n 2, 1) := by decide +kernel
theorem dX12_crashNow_187 : decode cX12_crashNow 187 = .ok (.isub, 1) := by decide +kernel
theorem dX12_crashNow_188 : decode cX12_crashNow 188 = .ok (.invokevirtual 185, 3) := by decide +kernel
theorem dX12_crashNow_191 : decode cX12_crashNow 191 = .ok (.iload_n 1, 1) := by decide +kernel
theorem dX12_crashNow_192 : decode cX12_crashNow 192 = .ok (.ireturn, 1) := by decide +kernel
theorem dX12_scanNow_0 : decode cX12_scanNow 0 = .ok (.iconst 0, 1) := by decide +kernel
theorem dX12_scanNow_1 : decode cX12_scanNow 1 = .ok (.istore_n 3, 1) := by decide +kernel
theorem dX12_scanNow_2 : decode cX12_scanNow 2 = .ok (.iload_n 1, 1) := by decide +kernel
theorem dX12_scanNow_3 : decode cX12_scanNow 3 = .ok (.istore 4, 2) := by decide +kernel
theorem dX12_scanNow_5 : decode cX12_scanNow 5 = .ok (.iload 4, 2) := by decide +kernel
theorem dX12_scanNow_7 : decode cX12_scanNow 7 = .ok (.iload_n 2, 1) := by decide +kernel
theorem dX12_scanNow_8 : decode cX12_scanNow 8 = .ok (.if_icmp .gt 58, 3) := by decide +kernel
theorem dX12_scanNow_11 : decode cX12_scanNow 11 = .ok (.iload_n 3, 1) := by decide +kernel
theorem dX12_scanNow_12 : decode cX12_scanNow 12 = .ok (.aload_n 0, 1) := by decide +kernel
theorem dX12_scanNow_13 : decode cX12_scanNow 13 = .ok (.iload 4, 2) := by decide +kernel
theorem dX12_scanNow_15 : decode cX12_scanNow 15 = .ok (.invokevirtual 157, 3) := by decide +kernel
theorem dX12_scanNow_18 : decode cX12_scanNow 18 = .ok (.ifCond .eq 11, 3) := by decide +kernel
theorem dX12_scanNow_21 : decode cX12_scanNow 21 = .ok (.iload 4, 2) := by decide +kernel
theorem dX12_scanNow_23 : decode cX12_scanNow 23 = .ok (.invokestatic 60, 3) := by decide +kernel
theorem dX12_scanNow_26 : decode cX12_scanNow 26 = .ok (.goto 4, 3) := by decide +kernel
theorem dX12_scanNow_29 : decode cX12_scanNow 29 = .ok (.iconst 0, 1) := by decide +kernel
theorem dX12_scanNow_30 : decode cX12_scanNow 30 = .ok (.iadd, 1) := by decide +kernel
theorem dX12_scanNow_31 : decode cX12_scanNow 31 = .ok (.istore_n 3, 1) := by decide +kernel
theorem dX12_scanNow_32 : decode cX12_scanNow 32 = .ok (.iconst 0, 1) := by decide +kernel
theorem dX12_scanNow_33 : decode cX12_scanNow 33 = .ok (.istore 5, 2) := by decide +kernel
theorem dX12_scanNow_35 : decode cX12_scanNow 35 = .ok (.iload 5, 2) := by decide +kernel
theorem dX12_scanNow_37 : decode cX12_scanNow 37 = .ok (.iload 4, 2) := by decide +kernel
theorem dX12_scanNow_39 : decode cX12_scanNow 39 = .ok (.invokestatic 60, 3) := by decide +kernel
theorem dX12_scanNow_42 : decode cX12_scanNow 42 = .ok (.if_icmp .ge 18, 3) := by decide +kernel
theorem dX12_scanNow_45 : decode cX12_scanNow 45 = .ok (.aload_n 0, 1) := by decide +kernel
theorem dX12_scanNow_46 : decode cX12_scanNow 46 = .ok (.iload 4, 2) := by decide +kernel
theorem dX12_scanNow_48 : decode cX12_scanNow 48 = .ok (.iload 5, 2) := by decide +kernel
theorem dX12_scanNow_50 : decode cX12_scanNow 50 = .ok (.invokevirtual 254, 3) := by decide +kernel
theorem dX12_scanNow_53 : decode cX12_scanNow 53 = .ok (.pop, 1) := by decide +kernel
theorem dX12_scanNow_54 : decode cX12_scanNow 54 = .ok (.iinc 5 1, 3) := by decide +kernel
theorem dX12_scanNow_57 : decode cX12_scanNow 57 = .ok (.goto (-22), 3) := by decide +kernel
theorem dX12_scanNow_60 : decode cX12_scanNow 60 = .ok (.iinc 4 1, 3) := by decide +kernel
theorem dX12_scanNow_63 : decode cX12_scanNow 63 = .ok (.goto (-58), 3) := by decide +kernel
theorem dX12_scanNow_66 : decode cX12_scanNow 66 = .ok (.iload_n 3, 1) := by decide +kernel
theorem dX12_scanNow_67 : decode cX12_scanNow 67 = .ok (.ireturn, 1) := by decide +kernel
theorem dX12_ticks_0 : decode cX12_ticks 0 = .ok (.iconst 0, 1) := by decide +kernel
theorem dX12_ticks_1 : decode cX12_ticks 1 = .ok (.istore_n 2, 1) := by decide +kernel
theorem dX12_ticks_2 : decode cX12_ticks 2 = .ok (.iload_n 2, 1) := by decide +kernel
theorem dX12_ticks_3 : decode cX12_ticks 3 = .ok (.iload_n 1, 1) := by decide +kernel
theorem dX12_ticks_4 : decode cX12_ticks 4 = .ok (.if_icmp .ge 13, 3) := by decide +kernel
theorem dX12_ticks_7 : decode cX12_ticks 7 = .ok (.aload_n 0, 1) := by decide +kernel
theorem dX12_ticks_8 : decode cX12_ticks 8 = .ok (.invokevirtual 257, 3) := by decide +kernel
theorem dX12_ticks_11 : decode cX12_ticks 11 = .ok (.iinc 2 1, 3) := by decide +kernel
theorem dX12_ticks_14 : decode cX12_ticks 14 = .ok (.goto (-12), 3) := by decide +kernel
theorem dX12_ticks_17 : decode cX12_ticks 17 = .ok (.return_, 1) := by decide +kernel
theorem dX12_drawn_0 : decode cX12_drawn 0 = .ok (.aload_n 0, 1) := by decide +kernel
theorem dX12_drawn_1 : decode cX12_drawn 1 = .ok (.getfield 7, 3) := by decide +kernel
theorem dX12_drawn_4 : decode cX12_drawn 4 = .ok (.iconst 4, 1) := by decide +kernel
theorem dX12_drawn_5 : decode cX12_drawn 5 = .ok (.iaload, 1) := by decide +kernel
theorem dX12_drawn_6 : decode cX12_drawn 6 = .ok (.istore_n 1, 1) := by decide +kernel
theorem dX12_drawn_7 : decode cX12_drawn 7 = .ok (.aload_n 0, 1) := by decide +kernel
theorem dX12_drawn_8 : decode cX12_drawn 8 = .ok (.getfield 7, 3) := by decide +kernel
theorem dX12_drawn_11 : decode cX12_drawn 11 = .ok (.iconst 4, 1) := by decide +kernel
theorem dX12_drawn_12 : decode cX12_drawn 12 = .ok (.iload_n 1, 1) := by decide +kernel
theorem dX12_drawn_13 : decode cX12_drawn 13 = .ok (.i2l, 1) := by decide +kernel
theorem dX12_drawn_14 : decode cX12_drawn 14 = .ok (.ldc2_w 260, 3) := by decide +kernel
theorem dX12_drawn_17 : decode cX12_drawn 17 = .ok (.lmul, 1) := by decide +kernel
theorem dX12_drawn_18 : decode cX12_drawn 18 = .ok (.ldc2_w 262, 3) := by decide +kernel
theorem dX12_drawn_21 : decode cX12_drawn 21 = .ok (.ladd, 1) := by decide +kernel
theorem dX12_drawn_22 : decode cX12_drawn 22 = .ok (.ldc2_w 264, 3) := by decide +kernel
theorem dX12_drawn_25 : decode cX12_drawn 25 = .ok (.lrem, 1) := by decide +kernel
theorem dX12_drawn_26 : decode cX12_drawn 26 = .ok (.l2i, 1) := by decide +kernel
theorem dX12_drawn_27 : decode cX12_drawn 27 = .ok (.iastore, 1) := by decide +kernel
theorem dX12_drawn_28 : decode cX12_drawn 28 = .ok (.iload_n 1, 1) := by decide +kernel
theorem dX12_drawn_29 : decode cX12_drawn 29 = .ok (.ireturn, 1) := by decide +kernel
theorem dX12_happens_0 : decode cX12_happens 0 = .ok (.iload_n 1, 1) := by decide +kernel
theorem dX12_happens_1 : decode cX12_happens 1 = .ok (.bipush 10, 2) := by decide +kernel
theorem dX12_happens_3 : decode cX12_happens 3 = .ok (.idiv, 1) := by decide +kernel
theorem dX12_happens_4 : decode cX12_happens 4 = .ok (.bipush 10, 2) := by decide +kernel
theorem dX12_happens_6 : decode cX12_happens 6 = .ok (.irem, 1) := by decide +kernel
theorem dX12_happens_7 : decode cX12_happens 7 = .ok (.iload_n 1, 1) := by decide +kernel
theorem dX12_happens_8 : decode cX12_happens 8 = .ok (.bipush 100, 2) := by decide +kernel
theorem dX12_happens_10 : decode cX12_happens 10 = .ok (.idiv, 1) := by decide +kernel
theorem dX12_happens_11 : decode cX12_happens 11 = .ok (.bipush 10, 2) := by decide +kernel
theorem dX12_happens_13 : decode cX12_happens 13 = .ok (.irem, 1) := by decide +kernel
theorem dX12_happens_14 : decode cX12_happens 14 = .ok (.imul, 1) := by decide +kernel
theorem dX12_happens_15 : decode cX12_happens 15 = .ok (.bipush 10, 2) := by decide +kernel
theorem dX12_happens_17 : decode cX12_happens 17 = .ok (.idiv, 1) := by decide +kernel
theorem dX12_happens_18 : decode cX12_happens 18 = .ok (.istore_n 2, 1) := by decide +kernel
theorem dX12_happens_19 : decode cX12_happens 19 = .ok (.iload_n 1, 1) := by decide +kernel
theorem dX12_happens_20 : decode cX12_happens 20 = .ok (.bipush 10, 2) := by decide +kernel
theorem dX12_happens_22 : decode cX12_happens 22 = .ok (.irem, 1) := by decide +kernel
theorem dX12_happens_23 : decode cX12_happens 23 = .ok (.tableswitch 112 4 9 #[37, 37, 57, 81, 81, 88], 37) := by decide +kernel
theorem dX12_happens_60 : decode cX12_happens 60 = .ok (.aload_n 0, 1) := by decide +kernel
theorem dX12_happens_61 : decode cX12_happens 61 = .ok (.iload_n 2, 1) := by decide +kernel
theorem dX12_happens_62 : decode cX12_happens 62 = .ok (.iload_n 1, 1) := by decide +kernel
theorem dX12_happens_63 : decode cX12_happens 63 = .ok (.iload_n 2, 1) := by decide +kernel
theorem dX12_happens_64 : decode cX12_happens 64 = .ok (.invokestatic 60, 3) := by decide +kernel
theorem dX12_happens_67 : decode cX12_happens 67 = .ok (.irem, 1) := by decide +kernel
theorem dX12_happens_68 : decode cX12_happens 68 = .ok (.iload_n 1, 1) := by decide +kernel
theorem dX12_happens_69 : decode cX12_happens 69 = .ok (.sipush 1000, 3) := by decide +kernel
theorem dX12_happens_72 : decode cX12_happens 72 = .ok (.irem, 1) := by decide +kernel
theorem dX12_happens_73 : decode cX12_happens 73 = .ok (.invokevirtual 266, 3) := by decide +kernel
theorem dX12_happens_76 : decode cX12_happens 76 = .ok (.pop, 1) := by decide +kernel
theorem dX12_happens_77 : decode cX12_happens 77 = .ok (.goto 70, 3) := by decide +kernel
theorem dX12_happens_80 : decode cX12_happens 80 = .ok (.aload_n 0, 1) := by decide +kernel
theorem dX12_happens_81 : decode cX12_happens 81 = .ok (.iload_n 1, 1) := by decide +kernel
theorem dX12_happens_82 : decode cX12_happens 82 = .ok (.bipush 10, 2) := by decide +kernel
theorem dX12_happens_84 : decode cX12_happens 84 = .ok (.idiv, 1) := by decide +kernel
theorem dX12_happens_85 : decode cX12_happens 85 = .ok (.bipush 9, 2) := by decide +kernel
theorem dX12_happens_87 : decode cX12_happens 87 = .ok (.irem, 1) := by decide +kernel
theorem dX12_happens_88 : decode cX12_happens 88 = .ok (.iload_n 1, 1) := by decide +kernel
theorem dX12_happens_89 : decode cX12_happens 89 = .ok (.bipush 10, 2) := by decide +kernel
theorem dX12_happens_91 : decode cX12_happens 91 = .ok (.idiv, 1) := by decide +kernel
theorem dX12_happens_92 : decode cX12_happens 92 = .ok (.bipush 9, 2) := by decide +kernel
theorem dX12_happens_94 : decode cX12_happens 94 = .ok (.irem, 1) := by decide +kernel
theorem dX12_happens_95 : decode cX12_happens 95 = .ok (.iconst 1, 1) := by decide +kernel
theorem dX12_happens_96 : decode cX12_happens 96 = .ok (.iadd, 1) := by decide +kernel
theorem dX12_happens_97 : decode cX12_happens 97 = .ok (.invokevirtual 270, 3) := by decide +kernel
theorem dX12_happens_100 : decode cX12_happens 100 = .ok (.pop, 1) := by decide +kernel
theorem dX12_happens_101 : decode cX12_happens 101 = .ok (.goto 46, 3) := by decide +kernel
theorem dX12_happens_104 : decode cX12_happens 104 = .ok (.aload_n 0, 1) := by decide +kernel
theorem dX12_happens_105 : decode cX12_happens 105 = .ok (.invokevirtual 257, 3) := by decide +kernel
theorem dX12_happens_108 : decode cX12_happens 108 = .ok (.goto 39, 3) := by decide +kernel
theorem dX12_happens_111 : decode cX12_happens 111 = .ok (.iload_n 1, 1) := by decide +kernel
theorem dX12_happens_112 : decode cX12_happens 112 = .ok (.bipush 10, 2) := by decide +kernel
theorem dX12_happens_114 : decode cX12_happens 114 = .ok (.idiv, 1) := by decide +kernel
theorem dX12_happens_115 : decode cX12_happens 115 = .ok (.iconst 4, 1) := by decide +kernel
theorem dX12_happens_116 : decode cX12_happens 116 = .ok (.irem, 1) := by decide +kernel
theorem dX12_happens_117 : decode cX12_happens 117 = .ok (.ifCond .ne 11, 3) := by decide +kernel
theorem dX12_happens_120 : decode cX12_happens 120 = .ok (.aload_n 0, 1) := by decide +kernel
theorem dX12_happens_121 : decode cX12_happens 121 = .ok (.invokevirtual 273, 3) := by decide +kernel
theorem dX12_happens_124 : decode cX12_happens 124 = .ok (.pop, 1) := by decide +kernel
theorem dX12_happens_125 : decode cX12_happens 125 = .ok (.goto 22, 3) := by decide +kernel
theorem dX12_happens_128 : decode cX12_happens 128 = .ok (.aload_n 0, 1) := by decide +kernel
theorem dX12_happens_129 : decode cX12_happens 129 = .ok (.invokevirtual 257, 3) := by decide +kernel
theorem dX12_happens_132 : decode cX12_happens 132 = .ok (.goto 15, 3) := by decide +kernel
theorem dX12_happens_135 : decode cX12_happens 135 = .ok (.aload_n 0, 1) := by decide +kernel
theorem dX12_happens_136 : decode cX12_happens 136 = .ok (.iload_n 2, 1) := by decide +kernel
theorem dX12_happens_137 : decode cX12_happens 137 = .ok (.iload_n 1, 1) := by decide +kernel
theorem dX12_happens_138 : decode cX12_happens 138 = .ok (.iload_n 2, 1) := by decide +kernel
theorem dX12_happens_139 : decode cX12_happens 139 = .ok (.invokestatic 60, 3) := by decide +kernel
theorem dX12_happens_142 : decode cX12_happens 142 = .ok (.irem, 1) := by decide +kernel
theorem dX12_happens_143 : decode cX12_happens 143 = .ok (.invokevirtual 254, 3) := by decide +kernel
theorem dX12_happens_146 : decode cX12_happens 146 = .ok (.pop, 1) := by decide +kernel
theorem dX12_happens_147 : decode cX12_happens 147 = .ok (.return_, 1) := by decide +kernel
theorem dX12_tokenAt_0 : decode cX12_tokenAt 0 = .ok (.iload_n 1, 1) := by decide +kernel
theorem dX12_tokenAt_1 : decode cX12_tokenAt 1 = .ok (.aload_n 0, 1) := by decide +kernel
theorem dX12_tokenAt_2 : decode cX12_tokenAt 2 = .ok (.getfield 16, 3) := by decide +kernel
theorem dX12_tokenAt_5 : decode cX12_tokenAt 5 = .ok (.aload_n 0, 1) := by decide +kernel
theorem dX12_tokenAt_6 : decode cX12_tokenAt 6 = .ok (.getfield 107, 3) := by decide +kernel
theorem dX12_tokenAt_9 : decode cX12_tokenAt 9 = .ok (.iaload, 1) := by decide +kernel
theorem dX12_tokenAt_10 : decode cX12_tokenAt 10 = .ok (.if_icmp .ge 21, 3) := by decide +kernel
theorem dX12_tokenAt_13 : decode cX12_tokenAt 13 = .ok (.aload_n 0, 1) := by decide +kernel
theorem dX12_tokenAt_14 : decode cX12_tokenAt 14 = .ok (.getfield 16, 3) := by decide +kernel
theorem dX12_tokenAt_17 : decode cX12_tokenAt 17 = .ok (.aload_n 0, 1) := by decide +kernel
theorem dX12_tokenAt_18 : decode cX12_tokenAt 18 = .ok (.getfield 107, 3) := by decide +kernel
theorem dX12_tokenAt_21 : decode cX12_tokenAt 21 = .ok (.iconst 1, 1) := by decide +kernel
theorem dX12_tokenAt_22 : decode cX12_tokenAt 22 = .ok (.iadd, 1) := by decide +kernel
theorem dX12_tokenAt_23 : decode cX12_tokenAt 23 = .ok (.iconst 2, 1) := by decide +kernel
theorem dX12_tokenAt_24 : decode cX12_tokenAt 24 = .ok (.iload_n 1, 1) := by decide +kernel
theorem dX12_tokenAt_25 : decode cX12_tokenAt 25 = .ok (.imul, 1) := by decide +kernel
theorem dX12_tokenAt_26 : decode cX12_tokenAt 26 = .ok (.iadd, 1) := by decide +kernel
theorem dX12_tokenAt_27 : decode cX12_tokenAt 27 = .ok (.iaload, 1) := by decide +kernel
theorem dX12_tokenAt_28 : decode cX12_tokenAt 28 = .ok (.goto 4, 3) := by decide +kernel
theorem dX12_tokenAt_31 : decode cX12_tokenAt 31 = .ok (.iconst 0, 1) := by decide +kernel
theorem dX12_tokenAt_32 : decode cX12_tokenAt 32 = .ok (.ireturn, 1) := by decide +kernel
theorem dX12_numberAt_0 : decode cX12_numberAt 0 = .ok (.aload_n 0, 1) := by decide +kernel
theorem dX12_numberAt_1 : decode cX12_numberAt 1 = .ok (.getfield 16, 3) := by decide +kernel
theorem dX12_numberAt_4 : decode cX12_numberAt 4 = .ok (.aload_n 0, 1) := by decide +kernel
theorem dX12_numberAt_5 : decode cX12_numberAt 5 = .ok (.getfield 107, 3) := by decide +kernel
theorem dX12_numberAt_8 : decode cX12_numberAt 8 = .ok (.iconst 2, 1) := by decide +kernel
theorem dX12_numberAt_9 : decode cX12_numberAt 9 = .ok (.iadd, 1) := by decide +kernel
theorem dX12_numberAt_10 : decode cX12_numberAt 10 = .ok (.iconst 2, 1) := by decide +kernel
theorem dX12_numberAt_11 : decode cX12_numberAt 11 = .ok (.iload_n 1, 1) := by decide +kernel
theorem dX12_numberAt_12 : decode cX12_numberAt 12 = .ok (.imul, 1) := by decide +kernel
theorem dX12_numberAt_13 : decode cX12_numberAt 13 = .ok (.iadd, 1) := by decide +kernel
theorem dX12_numberAt_14 : decode cX12_numberAt 14 = .ok (.iaload, 1) := by decide +kernel
theorem dX12_numberAt_15 : decode cX12_numberAt 15 = .ok (.ireturn, 1) := by decide +kernel
theorem dX12_goOne_0 : decode cX12_goOne 0 = .ok (.aload_n 0, 1) := by decide +kernel
theorem dX12_goOne_1 : decode cX12_goOne 1 = .ok (.aload_n 0, 1) := by decide +kernel
theorem dX12_goOne_2 : decode cX12_goOne 2 = .ok (.getfield 276, 3) := by decide +kernel
theorem dX12_goOne_5 : decode cX12_goOne 5 = .ok (.invokevirtual 279, 3) := by decide +kernel
theorem dX12_goOne_8 : decode cX12_goOne 8 = .ok (.sipush 207, 3) := by decide +kernel
theorem dX12_goOne_11 : decode cX12_goOne 11 = .ok (.if_icmp .ne 19, 3) := by decide +kernel
theorem dX12_goOne_14 : decode cX12_goOne 14 = .ok (.aload_n 0, 1) := by decide +kernel
theorem dX12_goOne_15 : decode cX12_goOne 15 = .ok (.getfield 42, 3) := by decide +kernel
theorem dX12_goOne_18 : decode cX12_goOne 18 = .ok (.aload_n 0, 1) := by decide +kernel
theorem dX12_goOne_19 : decode cX12_goOne 19 = .ok (.aload_n 0, 1) := by decide +kernel
theorem dX12_goOne_20 : decode cX12_goOne 20 = .ok (.getfield 276, 3) := by decide +kernel
theorem dX12_goOne_23 : decode cX12_goOne 23 = .ok (.invokevirtual 282, 3) := by decide +kernel
theorem dX12_goOne_26 : decode cX12_goOne 26 = .ok (.iaload, 1) := by decide +kernel
theorem dX12_goOne_27 : decode cX12_goOne 27 = .ok (.goto 11, 3) := by decide +kernel
theorem dX12_goOne_30 : decode cX12_goOne 30 = .ok (.aload_n 0, 1) := by decide +kernel
theorem dX12_goOne_31 : decode cX12_goOne 31 = .ok (.aload_n 0, 1) := by decide +kernel
theorem dX12_goOne_32 : decode cX12_goOne 32 = .ok (.getfield 276, 3) := by decide +kernel
theorem dX12_goOne_35 : decode cX12_goOne 35 = .ok (.invokevirtual 282, 3) := by decide +kernel
theorem dX12_goOne_38 : decode cX12_goOne 38 = .ok (.istore_n 1, 1) := by decide +kernel
theorem dX12_goOne_39 : decode cX12_goOne 39 = .ok (.aload_n 0, 1) := by decide +kernel
theorem dX12_goOne_40 : decode cX12_goOne 40 = .ok (.dup, 1) := by decide +kernel
theorem dX12_goOne_41 : decode cX12_goOne 41 = .ok (.getfield 276, 3) := by decide +kernel
theorem dX12_goOne_44 : decode cX12_goOne 44 = .ok (.iconst 1, 1) := by decide +kernel
theorem dX12_goOne_45 : decode cX12_goOne 45 = .ok (.iadd, 1) := by decide +kernel
theorem dX12_goOne_46 : decode cX12_goOne 46 = .ok (.putfield 276, 3) := by decide +kernel
theorem dX12_goOne_49 : decode cX12_goOne 49 = .ok (.iload_n 1, 1) := by decide +kernel
theorem dX12_goOne_50 : decode cX12_goOne 50 = .ok (.ireturn, 1) := by decide +kernel
theorem dX12_goProduct_0 : decode cX12_goProduct 0 = .ok (.aload_n 0, 1) := by decide +kernel
theorem dX12_goProduct_1 : decode cX12_goProduct 1 = .ok (.invokevirtual 285, 3) := by decide +kernel
theorem dX12_goProduct_4 : decode cX12_goProduct 4 = .ok (.istore_n 1, 1) := by decide +kernel
theorem dX12_goProduct_5 : decode cX12_goProduct 5 = .ok (.aload_n 0, 1) := by decide +kernel
theorem dX12_goProduct_6 : decode cX12_goProduct 6 = .ok (.aload_n 0, 1) := by decide +kernel
theorem dX12_goProduct_7 : decode cX12_goProduct 7 = .ok (.getfield 276, 3) := by decide +kernel
theorem dX12_goProduct_10 : decode cX12_goProduct 10 = .ok (.invokevirtual 279, 3) := by decide +kernel
theorem dX12_goProduct_13 : decode cX12_goProduct 13 = .ok (.bipush 42, 2) := by decide +kernel
theorem dX12_goProduct_15 : decode cX12_goProduct 15 = .ok (.if_icmp .ne 27, 3) := by decide +kernel
theorem dX12_goProduct_18 : decode cX12_goProduct 18 = .ok (.aload_n 0, 1) := by decide +kernel
theorem dX12_goProduct_19 : decode cX12_goProduct 19 = .ok (.dup, 1) := by decide +kernel
theorem dX12_goProduct_20 : decode cX12_goProduct 20 = .ok (.getfield 276, 3) := by decide +kernel
theorem dX12_goProduct_23 : decode cX12_goProduct 23 = .ok (.iconst 1, 1) := by decide +kernel
theorem dX12_goProduct_24 : decode cX12_goProduct 24 = .ok (.iadd, 1) := by decide +kernel
theorem dX12_goProduct_25 : decode cX12_goProduct 25 = .ok (.putfield 276, 3) := by decide +kernel
theorem dX12_goProduct_28 : decode cX12_goProduct 28 = .ok (.iload_n 1, 1) := by decide +kernel
theorem dX12_goProduct_29 : decode cX12_goProduct 29 = .ok (.aload_n 0, 1) := by decide +kernel
theorem dX12_goProduct_30 : decode cX12_goProduct 30 = .ok (.invokevirtual 285, 3) := by decide +kernel
theorem dX12_goProduct_33 : decode cX12_goProduct 33 = .ok (.imul, 1) := by decide +kernel
theorem dX12_goProduct_34 : decode cX12_goProduct 34 = .ok (.sipush 10000, 3) := by decide +kernel
theorem dX12_goProduct_37 : decode cX12_goProduct 37 = .ok (.irem, 1) := by decide +kernel
theorem dX12_goProduct_38 : decode cX12_goProduct 38 = .ok (.istore_n 1, 1) := by decide +kernel
theorem dX12_goProduct_39 : decode cX12_goProduct 39 = .ok (.goto (-34), 3) := by decide +kernel
theorem dX12_goProduct_42 : decode cX12_goProduct 42 = .ok (.iload_n 1, 1) := by decide +kernel
theorem dX12_goProduct_43 : decode cX12_goProduct 43 = .ok (.ireturn, 1) := by decide +kernel
theorem dX12_goSum_0 : decode cX12_goSum 0 = .ok (.aload_n 0, 1) := by decide +kernel
theorem dX12_goSum_1 : decode cX12_goSum 1 = .ok (.invokevirtual 288, 3) := by decide +kernel
theorem dX12_goSum_4 : decode cX12_goSum 4 = .ok (.istore_n 1, 1) := by decide +kernel
theorem dX12_goSum_5 : decode cX12_goSum 5 = .ok (.aload_n 0, 1) := by decide +kernel
theorem dX12_goSum_6 : decode cX12_goSum 6 = .ok (.aload_n 0, 1) := by decide +kernel
theorem dX12_goSum_7 : decode cX12_goSum 7 = .ok (.getfield 276, 3) := by decide +kernel
theorem dX12_goSum_10 : decode cX12_goSum 10 = .ok (.invokevirtual 279, 3) := by decide +kernel
theorem dX12_goSum_13 : decode cX12_goSum 13 = .ok (.bipush 43, 2) := by decide +kernel
theorem dX12_goSum_15 : decode cX12_goSum 15 = .ok (.if_icmp .ne 27, 3) := by decide +kernel
theorem dX12_goSum_18 : decode cX12_goSum 18 = .ok (.aload_n 0, 1) := by decide +kernel
theorem dX12_goSum_19 : decode cX12_goSum 19 = .ok (.dup, 1) := by decide +kernel
theorem dX12_goSum_20 : decode cX12_goSum 20 = .ok (.getfield 276, 3) := by decide +kernel
theorem dX12_goSum_23 : decode cX12_goSum 23 = .ok (.iconst 1, 1) := by decide +kernel
theorem dX12_goSum_24 : decode cX12_goSum 24 = .ok (.iadd, 1) := by decide +kernel
theorem dX12_goSum_25 : decode cX12_goSum 25 = .ok (.putfield 276, 3) := by decide +kernel
theorem dX12_goSum_28 : decode cX12_goSum 28 = .ok (.iload_n 1, 1) := by decide +kernel
theorem dX12_goSum_29 : decode cX12_goSum 29 = .ok (.aload_n 0, 1) := by decide +kernel
theorem dX12_goSum_30 : decode cX12_goSum 30 = .ok (.invokevirtual 288, 3) := by decide +kernel
theorem dX12_goSum_33 : decode cX12_goSum 33 = .ok (.iadd, 1) := by decide +kernel
theorem dX12_goSum_34 : decode cX12_goSum 34 = .ok (.sipush 10000, 3) := by decide +kernel
theorem dX12_goSum_37 : decode cX12_goSum 37 = .ok (.irem, 1) := by decide +kernel
theorem dX12_goSum_38 : decode cX12_goSum 38 = .ok (.istore_n 1, 1) := by decide +kernel
theorem dX12_goSum_39 : decode cX12_goSum 39 = .ok (.goto (-34), 3) := by decide +kernel
theorem dX12_goSum_42 : decode cX12_goSum 42 = .ok (.aload_n 0, 1) := by decide +kernel
theorem dX12_goSum_43 : decode cX12_goSum 43 = .ok (.aload_n 0, 1) := by decide +kernel
theorem dX12_goSum_44 : decode cX12_goSum 44 = .ok (.getfield 276, 3) := by decide +kernel
theorem dX12_goSum_47 : decode cX12_goSum 47 = .ok (.invokevirtual 279, 3) := by decide +kernel
theorem dX12_goSum_50 : decode cX12_goSum 50 = .ok (.bipush 123, 2) := by decide +kernel
theorem dX12_goSum_52 : decode cX12_goSum 52 = .ok (.if_icmp .eq 13, 3) := by decide +kernel
theorem dX12_goSum_55 : decode cX12_goSum 55 = .ok (.aload_n 0, 1) := by decide +kernel
theorem dX12_goSum_56 : decode cX12_goSum 56 = .ok (.dup, 1) := by decide +kernel
theorem dX12_goSum_57 : decode cX12_goSum 57 = .ok (.getfield 276, 3) := by decide +kernel
theorem dX12_goSum_60 : decode cX12_goSum 60 = .ok (.iconst 1, 1) := by decide +kernel
theorem dX12_goSum_61 : decode cX12_goSum 61 = .ok (.iadd, 1) := by decide +kernel
theorem dX12_goSum_62 : decode cX12_goSum 62 = .ok (.putfield 276, 3) := by decide +kernel
theorem dX12_goSum_65 : decode cX12_goSum 65 = .ok (.iload_n 1, 1) := by decide +kernel
theorem dX12_goSum_66 : decode cX12_goSum 66 = .ok (.ireturn, 1) := by decide +kernel
theorem dX12_isOver_0 : decode cX12_isOver 0 = .ok (.aload_n 0, 1) := by decide +kernel
theorem dX12_isOver_1 : decode cX12_isOver 1 = .ok (.getfield 291, 3) := by decide +kernel
theorem dX12_isOver_4 : decode cX12_isOver 4 = .ok (.sipush 300, 3) := by decide +kernel
theorem dX12_isOver_7 : decode cX12_isOver 7 = .ok (.if_icmp .ne 7, 3) := by decide +kernel
theorem dX12_isOver_10 : decode cX12_isOver 10 = .ok (.iconst 1, 1) := by decide +kernel
theorem dX12_isOver_11 : decode cX12_isOver 11 = .ok (.goto 4, 3) := by decide +kernel
theorem dX12_isOver_14 : decode cX12_isOver 14 = .ok (.iconst 0, 1) := by decide +kernel
theorem dX12_isOver_15 : decode cX12_isOver 15 = .ok (.ireturn, 1) := by decide +kernel
theorem dX12_goScan_0 : decode cX12_goScan 0 = .ok (.iload_n 1, 1) := by decide +kernel
theorem dX12_goScan_1 : decode cX12_goScan 1 = .ok (.istore_n 3, 1) := by decide +kernel
theorem dX12_goScan_2 : decode cX12_goScan 2 = .ok (.iload_n 3, 1) := by decide +kernel
theorem dX12_goScan_3 : decode cX12_goScan 3 = .ok (.iload_n 2, 1) := by decide +kernel
theorem dX12_goScan_4 : decode cX12_goScan 4 = .ok (.if_icmp .gt 53, 3) := by decide +kernel
theorem dX12_goScan_7 : decode cX12_goScan 7 = .ok (.iconst 0, 1) := by decide +kernel
theorem dX12_goScan_8 : decode cX12_goScan 8 = .ok (.istore 4, 2) := by decide +kernel
theorem dX12_goScan_10 : decode cX12_goScan 10 = .ok (.iload 4, 2) := by decide +kernel
theorem dX12_goScan_12 : decode cX12_goScan 12 = .ok (.iload_n 3, 1) := by decide +kernel
theorem dX12_goScan_13 : decode cX12_goScan 13 = .ok (.invokestatic 60, 3) := by decide +kernel
theorem dX12_goScan_16 : decode cX12_goScan 16 = .ok (.if_icmp .ge 35, 3) := by decide +kernel
theorem dX12_goScan_19 : decode cX12_goScan 19 = .ok (.aload_n 0, 1) := by decide +kernel
theorem dX12_goScan_20 : decode cX12_goScan 20 = .ok (.invokevirtual 294, 3) := by decide +kernel
theorem dX12_goScan_23 : decode cX12_goScan 23 = .ok (.ifCond .eq 4, 3) := by decide +kernel
theorem dX12_goScan_26 : decode cX12_goScan 26 = .ok (.return_, 1) := by decide +kernel
theorem dX12_goScan_27 : decode cX12_goScan 27 = .ok (.aload_n 0, 1) := by decide +kernel
theorem dX12_goScan_28 : decode cX12_goScan 28 = .ok (.iload_n 3, 1) := by decide +kernel
theorem dX12_goScan_29 : decode cX12_goScan 29 = .ok (.iload 4, 2) := by decide +kernel
theorem dX12_goScan_31 : decode cX12_goScan 31 = .ok (.invokevirtual 254, 3) := by decide +kernel
theorem dX12_goScan_34 : decode cX12_goScan 34 = .ok (.pop, 1) := by decide +kernel
theorem dX12_goScan_35 : decode cX12_goScan 35 = .ok (.aload_n 0, 1) := by decide +kernel
theorem dX12_goScan_36 : decode cX12_goScan 36 = .ok (.dup, 1) := by decide +kernel
theorem dX12_goScan_37 : decode cX12_goScan 37 = .ok (.getfield 291, 3) := by decide +kernel
theorem dX12_goScan_40 : decode cX12_goScan 40 = .ok (.iconst 1, 1) := by decide +kernel
theorem dX12_goScan_41 : decode cX12_goScan 41 = .ok (.iadd, 1) := by decide +kernel
theorem dX12_goScan_42 : decode cX12_goScan 42 = .ok (.putfield 291, 3) := by decide +kernel
theorem dX12_goScan_45 : decode cX12_goScan 45 = .ok (.iinc 4 1, 3) := by decide +kernel
theorem dX12_goScan_48 : decode cX12_goScan 48 = .ok (.goto (-38), 3) := by decide +kernel
theorem dX12_goScan_51 : decode cX12_goScan 51 = .ok (.iinc 3 1, 3) := by decide +kernel
theorem dX12_goScan_54 : decode cX12_goScan 54 = .ok (.goto (-52), 3) := by decide +kernel
theorem dX12_goScan_57 : decode cX12_goScan 57 = .ok (.return_, 1) := by decide +kernel
theorem dX12_passBlock_0 : decode cX12_passBlock 0 = .ok (.iconst 0, 1) := by decide +kernel
theorem dX12_passBlock_1 : decode cX12_passBlock 1 = .ok (.istore_n 1, 1) := by decide +kernel
theorem dX12_passBlock_2 : decode cX12_passBlock 2 = .ok (.iconst 1, 1) := by decide +kernel
theorem dX12_passBlock_3 : decode cX12_passBlock 3 = .ok (.istore_n 2, 1) := by decide +kernel
theorem dX12_passBlock_4 : decode cX12_passBlock 4 = .ok (.iload_n 2, 1) := by decide +kernel
theorem dX12_passBlock_5 : decode cX12_passBlock 5 = .ok (.ifCond .eq 64, 3) := by decide +kernel
theorem dX12_passBlock_8 : decode cX12_passBlock 8 = .ok (.iload_n 1, 1) := by decide +kernel
theorem dX12_passBlock_9 : decode cX12_passBlock 9 = .ok (.aload_n 0, 1) := by decide +kernel
theorem dX12_passBlock_10 : decode cX12_passBlock 10 = .ok (.aload_n 0, 1) := by decide +kernel
theorem dX12_passBlock_11 : decode cX12_passBlock 11 = .ok (.getfield 276, 3) := by decide +kernel
theorem dX12_passBlock_14 : decode cX12_passBlock 14 = .ok (.invokevirtual 279, 3) := by decide +kernel
theorem dX12_passBlock_17 : decode cX12_passBlock 17 = .ok (.bipush 123, 2) := by decide +kernel
theorem dX12_passBlock_19 : decode cX12_passBlock 19 = .ok (.if_icmp .ne 7, 3) := by decide +kernel
theorem dX12_passBlock_22 : decode cX12_passBlock 22 = .ok (.iconst 1, 1) := by decide +kernel
theorem dX12_passBlock_23 : decode cX12_passBlock 23 = .ok (.goto 21, 3) := by decide +kernel
theorem dX12_passBlock_26 : decode cX12_passBlock 26 = .ok (.aload_n 0, 1) := by decide +kernel
theorem dX12_passBlock_27 : decode cX12_passBlock 27 = .ok (.aload_n 0, 1) := by decide +kernel
theorem dX12_passBlock_28 : decode cX12_passBlock 28 = .ok (.getfield 276, 3) := by decide +kernel
theorem dX12_passBlock_31 : decode cX12_passBlock 31 = .ok (.invokevirtual 279, 3) := by decide +kernel
theorem dX12_passBlock_34 : decode cX12_passBlock 34 = .ok (.bipush 125, 2) := by decide +kernel
theorem dX12_passBlock_36 : decode cX12_passBlock 36 = .ok (.if_icmp .ne 7, 3) := by decide +kernel
theorem dX12_passBlock_39 : decode cX12_passBlock 39 = .ok (.iconst (-1), 1) := by decide +kernel
theorem dX12_passBlock_40 : decode cX12_passBlock 40 = .ok (.goto 4, 3) := by decide +kernel
theorem dX12_passBlock_43 : decode cX12_passBlock 43 = .ok (.iconst 0, 1) := by decide +kernel
theorem dX12_passBlock_44 : decode cX12_passBlock 44 = .ok (.iadd, 1) := by decide +kernel
theorem dX12_passBlock_45 : decode cX12_passBlock 45 = .ok (.istore_n 1, 1) := by decide +kernel
theorem dX12_passBlock_46 : decode cX12_passBlock 46 = .ok (.aload_n 0, 1) := by decide +kernel
theorem dX12_passBlock_47 : decode cX12_passBlock 47 = .ok (.dup, 1) := by decide +kernel
theorem dX12_passBlock_48 : decode cX12_passBlock 48 = .ok (.getfield 276, 3) := by decide +kernel
theorem dX12_passBlock_51 : decode cX12_passBlock 51 = .ok (.iconst 1, 1) := by decide +kernel
theorem dX12_passBlock_52 : decode cX12_passBlock 52 = .ok (.iadd, 1) := by decide +kernel
theorem dX12_passBlock_53 : decode cX12_passBlock 53 = .ok (.putfield 276, 3) := by decide +kernel
theorem dX12_passBlock_56 : decode cX12_passBlock 56 = .ok (.iload_n 1, 1) := by decide +kernel
theorem dX12_passBlock_57 : decode cX12_passBlock 57 = .ok (.ifCond .le 7, 3) := by decide +kernel
theorem dX12_passBlock_60 : decode cX12_passBlock 60 = .ok (.iconst 1, 1) := by decide +kernel
theorem dX12_passBlock_61 : decode cX12_passBlock 61 = .ok (.goto 4, 3) := by decide +kernel
theorem dX12_passBlock_64 : decode cX12_passBlock 64 = .ok (.iconst 0, 1) := by decide +kernel
theorem dX12_passBlock_65 : decode cX12_passBlock 65 = .ok (.istore_n 2, 1) := by decide +kernel
theorem dX12_passBlock_66 : decode cX12_passBlock 66 = .ok (.goto (-62), 3) := by decide +kernel
theorem dX12_passBlock_69 : decode cX12_passBlock 69 = .ok (.return_, 1) := by decide +kernel
theorem dX12_goInto_0 : decode cX12_goInto 0 = .ok (.aload_n 0, 1) := by decide +kernel
theorem dX12_goInto_1 : decode cX12_goInto 1 = .ok (.dup, 1) := by decide +kernel
theorem dX12_goInto_2 : decode cX12_goInto 2 = .ok (.getfield 276, 3) := by decide +kernel
theorem dX12_goInto_5 : decode cX12_goInto 5 = .ok (.iconst 1, 1) := by decide +kernel
theorem dX12_goInto_6 : decode cX12_goInto 6 = .ok (.iadd, 1) := by decide +kernel
theorem dX12_goInto_7 : decode cX12_goInto 7 = .ok (.putfield 276, 3) := by decide +kernel
theorem dX12_goInto_10 : decode cX12_goInto 10 = .ok (.aload_n 0, 1) := by decide +kernel
theorem dX12_goInto_11 : decode cX12_goInto 11 = .ok (.getfield 36, 3) := by decide +kernel
theorem dX12_goInto_14 : decode cX12_goInto 14 = .ok (.aload_n 0, 1) := by decide +kernel
theorem dX12_goInto_15 : decode cX12_goInto 15 = .ok (.getfield 119, 3) := by decide +kernel
theorem dX12_goInto_18 : decode cX12_goInto 18 = .ok (.aload_n 0, 1) := by decide +kernel
theorem dX12_goInto_19 : decode cX12_goInto 19 = .ok (.getfield 276, 3) := by decide +kernel
theorem dX12_goInto_22 : decode cX12_goInto 22 = .ok (.iastore, 1) := by decide +kernel
theorem dX12_goInto_23 : decode cX12_goInto 23 = .ok (.aload_n 0, 1) := by decide +kernel
theorem dX12_goInto_24 : decode cX12_goInto 24 = .ok (.getfield 39, 3) := by decide +kernel
theorem dX12_goInto_27 : decode cX12_goInto 27 = .ok (.aload_n 0, 1) := by decide +kernel
theorem dX12_goInto_28 : decode cX12_goInto 28 = .ok (.getfield 119, 3) := by decide +kernel
theorem dX12_goInto_31 : decode cX12_goInto 31 = .ok (.iload_n 1, 1) := by decide +kernel
theorem dX12_goInto_32 : decode cX12_goInto 32 = .ok (.iastore, 1) := by decide +kernel
theorem dX12_goInto_33 : decode cX12_goInto 33 = .ok (.aload_n 0, 1) := by decide +kernel
theorem dX12_goInto_34 : decode cX12_goInto 34 = .ok (.dup, 1) := by decide +kernel
theorem dX12_goInto_35 : decode cX12_goInto 35 = .ok (.getfield 119, 3) := by decide +kernel
theorem dX12_goInto_38 : decode cX12_goInto 38 = .ok (.iconst 1, 1) := by decide +kernel
theorem dX12_goInto_39 : decode cX12_goInto 39 = .ok (.iadd, 1) := by decide +kernel
theorem dX12_goInto_40 : decode cX12_goInto 40 = .ok (.putfield 119, 3) := by decide +kernel
theorem dX12_goInto_43 : decode cX12_goInto 43 = .ok (.iload_n 1, 1) := by decide +kernel
theorem dX12_goInto_44 : decode cX12_goInto 44 = .ok (.iconst (-1), 1) := by decide +kernel
theorem dX12_goInto_45 : decode cX12_goInto 45 = .ok (.if_icmp .ne 4, 3) := by decide +kernel
theorem dX12_goInto_48 : decode cX12_goInto 48 = .ok (.return_, 1) := by decide +kernel
theorem dX12_goInto_49 : decode cX12_goInto 49 = .ok (.aload_n 0, 1) := by decide +kernel
theorem dX12_goInto_50 : decode cX12_goInto 50 = .ok (.getfield 42, 3) := by decide +kernel
theorem dX12_goInto_53 : decode cX12_goInto 53 = .ok (.aload_n 0, 1) := by decide +kernel
theorem dX12_goInto_54 : decode cX12_goInto 54 = .ok (.getfield 122, 3) := by decide +kernel
theorem dX12_goInto_57 : decode cX12_goInto 57 = .ok (.iconst 0, 1) := by decide +kernel
theorem dX12_goInto_58 : decode cX12_goInto 58 = .ok (.iastore, 1) := by decide +kernel
theorem dX12_goInto_59 : decode cX12_goInto 59 = .ok (.aload_n 0, 1) := by decide +kernel
theorem dX12_goInto_60 : decode cX12_goInto 60 = .ok (.dup, 1) := by decide +kernel
theorem dX12_goInto_61 : decode cX12_goInto 61 = .ok (.getfield 122, 3) := by decide +kernel
theorem dX12_goInto_64 : decode cX12_goInto 64 = .ok (.iconst 1, 1) := by decide +kernel
theorem dX12_goInto_65 : decode cX12_goInto 65 = .ok (.iadd, 1) := by decide +kernel
theorem dX12_goInto_66 : decode cX12_goInto 66 = .ok (.putfield 122, 3) := by decide +kernel
theorem dX12_goInto_69 : decode cX12_goInto 69 = .ok (.return_, 1) := by decide +kernel
theorem dX12_goAround_0 : decode cX12_goAround 0 = .ok (.aload_n 0, 1) := by decide +kernel
theorem dX12_goAround_1 : decode cX12_goAround 1 = .ok (.getfield 39, 3) := by decide +kernel
theorem dX12_goAround_4 : decode cX12_goAround 4 = .ok (.aload_n 0, 1) := by decide +kernel
theorem dX12_goAround_5 : decode cX12_goAround 5 = .ok (.getfield 119, 3) := by decide +kernel
theorem dX12_goAround_8 : decode cX12_goAround 8 = .ok (.iconst 1, 1) := by decide +kernel
theorem dX12_goAround_9 : decode cX12_goAround 9 = .ok (.isub, 1) := by decide +kernel
theorem dX12_goAround_10 : decode cX12_goAround 10 = .ok (.iaload, 1) := by decide +kernel
theorem dX12_goAround_11 : decode cX12_goAround 11 = .ok (.istore_n 1, 1) := by decide +kernel
theorem dX12_goAround_12 : decode cX12_goAround 12 = .ok (.iload_n 1, 1) := by decide +kernel
theorem dX12_goAround_13 : decode cX12_goAround 13 = .ok (.iconst (-1), 1) := by decide +kernel
theorem dX12_goAround_14 : decode cX12_goAround 14 = .ok (.if_icmp .eq 51, 3) := by decide +kernel
theorem dX12_goAround_17 : decode cX12_goAround 17 = .ok (.aload_n 0, 1) := by decide +kernel
theorem dX12_goAround_18 : decode cX12_goAround 18 = .ok (.getfield 42, 3) := by decide +kernel
theorem dX12_goAround_21 : decode cX12_goAround 21 = .ok (.aload_n 0, 1) := by decide +kernel
theorem dX12_goAround_22 : decode cX12_goAround 22 = .ok (.getfield 122, 3) := by decide +kernel
theorem dX12_goAround_25 : decode cX12_goAround 25 = .ok (.iconst 1, 1) := by decide +kernel
theorem dX12_goAround_26 : decode cX12_goAround 26 = .ok (.isub, 1) := by decide +kernel
theorem dX12_goAround_27 : decode cX12_goAround 27 = .ok (.iaload, 1) := by decide +kernel
theorem dX12_goAround_28 : decode cX12_goAround 28 = .ok (.iconst 1, 1) := by decide +kernel
theorem dX12_goAround_29 : decode cX12_goAround 29 = .ok (.iadd, 1) := by decide +kernel
theorem dX12_goAround_30 : decode cX12_goAround 30 = .ok (.iload_n 1, 1) := by decide +kernel
theorem dX12_goAround_31 : decode cX12_goAround 31 = .ok (.if_icmp .ge 34, 3) := by decide +kernel
theorem dX12_goAround_34 : decode cX12_goAround 34 = .ok (.aload_n 0, 1) := by decide +kernel
theorem dX12_goAround_35 : decode cX12_goAround 35 = .ok (.getfield 42, 3) := by decide +kernel
theorem dX12_goAround_38 : decode cX12_goAround 38 = .ok (.aload_n 0, 1) := by decide +kernel
theorem dX12_goAround_39 : decode cX12_goAround 39 = .ok (.getfield 122, 3) := by decide +kernel
theorem dX12_goAround_42 : decode cX12_goAround 42 = .ok (.iconst 1, 1) := by decide +kernel
theorem dX12_goAround_43 : decode cX12_goAround 43 = .ok (.isub, 1) := by decide +kernel
theorem dX12_goAround_44 : decode cX12_goAround 44 = .ok (.dup2, 1) := by decide +kernel
theorem dX12_goAround_45 : decode cX12_goAround 45 = .ok (.iaload, 1) := by decide +kernel
theorem dX12_goAround_46 : decode cX12_goAround 46 = .ok (.iconst 1, 1) := by decide +kernel
theorem dX12_goAround_47 : decode cX12_goAround 47 = .ok (.iadd, 1) := by decide +kernel
theorem dX12_goAround_48 : decode cX12_goAround 48 = .ok (.iastore, 1) := by decide +kernel
theorem dX12_goAround_49 : decode cX12_goAround 49 = .ok (.aload_n 0, 1) := by decide +kernel
theorem dX12_goAround_50 : decode cX12_goAround 50 = .ok (.aload_n 0, 1) := by decide +kernel
theorem dX12_goAround_51 : decode cX12_goAround 51 = .ok (.getfield 36, 3) := by decide +kernel
theorem dX12_goAround_54 : decode cX12_goAround 54 = .ok (.aload_n 0, 1) := by decide +kernel
theorem dX12_goAround_55 : decode cX12_goAround 55 = .ok (.getfield 119, 3) := by decide +kernel
theorem dX12_goAround_58 : decode cX12_goAround 58 = .ok (.iconst 1, 1) := by decide +kernel
theorem dX12_goAround_59 : decode cX12_goAround 59 = .ok (.isub, 1) := by decide +kernel
theorem dX12_goAround_60 : decode cX12_goAround 60 = .ok (.iaload, 1) := by decide +kernel
theorem dX12_goAround_61 : decode cX12_goAround 61 = .ok (.putfield 276, 3) := by decide +kernel
theorem dX12_goAround_64 : decode cX12_goAround 64 = .ok (.return_, 1) := by decide +kernel
theorem dX12_goAround_65 : decode cX12_goAround 65 = .ok (.aload_n 0, 1) := by decide +kernel
theorem dX12_goAround_66 : decode cX12_goAround 66 = .ok (.dup, 1) := by decide +kernel
theorem dX12_goAround_67 : decode cX12_goAround 67 = .ok (.getfield 122, 3) := by decide +kernel
theorem dX12_goAround_70 : decode cX12_goAround 70 = .ok (.iload_n 1, 1) := by decide +kernel
theorem dX12_goAround_71 : decode cX12_goAround 71 = .ok (.iconst (-1), 1) := by decide +kernel
theorem dX12_goAround_72 : decode cX12_goAround 72 = .ok (.if_icmp .ne 7, 3) := by decide +kernel
theorem dX12_goAround_75 : decode cX12_goAround 75 = .ok (.iconst 0, 1) := by decide +kernel
theorem dX12_goAround_76 : decode cX12_goAround 76 = .ok (.goto 4, 3) := by decide +kernel
theorem dX12_goAround_79 : decode cX12_goAround 79 = .ok (.iconst 1, 1) := by decide +kernel
theorem dX12_goAround_80 : decode cX12_goAround 80 = .ok (.isub, 1) := by decide +kernel
theorem dX12_goAround_81 : decode cX12_goAround 81 = .ok (.putfield 122, 3) := by decide +kernel
theorem dX12_goAround_84 : decode cX12_goAround 84 = .ok (.aload_n 0, 1) := by decide +kernel
theorem dX12_goAround_85 : decode cX12_goAround 85 = .ok (.dup, 1) := by decide +kernel
theorem dX12_goAround_86 : decode cX12_goAround 86 = .ok (.getfield 119, 3) := by decide +kernel
theorem dX12_goAround_89 : decode cX12_goAround 89 = .ok (.iconst 1, 1) := by decide +kernel
theorem dX12_goAround_90 : decode cX12_goAround 90 = .ok (.isub, 1) := by decide +kernel
theorem dX12_goAround_91 : decode cX12_goAround 91 = .ok (.putfield 119, 3) := by decide +kernel
theorem dX12_goAround_94 : decode cX12_goAround 94 = .ok (.aload_n 0, 1) := by decide +kernel
theorem dX12_goAround_95 : decode cX12_goAround 95 = .ok (.dup, 1) := by decide +kernel
theorem dX12_goAround_96 : decode cX12_goAround 96 = .ok (.getfield 276, 3) := by decide +kernel
theorem dX12_goAround_99 : decode cX12_goAround 99 = .ok (.iconst 1, 1) := by decide +kernel
theorem dX12_goAround_100 : decode cX12_goAround 100 = .ok (.iadd, 1) := by decide +kernel
theorem dX12_goAround_101 : decode cX12_goAround 101 = .ok (.putfield 276, 3) := by decide +kernel
theorem dX12_goAround_104 : decode cX12_goAround 104 = .ok (.return_, 1) := by decide +kernel
theorem dX12_goChoice_0 : decode cX12_goChoice 0 = .ok (.aload_n 0, 1) := by decide +kernel
theorem dX12_goChoice_1 : decode cX12_goChoice 1 = .ok (.invokevirtual 298, 3) := by decide +kernel
theorem dX12_goChoice_4 : decode cX12_goChoice 4 = .ok (.istore_n 1, 1) := by decide +kernel
theorem dX12_goChoice_5 : decode cX12_goChoice 5 = .ok (.aload_n 0, 1) := by decide +kernel
theorem dX12_goChoice_6 : decode cX12_goChoice 6 = .ok (.aload_n 0, 1) := by decide +kernel
theorem dX12_goChoice_7 : decode cX12_goChoice 7 = .ok (.getfield 276, 3) := by decide +kernel
theorem dX12_goChoice_10 : decode cX12_goChoice 10 = .ok (.iconst 1, 1) := by decide +kernel
theorem dX12_goChoice_11 : decode cX12_goChoice 11 = .ok (.isub, 1) := by decide +kernel
theorem dX12_goChoice_12 : decode cX12_goChoice 12 = .ok (.invokevirtual 279, 3) := by decide +kernel
theorem dX12_goChoice_15 : decode cX12_goChoice 15 = .ok (.bipush 60, 2) := by decide +kernel
theorem dX12_goChoice_17 : decode cX12_goChoice 17 = .ok (.if_icmp .ne 7, 3) := by decide +kernel
theorem dX12_goChoice_20 : decode cX12_goChoice 20 = .ok (.iconst 1, 1) := by decide +kernel
theorem dX12_goChoice_21 : decode cX12_goChoice 21 = .ok (.goto 4, 3) := by decide +kernel
theorem dX12_goChoice_24 : decode cX12_goChoice 24 = .ok (.iconst 0, 1) := by decide +kernel
theorem dX12_goChoice_25 : decode cX12_goChoice 25 = .ok (.istore_n 2, 1) := by decide +kernel
theorem dX12_goChoice_26 : decode cX12_goChoice 26 = .ok (.aload_n 0, 1) := by decide +kernel
theorem dX12_goChoice_27 : decode cX12_goChoice 27 = .ok (.invokevirtual 298, 3) := by decide +kernel
theorem dX12_goChoice_30 : decode cX12_goChoice 30 = .ok (.istore_n 3, 1) := by decide +kernel
theorem dX12_goChoice_31 : decode cX12_goChoice 31 = .ok (.iload_n 2, 1) := by decide +kernel
theorem dX12_goChoice_32 : decode cX12_goChoice 32 = .ok (.ifCond .eq 11, 3) := by decide +kernel
theorem dX12_goChoice_35 : decode cX12_goChoice 35 = .ok (.iload_n 1, 1) := by decide +kernel
theorem dX12_goChoice_36 : decode cX12_goChoice 36 = .ok (.iload_n 3, 1) := by decide +kernel
theorem dX12_goChoice_37 : decode cX12_goChoice 37 = .ok (.if_icmp .ge 19, 3) := by decide +kernel
theorem dX12_goChoice_40 : decode cX12_goChoice 40 = .ok (.goto 8, 3) := by decide +kernel
theorem dX12_goChoice_43 : decode cX12_goChoice 43 = .ok (.iload_n 1, 1) := by decide +kernel
theorem dX12_goChoice_44 : decode cX12_goChoice 44 = .ok (.iload_n 3, 1) := by decide +kernel
theorem dX12_goChoice_45 : decode cX12_goChoice 45 = .ok (.if_icmp .ne 11, 3) := by decide +kernel
theorem dX12_goChoice_48 : decode cX12_goChoice 48 = .ok (.aload_n 0, 1) := by decide +kernel
theorem dX12_goChoice_49 : decode cX12_goChoice 49 = .ok (.iconst (-1), 1) := by decide +kernel
theorem dX12_goChoice_50 : decode cX12_goChoice 50 = .ok (.invokevirtual 301, 3) := by decide +kernel
theorem dX12_goChoice_53 : decode cX12_goChoice 53 = .ok (.goto 7, 3) := by decide +kernel
theorem dX12_goChoice_56 : decode cX12_goChoice 56 = .ok (.aload_n 0, 1) := by decide +kernel
theorem dX12_goChoice_57 : decode cX12_goChoice 57 = .ok (.invokevirtual 304, 3) := by decide +kernel
theorem dX12_goChoice_60 : decode cX12_goChoice 60 = .ok (.return_, 1) := by decide +kernel
theorem dX12_goAct_0 : decode cX12_goAct 0 = .ok (.iload_n 1, 1) := by decide +kernel
theorem dX12_goAct_1 : decode cX12_goAct 1 = .ok (.sipush 203, 3) := by decide +kernel
theorem dX12_goAct_4 : decode cX12_goAct 4 = .ok (.if_icmp .eq 10, 3) := by decide +kernel
theorem dX12_goAct_7 : decode cX12_goAct 7 = .ok (.iload_n 1, 1) := by decide +kernel
theorem dX12_goAct_8 : decode cX12_goAct 8 = .ok (.sipush 204, 3) := by decide +kernel
theorem dX12_goAct_11 : decode cX12_goAct 11 = .ok (.if_icmp .ne 43, 3) := by decide +kernel
theorem dX12_goAct_14 : decode cX12_goAct 14 = .ok (.aload_n 0, 1) := by decide +kernel
theorem dX12_goAct_15 : decode cX12_goAct 15 = .ok (.dup, 1) := by decide +kernel
theorem dX12_goAct_16 : decode cX12_goAct 16 = .ok (.getfield 276, 3) := by decide +kernel
theorem dX12_goAct_19 : decode cX12_goAct 19 = .ok (.iconst 1, 1) := by decide +kernel
theorem dX12_goAct_20 : decode cX12_goAct 20 = .ok (.iadd, 1) := by decide +kernel
theorem dX12_goAct_21 : decode cX12_goAct 21 = .ok (.putfield 276, 3) := by decide +kernel
theorem dX12_goAct_24 : decode cX12_goAct 24 = .ok (.iload_n 1, 1) := by decide +kernel
theorem dX12_goAct_25 : decode cX12_goAct 25 = .ok (.sipush 203, 3) := by decide +kernel
theorem dX12_goAct_28 : decode cX12_goAct 28 = .ok (.if_icmp .ne 10, 3) := by decide +kernel
theorem dX12_goAct_31 : decode cX12_goAct 31 = .ok (.aload_n 0, 1) := by decide +kernel
theorem dX12_goAct_32 : decode cX12_goAct 32 = .ok (.invokevirtual 257, 3) := by decide +kernel
theorem dX12_goAct_35 : decode cX12_goAct 35 = .ok (.goto 8, 3) := by decide +kernel
theorem dX12_goAct_38 : decode cX12_goAct 38 = .ok (.aload_n 0, 1) := by decide +kernel
theorem dX12_goAct_39 : decode cX12_goAct 39 = .ok (.invokevirtual 273, 3) := by decide +kernel
theorem dX12_goAct_42 : decode cX12_goAct 42 = .ok (.pop, 1) := by decide +kernel
theorem dX12_goAct_43 : decode cX12_goAct 43 = .ok (.aload_n 0, 1) := by decide +kernel
theorem dX12_goAct_44 : decode cX12_goAct 44 = .ok (.dup, 1) := by decide +kernel
theorem dX12_goAct_45 : decode cX12_goAct 45 = .ok (.getfield 291, 3) := by decide +kernel
theorem dX12_goAct_48 : decode cX12_goAct 48 = .ok (.iconst 1, 1) := by decide +kernel
theorem dX12_goAct_49 : decode cX12_goAct 49 = .ok (.iadd, 1) := by decide +kernel
theorem dX12_goAct_50 : decode cX12_goAct 50 = .ok (.putfield 291, 3) := by decide +kernel
theorem dX12_goAct_53 : decode cX12_goAct 53 = .ok (.return_, 1) := by decide +kernel
theorem dX12_goAct_54 : decode cX12_goAct 54 = .ok (.aload_n 0, 1) := by decide +kernel
theorem dX12_goAct_55 : decode cX12_goAct 55 = .ok (.invokevirtual 298, 3) := by decide +kernel
theorem dX12_goAct_58 : decode cX12_goAct 58 = .ok (.bipush 10, 2) := by decide +kernel
theorem dX12_goAct_60 : decode cX12_goAct 60 = .ok (.irem, 1) := by decide +kernel
theorem dX12_goAct_61 : decode cX12_goAct 61 = .ok (.istore_n 2, 1) := by decide +kernel
theorem dX12_goAct_62 : decode cX12_goAct 62 = .ok (.aload_n 0, 1) := by decide +kernel
theorem dX12_goAct_63 : decode cX12_goAct 63 = .ok (.invokevirtual 298, 3) := by decide +kernel
theorem dX12_goAct_66 : decode cX12_goAct 66 = .ok (.istore_n 3, 1) := by decide +kernel
theorem dX12_goAct_67 : decode cX12_goAct 67 = .ok (.iload_n 1, 1) := by decide +kernel
theorem dX12_goAct_68 : decode cX12_goAct 68 = .ok (.sipush 202, 3) := by decide +kernel
theorem dX12_goAct_71 : decode cX12_goAct 71 = .ok (.if_icmp .ne 13, 3) := by decide +kernel
theorem dX12_goAct_74 : decode cX12_goAct 74 = .ok (.aload_n 0, 1) := by decide +kernel
theorem dX12_goAct_75 : decode cX12_goAct 75 = .ok (.iload_n 2, 1) := by decide +kernel
theorem dX12_goAct_76 : decode cX12_goAct 76 = .ok (.iload_n 3, 1) := by decide +kernel
theorem dX12_goAct_77 : decode cX12_goAct 77 = .ok (.bipush 10, 2) := by decide +kernel
theorem dX12_goAct_79 : decode cX12_goAct 79 = .ok (.irem, 1) := by decide +kernel
theorem dX12_goAct_80 : decode cX12_goAct 80 = .ok (.invokevirtual 307, 3) := by decide +kernel
theorem dX12_goAct_83 : decode cX12_goAct 83 = .ok (.return_, 1) := by decide +kernel
theorem dX12_goAct_84 : decode cX12_goAct 84 = .ok (.iload_n 1, 1) := by decide +kernel
theorem dX12_goAct_85 : decode cX12_goAct 85 = .ok (.sipush 200, 3) := by decide +kernel
theorem dX12_goAct_88 : decode cX12_goAct 88 = .ok (.if_icmp .ne 18, 3) := by decide +kernel
theorem dX12_goAct_91 : decode cX12_goAct 91 = .ok (.aload_n 0, 1) := by decide +kernel
theorem dX12_goAct_92 : decode cX12_goAct 92 = .ok (.iload_n 2, 1) := by decide +kernel
theorem dX12_goAct_93 : decode cX12_goAct 93 = .ok (.iload_n 3, 1) := by decide +kernel
theorem dX12_goAct_94 : decode cX12_goAct 94 = .ok (.iload_n 2, 1) := by decide +kernel
theorem dX12_goAct_95 : decode cX12_goAct 95 = .ok (.invokestatic 60, 3) := by decide +kernel
theorem dX12_goAct_98 : decode cX12_goAct 98 = .ok (.irem, 1) := by decide +kernel
theorem dX12_goAct_99 : decode cX12_goAct 99 = .ok (.invokevirtual 254, 3) := by decide +kernel
theorem dX12_goAct_102 : decode cX12_goAct 102 = .ok (.pop, 1) := by decide +kernel
theorem dX12_goAct_103 : decode cX12_goAct 103 = .ok (.goto 23, 3) := by decide +kernel
theorem dX12_goAct_106 : decode cX12_goAct 106 = .ok (.aload_n 0, 1) := by decide +kernel
theorem dX12_goAct_107 : decode cX12_goAct 107 = .ok (.iload_n 2, 1) := by decide +kernel
theorem dX12_goAct_108 : decode cX12_goAct 108 = .ok (.iload_n 3, 1) := by decide +kernel
theorem dX12_goAct_109 : decode cX12_goAct 109 = .ok (.iload_n 2, 1) := by decide +kernel
theorem dX12_goAct_110 : decode cX12_goAct 110 = .ok (.invokestatic 60, 3) := by decide +kernel
theorem dX12_goAct_113 : decode cX12_goAct 113 = .ok (.irem, 1) := by decide +kernel
theorem dX12_goAct_114 : decode cX12_goAct 114 = .ok (.aload_n 0, 1) := by decide +kernel
theorem dX12_goAct_115 : decode cX12_goAct 115 = .ok (.invokevirtual 298, 3) := by decide +kernel
theorem dX12_goAct_118 : decode cX12_goAct 118 = .ok (.sipush 1000, 3) := by decide +kernel
theorem dX12_goAct_121 : decode cX12_goAct 121 = .ok (.irem, 1) := by decide +kernel
theorem dX12_goAct_122 : decode cX12_goAct 122 = .ok (.invokevirtual 266, 3) := by decide +kernel
theorem dX12_goAct_125 : decode cX12_goAct 125 = .ok (.pop, 1) := by decide +kernel
theorem dX12_goAct_126 : decode cX12_goAct 126 = .ok (.aload_n 0, 1) := by decide +kernel
theorem dX12_goAct_127 : decode cX12_goAct 127 = .ok (.dup, 1) := by decide +kernel
theorem dX12_goAct_128 : decode cX12_goAct 128 = .ok (.getfield 291, 3) := by decide +kernel
theorem dX12_goAct_131 : decode cX12_goAct 131 = .ok (.iconst 1, 1) := by decide +kernel
theorem dX12_goAct_132 : decode cX12_goAct 132 = .ok (.iadd, 1) := by decide +kernel
theorem dX12_goAct_133 : decode cX12_goAct 133 = .ok (.putfield 291, 3) := by decide +kernel
theorem dX12_goAct_136 : decode cX12_goAct 136 = .ok (.return_, 1) := by decide +kernel
theorem dX12_goStatement_0 : decode cX12_goStatement 0 = .ok (.aload_n 0, 1) := by decide +kernel
theorem dX12_goStatement_1 : decode cX12_goStatement 1 = .ok (.aload_n 0, 1) := by decide +kernel
theorem dX12_goStatement_2 : decode cX12_goStatement 2 = .ok (.getfield 276, 3) := by decide +kernel
theorem dX12_goStatement_5 : decode cX12_goStatement 5 = .ok (.invokevirtual 279, 3) := by decide +kernel
theorem dX12_goStatement_8 : decode cX12_goStatement 8 = .ok (.istore_n 1, 1) := by decide +kernel
theorem dX12_goStatement_9 : decode cX12_goStatement 9 = .ok (.iload_n 1, 1) := by decide +kernel
theorem dX12_goStatement_10 : decode cX12_goStatement 10 = .ok (.bipush 125, 2) := by decide +kernel
theorem dX12_goStatement_12 : decode cX12_goStatement 12 = .ok (.if_icmp .ne 8, 3) := by decide +kernel
theorem dX12_goStatement_15 : decode cX12_goStatement 15 = .ok (.aload_n 0, 1) := by decide +kernel
theorem dX12_goStatement_16 : decode cX12_goStatement 16 = .ok (.invokevirtual 311, 3) := by decide +kernel
theorem dX12_goStatement_19 : decode cX12_goStatement 19 = .ok (.return_, 1) := by decide +kernel
theorem dX12_goStatement_20 : decode cX12_goStatement 20 = .ok (.aload_n 0, 1) := by decide +kernel
theorem dX12_goStatement_21 : decode cX12_goStatement 21 = .ok (.dup, 1) := by decide +kernel
theorem dX12_goStatement_22 : decode cX12_goStatement 22 = .ok (.getfield 276, 3) := by decide +kernel
theorem dX12_goStatement_25 : decode cX12_goStatement 25 = .ok (.iconst 1, 1) := by decide +kernel
theorem dX12_goStatement_26 : decode cX12_goStatement 26 = .ok (.iadd, 1) := by decide +kernel
theorem dX12_goStatement_27 : decode cX12_goStatement 27 = .ok (.putfield 276, 3) := by decide +kernel
theorem dX12_goStatement_30 : decode cX12_goStatement 30 = .ok (.iload_n 1, 1) := by decide +kernel
theorem dX12_goStatement_31 : decode cX12_goStatement 31 = .ok (.sipush 205, 3) := by decide +kernel
theorem dX12_goStatement_34 : decode cX12_goStatement 34 = .ok (.if_icmp .ne 30, 3) := by decide +kernel
theorem dX12_goStatement_37 : decode cX12_goStatement 37 = .ok (.aload_n 0, 1) := by decide +kernel
theorem dX12_goStatement_38 : decode cX12_goStatement 38 = .ok (.aload_n 0, 1) := by decide +kernel
theorem dX12_goStatement_39 : decode cX12_goStatement 39 = .ok (.getfield 276, 3) := by decide +kernel
theorem dX12_goStatement_42 : decode cX12_goStatement 42 = .ok (.invokevirtual 282, 3) := by decide +kernel
theorem dX12_goStatement_45 : decode cX12_goStatement 45 = .ok (.istore_n 2, 1) := by decide +kernel
theorem dX12_goStatement_46 : decode cX12_goStatement 46 = .ok (.aload_n 0, 1) := by decide +kernel
theorem dX12_goStatement_47 : decode cX12_goStatement 47 = .ok (.dup, 1) := by decide +kernel
theorem dX12_goStatement_48 : decode cX12_goStatement 48 = .ok (.getfield 276, 3) := by decide +kernel
theorem dX12_goStatement_51 : decode cX12_goStatement 51 = .ok (.iconst 1, 1) := by decide +kernel
theorem dX12_goStatement_52 : decode cX12_goStatement 52 = .ok (.iadd, 1) := by decide +kernel
theorem dX12_goStatement_53 : decode cX12_goStatement 53 = .ok (.putfield 276, 3) := by decide +kernel
theorem dX12_goStatement_56 : decode cX12_goStatement 56 = .ok (.aload_n 0, 1) := by decide +kernel
theorem dX12_goStatement_57 : decode cX12_goStatement 57 = .ok (.iload_n 2, 1) := by decide +kernel
theorem dX12_goStatement_58 : decode cX12_goStatement 58 = .ok (.invokevirtual 301, 3) := by decide +kernel
theorem dX12_goStatement_61 : decode cX12_goStatement 61 = .ok (.goto 22, 3) := by decide +kernel
theorem dX12_goStatement_64 : decode cX12_goStatement 64 = .ok (.iload_n 1, 1) := by decide +kernel
theorem dX12_goStatement_65 : decode cX12_goStatement 65 = .ok (.sipush 206, 3) := by decide +kernel
theorem dX12_goStatement_68 : decode cX12_goStatement 68 = .ok (.if_icmp .ne 10, 3) := by decide +kernel
theorem dX12_goStatement_71 : decode cX12_goStatement 71 = .ok (.aload_n 0, 1) := by decide +kernel
theorem dX12_goStatement_72 : decode cX12_goStatement 72 = .ok (.invokevirtual 314, 3) := by decide +kernel
theorem dX12_goStatement_75 : decode cX12_goStatement 75 = .ok (.goto 8, 3) := by decide +kernel
theorem dX12_goStatement_78 : decode cX12_goStatement 78 = .ok (.aload_n 0, 1) := by decide +kernel
theorem dX12_goStatement_79 : decode cX12_goStatement 79 = .ok (.iload_n 1, 1) := by decide +kernel
theorem dX12_goStatement_80 : decode cX12_goStatement 80 = .ok (.invokevirtual 317, 3) := by decide +kernel
theorem dX12_goStatement_83 : decode cX12_goStatement 83 = .ok (.return_, 1) := by decide +kernel
theorem dX12_goText_0 : decode cX12_goText 0 = .ok (.aload_n 0, 1) := by decide +kernel
theorem dX12_goText_1 : decode cX12_goText 1 = .ok (.sipush 602, 3) := by decide +kernel
theorem dX12_goText_4 : decode cX12_goText 4 = .ok (.iload_n 1, 1) := by decide +kernel
theorem dX12_goText_5 : decode cX12_goText 5 = .ok (.imul, 1) := by decide +kernel
theorem dX12_goText_6 : decode cX12_goText 6 = .ok (.putfield 107, 3) := by decide +kernel
theorem dX12_goText_9 : decode cX12_goText 9 = .ok (.aload_n 0, 1) := by decide +kernel
theorem dX12_goText_10 : decode cX12_goText 10 = .ok (.iconst 0, 1) := by decide +kernel
theorem dX12_goText_11 : decode cX12_goText 11 = .ok (.putfield 276, 3) := by decide +kernel
theorem dX12_goText_14 : decode cX12_goText 14 = .ok (.aload_n 0, 1) := by decide +kernel
theorem dX12_goText_15 : decode cX12_goText 15 = .ok (.iconst 0, 1) := by decide +kernel
theorem dX12_goText_16 : decode cX12_goText 16 = .ok (.putfield 291, 3) := by decide +kernel
theorem dX12_goText_19 : decode cX12_goText 19 = .ok (.aload_n 0, 1) := by decide +kernel
theorem dX12_goText_20 : decode cX12_goText 20 = .ok (.iconst 0, 1) := by decide +kernel
theorem dX12_goText_21 : decode cX12_goText 21 = .ok (.putfield 119, 3) := by decide +kernel
theorem dX12_goText_24 : decode cX12_goText 24 = .ok (.aload_n 0, 1) := by decide +kernel
theorem dX12_goText_25 : decode cX12_goText 25 = .ok (.iconst 0, 1) := by decide +kernel
theorem dX12_goText_26 : decode cX12_goText 26 = .ok (.putfield 122, 3) := by decide +kernel
theorem dX12_goText_29 : decode cX12_goText 29 = .ok (.aload_n 0, 1) := by decide +kernel
theorem dX12_goText_30 : decode cX12_goText 30 = .ok (.aload_n 0, 1) := by decide +kernel
theorem dX12_goText_31 : decode cX12_goText 31 = .ok (.getfield 276, 3) := by decide +kernel
theorem dX12_goText_34 : decode cX12_goText 34 = .ok (.invokevirtual 279, 3) := by decide +kernel
theorem dX12_goText_37 : decode cX12_goText 37 = .ok (.ifCond .eq 17, 3) := by decide +kernel
theorem dX12_goText_40 : decode cX12_goText 40 = .ok (.aload_n 0, 1) := by decide +kernel
theorem dX12_goText_41 : decode cX12_goText 41 = .ok (.invokevirtual 294, 3) := by decide +kernel
theorem dX12_goText_44 : decode cX12_goText 44 = .ok (.ifCond .ne 10, 3) := by decide +kernel
theorem dX12_goText_47 : decode cX12_goText 47 = .ok (.aload_n 0, 1) := by decide +kernel
theorem dX12_goText_48 : decode cX12_goText 48 = .ok (.invokevirtual 320, 3) := by decide +kernel
theorem dX12_goText_51 : decode cX12_goText 51 = .ok (.goto (-22), 3) := by decide +kernel
theorem dX12_goText_54 : decode cX12_goText 54 = .ok (.aload_n 0, 1) := by decide +kernel
theorem dX12_goText_55 : decode cX12_goText 55 = .ok (.getfield 291, 3) := by decide +kernel
theorem dX12_goText_58 : decode cX12_goText 58 = .ok (.ireturn, 1) := by decide +kernel
theorem dX12_putAside_0 : decode cX12_putAside 0 = .ok (.iconst 0, 1) := by decide +kernel
theorem dX12_putAside_1 : decode cX12_putAside 1 = .ok (.istore_n 1, 1) := by decide +kernel
theorem dX12_putAside_2 : decode cX12_putAside 2 = .ok (.iload_n 1, 1) := by decide +kernel
theorem dX12_putAside_3 : decode cX12_putAside 3 = .ok (.sipush 347, 3) := by decide +kernel
theorem dX12_putAside_6 : decode cX12_putAside 6 = .ok (.if_icmp .ge 23, 3) := by decide +kernel
theorem dX12_putAside_9 : decode cX12_putAside 9 = .ok (.aload_n 0, 1) := by decide +kernel
theorem dX12_putAside_10 : decode cX12_putAside 10 = .ok (.getfield 45, 3) := by decide +kernel
theorem dX12_putAside_13 : decode cX12_putAside 13 = .ok (.iload_n 1, 1) := by decide +kernel
theorem dX12_putAside_14 : decode cX12_putAside 14 = .ok (.aload_n 0, 1) := by decide +kernel
theorem dX12_putAside_15 : decode cX12_putAside 15 = .ok (.getfield 7, 3) := by decide +kernel
theorem dX12_putAside_18 : decode cX12_putAside 18 = .ok (.iconst 3, 1) := by decide +kernel
theorem dX12_putAside_19 : decode cX12_putAside 19 = .ok (.iload_n 1, 1) := by decide +kernel
theorem dX12_putAside_20 : decode cX12_putAside 20 = .ok (.iadd, 1) := by decide +kernel
theorem dX12_putAside_21 : decode cX12_putAside 21 = .ok (.iaload, 1) := by decide +kernel
theorem dX12_putAside_22 : decode cX12_putAside 22 = .ok (.iastore, 1) := by decide +kernel
theorem dX12_putAside_23 : decode cX12_putAside 23 = .ok (.iinc 1 1, 3) := by decide +kernel
theorem dX12_putAside_26 : decode cX12_putAside 26 = .ok (.goto (-24), 3) := by decide +kernel
theorem dX12_putAside_29 : decode cX12_putAside 29 = .ok (.return_, 1) := by decide +kernel
theorem dX12_bringBack_0 : decode cX12_bringBack 0 = .ok (.iconst 0, 1) := by decide +kernel
theorem dX12_bringBack_1 : decode cX12_bringBack 1 = .ok (.istore_n 1, 1) := by decide +kernel
theorem dX12_bringBack_2 : decode cX12_bringBack 2 = .ok (.iload_n 1, 1) := by decide +kernel
theorem dX12_bringBack_3 : decode cX12_bringBack 3 = .ok (.sipush 347, 3) := by decide +kernel
theorem dX12_bringBack_6 : decode cX12_bringBack 6 = .ok (.if_icmp .ge 23, 3) := by decide +kernel
theorem dX12_bringBack_9 : decode cX12_bringBack 9 = .ok (.aload_n 0, 1) := by decide +kernel
theorem dX12_bringBack_10 : decode cX12_bringBack 10 = .ok (.getfield 7, 3) := by decide +kernel
theorem dX12_bringBack_13 : decode cX12_bringBack 13 = .ok (.iconst 3, 1) := by decide +kernel
theorem dX12_bringBack_14 : decode cX12_bringBack 14 = .ok (.iload_n 1, 1) := by decide +kernel
theorem dX12_bringBack_15 : decode cX12_bringBack 15 = .ok (.iadd, 1) := by decide +kernel
theorem dX12_bringBack_16 : decode cX12_bringBack 16 = .ok (.aload_n 0, 1) := by decide +kernel
theorem dX12_bringBack_17 : decode cX12_bringBack 17 = .ok (.getfield 45, 3) := by decide +kernel
theorem dX12_bringBack_20 : decode cX12_bringBack 20 = .ok (.iload_n 1, 1) := by decide +kernel
theorem dX12_bringBack_21 : decode cX12_bringBack 21 = .ok (.iaload, 1) := by decide +kernel
theorem dX12_bringBack_22 : decode cX12_bringBack 22 = .ok (.iastore, 1) := by decide +kernel
theorem dX12_bringBack_23 : decode cX12_bringBack 23 = .ok (.iinc 1 1, 3) := by decide +kernel
theorem dX12_bringBack_26 : decode cX12_bringBack 26 = .ok (.goto (-24), 3) := by decide +kernel
theorem dX12_bringBack_29 : decode cX12_bringBack 29 = .ok (.return_, 1) := by decide +kernel
theorem dX12_stepAt_0 : decode cX12_stepAt 0 = .ok (.sipush 350, 3) := by decide +kernel
theorem dX12_stepAt_3 : decode cX12_stepAt 3 = .ok (.sipush 347, 3) := by decide +kernel
theorem dX12_stepAt_6 : decode cX12_stepAt 6 = .ok (.iload_n 0, 1) := by decide +kernel
theorem dX12_stepAt_7 : decode cX12_stepAt 7 = .ok (.iload_n 1, 1) := by decide +kernel
theorem dX12_stepAt_8 : decode cX12_stepAt 8 = .ok (.iadd, 1) := by decide +kernel
theorem dX12_stepAt_9 : decode cX12_stepAt 9 = .ok (.bipush 30, 2) := by decide +kernel
theorem dX12_stepAt_11 : decode cX12_stepAt 11 = .ok (.irem, 1) := by decide +kernel
theorem dX12_stepAt_12 : decode cX12_stepAt 12 = .ok (.imul, 1) := by decide +kernel
theorem dX12_stepAt_13 : decode cX12_stepAt 13 = .ok (.iadd, 1) := by decide +kernel
theorem dX12_stepAt_14 : decode cX12_stepAt 14 = .ok (.ireturn, 1) := by decide +kernel
theorem dX12_keep_0 : decode cX12_keep 0 = .ok (.aload_n 0, 1) := by decide +kernel
theorem dX12_keep_1 : decode cX12_keep 1 = .ok (.getfield 7, 3) := by decide +kernel
theorem dX12_keep_4 : decode cX12_keep 4 = .ok (.iconst 1, 1) := by decide +kernel
theorem dX12_keep_5 : decode cX12_keep 5 = .ok (.iaload, 1) := by decide +kernel
theorem dX12_keep_6 : decode cX12_keep 6 = .ok (.bipush 30, 2) := by decide +kernel
theorem dX12_keep_8 : decode cX12_keep 8 = .ok (.if_icmp .ne 30, 3) := by decide +kernel
theorem dX12_keep_11 : decode cX12_keep 11 = .ok (.aload_n 0, 1) := by decide +kernel
theorem dX12_keep_12 : decode cX12_keep 12 = .ok (.getfield 7, 3) := by decide +kernel
theorem dX12_keep_15 : decode cX12_keep 15 = .ok (.iconst 2, 1) := by decide +kernel
theorem dX12_keep_16 : decode cX12_keep 16 = .ok (.aload_n 0, 1) := by decide +kernel
theorem dX12_keep_17 : decode cX12_keep 17 = .ok (.getfield 7, 3) := by decide +kernel
theorem dX12_keep_20 : decode cX12_keep 20 = .ok (.iconst 2, 1) := by decide +kernel
theorem dX12_keep_21 : decode cX12_keep 21 = .ok (.iaload, 1) := by decide +kernel
theorem dX12_keep_22 : decode cX12_keep 22 = .ok (.iconst 1, 1) := by decide +kernel
theorem dX12_keep_23 : decode cX12_keep 23 = .ok (.iadd, 1) := by decide +kernel
theorem dX12_keep_24 : decode cX12_keep 24 = .ok (.bipush 30, 2) := by decide +kernel
theorem dX12_keep_26 : decode cX12_keep 26 = .ok (.irem, 1) := by decide +kernel
theorem dX12_keep_27 : decode cX12_keep 27 = .ok (.iastore, 1) := by decide +kernel
theorem dX12_keep_28 : decode cX12_keep 28 = .ok (.aload_n 0, 1) := by decide +kernel
theorem dX12_keep_29 : decode cX12_keep 29 = .ok (.getfield 7, 3) := by decide +kernel
theorem dX12_keep_32 : decode cX12_keep 32 = .ok (.iconst 1, 1) := by decide +kernel
theorem dX12_keep_33 : decode cX12_keep 33 = .ok (.dup2, 1) := by decide +kernel
theorem dX12_keep_34 : decode cX12_keep 34 = .ok (.iaload, 1) := by decide +kernel
theorem dX12_keep_35 : decode cX12_keep 35 = .ok (.iconst 1, 1) := by decide +kernel
theorem dX12_keep_36 : decode cX12_keep 36 = .ok (.isub, 1) := by decide +kernel
theorem dX12_keep_37 : decode cX12_keep 37 = .ok (.iastore, 1) := by decide +kernel
theorem dX12_keep_38 : decode cX12_keep 38 = .ok (.aload_n 0, 1) := by decide +kernel
theorem dX12_keep_39 : decode cX12_keep 39 = .ok (.getfield 7, 3) := by decide +kernel
theorem dX12_keep_42 : decode cX12_keep 42 = .ok (.iconst 2, 1) := by decide +kernel
theorem dX12_keep_43 : decode cX12_keep 43 = .ok (.iaload, 1) := by decide +kernel
theorem dX12_keep_44 : decode cX12_keep 44 = .ok (.aload_n 0, 1) := by decide +kernel
theorem dX12_keep_45 : decode cX12_keep 45 = .ok (.getfield 7, 3) := by decide +kernel
theorem dX12_keep_48 : decode cX12_keep 48 = .ok (.iconst 1, 1) := by decide +kernel
theorem dX12_keep_49 : decode cX12_keep 49 = .ok (.iaload, 1) := by decide +kernel
theorem dX12_keep_50 : decode cX12_keep 50 = .ok (.invokestatic 323, 3) := by decide +kernel
theorem dX12_keep_53 : decode cX12_keep 53 = .ok (.istore_n 1, 1) := by decide +kernel
theorem dX12_keep_54 : decode cX12_keep 54 = .ok (.iconst 0, 1) := by decide +kernel
theorem dX12_keep_55 : decode cX12_keep 55 = .ok (.istore_n 2, 1) := by decide +kernel
theorem dX12_keep_56 : decode cX12_keep 56 = .ok (.iload_n 2, 1) := by decide +kernel
theorem dX12_keep_57 : decode cX12_keep 57 = .ok (.sipush 347, 3) := by decide +kernel
theorem dX12_keep_60 : decode cX12_keep 60 = .ok (.if_icmp .ge 25, 3) := by decide +kernel
theorem dX12_keep_63 : decode cX12_keep 63 = .ok (.aload_n 0, 1) := by decide +kernel
theorem dX12_keep_64 : decode cX12_keep 64 = .ok (.getfield 7, 3) := by decide +kernel
theorem dX12_keep_67 : decode cX12_keep 67 = .ok (.iload_n 1, 1) := by decide +kernel
theorem dX12_keep_68 : decode cX12_keep 68 = .ok (.iload_n 2, 1) := by decide +kernel
theorem dX12_keep_69 : decode cX12_keep 69 = .ok (.iadd, 1) := by decide +kernel
theorem dX12_keep_70 : decode cX12_keep 70 = .ok (.aload_n 0, 1) := by decide +kernel
theorem dX12_keep_71 : decode cX12_keep 71 = .ok (.getfield 7, 3) := by decide +kernel
theorem dX12_keep_74 : decode cX12_keep 74 = .ok (.iconst 3, 1) := by decide +kernel
theorem dX12_keep_75 : decode cX12_keep 75 = .ok (.iload_n 2, 1) := by decide +kernel
theorem dX12_keep_76 : decode cX12_keep 76 = .ok (.iadd, 1) := by decide +kernel
theorem dX12_keep_77 : decode cX12_keep 77 = .ok (.iaload, 1) := by decide +kernel
theorem dX12_keep_78 : decode cX12_keep 78 = .ok (.iastore, 1) := by decide +kernel
theorem dX12_keep_79 : decode cX12_keep 79 = .ok (.iinc 2 1, 3) := by decide +kernel
theorem dX12_keep_82 : decode cX12_keep 82 = .ok (.goto (-26), 3) := by decide +kernel
theorem dX12_keep_85 : decode cX12_keep 85 = .ok (.aload_n 0, 1) := by decide +kernel
theorem dX12_keep_86 : decode cX12_keep 86 = .ok (.getfield 7, 3) := by decide +kernel
theorem dX12_keep_89 : decode cX12_keep 89 = .ok (.iconst 1, 1) := by decide +kernel
theorem dX12_keep_90 : decode cX12_keep 90 = .ok (.dup2, 1) := by decide +kernel
theorem dX12_keep_91 : decode cX12_keep 91 = .ok (.iaload, 1) := by decide +kernel
theorem dX12_keep_92 : decode cX12_keep 92 = .ok (.iconst 1, 1) := by decide +kernel
theorem dX12_keep_93 : decode cX12_keep 93 = .ok (.iadd, 1) := by decide +kernel
theorem dX12_keep_94 : decode cX12_keep 94 = .ok (.iastore, 1) := by decide +kernel
theorem dX12_keep_95 : decode cX12_keep 95 = .ok (.return_, 1) := by decide +kernel
theorem dX12_undo_0 : decode cX12_undo 0 = .ok (.aload_n 0, 1) := by decide +kernel
theorem dX12_undo_1 : decode cX12_undo 1 = .ok (.getfield 7, 3) := by decide +kernel
theorem dX12_undo_4 : decode cX12_undo 4 = .ok (.iconst 1, 1) := by decide +kernel
theorem dX12_undo_5 : decode cX12_undo 5 = .ok (.iaload, 1) := by decide +kernel
theorem dX12_undo_6 : decode cX12_undo 6 = .ok (.ifCond .ne 5, 3) := by decide +kernel
theorem dX12_undo_9 : decode cX12_undo 9 = .ok (.iconst (-1), 1) := by decide +kernel
theorem dX12_undo_10 : decode cX12_undo 10 = .ok (.ireturn, 1) := by decide +kernel
theorem dX12_undo_11 : decode cX12_undo 11 = .ok (.aload_n 0, 1) := by decide +kernel
theorem dX12_undo_12 : decode cX12_undo 12 = .ok (.getfield 7, 3) := by decide +kernel
theorem dX12_undo_15 : decode cX12_undo 15 = .ok (.iconst 1, 1) := by decide +kernel
theorem dX12_undo_16 : decode cX12_undo 16 = .ok (.dup2, 1) := by decide +kernel
theorem dX12_undo_17 : decode cX12_undo 17 = .ok (.iaload, 1) := by decide +kernel
theorem dX12_undo_18 : decode cX12_undo 18 = .ok (.iconst 1, 1) := by decide +kernel
theorem dX12_undo_19 : decode cX12_undo 19 = .ok (.isub, 1) := by decide +kernel
theorem dX12_undo_20 : decode cX12_undo 20 = .ok (.iastore, 1) := by decide +kernel
theorem dX12_undo_21 : decode cX12_undo 21 = .ok (.aload_n 0, 1) := by decide +kernel
theorem dX12_undo_22 : decode cX12_undo 22 = .ok (.getfield 7, 3) := by decide +kernel
theorem dX12_undo_25 : decode cX12_undo 25 = .ok (.iconst 2, 1) := by decide +kernel
theorem dX12_undo_26 : decode cX12_undo 26 = .ok (.iaload, 1) := by decide +kernel
theorem dX12_undo_27 : decode cX12_undo 27 = .ok (.aload_n 0, 1) := by decide +kernel
theorem dX12_undo_28 : decode cX12_undo 28 = .ok (.getfield 7, 3) := by decide +kernel
theorem dX12_undo_31 : decode cX12_undo 31 = .ok (.iconst 1, 1) := by decide +kernel
theorem dX12_undo_32 : decode cX12_undo 32 = .ok (.iaload, 1) := by decide +kernel
theorem dX12_undo_33 : decode cX12_undo 33 = .ok (.invokestatic 323, 3) := by decide +kernel
theorem dX12_undo_36 : decode cX12_undo 36 = .ok (.istore_n 1, 1) := by decide +kernel
theorem dX12_undo_37 : decode cX12_undo 37 = .ok (.iconst 0, 1) := by decide +kernel
theorem dX12_undo_38 : decode cX12_undo 38 = .ok (.istore_n 2, 1) := by decide +kernel
theorem dX12_undo_39 : decode cX12_undo 39 = .ok (.iload_n 2, 1) := by decide +kernel
theorem dX12_undo_40 : decode cX12_undo 40 = .ok (.sipush 347, 3) := by decide +kernel
theorem dX12_undo_43 : decode cX12_undo 43 = .ok (.if_icmp .ge 25, 3) := by decide +kernel
theorem dX12_undo_46 : decode cX12_undo 46 = .ok (.aload_n 0, 1) := by decide +kernel
theorem dX12_undo_47 : decode cX12_undo 47 = .ok (.getfield 7, 3) := by decide +kernel
theorem dX12_undo_50 : decode cX12_undo 50 = .ok (.iconst 3, 1) := by decide +kernel
theorem dX12_undo_51 : decode cX12_undo 51 = .ok (.iload_n 2, 1) := by decide +kernel
theorem dX12_undo_52 : decode cX12_undo 52 = .ok (.iadd, 1) := by decide +kernel
theorem dX12_undo_53 : decode cX12_undo 53 = .ok (.aload_n 0, 1) := by decide +kernel
theorem dX12_undo_54 : decode cX12_undo 54 = .ok (.getfield 7, 3) := by decide +kernel
theorem dX12_undo_57 : decode cX12_undo 57 = .ok (.iload_n 1, 1) := by decide +kernel
theorem dX12_undo_58 : decode cX12_undo 58 = .ok (.iload_n 2, 1) := by decide +kernel
theorem dX12_undo_59 : decode cX12_undo 59 = .ok (.iadd, 1) := by decide +kernel
theorem dX12_undo_60 : decode cX12_undo 60 = .ok (.iaload, 1) := by decide +kernel
theorem dX12_undo_61 : decode cX12_undo 61 = .ok (.iastore, 1) := by decide +kernel
theorem dX12_undo_62 : decode cX12_undo 62 = .ok (.iinc 2 1, 3) := by decide +kernel
theorem dX12_undo_65 : decode cX12_undo 65 = .ok (.goto (-26), 3) := by decide +kernel
theorem dX12_undo_68 : decode cX12_undo 68 = .ok (.aload_n 0, 1) := by decide +kernel
theorem dX12_undo_69 : decode cX12_undo 69 = .ok (.getfield 7, 3) := by decide +kernel
theorem dX12_undo_72 : decode cX12_undo 72 = .ok (.iconst 1, 1) := by decide +kernel
theorem dX12_undo_73 : decode cX12_undo 73 = .ok (.iaload, 1) := by decide +kernel
theorem dX12_undo_74 : decode cX12_undo 74 = .ok (.ireturn, 1) := by decide +kernel
theorem dX12_read_0 : decode cX12_read 0 = .ok (.iload_n 1, 1) := by decide +kernel
theorem dX12_read_1 : decode cX12_read 1 = .ok (.iload_n 2, 1) := by decide +kernel
theorem dX12_read_2 : decode cX12_read 2 = .ok (.invokestatic 326, 3) := by decide +kernel
theorem dX12_read_5 : decode cX12_read 5 = .ok (.ifCond .ne 5, 3) := by decide +kernel
theorem dX12_read_8 : decode cX12_read 8 = .ok (.iconst (-1), 1) := by decide +kernel
theorem dX12_read_9 : decode cX12_read 9 = .ok (.ireturn, 1) := by decide +kernel
theorem dX12_read_10 : decode cX12_read 10 = .ok (.aload_n 0, 1) := by decide +kernel
theorem dX12_read_11 : decode cX12_read 11 = .ok (.invokevirtual 329, 3) := by decide +kernel
theorem dX12_read_14 : decode cX12_read 14 = .ok (.aload_n 0, 1) := by decide +kernel
theorem dX12_read_15 : decode cX12_read 15 = .ok (.iload_n 1, 1) := by decide +kernel
theorem dX12_read_16 : decode cX12_read 16 = .ok (.iload_n 2, 1) := by decide +kernel
theorem dX12_read_17 : decode cX12_read 17 = .ok (.invokevirtual 254, 3) := by decide +kernel
theorem dX12_read_20 : decode cX12_read 20 = .ok (.ireturn, 1) := by decide +kernel
theorem dX12_write_0 : decode cX12_write 0 = .ok (.iload_n 1, 1) := by decide +kernel
theorem dX12_write_1 : decode cX12_write 1 = .ok (.iload_n 2, 1) := by decide +kernel
theorem dX12_write_2 : decode cX12_write 2 = .ok (.invokestatic 326, 3) := by decide +kernel
theorem dX12_write_5 : decode cX12_write 5 = .ok (.ifCond .eq 14, 3) := by decide +kernel
theorem dX12_write_8 : decode cX12_write 8 = .ok (.iload_n 3, 1) := by decide +kernel
theorem dX12_write_9 : decode cX12_write 9 = .ok (.iconst 0, 1) := by decide +kernel
theorem dX12_write_10 : decode cX12_write 10 = .ok (.sipush 999, 3) := by decide +kernel
theorem dX12_write_13 : decode cX12_write 13 = .ok (.invokestatic 52, 3) := by decide +kernel
theorem dX12_write_16 : decode cX12_write 16 = .ok (.ifCond .ne 5, 3) := by decide +kernel
theorem dX12_write_19 : decode cX12_write 19 = .ok (.iconst (-1), 1) := by decide +kernel
theorem dX12_write_20 : decode cX12_write 20 = .ok (.ireturn, 1) := by decide +kernel
theorem dX12_write_21 : decode cX12_write 21 = .ok (.aload_n 0, 1) := by decide +kernel
theorem dX12_write_22 : decode cX12_write 22 = .ok (.invokevirtual 329, 3) := by decide +kernel
theorem dX12_write_25 : decode cX12_write 25 = .ok (.aload_n 0, 1) := by decide +kernel
theorem dX12_write_26 : decode cX12_write 26 = .ok (.iload_n 1, 1) := by decide +kernel
theorem dX12_write_27 : decode cX12_write 27 = .ok (.iload_n 2, 1) := by decide +kernel
theorem dX12_write_28 : decode cX12_write 28 = .ok (.iload_n 3, 1) := by decide +kernel
theorem dX12_write_29 : decode cX12_write 29 = .ok (.invokevirtual 266, 3) := by decide +kernel
theorem dX12_write_32 : decode cX12_write 32 = .ok (.ireturn, 1) := by decide +kernel
theorem dX12_scan_0 : decode cX12_scan 0 = .ok (.iload_n 1, 1) := by decide +kernel
theorem dX12_scan_1 : decode cX12_scan 1 = .ok (.invokestatic 56, 3) := by decide +kernel
theorem dX12_scan_4 : decode cX12_scan 4 = .ok (.ifCond .eq 15, 3) := by decide +kernel
theorem dX12_scan_7 : decode cX12_scan 7 = .ok (.iload_n 2, 1) := by decide +kernel
theorem dX12_scan_8 : decode cX12_scan 8 = .ok (.invokestatic 56, 3) := by decide +kernel
theorem dX12_scan_11 : decode cX12_scan 11 = .ok (.ifCond .eq 8, 3) := by decide +kernel
theorem dX12_scan_14 : decode cX12_scan 14 = .ok (.iload_n 1, 1) := by decide +kernel
theorem dX12_scan_15 : decode cX12_scan 15 = .ok (.iload_n 2, 1) := by decide +kernel
theorem dX12_scan_16 : decode cX12_scan 16 = .ok (.if_icmp .le 5, 3) := by decide +kernel
theorem dX12_scan_19 : decode cX12_scan 19 = .ok (.iconst (-1), 1) := by decide +kernel
theorem dX12_scan_20 : decode cX12_scan 20 = .ok (.ireturn, 1) := by decide +kernel
theorem dX12_scan_21 : decode cX12_scan 21 = .ok (.aload_n 0, 1) := by decide +kernel
theorem dX12_scan_22 : decode cX12_scan 22 = .ok (.invokevirtual 329, 3) := by decide +kernel
theorem dX12_scan_25 : decode cX12_scan 25 = .ok (.aload_n 0, 1) := by decide +kernel
theorem dX12_scan_26 : decode cX12_scan 26 = .ok (.iload_n 1, 1) := by decide +kernel
theorem dX12_scan_27 : decode cX12_scan 27 = .ok (.iload_n 2, 1) := by decide +kernel
theorem dX12_scan_28 : decode cX12_scan 28 = .ok (.invokevirtual 270, 3) := by decide +kernel
theorem dX12_scan_31 : decode cX12_scan 31 = .ok (.ireturn, 1) := by decide +kernel
theorem dX12_pin_0 : decode cX12_pin 0 = .ok (.iload_n 1, 1) := by decide +kernel
theorem dX12_pin_1 : decode cX12_pin 1 = .ok (.invokestatic 56, 3) := by decide +kernel
theorem dX12_pin_4 : decode cX12_pin 4 = .ok (.ifCond .eq 25, 3) := by decide +kernel
theorem dX12_pin_7 : decode cX12_pin 7 = .ok (.iload_n 2, 1) := by decide +kernel
theorem dX12_pin_8 : decode cX12_pin 8 = .ok (.iconst 0, 1) := by decide +kernel
theorem dX12_pin_9 : decode cX12_pin 9 = .ok (.iconst 2, 1) := by decide +kernel
theorem dX12_pin_10 : decode cX12_pin 10 = .ok (.invokestatic 52, 3) := by decide +kernel
theorem dX12_pin_13 : decode cX12_pin 13 = .ok (.ifCond .eq 16, 3) := by decide +kernel
theorem dX12_pin_16 : decode cX12_pin 16 = .ok (.aload_n 0, 1) := by decide +kernel
theorem dX12_pin_17 : decode cX12_pin 17 = .ok (.getfield 7, 3) := by decide +kernel
theorem dX12_pin_20 : decode cX12_pin 20 = .ok (.bipush 69, 2) := by decide +kernel
theorem dX12_pin_22 : decode cX12_pin 22 = .ok (.iload_n 1, 1) := by decide +kernel
theorem dX12_pin_23 : decode cX12_pin 23 = .ok (.iadd, 1) := by decide +kernel
theorem dX12_pin_24 : decode cX12_pin 24 = .ok (.iaload, 1) := by decide +kernel
theorem dX12_pin_25 : decode cX12_pin 25 = .ok (.iload_n 2, 1) := by decide +kernel
theorem dX12_pin_26 : decode cX12_pin 26 = .ok (.if_icmp .ne 5, 3) := by decide +kernel
theorem dX12_pin_29 : decode cX12_pin 29 = .ok (.iconst 0, 1) := by decide +kernel
theorem dX12_pin_30 : decode cX12_pin 30 = .ok (.ireturn, 1) := by decide +kernel
theorem dX12_pin_31 : decode cX12_pin 31 = .ok (.aload_n 0, 1) := by decide +kernel
theorem dX12_pin_32 : decode cX12_pin 32 = .ok (.invokevirtual 329, 3) := by decide +kernel
theorem dX12_pin_35 : decode cX12_pin 35 = .ok (.aload_n 0, 1) := by decide +kernel
theorem dX12_pin_36 : decode cX12_pin 36 = .ok (.getfield 7, 3) := by decide +kernel
theorem dX12_pin_39 : decode cX12_pin 39 = .ok (.bipush 69, 2) := by decide +kernel
theorem dX12_pin_41 : decode cX12_pin 41 = .ok (.iload_n 1, 1) := by decide +kernel
theorem dX12_pin_42 : decode cX12_pin 42 = .ok (.iadd, 1) := by decide +kernel
theorem dX12_pin_43 : decode cX12_pin 43 = .ok (.iload_n 2, 1) := by decide +kernel
theorem dX12_pin_44 : decode cX12_pin 44 = .ok (.iastore, 1) := by decide +kernel
theorem dX12_pin_45 : decode cX12_pin 45 = .ok (.aload_n 0, 1) := by decide +kernel
theorem dX12_pin_46 : decode cX12_pin 46 = .ok (.iconst 5, 1) := by decide +kernel
theorem dX12_pin_47 : decode cX12_pin 47 = .ok (.iload_n 1, 1) := by decide +kernel
theorem dX12_pin_48 : decode cX12_pin 48 = .ok (.iload_n 2, 1) := by decide +kernel
theorem dX12_pin_49 : decode cX12_pin 49 = .ok (.invokevirtual 185, 3) := by decide +kernel
theorem dX12_pin_52 : decode cX12_pin 52 = .ok (.iconst 1, 1) := by decide +kernel
theorem dX12_pin_53 : decode cX12_pin 53 = .ok (.ireturn, 1) := by decide +kernel
theorem dX12_tell_0 : decode cX12_tell 0 = .ok (.iload_n 1, 1) := by decide +kernel
theorem dX12_tell_1 : decode cX12_tell 1 = .ok (.iconst 0, 1) := by decide +kernel
theorem dX12_tell_2 : decode cX12_tell 2 = .ok (.iconst 2, 1) := by decide +kernel
theorem dX12_tell_3 : decode cX12_tell 3 = .ok (.invokestatic 52, 3) := by decide +kernel
theorem dX12_tell_6 : decode cX12_tell 6 = .ok (.ifCond .eq 32, 3) := by decide +kernel
theorem dX12_tell_9 : decode cX12_tell 9 = .ok (.iload_n 2, 1) := by decide +kernel
theorem dX12_tell_10 : decode cX12_tell 10 = .ok (.iconst 0, 1) := by decide +kernel
theorem dX12_tell_11 : decode cX12_tell 11 = .ok (.iload_n 1, 1) := by decide +kernel
theorem dX12_tell_12 : decode cX12_tell 12 = .ok (.ifCond .ne 8, 3) := by decide +kernel
theorem dX12_tell_15 : decode cX12_tell 15 = .ok (.bipush 6, 2) := by decide +kernel
theorem dX12_tell_17 : decode cX12_tell 17 = .ok (.goto 15, 3) := by decide +kernel
theorem dX12_tell_20 : decode cX12_tell 20 = .ok (.iload_n 1, 1) := by decide +kernel
theorem dX12_tell_21 : decode cX12_tell 21 = .ok (.iconst 1, 1) := by decide +kernel
theorem dX12_tell_22 : decode cX12_tell 22 = .ok (.if_icmp .ne 8, 3) := by decide +kernel
theorem dX12_tell_25 : decode cX12_tell 25 = .ok (.bipush 12, 2) := by decide +kernel
theorem dX12_tell_27 : decode cX12_tell 27 = .ok (.goto 5, 3) := by decide +kernel
theorem dX12_tell_30 : decode cX12_tell 30 = .ok (.bipush 40, 2) := by decide +kernel
theorem dX12_tell_32 : decode cX12_tell 32 = .ok (.invokestatic 52, 3) := by decide +kernel
theorem dX12_tell_35 : decode cX12_tell 35 = .ok (.ifCond .ne 5, 3) := by decide +kernel
theorem dX12_tell_38 : decode cX12_tell 38 = .ok (.iconst 0, 1) := by decide +kernel
theorem dX12_tell_39 : decode cX12_tell 39 = .ok (.ireturn, 1) := by decide +kernel
theorem dX12_tell_40 : decode cX12_tell 40 = .ok (.aload_n 0, 1) := by decide +kernel
theorem dX12_tell_41 : decode cX12_tell 41 = .ok (.invokevirtual 329, 3) := by decide +kernel
theorem dX12_tell_44 : decode cX12_tell 44 = .ok (.aload_n 0, 1) := by decide +kernel
theorem dX12_tell_45 : decode cX12_tell 45 = .ok (.getfield 7, 3) := by decide +kernel
theorem dX12_tell_48 : decode cX12_tell 48 = .ok (.bipush 7, 2) := by decide +kernel
theorem dX12_tell_50 : decode cX12_tell 50 = .ok (.iload_n 1, 1) := by decide +kernel
theorem dX12_tell_51 : decode cX12_tell 51 = .ok (.iadd, 1) := by decide +kernel
theorem dX12_tell_52 : decode cX12_tell 52 = .ok (.iload_n 2, 1) := by decide +kernel
theorem dX12_tell_53 : decode cX12_tell 53 = .ok (.iastore, 1) := by decide +kernel
theorem dX12_tell_54 : decode cX12_tell 54 = .ok (.iconst 1, 1) := by decide +kernel
theorem dX12_tell_55 : decode cX12_tell 55 = .ok (.ireturn, 1) := by decide +kernel
theorem dX12_ask_0 : decode cX12_ask 0 = .ok (.iload_n 1, 1) := by decide +kernel
theorem dX12_ask_1 : decode cX12_ask 1 = .ok (.invokestatic 56, 3) := by decide +kernel
theorem dX12_ask_4 : decode cX12_ask 4 = .ok (.ifCond .eq 11, 3) := by decide +kernel
theorem dX12_ask_7 : decode cX12_ask 7 = .ok (.aload_n 0, 1) := by decide +kernel
theorem dX12_ask_8 : decode cX12_ask 8 = .ok (.iload_n 1, 1) := by decide +kernel
theorem dX12_ask_9 : decode cX12_ask 9 = .ok (.invokevirtual 170, 3) := by decide +kernel
theorem dX12_ask_12 : decode cX12_ask 12 = .ok (.ifCond .lt 5, 3) := by decide +kernel
theorem dX12_ask_15 : decode cX12_ask 15 = .ok (.iconst (-1), 1) := by decide +kernel
theorem dX12_ask_16 : decode cX12_ask 16 = .ok (.ireturn, 1) := by decide +kernel
theorem dX12_ask_17 : decode cX12_ask 17 = .ok (.aload_n 0, 1) := by decide +kernel
theorem dX12_ask_18 : decode cX12_ask 18 = .ok (.invokevirtual 329, 3) := by decide +kernel
theorem dX12_ask_21 : decode cX12_ask 21 = .ok (.aload_n 0, 1) := by decide +kernel
theorem dX12_ask_22 : decode cX12_ask 22 = .ok (.iload_n 1, 1) := by decide +kernel
theorem dX12_ask_23 : decode cX12_ask 23 = .ok (.invokevirtual 242, 3) := by decide +kernel
theorem dX12_ask_26 : decode cX12_ask 26 = .ok (.aload_n 0, 1) := by decide +kernel
theorem dX12_ask_27 : decode cX12_ask 27 = .ok (.getfield 7, 3) := by decide +kernel
theorem dX12_ask_30 : decode cX12_ask 30 = .ok (.bipush 17, 2) := by decide +kernel
theorem dX12_ask_32 : decode cX12_ask 32 = .ok (.iaload, 1) := by decide +kernel
theorem dX12_ask_33 : decode cX12_ask 33 = .ok (.ireturn, 1) := by decide +kernel
theorem dX12_drop_0 : decode cX12_drop 0 = .ok (.iload_n 1, 1) := by decide +kernel
theorem dX12_drop_1 : decode cX12_drop 1 = .ok (.invokestatic 56, 3) := by decide +kernel
theorem dX12_drop_4 : decode cX12_drop 4 = .ok (.ifCond .eq 12, 3) := by decide +kernel
theorem dX12_drop_7 : decode cX12_drop 7 = .ok (.aload_n 0, 1) := by decide +kernel
theorem dX12_drop_8 : decode cX12_drop 8 = .ok (.iload_n 1, 1) := by decide +kernel
theorem dX12_drop_9 : decode cX12_drop 9 = .ok (.invokevirtual 170, 3) := by decide +kernel
theorem dX12_drop_12 : decode cX12_drop 12 = .ok (.iconst (-1), 1) := by decide +kernel
theorem dX12_drop_13 : decode cX12_drop 13 = .ok (.if_icmp .ne 5, 3) := by decide +kernel
theorem dX12_drop_16 : decode cX12_drop 16 = .ok (.iconst (-1), 1) := by decide +kernel
theorem dX12_drop_17 : decode cX12_drop 17 = .ok (.ireturn, 1) := by decide +kernel
theorem dX12_drop_18 : decode cX12_drop 18 = .ok (.aload_n 0, 1) := by decide +kernel
theorem dX12_drop_19 : decode cX12_drop 19 = .ok (.invokevirtual 329, 3) := by decide +kernel
theorem dX12_drop_22 : decode cX12_drop 22 = .ok (.aload_n 0, 1) := by decide +kernel
theorem dX12_drop_23 : decode cX12_drop 23 = .ok (.aload_n 0, 1) := by decide +kernel
theorem dX12_drop_24 : decode cX12_drop 24 = .ok (.iload_n 1, 1) := by decide +kernel
theorem dX12_drop_25 : decode cX12_drop 25 = .ok (.invokevirtual 170, 3) := by decide +kernel
theorem dX12_drop_28 : decode cX12_drop 28 = .ok (.invokevirtual 233, 3) := by decide +kernel
theorem dX12_drop_31 : decode cX12_drop 31 = .ok (.aload_n 0, 1) := by decide +kernel
theorem dX12_drop_32 : decode cX12_drop 32 = .ok (.getfield 7, 3) := by decide +kernel
theorem dX12_drop_35 : decode cX12_drop 35 = .ok (.bipush 17, 2) := by decide +kernel
theorem dX12_drop_37 : decode cX12_drop 37 = .ok (.iaload, 1) := by decide +kernel
theorem dX12_drop_38 : decode cX12_drop 38 = .ok (.ireturn, 1) := by decide +kernel
theorem dX12_day_0 : decode cX12_day 0 = .ok (.iload_n 1, 1) := by decide +kernel
theorem dX12_day_1 : decode cX12_day 1 = .ok (.iconst 1, 1) := by decide +kernel
theorem dX12_day_2 : decode cX12_day 2 = .ok (.bipush 8, 2) := by decide +kernel
theorem dX12_day_4 : decode cX12_day 4 = .ok (.invokestatic 52, 3) := by decide +kernel
theorem dX12_day_7 : decode cX12_day 7 = .ok (.ifCond .ne 5, 3) := by decide +kernel
theorem dX12_day_10 : decode cX12_day 10 = .ok (.iconst (-1), 1) := by decide +kernel
theorem dX12_day_11 : decode cX12_day 11 = .ok (.ireturn, 1) := by decide +kernel
theorem dX12_day_12 : decode cX12_day 12 = .ok (.aload_n 0, 1) := by decide +kernel
theorem dX12_day_13 : decode cX12_day 13 = .ok (.invokevirtual 329, 3) := by decide +kernel
theorem dX12_day_16 : decode cX12_day 16 = .ok (.aload_n 0, 1) := by decide +kernel
theorem dX12_day_17 : decode cX12_day 17 = .ok (.iload_n 1, 1) := by decide +kernel
theorem dX12_day_18 : decode cX12_day 18 = .ok (.invokevirtual 332, 3) := by decide +kernel
theorem dX12_day_21 : decode cX12_day 21 = .ok (.aload_n 0, 1) := by decide +kernel
theorem dX12_day_22 : decode cX12_day 22 = .ok (.getfield 7, 3) := by decide +kernel
theorem dX12_day_25 : decode cX12_day 25 = .ok (.iconst 3, 1) := by decide +kernel
theorem dX12_day_26 : decode cX12_day 26 = .ok (.iaload, 1) := by decide +kernel
theorem dX12_day_27 : decode cX12_day 27 = .ok (.ireturn, 1) := by decide +kernel
theorem dX12_crash_0 : decode cX12_crash 0 = .ok (.aload_n 0, 1) := by decide +kernel
theorem dX12_crash_1 : decode cX12_crash 1 = .ok (.invokevirtual 329, 3) := by decide +kernel
theorem dX12_crash_4 : decode cX12_crash 4 = .ok (.aload_n 0, 1) := by decide +kernel
theorem dX12_crash_5 : decode cX12_crash 5 = .ok (.invokevirtual 273, 3) := by decide +kernel
theorem dX12_crash_8 : decode cX12_crash 8 = .ok (.ireturn, 1) := by decide +kernel
theorem dX12_played_0 : decode cX12_played 0 = .ok (.iload_n 1, 1) := by decide +kernel
theorem dX12_played_1 : decode cX12_played 1 = .ok (.iconst 0, 1) := by decide +kernel
theorem dX12_played_2 : decode cX12_played 2 = .ok (.aload_n 0, 1) := by decide +kernel
theorem dX12_played_3 : decode cX12_played 3 = .ok (.getfield 7, 3) := by decide +kernel
theorem dX12_played_6 : decode cX12_played 6 = .ok (.iconst 0, 1) := by decide +kernel
theorem dX12_played_7 : decode cX12_played 7 = .ok (.iaload, 1) := by decide +kernel
theorem dX12_played_8 : decode cX12_played 8 = .ok (.iconst 1, 1) := by decide +kernel
theorem dX12_played_9 : decode cX12_played 9 = .ok (.isub, 1) := by decide +kernel
theorem dX12_played_10 : decode cX12_played 10 = .ok (.invokestatic 52, 3) := by decide +kernel
theorem dX12_played_13 : decode cX12_played 13 = .ok (.ifCond .ne 5, 3) := by decide +kernel
theorem dX12_played_16 : decode cX12_played 16 = .ok (.iconst (-1), 1) := by decide +kernel
theorem dX12_played_17 : decode cX12_played 17 = .ok (.ireturn, 1) := by decide +kernel
theorem dX12_played_18 : decode cX12_played 18 = .ok (.aload_n 0, 1) := by decide +kernel
theorem dX12_played_19 : decode cX12_played 19 = .ok (.invokevirtual 329, 3) := by decide +kernel
theorem dX12_played_22 : decode cX12_played 22 = .ok (.aload_n 0, 1) := by decide +kernel
theorem dX12_played_23 : decode cX12_played 23 = .ok (.iload_n 1, 1) := by decide +kernel
theorem dX12_played_24 : decode cX12_played 24 = .ok (.invokevirtual 335, 3) := by decide +kernel
theorem dX12_played_27 : decode cX12_played 27 = .ok (.ireturn, 1) := by decide +kernel
theorem dX12_years_0 : decode cX12_years 0 = .ok (.iload_n 1, 1) := by decide +kernel
theorem dX12_years_1 : decode cX12_years 1 = .ok (.iconst 0, 1) := by decide +kernel
theorem dX12_years_2 : decode cX12_years 2 = .ok (.sipush 9999, 3) := by decide +kernel
theorem dX12_years_5 : decode cX12_years 5 = .ok (.invokestatic 52, 3) := by decide +kernel
theorem dX12_years_8 : decode cX12_years 8 = .ok (.ifCond .eq 13, 3) := by decide +kernel
theorem dX12_years_11 : decode cX12_years 11 = .ok (.iload_n 2, 1) := by decide +kernel
theorem dX12_years_12 : decode cX12_years 12 = .ok (.iconst 1, 1) := by decide +kernel
theorem dX12_years_13 : decode cX12_years 13 = .ok (.bipush 24, 2) := by decide +kernel
theorem dX12_years_15 : decode cX12_years 15 = .ok (.invokestatic 52, 3) := by decide +kernel
theorem dX12_years_18 : decode cX12_years 18 = .ok (.ifCond .ne 5, 3) := by decide +kernel
theorem dX12_years_21 : decode cX12_years 21 = .ok (.iconst (-1), 1) := by decide +kernel
theorem dX12_years_22 : decode cX12_years 22 = .ok (.ireturn, 1) := by decide +kernel
theorem dX12_years_23 : decode cX12_years 23 = .ok (.aload_n 0, 1) := by decide +kernel
theorem dX12_years_24 : decode cX12_years 24 = .ok (.invokevirtual 329, 3) := by decide +kernel
theorem dX12_years_27 : decode cX12_years 27 = .ok (.aload_n 0, 1) := by decide +kernel
theorem dX12_years_28 : decode cX12_years 28 = .ok (.getfield 7, 3) := by decide +kernel
theorem dX12_years_31 : decode cX12_years 31 = .ok (.iconst 4, 1) := by decide +kernel
theorem dX12_years_32 : decode cX12_years 32 = .ok (.iload_n 1, 1) := by decide +kernel
theorem dX12_years_33 : decode cX12_years 33 = .ok (.iconst 2, 1) := by decide +kernel
theorem dX12_years_34 : decode cX12_years 34 = .ok (.imul, 1) := by decide +kernel
theorem dX12_years_35 : decode cX12_years 35 = .ok (.sipush 409, 3) := by decide +kernel
theorem dX12_years_38 : decode cX12_years 38 = .ok (.iadd, 1) := by decide +kernel
theorem dX12_years_39 : decode cX12_years 39 = .ok (.iastore, 1) := by decide +kernel
theorem dX12_years_40 : decode cX12_years 40 = .ok (.iconst 0, 1) := by decide +kernel
theorem dX12_years_41 : decode cX12_years 41 = .ok (.istore_n 3, 1) := by decide +kernel
theorem dX12_years_42 : decode cX12_years 42 = .ok (.iload_n 3, 1) := by decide +kernel
theorem dX12_years_43 : decode cX12_years 43 = .ok (.iload_n 2, 1) := by decide +kernel
theorem dX12_years_44 : decode cX12_years 44 = .ok (.if_icmp .ge 17, 3) := by decide +kernel
theorem dX12_years_47 : decode cX12_years 47 = .ok (.aload_n 0, 1) := by decide +kernel
theorem dX12_years_48 : decode cX12_years 48 = .ok (.aload_n 0, 1) := by decide +kernel
theorem dX12_years_49 : decode cX12_years 49 = .ok (.invokevirtual 338, 3) := by decide +kernel
theorem dX12_years_52 : decode cX12_years 52 = .ok (.invokevirtual 341, 3) := by decide +kernel
theorem dX12_years_55 : decode cX12_years 55 = .ok (.iinc 3 1, 3) := by decide +kernel
theorem dX12_years_58 : decode cX12_years 58 = .ok (.goto (-16), 3) := by decide +kernel
theorem dX12_years_61 : decode cX12_years 61 = .ok (.aload_n 0, 1) := by decide +kernel
theorem dX12_years_62 : decode cX12_years 62 = .ok (.getfield 7, 3) := by decide +kernel
theorem dX12_years_65 : decode cX12_years 65 = .ok (.iconst 3, 1) := by decide +kernel
theorem dX12_years_66 : decode cX12_years 66 = .ok (.iaload, 1) := by decide +kernel
theorem dX12_years_67 : decode cX12_years 67 = .ok (.ireturn, 1) := by decide +kernel
theorem dX12_is_0 : decode cX12_is 0 = .ok (.iload_n 1, 1) := by decide +kernel
theorem dX12_is_1 : decode cX12_is 1 = .ok (.iconst 0, 1) := by decide +kernel
theorem dX12_is_2 : decode cX12_is 2 = .ok (.bipush 12, 2) := by decide +kernel
theorem dX12_is_4 : decode cX12_is 4 = .ok (.invokestatic 52, 3) := by decide +kernel
theorem dX12_is_7 : decode cX12_is 7 = .ok (.ifCond .eq 14, 3) := by decide +kernel
theorem dX12_is_10 : decode cX12_is 10 = .ok (.aload_n 0, 1) := by decide +kernel
theorem dX12_is_11 : decode cX12_is 11 = .ok (.getfield 7, 3) := by decide +kernel
theorem dX12_is_14 : decode cX12_is 14 = .ok (.iconst 3, 1) := by decide +kernel
theorem dX12_is_15 : decode cX12_is 15 = .ok (.iload_n 1, 1) := by decide +kernel
theorem dX12_is_16 : decode cX12_is 16 = .ok (.iadd, 1) := by decide +kernel
theorem dX12_is_17 : decode cX12_is 17 = .ok (.iaload, 1) := by decide +kernel
theorem dX12_is_18 : decode cX12_is 18 = .ok (.goto 4, 3) := by decide +kernel
theorem dX12_is_21 : decode cX12_is 21 = .ok (.iconst (-1), 1) := by decide +kernel
theorem dX12_is_22 : decode cX12_is 22 = .ok (.ireturn, 1) := by decide +kernel
theorem dX12_where_0 : decode cX12_where 0 = .ok (.iload_n 1, 1) := by decide +kernel
theorem dX12_where_1 : decode cX12_where 1 = .ok (.invokestatic 56, 3) := by decide +kernel
theorem dX12_where_4 : decode cX12_where 4 = .ok (.ifCond .eq 15, 3) := by decide +kernel
theorem dX12_where_7 : decode cX12_where 7 = .ok (.aload_n 0, 1) := by decide +kernel
theorem dX12_where_8 : decode cX12_where 8 = .ok (.getfield 7, 3) := by decide +kernel
theorem dX12_where_11 : decode cX12_where 11 = .ok (.bipush 109, 2) := by decide +kernel
theorem dX12_where_13 : decode cX12_where 13 = .ok (.iload_n 1, 1) := by decide +kernel
theorem dX12_where_14 : decode cX12_where 14 = .ok (.iadd, 1) := by decide +kernel
theorem dX12_where_15 : decode cX12_where 15 = .ok (.iaload, 1) := by decide +kernel
theorem dX12_where_16 : decode cX12_where 16 = .ok (.goto 4, 3) := by decide +kernel
theorem dX12_where_19 : decode cX12_where 19 = .ok (.iconst (-1), 1) := by decide +kernel
theorem dX12_where_20 : decode cX12_where 20 = .ok (.ireturn, 1) := by decide +kernel
theorem dX12_slot_0 : decode cX12_slot 0 = .ok (.iload_n 1, 1) := by decide +kernel
theorem dX12_slot_1 : decode cX12_slot 1 = .ok (.iload_n 2, 1) := by decide +kernel
theorem dX12_slot_2 : decode cX12_slot 2 = .ok (.invokestatic 326, 3) := by decide +kernel
theorem dX12_slot_5 : decode cX12_slot 5 = .ok (.ifCond .eq 20, 3) := by decide +kernel
theorem dX12_slot_8 : decode cX12_slot 8 = .ok (.aload_n 0, 1) := by decide +kernel
theorem dX12_slot_9 : decode cX12_slot 9 = .ok (.iload_n 1, 1) := by decide +kernel
theorem dX12_slot_10 : decode cX12_slot 10 = .ok (.invokevirtual 157, 3) := by decide +kernel
theorem dX12_slot_13 : decode cX12_slot 13 = .ok (.ifCond .eq 12, 3) := by decide +kernel
theorem dX12_slot_16 : decode cX12_slot 16 = .ok (.aload_n 0, 1) := by decide +kernel
theorem dX12_slot_17 : decode cX12_slot 17 = .ok (.iload_n 1, 1) := by decide +kernel
theorem dX12_slot_18 : decode cX12_slot 18 = .ok (.iload_n 2, 1) := by decide +kernel
theorem dX12_slot_19 : decode cX12_slot 19 = .ok (.invokevirtual 167, 3) := by decide +kernel
theorem dX12_slot_22 : decode cX12_slot 22 = .ok (.goto 4, 3) := by decide +kernel
theorem dX12_slot_25 : decode cX12_slot 25 = .ok (.iconst (-1), 1) := by decide +kernel
theorem dX12_slot_26 : decode cX12_slot 26 = .ok (.ireturn, 1) := by decide +kernel
theorem dX12_on_0 : decode cX12_on 0 = .ok (.iload_n 1, 1) := by decide +kernel
theorem dX12_on_1 : decode cX12_on 1 = .ok (.iconst 1, 1) := by decide +kernel
theorem dX12_on_2 : decode cX12_on 2 = .ok (.if_icmp .ne 24, 3) := by decide +kernel
theorem dX12_on_5 : decode cX12_on 5 = .ok (.iload_n 2, 1) := by decide +kernel
theorem dX12_on_6 : decode cX12_on 6 = .ok (.iconst 0, 1) := by decide +kernel
theorem dX12_on_7 : decode cX12_on 7 = .ok (.bipush 8, 2) := by decide +kernel
theorem dX12_on_9 : decode cX12_on 9 = .ok (.invokestatic 52, 3) := by decide +kernel
theorem dX12_on_12 : decode cX12_on 12 = .ok (.ifCond .eq 14, 3) := by decide +kernel
theorem dX12_on_15 : decode cX12_on 15 = .ok (.aload_n 0, 1) := by decide +kernel
theorem dX12_on_16 : decode cX12_on 16 = .ok (.getfield 7, 3) := by decide +kernel
theorem dX12_on_19 : decode cX12_on 19 = .ok (.sipush 185, 3) := by decide +kernel
theorem dX12_on_22 : decode cX12_on 22 = .ok (.iload_n 2, 1) := by decide +kernel
theorem dX12_on_23 : decode cX12_on 23 = .ok (.iadd, 1) := by decide +kernel
theorem dX12_on_24 : decode cX12_on 24 = .ok (.iaload, 1) := by decide +kernel
theorem dX12_on_25 : decode cX12_on 25 = .ok (.ireturn, 1) := by decide +kernel
theorem dX12_on_26 : decode cX12_on 26 = .ok (.iload_n 1, 1) := by decide +kernel
theorem dX12_on_27 : decode cX12_on 27 = .ok (.ifCond .ne 26, 3) := by decide +kernel
theorem dX12_on_30 : decode cX12_on 30 = .ok (.iload_n 2, 1) := by decide +kernel
theorem dX12_on_31 : decode cX12_on 31 = .ok (.iconst 0, 1) := by decide +kernel
theorem dX12_on_32 : decode cX12_on 32 = .ok (.bipush 22, 2) := by decide +kernel
theorem dX12_on_34 : decode cX12_on 34 = .ok (.invokestatic 52, 3) := by decide +kernel
theorem dX12_on_37 : decode cX12_on 37 = .ok (.ifCond .eq 16, 3) := by decide +kernel
theorem dX12_on_40 : decode cX12_on 40 = .ok (.aload_n 0, 1) := by decide +kernel
theorem dX12_on_41 : decode cX12_on 41 = .ok (.getfield 7, 3) := by decide +kernel
theorem dX12_on_44 : decode cX12_on 44 = .ok (.sipush 162, 3) := by decide +kernel
theorem dX12_on_47 : decode cX12_on 47 = .ok (.iload_n 2, 1) := by decide +kernel
theorem dX12_on_48 : decode cX12_on 48 = .ok (.iadd, 1) := by decide +kernel
theorem dX12_on_49 : decode cX12_on 49 = .ok (.iaload, 1) := by decide +kernel
theorem dX12_on_50 : decode cX12_on 50 = .ok (.goto 4, 3) := by decide +kernel
theorem dX12_on_53 : decode cX12_on 53 = .ok (.iconst (-1), 1) := by decide +kernel
theorem dX12_on_54 : decode cX12_on 54 = .ok (.ireturn, 1) := by decide +kernel
theorem dX12_holder_0 : decode cX12_holder 0 = .ok (.iload_n 1, 1) := by decide +kernel
theorem dX12_holder_1 : decode cX12_holder 1 = .ok (.iconst 0, 1) := by decide +kernel
theorem dX12_holder_2 : decode cX12_holder 2 = .ok (.bipush 8, 2) := by decide +kernel
theorem dX12_holder_4 : decode cX12_holder 4 = .ok (.invokestatic 52, 3) := by decide +kernel
theorem dX12_holder_7 : decode cX12_holder 7 = .ok (.ifCond .eq 11, 3) := by decide +kernel
theorem dX12_holder_10 : decode cX12_holder 10 = .ok (.aload_n 0, 1) := by decide +kernel
theorem dX12_holder_11 : decode cX12_holder 11 = .ok (.iload_n 1, 1) := by decide +kernel
theorem dX12_holder_12 : decode cX12_holder 12 = .ok (.invokevirtual 173, 3) := by decide +kernel
theorem dX12_holder_15 : decode cX12_holder 15 = .ok (.goto 4, 3) := by decide +kernel
theorem dX12_holder_18 : decode cX12_holder 18 = .ok (.iconst (-1), 1) := by decide +kernel
theorem dX12_holder_19 : decode cX12_holder 19 = .ok (.ireturn, 1) := by decide +kernel
theorem dX12_free_0 : decode cX12_free 0 = .ok (.iload_n 1, 1) := by decide +kernel
theorem dX12_free_1 : decode cX12_free 1 = .ok (.iconst 0, 1) := by decide +kernel
theorem dX12_free_2 : decode cX12_free 2 = .ok (.bipush 8, 2) := by decide +kernel
theorem dX12_free_4 : decode cX12_free 4 = .ok (.invokestatic 52, 3) := by decide +kernel
theorem dX12_free_7 : decode cX12_free 7 = .ok (.ifCond .eq 11, 3) := by decide +kernel
theorem dX12_free_10 : decode cX12_free 10 = .ok (.aload_n 0, 1) := by decide +kernel
theorem dX12_free_11 : decode cX12_free 11 = .ok (.iload_n 1, 1) := by decide +kernel
theorem dX12_free_12 : decode cX12_free 12 = .ok (.invokevirtual 192, 3) := by decide +kernel
theorem dX12_free_15 : decode cX12_free 15 = .ok (.goto 4, 3) := by decide +kernel
theorem dX12_free_18 : decode cX12_free 18 = .ok (.iconst (-1), 1) := by decide +kernel
theorem dX12_free_19 : decode cX12_free 19 = .ok (.ireturn, 1) := by decide +kernel
theorem dX12_position_0 : decode cX12_position 0 = .ok (.iload_n 1, 1) := by decide +kernel
theorem dX12_position_1 : decode cX12_position 1 = .ok (.iload_n 2, 1) := by decide +kernel
theorem dX12_position_2 : decode cX12_position 2 = .ok (.invokestatic 326, 3) := by decide +kernel
theorem dX12_position_5 : decode cX12_position 5 = .ok (.ifCond .eq 12, 3) := by decide +kernel
theorem dX12_position_8 : decode cX12_position 8 = .ok (.iload_n 1, 1) := by decide +kernel
theorem dX12_position_9 : decode cX12_position 9 = .ok (.invokestatic 64, 3) := by decide +kernel
theorem dX12_position_12 : decode cX12_position 12 = .ok (.iload_n 2, 1) := by decide +kernel
theorem dX12_position_13 : decode cX12_position 13 = .ok (.iadd, 1) := by decide +kernel
theorem dX12_position_14 : decode cX12_position 14 = .ok (.goto 4, 3) := by decide +kernel
theorem dX12_position_17 : decode cX12_position 17 = .ok (.iconst (-1), 1) := by decide +kernel
theorem dX12_position_18 : decode cX12_position 18 = .ok (.ireturn, 1) := by decide +kernel
theorem dX12_heat_0 : decode cX12_heat 0 = .ok (.iload_n 1, 1) := by decide +kernel
theorem dX12_heat_1 : decode cX12_heat 1 = .ok (.invokestatic 56, 3) := by decide +kernel
theorem dX12_heat_4 : decode cX12_heat 4 = .ok (.ifCond .eq 15, 3) := by decide +kernel
theorem dX12_heat_7 : decode cX12_heat 7 = .ok (.aload_n 0, 1) := by decide +kernel
theorem dX12_heat_8 : decode cX12_heat 8 = .ok (.getfield 7, 3) := by decide +kernel
theorem dX12_heat_11 : decode cX12_heat 11 = .ok (.bipush 19, 2) := by decide +kernel
theorem dX12_heat_13 : decode cX12_heat 13 = .ok (.iload_n 1, 1) := by decide +kernel
theorem dX12_heat_14 : decode cX12_heat 14 = .ok (.iadd, 1) := by decide +kernel
theorem dX12_heat_15 : decode cX12_heat 15 = .ok (.iaload, 1) := by decide +kernel
theorem dX12_heat_16 : decode cX12_heat 16 = .ok (.goto 4, 3) := by decide +kernel
theorem dX12_heat_19 : decode cX12_heat 19 = .ok (.iconst (-1), 1) := by decide +kernel
theorem dX12_heat_20 : decode cX12_heat 20 = .ok (.ireturn, 1) := by decide +kernel
theorem dX12_of_0 : decode cX12_of 0 = .ok (.iload_n 1, 1) := by decide +kernel
theorem dX12_of_1 : decode cX12_of 1 = .ok (.invokestatic 56, 3) := by decide +kernel
theorem dX12_of_4 : decode cX12_of 4 = .ok (.ifCond .eq 44, 3) := by decide +kernel
theorem dX12_of_7 : decode cX12_of 7 = .ok (.iload_n 2, 1) := by decide +kernel
theorem dX12_of_8 : decode cX12_of 8 = .ok (.iconst 0, 1) := by decide +kernel
theorem dX12_of_9 : decode cX12_of 9 = .ok (.bipush 8, 2) := by decide +kernel
theorem dX12_of_11 : decode cX12_of 11 = .ok (.invokestatic 52, 3) := by decide +kernel
theorem dX12_of_14 : decode cX12_of 14 = .ok (.ifCond .eq 34, 3) := by decide +kernel
theorem dX12_of_17 : decode cX12_of 17 = .ok (.aload_n 0, 1) := by decide +kernel
theorem dX12_of_18 : decode cX12_of 18 = .ok (.getfield 7, 3) := by decide +kernel
theorem dX12_of_21 : decode cX12_of 21 = .ok (.iload_n 2, 1) := by decide +kernel
theorem dX12_of_22 : decode cX12_of 22 = .ok (.bipush 8, 2) := by decide +kernel
theorem dX12_of_24 : decode cX12_of 24 = .ok (.if_icmp .ne 11, 3) := by decide +kernel
theorem dX12_of_27 : decode cX12_of 27 = .ok (.sipush 340, 3) := by decide +kernel
theorem dX12_of_30 : decode cX12_of 30 = .ok (.iload_n 1, 1) := by decide +kernel
theorem dX12_of_31 : decode cX12_of 31 = .ok (.iadd, 1) := by decide +kernel
theorem dX12_of_32 : decode cX12_of 32 = .ok (.goto 12, 3) := by decide +kernel
theorem dX12_of_35 : decode cX12_of 35 = .ok (.bipush 29, 2) := by decide +kernel
theorem dX12_of_37 : decode cX12_of 37 = .ok (.bipush 10, 2) := by decide +kernel
theorem dX12_of_39 : decode cX12_of 39 = .ok (.iload_n 2, 1) := by decide +kernel
theorem dX12_of_40 : decode cX12_of 40 = .ok (.imul, 1) := by decide +kernel
theorem dX12_of_41 : decode cX12_of 41 = .ok (.iadd, 1) := by decide +kernel
theorem dX12_of_42 : decode cX12_of 42 = .ok (.iload_n 1, 1) := by decide +kernel
theorem dX12_of_43 : decode cX12_of 43 = .ok (.iadd, 1) := by decide +kernel
theorem dX12_of_44 : decode cX12_of 44 = .ok (.iaload, 1) := by decide +kernel
theorem dX12_of_45 : decode cX12_of 45 = .ok (.goto 4, 3) := by decide +kernel
theorem dX12_of_48 : decode cX12_of 48 = .ok (.iconst (-1), 1) := by decide +kernel
theorem dX12_of_49 : decode cX12_of 49 = .ok (.ireturn, 1) := by decide +kernel
theorem dX12_head_0 : decode cX12_head 0 = .ok (.iload_n 1, 1) := by decide +kernel
theorem dX12_head_1 : decode cX12_head 1 = .ok (.iconst (-1), 1) := by decide +kernel
theorem dX12_head_2 : decode cX12_head 2 = .ok (.if_icmp .ne 11, 3) := by decide +kernel
theorem dX12_head_5 : decode cX12_head 5 = .ok (.aload_n 0, 1) := by decide +kernel
theorem dX12_head_6 : decode cX12_head 6 = .ok (.getfield 7, 3) := by decide +kernel
theorem dX12_head_9 : decode cX12_head 9 = .ok (.bipush 16, 2) := by decide +kernel
theorem dX12_head_11 : decode cX12_head 11 = .ok (.iaload, 1) := by decide +kernel
theorem dX12_head_12 : decode cX12_head 12 = .ok (.ireturn, 1) := by decide +kernel
theorem dX12_head_13 : decode cX12_head 13 = .ok (.iload_n 1, 1) := by decide +kernel
theorem dX12_head_14 : decode cX12_head 14 = .ok (.iconst 0, 1) := by decide +kernel
theorem dX12_head_15 : decode cX12_head 15 = .ok (.aload_n 0, 1) := by decide +kernel
theorem dX12_head_16 : decode cX12_head 16 = .ok (.getfield 7, 3) := by decide +kernel
theorem dX12_head_19 : decode cX12_head 19 = .ok (.bipush 16, 2) := by decide +kernel
theorem dX12_head_21 : decode cX12_head 21 = .ok (.iaload, 1) := by decide +kernel
theorem dX12_head_22 : decode cX12_head 22 = .ok (.iconst 1, 1) := by decide +kernel
theorem dX12_head_23 : decode cX12_head 23 = .ok (.isub, 1) := by decide +kernel
theorem dX12_head_24 : decode cX12_head 24 = .ok (.invokestatic 52, 3) := by decide +kernel
theorem dX12_head_27 : decode cX12_head 27 = .ok (.ifCond .eq 29, 3) := by decide +kernel
theorem dX12_head_30 : decode cX12_head 30 = .ok (.iload_n 2, 1) := by decide +kernel
theorem dX12_head_31 : decode cX12_head 31 = .ok (.iconst 0, 1) := by decide +kernel
theorem dX12_head_32 : decode cX12_head 32 = .ok (.iconst 1, 1) := by decide +kernel
theorem dX12_head_33 : decode cX12_head 33 = .ok (.invokestatic 52, 3) := by decide +kernel
theorem dX12_head_36 : decode cX12_head 36 = .ok (.ifCond .eq 20, 3) := by decide +kernel
theorem dX12_head_39 : decode cX12_head 39 = .ok (.aload_n 0, 1) := by decide +kernel
theorem dX12_head_40 : decode cX12_head 40 = .ok (.getfield 7, 3) := by decide +kernel
theorem dX12_head_43 : decode cX12_head 43 = .ok (.sipush 194, 3) := by decide +kernel
theorem dX12_head_46 : decode cX12_head 46 = .ok (.iconst 2, 1) := by decide +kernel
theorem dX12_head_47 : decode cX12_head 47 = .ok (.iload_n 1, 1) := by decide +kernel
theorem dX12_head_48 : decode cX12_head 48 = .ok (.imul, 1) := by decide +kernel
theorem dX12_head_49 : decode cX12_head 49 = .ok (.iadd, 1) := by decide +kernel
theorem dX12_head_50 : decode cX12_head 50 = .ok (.iload_n 2, 1) := by decide +kernel
theorem dX12_head_51 : decode cX12_head 51 = .ok (.iadd, 1) := by decide +kernel
theorem dX12_head_52 : decode cX12_head 52 = .ok (.iaload, 1) := by decide +kernel
theorem dX12_head_53 : decode cX12_head 53 = .ok (.goto 5, 3) := by decide +kernel
theorem dX12_head_56 : decode cX12_head 56 = .ok (.bipush (-2), 2) := by decide +kernel
theorem dX12_head_58 : decode cX12_head 58 = .ok (.ireturn, 1) := by decide +kernel
theorem dX12_move_0 : decode cX12_move 0 = .ok (.iload_n 1, 1) := by decide +kernel
theorem dX12_move_1 : decode cX12_move 1 = .ok (.iconst (-1), 1) := by decide +kernel
theorem dX12_move_2 : decode cX12_move 2 = .ok (.if_icmp .ne 11, 3) := by decide +kernel
theorem dX12_move_5 : decode cX12_move 5 = .ok (.aload_n 0, 1) := by decide +kernel
theorem dX12_move_6 : decode cX12_move 6 = .ok (.getfield 7, 3) := by decide +kernel
theorem dX12_move_9 : decode cX12_move 9 = .ok (.bipush 17, 2) := by decide +kernel
theorem dX12_move_11 : decode cX12_move 11 = .ok (.iaload, 1) := by decide +kernel
theorem dX12_move_12 : decode cX12_move 12 = .ok (.ireturn, 1) := by decide +kernel
theorem dX12_move_13 : decode cX12_move 13 = .ok (.iload_n 1, 1) := by decide +kernel
theorem dX12_move_14 : decode cX12_move 14 = .ok (.iconst 0, 1) := by decide +kernel
theorem dX12_move_15 : decode cX12_move 15 = .ok (.aload_n 0, 1) := by decide +kernel
theorem dX12_move_16 : decode cX12_move 16 = .ok (.getfield 7, 3) := by decide +kernel
theorem dX12_move_19 : decode cX12_move 19 = .ok (.bipush 17, 2) := by decide +kernel
theorem dX12_move_21 : decode cX12_move 21 = .ok (.iaload, 1) := by decide +kernel
theorem dX12_move_22 : decode cX12_move 22 = .ok (.iconst 1, 1) := by decide +kernel
theorem dX12_move_23 : decode cX12_move 23 = .ok (.isub, 1) := by decide +kernel
theorem dX12_move_24 : decode cX12_move 24 = .ok (.invokestatic 52, 3) := by decide +kernel
theorem dX12_move_27 : decode cX12_move 27 = .ok (.ifCond .eq 12, 3) := by decide +kernel
theorem dX12_move_30 : decode cX12_move 30 = .ok (.iload_n 2, 1) := by decide +kernel
theorem dX12_move_31 : decode cX12_move 31 = .ok (.iconst 0, 1) := by decide +kernel
theorem dX12_move_32 : decode cX12_move 32 = .ok (.iconst 3, 1) := by decide +kernel
theorem dX12_move_33 : decode cX12_move 33 = .ok (.invokestatic 52, 3) := by decide +kernel
theorem dX12_move_36 : decode cX12_move 36 = .ok (.ifCond .ne 6, 3) := by decide +kernel
theorem dX12_move_39 : decode cX12_move 39 = .ok (.bipush (-2), 2) := by decide +kernel
theorem dX12_move_41 : decode cX12_move 41 = .ok (.ireturn, 1) := by decide +kernel
theorem dX12_move_42 : decode cX12_move 42 = .ok (.iload_n 2, 1) := by decide +kernel
theorem dX12_move_43 : decode cX12_move 43 = .ok (.iconst 3, 1) := by decide +kernel
theorem dX12_move_44 : decode cX12_move 44 = .ok (.if_icmp .ge 12, 3) := by decide +kernel
theorem dX12_move_47 : decode cX12_move 47 = .ok (.aload_n 0, 1) := by decide +kernel
theorem dX12_move_48 : decode cX12_move 48 = .ok (.iload_n 1, 1) := by decide +kernel
theorem dX12_move_49 : decode cX12_move 49 = .ok (.iload_n 2, 1) := by decide +kernel
theorem dX12_move_50 : decode cX12_move 50 = .ok (.invokevirtual 176, 3) := by decide +kernel
theorem dX12_move_53 : decode cX12_move 53 = .ok (.goto 8, 3) := by decide +kernel
theorem dX12_move_56 : decode cX12_move 56 = .ok (.aload_n 0, 1) := by decide +kernel
theorem dX12_move_57 : decode cX12_move 57 = .ok (.iload_n 1, 1) := by decide +kernel
theorem dX12_move_58 : decode cX12_move 58 = .ok (.invokevirtual 195, 3) := by decide +kernel
theorem dX12_move_61 : decode cX12_move 61 = .ok (.ireturn, 1) := by decide +kernel
theorem dX12_moveOf_0 : decode cX12_moveOf 0 = .ok (.iload_n 1, 1) := by decide +kernel
theorem dX12_moveOf_1 : decode cX12_moveOf 1 = .ok (.invokestatic 56, 3) := by decide +kernel
theorem dX12_moveOf_4 : decode cX12_moveOf 4 = .ok (.ifCond .eq 11, 3) := by decide +kernel
theorem dX12_moveOf_7 : decode cX12_moveOf 7 = .ok (.aload_n 0, 1) := by decide +kernel
theorem dX12_moveOf_8 : decode cX12_moveOf 8 = .ok (.iload_n 1, 1) := by decide +kernel
theorem dX12_moveOf_9 : decode cX12_moveOf 9 = .ok (.invokevirtual 170, 3) := by decide +kernel
theorem dX12_moveOf_12 : decode cX12_moveOf 12 = .ok (.goto 4, 3) := by decide +kernel
theorem dX12_moveOf_15 : decode cX12_moveOf 15 = .ok (.iconst (-1), 1) := by decide +kernel
theorem dX12_moveOf_16 : decode cX12_moveOf 16 = .ok (.ireturn, 1) := by decide +kernel
theorem dX12_plan_0 : decode cX12_plan 0 = .ok (.aload_n 0, 1) := by decide +kernel
theorem dX12_plan_1 : decode cX12_plan 1 = .ok (.aload_n 0, 1) := by decide +kernel
theorem dX12_plan_2 : decode cX12_plan 2 = .ok (.getfield 7, 3) := by decide +kernel
theorem dX12_plan_5 : decode cX12_plan 5 = .ok (.bipush 8, 2) := by decide +kernel
theorem dX12_plan_7 : decode cX12_plan 7 = .ok (.iaload, 1) := by decide +kernel
theorem dX12_plan_8 : decode cX12_plan 8 = .ok (.invokevirtual 236, 3) := by decide +kernel
theorem dX12_plan_11 : decode cX12_plan 11 = .ok (.ireturn, 1) := by decide +kernel
theorem dX12_worth_0 : decode cX12_worth 0 = .ok (.iload_n 1, 1) := by decide +kernel
theorem dX12_worth_1 : decode cX12_worth 1 = .ok (.iconst 0, 1) := by decide +kernel
theorem dX12_worth_2 : decode cX12_worth 2 = .ok (.bipush 12, 2) := by decide +kernel
theorem dX12_worth_4 : decode cX12_worth 4 = .ok (.invokestatic 52, 3) := by decide +kernel
theorem dX12_worth_7 : decode cX12_worth 7 = .ok (.ifCond .eq 15, 3) := by decide +kernel
theorem dX12_worth_10 : decode cX12_worth 10 = .ok (.aload_n 0, 1) := by decide +kernel
theorem dX12_worth_11 : decode cX12_worth 11 = .ok (.aload_n 0, 1) := by decide +kernel
theorem dX12_worth_12 : decode cX12_worth 12 = .ok (.iload_n 1, 1) := by decide +kernel
theorem dX12_worth_13 : decode cX12_worth 13 = .ok (.invokevirtual 236, 3) := by decide +kernel
theorem dX12_worth_16 : decode cX12_worth 16 = .ok (.invokevirtual 230, 3) := by decide +kernel
theorem dX12_worth_19 : decode cX12_worth 19 = .ok (.goto 6, 3) := by decide +kernel
theorem dX12_worth_22 : decode cX12_worth 22 = .ok (.ldc_w 344, 3) := by decide +kernel
theorem dX12_worth_25 : decode cX12_worth 25 = .ok (.ireturn, 1) := by decide +kernel
theorem dX12_value_0 : decode cX12_value 0 = .ok (.iload_n 1, 1) := by decide +kernel
theorem dX12_value_1 : decode cX12_value 1 = .ok (.iconst 0, 1) := by decide +kernel
theorem dX12_value_2 : decode cX12_value 2 = .ok (.sipush 1023, 3) := by decide +kernel
theorem dX12_value_5 : decode cX12_value 5 = .ok (.invokestatic 52, 3) := by decide +kernel
theorem dX12_value_8 : decode cX12_value 8 = .ok (.ifCond .eq 26, 3) := by decide +kernel
theorem dX12_value_11 : decode cX12_value 11 = .ok (.aload_n 0, 1) := by decide +kernel
theorem dX12_value_12 : decode cX12_value 12 = .ok (.iload_n 1, 1) := by decide +kernel
theorem dX12_value_13 : decode cX12_value 13 = .ok (.aload_n 0, 1) := by decide +kernel
theorem dX12_value_14 : decode cX12_value 14 = .ok (.getfield 7, 3) := by decide +kernel
theorem dX12_value_17 : decode cX12_value 17 = .ok (.bipush 8, 2) := by decide +kernel
theorem dX12_value_19 : decode cX12_value 19 = .ok (.iaload, 1) := by decide +kernel
theorem dX12_value_20 : decode cX12_value 20 = .ok (.invokevirtual 227, 3) := by decide +kernel
theorem dX12_value_23 : decode cX12_value 23 = .ok (.ifCond .eq 11, 3) := by decide +kernel
theorem dX12_value_26 : decode cX12_value 26 = .ok (.aload_n 0, 1) := by decide +kernel
theorem dX12_value_27 : decode cX12_value 27 = .ok (.iload_n 1, 1) := by decide +kernel
theorem dX12_value_28 : decode cX12_value 28 = .ok (.invokevirtual 230, 3) := by decide +kernel
theorem dX12_value_31 : decode cX12_value 31 = .ok (.goto 6, 3) := by decide +kernel
theorem dX12_value_34 : decode cX12_value 34 = .ok (.ldc_w 344, 3) := by decide +kernel
theorem dX12_value_37 : decode cX12_value 37 = .ok (.ireturn, 1) := by decide +kernel
theorem dX12_may_0 : decode cX12_may 0 = .ok (.iload_n 1, 1) := by decide +kernel
theorem dX12_may_1 : decode cX12_may 1 = .ok (.invokestatic 56, 3) := by decide +kernel
theorem dX12_may_4 : decode cX12_may 4 = .ok (.ifCond .ne 5, 3) := by decide +kernel
theorem dX12_may_7 : decode cX12_may 7 = .ok (.iconst 0, 1) := by decide +kernel
theorem dX12_may_8 : decode cX12_may 8 = .ok (.ireturn, 1) := by decide +kernel
theorem dX12_may_9 : decode cX12_may 9 = .ok (.iconst 0, 1) := by decide +kernel
theorem dX12_may_10 : decode cX12_may 10 = .ok (.istore_n 3, 1) := by decide +kernel
theorem dX12_may_11 : decode cX12_may 11 = .ok (.iload_n 3, 1) := by decide +kernel
theorem dX12_may_12 : decode cX12_may 12 = .ok (.sipush 1024, 3) := by decide +kernel
theorem dX12_may_15 : decode cX12_may 15 = .ok (.if_icmp .ge 35, 3) := by decide +kernel
theorem dX12_may_18 : decode cX12_may 18 = .ok (.iload_n 3, 1) := by decide +kernel
theorem dX12_may_19 : decode cX12_may 19 = .ok (.iload_n 1, 1) := by decide +kernel
theorem dX12_may_20 : decode cX12_may 20 = .ok (.invokestatic 198, 3) := by decide +kernel
theorem dX12_may_23 : decode cX12_may 23 = .ok (.iload_n 2, 1) := by decide +kernel
theorem dX12_may_24 : decode cX12_may 24 = .ok (.if_icmp .ne 20, 3) := by decide +kernel
theorem dX12_may_27 : decode cX12_may 27 = .ok (.aload_n 0, 1) := by decide +kernel
theorem dX12_may_28 : decode cX12_may 28 = .ok (.iload_n 3, 1) := by decide +kernel
theorem dX12_may_29 : decode cX12_may 29 = .ok (.aload_n 0, 1) := by decide +kernel
theorem dX12_may_30 : decode cX12_may 30 = .ok (.getfield 7, 3) := by decide +kernel
theorem dX12_may_33 : decode cX12_may 33 = .ok (.bipush 8, 2) := by decide +kernel
theorem dX12_may_35 : decode cX12_may 35 = .ok (.iaload, 1) := by decide +kernel
theorem dX12_may_36 : decode cX12_may 36 = .ok (.invokevirtual 227, 3) := by decide +kernel
theorem dX12_may_39 : decode cX12_may 39 = .ok (.ifCond .eq 5, 3) := by decide +kernel
theorem dX12_may_42 : decode cX12_may 42 = .ok (.iconst 1, 1) := by decide +kernel
theorem dX12_may_43 : decode cX12_may 43 = .ok (.ireturn, 1) := by decide +kernel
theorem dX12_may_44 : decode cX12_may 44 = .ok (.iinc 3 1, 3) := by decide +kernel
theorem dX12_may_47 : decode cX12_may 47 = .ok (.goto (-36), 3) := by decide +kernel
theorem dX12_may_50 : decode cX12_may 50 = .ok (.iconst 0, 1) := by decide +kernel
theorem dX12_may_51 : decode cX12_may 51 = .ok (.ireturn, 1) := by decide +kernel
theorem dX12_next_0 : decode cX12_next 0 = .ok (.aload_n 0, 1) := by decide +kernel
theorem dX12_next_1 : decode cX12_next 1 = .ok (.aload_n 0, 1) := by decide +kernel
theorem dX12_next_2 : decode cX12_next 2 = .ok (.aload_n 0, 1) := by decide +kernel
theorem dX12_next_3 : decode cX12_next 3 = .ok (.getfield 7, 3) := by decide +kernel
theorem dX12_next_6 : decode cX12_next 6 = .ok (.bipush 8, 2) := by decide +kernel
theorem dX12_next_8 : decode cX12_next 8 = .ok (.iaload, 1) := by decide +kernel
theorem dX12_next_9 : decode cX12_next 9 = .ok (.invokevirtual 236, 3) := by decide +kernel
theorem dX12_next_12 : decode cX12_next 12 = .ok (.invokevirtual 239, 3) := by decide +kernel
theorem dX12_next_15 : decode cX12_next 15 = .ok (.istore_n 2, 1) := by decide +kernel
theorem dX12_next_16 : decode cX12_next 16 = .ok (.iload_n 1, 1) := by decide +kernel
theorem dX12_next_17 : decode cX12_next 17 = .ok (.iconst (-1), 1) := by decide +kernel
theorem dX12_next_18 : decode cX12_next 18 = .ok (.if_icmp .ne 7, 3) := by decide +kernel
theorem dX12_next_21 : decode cX12_next 21 = .ok (.iload_n 2, 1) := by decide +kernel
theorem dX12_next_22 : decode cX12_next 22 = .ok (.goto 25, 3) := by decide +kernel
theorem dX12_next_25 : decode cX12_next 25 = .ok (.iload_n 1, 1) := by decide +kernel
theorem dX12_next_26 : decode cX12_next 26 = .ok (.iconst 0, 1) := by decide +kernel
theorem dX12_next_27 : decode cX12_next 27 = .ok (.iload_n 2, 1) := by decide +kernel
theorem dX12_next_28 : decode cX12_next 28 = .ok (.iconst 1, 1) := by decide +kernel
theorem dX12_next_29 : decode cX12_next 29 = .ok (.isub, 1) := by decide +kernel
theorem dX12_next_30 : decode cX12_next 30 = .ok (.invokestatic 52, 3) := by decide +kernel
theorem dX12_next_33 : decode cX12_next 33 = .ok (.ifCond .eq 12, 3) := by decide +kernel
theorem dX12_next_36 : decode cX12_next 36 = .ok (.aload_n 0, 1) := by decide +kernel
theorem dX12_next_37 : decode cX12_next 37 = .ok (.getfield 33, 3) := by decide +kernel
theorem dX12_next_40 : decode cX12_next 40 = .ok (.iload_n 1, 1) := by decide +kernel
theorem dX12_next_41 : decode cX12_next 41 = .ok (.iaload, 1) := by decide +kernel
theorem dX12_next_42 : decode cX12_next 42 = .ok (.goto 5, 3) := by decide +kernel
theorem dX12_next_45 : decode cX12_next 45 = .ok (.bipush (-2), 2) := by decide +kernel
theorem dX12_next_47 : decode cX12_next 47 = .ok (.ireturn, 1) := by decide +kernel
theorem dX12_enough_0 : decode cX12_enough 0 = .ok (.aload_n 0, 1) := by decide +kernel
theorem dX12_enough_1 : decode cX12_enough 1 = .ok (.aload_n 0, 1) := by decide +kernel
theorem dX12_enough_2 : decode cX12_enough 2 = .ok (.bipush 12, 2) := by decide +kernel
theorem dX12_enough_4 : decode cX12_enough 4 = .ok (.invokevirtual 236, 3) := by decide +kernel
theorem dX12_enough_7 : decode cX12_enough 7 = .ok (.invokevirtual 230, 3) := by decide +kernel
theorem dX12_enough_10 : decode cX12_enough 10 = .ok (.istore_n 1, 1) := by decide +kernel
theorem dX12_enough_11 : decode cX12_enough 11 = .ok (.iconst 0, 1) := by decide +kernel
theorem dX12_enough_12 : decode cX12_enough 12 = .ok (.istore_n 2, 1) := by decide +kernel
theorem dX12_enough_13 : decode cX12_enough 13 = .ok (.aload_n 0, 1) := by decide +kernel
theorem dX12_enough_14 : decode cX12_enough 14 = .ok (.aload_n 0, 1) := by decide +kernel
theorem dX12_enough_15 : decode cX12_enough 15 = .ok (.iload_n 2, 1) := by decide +kernel
theorem dX12_enough_16 : decode cX12_enough 16 = .ok (.invokevirtual 236, 3) := by decide +kernel
theorem dX12_enough_19 : decode cX12_enough 19 = .ok (.invokevirtual 230, 3) := by decide +kernel
theorem dX12_enough_22 : decode cX12_enough 22 = .ok (.iload_n 1, 1) := by decide +kernel
theorem dX12_enough_23 : decode cX12_enough 23 = .ok (.if_icmp .ge 9, 3) := by decide +kernel
theorem dX12_enough_26 : decode cX12_enough 26 = .ok (.iinc 2 1, 3) := by decide +kernel
theorem dX12_enough_29 : decode cX12_enough 29 = .ok (.goto (-16), 3) := by decide +kernel
theorem dX12_enough_32 : decode cX12_enough 32 = .ok (.iload_n 2, 1) := by decide +kernel
theorem dX12_enough_33 : decode cX12_enough 33 = .ok (.ireturn, 1) := by decide +kernel
theorem dX12_needs_0 : decode cX12_needs 0 = .ok (.iload_n 1, 1) := by decide +kernel
theorem dX12_needs_1 : decode cX12_needs 1 = .ok (.iconst 0, 1) := by decide +kernel
theorem dX12_needs_2 : decode cX12_needs 2 = .ok (.sipush 1023, 3) := by decide +kernel
theorem dX12_needs_5 : decode cX12_needs 5 = .ok (.invokestatic 52, 3) := by decide +kernel
theorem dX12_needs_8 : decode cX12_needs 8 = .ok (.ifCond .eq 18, 3) := by decide +kernel
theorem dX12_needs_11 : decode cX12_needs 11 = .ok (.aload_n 0, 1) := by decide +kernel
theorem dX12_needs_12 : decode cX12_needs 12 = .ok (.iload_n 1, 1) := by decide +kernel
theorem dX12_needs_13 : decode cX12_needs 13 = .ok (.aload_n 0, 1) := by decide +kernel
theorem dX12_needs_14 : decode cX12_needs 14 = .ok (.getfield 7, 3) := by decide +kernel
theorem dX12_needs_17 : decode cX12_needs 17 = .ok (.bipush 8, 2) := by decide +kernel
theorem dX12_needs_19 : decode cX12_needs 19 = .ok (.iaload, 1) := by decide +kernel
theorem dX12_needs_20 : decode cX12_needs 20 = .ok (.invokevirtual 227, 3) := by decide +kernel
theorem dX12_needs_23 : decode cX12_needs 23 = .ok (.ifCond .ne 5, 3) := by decide +kernel
theorem dX12_needs_26 : decode cX12_needs 26 = .ok (.iconst (-1), 1) := by decide +kernel
theorem dX12_needs_27 : decode cX12_needs 27 = .ok (.ireturn, 1) := by decide +kernel
theorem dX12_needs_28 : decode cX12_needs 28 = .ok (.iconst 0, 1) := by decide +kernel
theorem dX12_needs_29 : decode cX12_needs 29 = .ok (.istore_n 2, 1) := by decide +kernel
theorem dX12_needs_30 : decode cX12_needs 30 = .ok (.iconst 0, 1) := by decide +kernel
theorem dX12_needs_31 : decode cX12_needs 31 = .ok (.istore_n 3, 1) := by decide +kernel
theorem dX12_needs_32 : decode cX12_needs 32 = .ok (.iload_n 3, 1) := by decide +kernel
theorem dX12_needs_33 : decode cX12_needs 33 = .ok (.bipush 10, 2) := by decide +kernel
theorem dX12_needs_35 : decode cX12_needs 35 = .ok (.if_icmp .ge 22, 3) := by decide +kernel
theorem dX12_needs_38 : decode cX12_needs 38 = .ok (.iload_n 2, 1) := by decide +kernel
theorem dX12_needs_39 : decode cX12_needs 39 = .ok (.aload_n 0, 1) := by decide +kernel
theorem dX12_needs_40 : decode cX12_needs 40 = .ok (.iload_n 3, 1) := by decide +kernel
theorem dX12_needs_41 : decode cX12_needs 41 = .ok (.iload_n 1, 1) := by decide +kernel
theorem dX12_needs_42 : decode cX12_needs 42 = .ok (.iload_n 3, 1) := by decide +kernel
theorem dX12_needs_43 : decode cX12_needs 43 = .ok (.invokestatic 198, 3) := by decide +kernel
theorem dX12_needs_46 : decode cX12_needs 46 = .ok (.invokevirtual 221, 3) := by decide +kernel
theorem dX12_needs_49 : decode cX12_needs 49 = .ok (.iadd, 1) := by decide +kernel
theorem dX12_needs_50 : decode cX12_needs 50 = .ok (.istore_n 2, 1) := by decide +kernel
theorem dX12_needs_51 : decode cX12_needs 51 = .ok (.iinc 3 1, 3) := by decide +kernel
theorem dX12_needs_54 : decode cX12_needs 54 = .ok (.goto (-22), 3) := by decide +kernel
theorem dX12_needs_57 : decode cX12_needs 57 = .ok (.iload_n 2, 1) := by decide +kernel
theorem dX12_needs_58 : decode cX12_needs 58 = .ok (.ireturn, 1) := by decide +kernel
theorem dX12_shareOf_0 : decode cX12_shareOf 0 = .ok (.iload_n 2, 1) := by decide +kernel
theorem dX12_shareOf_1 : decode cX12_shareOf 1 = .ok (.aload_n 0, 1) := by decide +kernel
theorem dX12_shareOf_2 : decode cX12_shareOf 2 = .ok (.iload_n 1, 1) := by decide +kernel
theorem dX12_shareOf_3 : decode cX12_shareOf 3 = .ok (.invokevirtual 157, 3) := by decide +kernel
theorem dX12_shareOf_6 : decode cX12_shareOf 6 = .ok (.ifCond .eq 9, 3) := by decide +kernel
theorem dX12_shareOf_9 : decode cX12_shareOf 9 = .ok (.iload_n 2, 1) := by decide +kernel
theorem dX12_shareOf_10 : decode cX12_shareOf 10 = .ok (.iconst 4, 1) := by decide +kernel
theorem dX12_shareOf_11 : decode cX12_shareOf 11 = .ok (.idiv, 1) := by decide +kernel
theorem dX12_shareOf_12 : decode cX12_shareOf 12 = .ok (.goto 4, 3) := by decide +kernel
theorem dX12_shareOf_15 : decode cX12_shareOf 15 = .ok (.iconst 0, 1) := by decide +kernel
theorem dX12_shareOf_16 : decode cX12_shareOf 16 = .ok (.iadd, 1) := by decide +kernel
theorem dX12_shareOf_17 : decode cX12_shareOf 17 = .ok (.ireturn, 1) := by decide +kernel
theorem dX12_layBests_0 : decode cX12_layBests 0 = .ok (.aload_n 0, 1) := by decide +kernel
theorem dX12_layBests_1 : decode cX12_layBests 1 = .ok (.iconst (-1), 1) := by decide +kernel
theorem dX12_layBests_2 : decode cX12_layBests 2 = .ok (.putfield 345, 3) := by decide +kernel
theorem dX12_layBests_5 : decode cX12_layBests 5 = .ok (.aload_n 0, 1) := by decide +kernel
theorem dX12_layBests_6 : decode cX12_layBests 6 = .ok (.iconst (-1), 1) := by decide +kernel
theorem dX12_layBests_7 : decode cX12_layBests 7 = .ok (.putfield 348, 3) := by decide +kernel
theorem dX12_layBests_10 : decode cX12_layBests 10 = .ok (.aload_n 0, 1) := by decide +kernel
theorem dX12_layBests_11 : decode cX12_layBests 11 = .ok (.iconst 0, 1) := by decide +kernel
theorem dX12_layBests_12 : decode cX12_layBests 12 = .ok (.putfield 351, 3) := by decide +kernel
theorem dX12_layBests_15 : decode cX12_layBests 15 = .ok (.aload_n 0, 1) := by decide +kernel
theorem dX12_layBests_16 : decode cX12_layBests 16 = .ok (.iconst 0, 1) := by decide +kernel
theorem dX12_layBests_17 : decode cX12_layBests 17 = .ok (.putfield 354, 3) := by decide +kernel
theorem dX12_layBests_20 : decode cX12_layBests 20 = .ok (.iconst 0, 1) := by decide +kernel
theorem dX12_layBests_21 : decode cX12_layBests 21 = .ok (.istore_n 2, 1) := by decide +kernel
theorem dX12_layBests_22 : decode cX12_layBests 22 = .ok (.iload_n 2, 1) := by decide +kernel
theorem dX12_layBests_23 : decode cX12_layBests 23 = .ok (.sipush 1024, 3) := by decide +kernel
theorem dX12_layBests_26 : decode cX12_layBests 26 = .ok (.if_icmp .ge 116, 3) := by decide +kernel
theorem dX12_layBests_29 : decode cX12_layBests 29 = .ok (.aload_n 0, 1) := by decide +kernel
theorem dX12_layBests_30 : decode cX12_layBests 30 = .ok (.iload_n 2, 1) := by decide +kernel
theorem dX12_layBests_31 : decode cX12_layBests 31 = .ok (.aload_n 0, 1) := by decide +kernel
theorem dX12_layBests_32 : decode cX12_layBests 32 = .ok (.getfield 7, 3) := by decide +kernel
theorem dX12_layBests_35 : decode cX12_layBests 35 = .ok (.bipush 8, 2) := by decide +kernel
theorem dX12_layBests_37 : decode cX12_layBests 37 = .ok (.iaload, 1) := by decide +kernel
theorem dX12_layBests_38 : decode cX12_layBests 38 = .ok (.invokevirtual 227, 3) := by decide +kernel
theorem dX12_layBests_41 : decode cX12_layBests 41 = .ok (.ifCond .ne 6, 3) := by decide +kernel
theorem dX12_layBests_44 : decode cX12_layBests 44 = .ok (.goto 92, 3) := by decide +kernel
theorem dX12_layBests_47 : decode cX12_layBests 47 = .ok (.aload_n 0, 1) := by decide +kernel
theorem dX12_layBests_48 : decode cX12_layBests 48 = .ok (.iload_n 2, 1) := by decide +kernel
theorem dX12_layBests_49 : decode cX12_layBests 49 = .ok (.invokevirtual 230, 3) := by decide +kernel
theorem dX12_layBests_52 : decode cX12_layBests 52 = .ok (.istore_n 3, 1) := by decide +kernel
theorem dX12_layBests_53 : decode cX12_layBests 53 = .ok (.iload_n 2, 1) := by decide +kernel
theorem dX12_layBests_54 : decode cX12_layBests 54 = .ok (.iload_n 1, 1) := by decide +kernel
theorem dX12_layBests_55 : decode cX12_layBests 55 = .ok (.invokestatic 198, 3) := by decide +kernel
theorem dX12_layBests_58 : decode cX12_layBests 58 = .ok (.ifCond .eq 52, 3) := by decide +kernel
theorem dX12_layBests_61 : decode cX12_layBests 61 = .ok (.iload_n 3, 1) := by decide +kernel
theorem dX12_layBests_62 : decode cX12_layBests 62 = .ok (.aload_n 0, 1) := by decide +kernel
theorem dX12_layBests_63 : decode cX12_layBests 63 = .ok (.iload_n 1, 1) := by decide +kernel
theorem dX12_layBests_64 : decode cX12_layBests 64 = .ok (.aload_n 0, 1) := by decide +kernel
theorem dX12_layBests_65 : decode cX12_layBests 65 = .ok (.getfield 7, 3) := by decide +kernel
theorem dX12_layBests_68 : decode cX12_layBests 68 = .ok (.bipush 19, 2) := by decide +kernel
theorem dX12_layBests_70 : decode cX12_layBests 70 = .ok (.iload_n 1, 1) := by decide +kernel
theorem dX12_layBests_71 : decode cX12_layBests 71 = .ok (.iadd, 1) := by decide +kernel
theorem dX12_layBests_72 : decode cX12_layBests 72 = .ok (.iaload, 1) := by decide +kernel
theorem dX12_layBests_73 : decode cX12_layBests 73 = .ok (.invokevirtual 357, 3) := by decide +kernel
theorem dX12_layBests_76 : decode cX12_layBests 76 = .ok (.isub, 1) := by decide +kernel
theorem dX12_layBests_77 : decode cX12_layBests 77 = .ok (.istore_n 3, 1) := by decide +kernel
theorem dX12_layBests_78 : decode cX12_layBests 78 = .ok (.aload_n 0, 1) := by decide +kernel
theorem dX12_layBests_79 : decode cX12_layBests 79 = .ok (.getfield 345, 3) := by decide +kernel
theorem dX12_layBests_82 : decode cX12_layBests 82 = .ok (.iconst (-1), 1) := by decide +kernel
theorem dX12_layBests_83 : decode cX12_layBests 83 = .ok (.if_icmp .eq 14, 3) := by decide +kernel
theorem dX12_layBests_86 : decode cX12_layBests 86 = .ok (.iload_n 3, 1) := by decide +kernel
theorem dX12_layBests_87 : decode cX12_layBests 87 = .ok (.aload_n 0, 1) := by decide +kernel
theorem dX12_layBests_88 : decode cX12_layBests 88 = .ok (.getfield 351, 3) := by decide +kernel
theorem dX12_layBests_91 : decode cX12_layBests 91 = .ok (.if_icmp .gt 6, 3) := by decide +kernel
theorem dX12_layBests_94 : decode cX12_layBests 94 = .ok (.goto 42, 3) := by decide +kernel
theorem dX12_layBests_97 : decode cX12_layBests 97 = .ok (.aload_n 0, 1) := by decide +kernel
theorem dX12_layBests_98 : decode cX12_layBests 98 = .ok (.iload_n 2, 1) := by decide +kernel
theorem dX12_layBests_99 : decode cX12_layBests 99 = .ok (.putfield 345, 3) := by decide +kernel
theorem dX12_layBests_102 : decode cX12_layBests 102 = .ok (.aload_n 0, 1) := by decide +kernel
theorem dX12_layBests_103 : decode cX12_layBests 103 = .ok (.iload_n 3, 1) := by decide +kernel
theorem dX12_layBests_104 : decode cX12_layBests 104 = .ok (.putfield 351, 3) := by decide +kernel
theorem dX12_layBests_107 : decode cX12_layBests 107 = .ok (.goto 29, 3) := by decide +kernel
theorem dX12_layBests_110 : decode cX12_layBests 110 = .ok (.aload_n 0, 1) := by decide +kernel
theorem dX12_layBests_111 : decode cX12_layBests 111 = .ok (.getfield 348, 3) := by decide +kernel
theorem dX12_layBests_114 : decode cX12_layBests 114 = .ok (.iconst (-1), 1) := by decide +kernel
theorem dX12_layBests_115 : decode cX12_layBests 115 = .ok (.if_icmp .eq 11, 3) := by decide +kernel
theorem dX12_layBests_118 : decode cX12_layBests 118 = .ok (.iload_n 3, 1) := by decide +kernel
theorem dX12_layBests_119 : decode cX12_layBests 119 = .ok (.aload_n 0, 1) := by decide +kernel
theorem dX12_layBests_120 : decode cX12_layBests 120 = .ok (.getfield 354, 3) := by decide +kernel
theorem dX12_layBests_123 : decode cX12_layBests 123 = .ok (.if_icmp .le 13, 3) := by decide +kernel
theorem dX12_layBests_126 : decode cX12_layBests 126 = .ok (.aload_n 0, 1) := by decide +kernel
theorem dX12_layBests_127 : decode cX12_layBests 127 = .ok (.iload_n 2, 1) := by decide +kernel
theorem dX12_layBests_128 : decode cX12_layBests 128 = .ok (.putfield 348, 3) := by decide +kernel
theorem dX12_layBests_131 : decode cX12_layBests 131 = .ok (.aload_n 0, 1) := by decide +kernel
theorem dX12_layBests_132 : decode cX12_layBests 132 = .ok (.iload_n 3, 1) := by decide +kernel
theorem dX12_layBests_133 : decode cX12_layBests 133 = .ok (.putfield 354, 3) := by decide +kernel
theorem dX12_layBests_136 : decode cX12_layBests 136 = .ok (.iinc 2 1, 3) := by decide +kernel
theorem dX12_layBests_139 : decode cX12_layBests 139 = .ok (.goto (-117), 3) := by decide +kernel
theorem dX12_layBests_142 : decode cX12_layBests 142 = .ok (.return_, 1) := by decide +kernel
theorem dX12_isInWith_0 : decode cX12_isInWith 0 = .ok (.aload_n 0, 1) := by decide +kernel
theorem dX12_isInWith_1 : decode cX12_isInWith 1 = .ok (.getfield 348, 3) := by decide +kernel
theorem dX12_isInWith_4 : decode cX12_isInWith 4 = .ok (.iconst (-1), 1) := by decide +kernel
theorem dX12_isInWith_5 : decode cX12_isInWith 5 = .ok (.if_icmp .ne 5, 3) := by decide +kernel
theorem dX12_isInWith_8 : decode cX12_isInWith 8 = .ok (.iconst 1, 1) := by decide +kernel
theorem dX12_isInWith_9 : decode cX12_isInWith 9 = .ok (.ireturn, 1) := by decide +kernel
theorem dX12_isInWith_10 : decode cX12_isInWith 10 = .ok (.aload_n 0, 1) := by decide +kernel
theorem dX12_isInWith_11 : decode cX12_isInWith 11 = .ok (.getfield 351, 3) := by decide +kernel
theorem dX12_isInWith_14 : decode cX12_isInWith 14 = .ok (.aload_n 0, 1) := by decide +kernel
theorem dX12_isInWith_15 : decode cX12_isInWith 15 = .ok (.iload_n 1, 1) := by decide +kernel
theorem dX12_isInWith_16 : decode cX12_isInWith 16 = .ok (.iload_n 2, 1) := by decide +kernel
theorem dX12_isInWith_17 : decode cX12_isInWith 17 = .ok (.invokevirtual 357, 3) := by decide +kernel
theorem dX12_isInWith_20 : decode cX12_isInWith 20 = .ok (.iadd, 1) := by decide +kernel
theorem dX12_isInWith_21 : decode cX12_isInWith 21 = .ok (.istore_n 3, 1) := by decide +kernel
theorem dX12_isInWith_22 : decode cX12_isInWith 22 = .ok (.iload_n 3, 1) := by decide +kernel
theorem dX12_isInWith_23 : decode cX12_isInWith 23 = .ok (.aload_n 0, 1) := by decide +kernel
theorem dX12_isInWith_24 : decode cX12_isInWith 24 = .ok (.getfield 354, 3) := by decide +kernel
theorem dX12_isInWith_27 : decode cX12_isInWith 27 = .ok (.if_icmp .gt 22, 3) := by decide +kernel
theorem dX12_isInWith_30 : decode cX12_isInWith 30 = .ok (.iload_n 3, 1) := by decide +kernel
theorem dX12_isInWith_31 : decode cX12_isInWith 31 = .ok (.aload_n 0, 1) := by decide +kernel
theorem dX12_isInWith_32 : decode cX12_isInWith 32 = .ok (.getfield 354, 3) := by decide +kernel
theorem dX12_isInWith_35 : decode cX12_isInWith 35 = .ok (.if_icmp .ne 18, 3) := by decide +kernel
theorem dX12_isInWith_38 : decode cX12_isInWith 38 = .ok (.aload_n 0, 1) := by decide +kernel
theorem dX12_isInWith_39 : decode cX12_isInWith 39 = .ok (.getfield 345, 3) := by decide +kernel
theorem dX12_isInWith_42 : decode cX12_isInWith 42 = .ok (.aload_n 0, 1) := by decide +kernel
theorem dX12_isInWith_43 : decode cX12_isInWith 43 = .ok (.getfield 348, 3) := by decide +kernel
theorem dX12_isInWith_46 : decode cX12_isInWith 46 = .ok (.if_icmp .ge 7, 3) := by decide +kernel
theorem dX12_isInWith_49 : decode cX12_isInWith 49 = .ok (.iconst 1, 1) := by decide +kernel
theorem dX12_isInWith_50 : decode cX12_isInWith 50 = .ok (.goto 4, 3) := by decide +kernel
theorem dX12_isInWith_53 : decode cX12_isInWith 53 = .ok (.iconst 0, 1) := by decide +kernel
theorem dX12_isInWith_54 : decode cX12_isInWith 54 = .ok (.ireturn, 1) := by decide +kernel
theorem dX12_threshold_0 : decode cX12_threshold 0 = .ok (.iload_n 1, 1) := by decide +kernel
theorem dX12_threshold_1 : decode cX12_threshold 1 = .ok (.invokestatic 56, 3) := by decide +kernel
theorem dX12_threshold_4 : decode cX12_threshold 4 = .ok (.ifCond .ne 5, 3) := by decide +kernel
theorem dX12_threshold_7 : decode cX12_threshold 7 = .ok (.iconst (-1), 1) := by decide +kernel
theorem dX12_threshold_8 : decode cX12_threshold 8 = .ok (.ireturn, 1) := by decide +kernel
theorem dX12_threshold_9 : decode cX12_threshold 9 = .ok (.aload_n 0, 1) := by decide +kernel
theorem dX12_threshold_10 : decode cX12_threshold 10 = .ok (.iload_n 1, 1) := by decide +kernel
theorem dX12_threshold_11 : decode cX12_threshold 11 = .ok (.invokevirtual 360, 3) := by decide +kernel
theorem dX12_threshold_14 : decode cX12_threshold 14 = .ok (.aload_n 0, 1) := by decide +kernel
theorem dX12_threshold_15 : decode cX12_threshold 15 = .ok (.getfield 345, 3) := by decide +kernel
theorem dX12_threshold_18 : decode cX12_threshold 18 = .ok (.iconst (-1), 1) := by decide +kernel
theorem dX12_threshold_19 : decode cX12_threshold 19 = .ok (.if_icmp .eq 14, 3) := by decide +kernel
theorem dX12_threshold_22 : decode cX12_threshold 22 = .ok (.aload_n 0, 1) := by decide +kernel
theorem dX12_threshold_23 : decode cX12_threshold 23 = .ok (.iload_n 1, 1) := by decide +kernel
theorem dX12_threshold_24 : decode cX12_threshold 24 = .ok (.sipush 9999, 3) := by decide +kernel
theorem dX12_threshold_27 : decode cX12_threshold 27 = .ok (.invokevirtual 363, 3) := by decide +kernel
theorem dX12_threshold_30 : decode cX12_threshold 30 = .ok (.ifCond .ne 5, 3) := by decide +kernel
theorem dX12_threshold_33 : decode cX12_threshold 33 = .ok (.iconst (-1), 1) := by decide +kernel
theorem dX12_threshold_34 : decode cX12_threshold 34 = .ok (.ireturn, 1) := by decide +kernel
theorem dX12_threshold_35 : decode cX12_threshold 35 = .ok (.iconst 0, 1) := by decide +kernel
theorem dX12_threshold_36 : decode cX12_threshold 36 = .ok (.istore_n 2, 1) := by decide +kernel
theorem dX12_threshold_37 : decode cX12_threshold 37 = .ok (.aload_n 0, 1) := by decide +kernel
theorem dX12_threshold_38 : decode cX12_threshold 38 = .ok (.iload_n 1, 1) := by decide +kernel
theorem dX12_threshold_39 : decode cX12_threshold 39 = .ok (.iload_n 2, 1) := by decide +kernel
theorem dX12_threshold_40 : decode cX12_threshold 40 = .ok (.invokevirtual 363, 3) := by decide +kernel
theorem dX12_threshold_43 : decode cX12_threshold 43 = .ok (.ifCond .ne 9, 3) := by decide +kernel
theorem dX12_threshold_46 : decode cX12_threshold 46 = .ok (.iinc 2 1, 3) := by decide +kernel
theorem dX12_threshold_49 : decode cX12_threshold 49 = .ok (.goto (-12), 3) := by decide +kernel
theorem dX12_threshold_52 : decode cX12_threshold 52 = .ok (.iload_n 2, 1) := by decide +kernel
theorem dX12_threshold_53 : decode cX12_threshold 53 = .ok (.ireturn, 1) := by decide +kernel
theorem dX12_displaced_0 : decode cX12_displaced 0 = .ok (.aload_n 0, 1) := by decide +kernel
theorem dX12_displaced_1 : decode cX12_displaced 1 = .ok (.aload_n 0, 1) := by decide +kernel
theorem dX12_displaced_2 : decode cX12_displaced 2 = .ok (.getfield 7, 3) := by decide +kernel
theorem dX12_displaced_5 : decode cX12_displaced 5 = .ok (.bipush 8, 2) := by decide +kernel
theorem dX12_displaced_7 : decode cX12_displaced 7 = .ok (.iaload, 1) := by decide +kernel
theorem dX12_displaced_8 : decode cX12_displaced 8 = .ok (.invokevirtual 236, 3) := by decide +kernel
theorem dX12_displaced_11 : decode cX12_displaced 11 = .ok (.istore_n 2, 1) := by decide +kernel
theorem dX12_displaced_12 : decode cX12_displaced 12 = .ok (.aload_n 0, 1) := by decide +kernel
theorem dX12_displaced_13 : decode cX12_displaced 13 = .ok (.iload_n 1, 1) := by decide +kernel
theorem dX12_displaced_14 : decode cX12_displaced 14 = .ok (.invokevirtual 366, 3) := by decide +kernel
theorem dX12_displaced_17 : decode cX12_displaced 17 = .ok (.iconst (-1), 1) := by decide +kernel
theorem dX12_displaced_18 : decode cX12_displaced 18 = .ok (.if_icmp .ne 7, 3) := by decide +kernel
theorem dX12_displaced_21 : decode cX12_displaced 21 = .ok (.iconst (-1), 1) := by decide +kernel
theorem dX12_displaced_22 : decode cX12_displaced 22 = .ok (.goto 11, 3) := by decide +kernel
theorem dX12_displaced_25 : decode cX12_displaced 25 = .ok (.iload_n 2, 1) := by decide +kernel
theorem dX12_displaced_26 : decode cX12_displaced 26 = .ok (.aload_n 0, 1) := by decide +kernel
theorem dX12_displaced_27 : decode cX12_displaced 27 = .ok (.getfield 345, 3) := by decide +kernel
theorem dX12_displaced_30 : decode cX12_displaced 30 = .ok (.iconst (-1), 1) := by decide +kernel
theorem dX12_displaced_31 : decode cX12_displaced 31 = .ok (.ixor, 1) := by decide +kernel
theorem dX12_displaced_32 : decode cX12_displaced 32 = .ok (.iand, 1) := by decide +kernel
theorem dX12_displaced_33 : decode cX12_displaced 33 = .ok (.ireturn, 1) := by decide +kernel
theorem dX12_gained_0 : decode cX12_gained 0 = .ok (.iload_n 1, 1) := by decide +kernel
theorem dX12_gained_1 : decode cX12_gained 1 = .ok (.invokestatic 56, 3) := by decide +kernel
theorem dX12_gained_4 : decode cX12_gained 4 = .ok (.ifCond .eq 48, 3) := by decide +kernel
theorem dX12_gained_7 : decode cX12_gained 7 = .ok (.aload_n 0, 1) := by decide +kernel
theorem dX12_gained_8 : decode cX12_gained 8 = .ok (.iload_n 1, 1) := by decide +kernel
theorem dX12_gained_9 : decode cX12_gained 9 = .ok (.invokevirtual 157, 3) := by decide +kernel
theorem dX12_gained_12 : decode cX12_gained 12 = .ok (.ifCond .eq 40, 3) := by decide +kernel
theorem dX12_gained_15 : decode cX12_gained 15 = .ok (.bipush 7, 2) := by decide +kernel
theorem dX12_gained_17 : decode cX12_gained 17 = .ok (.aload_n 0, 1) := by decide +kernel
theorem dX12_gained_18 : decode cX12_gained 18 = .ok (.getfield 7, 3) := by decide +kernel
theorem dX12_gained_21 : decode cX12_gained 21 = .ok (.bipush 119, 2) := by decide +kernel
theorem dX12_gained_23 : decode cX12_gained 23 = .ok (.iload_n 1, 1) := by decide +kernel
theorem dX12_gained_24 : decode cX12_gained 24 = .ok (.iadd, 1) := by decide +kernel
theorem dX12_gained_25 : decode cX12_gained 25 = .ok (.iaload, 1) := by decide +kernel
theorem dX12_gained_26 : decode cX12_gained 26 = .ok (.imul, 1) := by decide +kernel
theorem dX12_gained_27 : decode cX12_gained 27 = .ok (.bipush 8, 2) := by decide +kernel
theorem dX12_gained_29 : decode cX12_gained 29 = .ok (.aload_n 0, 1) := by decide +kernel
theorem dX12_gained_30 : decode cX12_gained 30 = .ok (.getfield 7, 3) := by decide +kernel
theorem dX12_gained_33 : decode cX12_gained 33 = .ok (.sipush 129, 3) := by decide +kernel
theorem dX12_gained_36 : decode cX12_gained 36 = .ok (.iload_n 1, 1) := by decide +kernel
theorem dX12_gained_37 : decode cX12_gained 37 = .ok (.iadd, 1) := by decide +kernel
theorem dX12_gained_38 : decode cX12_gained 38 = .ok (.iaload, 1) := by decide +kernel
theorem dX12_gained_39 : decode cX12_gained 39 = .ok (.imul, 1) := by decide +kernel
theorem dX12_gained_40 : decode cX12_gained 40 = .ok (.iadd, 1) := by decide +kernel
theorem dX12_gained_41 : decode cX12_gained 41 = .ok (.bipush 9, 2) := by decide +kernel
theorem dX12_gained_43 : decode cX12_gained 43 = .ok (.iload_n 1, 1) := by decide +kernel
theorem dX12_gained_44 : decode cX12_gained 44 = .ok (.invokestatic 60, 3) := by decide +kernel
theorem dX12_gained_47 : decode cX12_gained 47 = .ok (.imul, 1) := by decide +kernel
theorem dX12_gained_48 : decode cX12_gained 48 = .ok (.isub, 1) := by decide +kernel
theorem dX12_gained_49 : decode cX12_gained 49 = .ok (.goto 6, 3) := by decide +kernel
theorem dX12_gained_52 : decode cX12_gained 52 = .ok (.ldc_w 344, 3) := by decide +kernel
theorem dX12_gained_55 : decode cX12_gained 55 = .ok (.ireturn, 1) := by decide +kernel
theorem dX12_foretold_0 : decode cX12_foretold 0 = .ok (.iload_n 1, 1) := by decide +kernel
theorem dX12_foretold_1 : decode cX12_foretold 1 = .ok (.iconst 1, 1) := by decide +kernel
theorem dX12_foretold_2 : decode cX12_foretold 2 = .ok (.bipush 8, 2) := by decide +kernel
theorem dX12_foretold_4 : decode cX12_foretold 4 = .ok (.invokestatic 52, 3) := by decide +kernel
theorem dX12_foretold_7 : decode cX12_foretold 7 = .ok (.ifCond .eq 10, 3) := by decide +kernel
theorem dX12_foretold_10 : decode cX12_foretold 10 = .ok (.iload_n 2, 1) := by decide +kernel
theorem dX12_foretold_11 : decode cX12_foretold 11 = .ok (.invokestatic 56, 3) := by decide +kernel
theorem dX12_foretold_14 : decode cX12_foretold 14 = .ok (.ifCond .ne 5, 3) := by decide +kernel
theorem dX12_foretold_17 : decode cX12_foretold 17 = .ok (.iconst (-1), 1) := by decide +kernel
theorem dX12_foretold_18 : decode cX12_foretold 18 = .ok (.ireturn, 1) := by decide +kernel
theorem dX12_foretold_19 : decode cX12_foretold 19 = .ok (.aload_n 0, 1) := by decide +kernel
theorem dX12_foretold_20 : decode cX12_foretold 20 = .ok (.invokevirtual 369, 3) := by decide +kernel
theorem dX12_foretold_23 : decode cX12_foretold 23 = .ok (.aload_n 0, 1) := by decide +kernel
theorem dX12_foretold_24 : decode cX12_foretold 24 = .ok (.iload_n 1, 1) := by decide +kernel
theorem dX12_foretold_25 : decode cX12_foretold 25 = .ok (.invokevirtual 332, 3) := by decide +kernel
theorem dX12_foretold_28 : decode cX12_foretold 28 = .ok (.aload_n 0, 1) := by decide +kernel
theorem dX12_foretold_29 : decode cX12_foretold 29 = .ok (.getfield 7, 3) := by decide +kernel
theorem dX12_foretold_32 : decode cX12_foretold 32 = .ok (.bipush 109, 2) := by decide +kernel
theorem dX12_foretold_34 : decode cX12_foretold 34 = .ok (.iload_n 2, 1) := by decide +kernel
theorem dX12_foretold_35 : decode cX12_foretold 35 = .ok (.iadd, 1) := by decide +kernel
theorem dX12_foretold_36 : decode cX12_foretold 36 = .ok (.iaload, 1) := by decide +kernel
theorem dX12_foretold_37 : decode cX12_foretold 37 = .ok (.istore_n 3, 1) := by decide +kernel
theorem dX12_foretold_38 : decode cX12_foretold 38 = .ok (.aload_n 0, 1) := by decide +kernel
theorem dX12_foretold_39 : decode cX12_foretold 39 = .ok (.invokevirtual 372, 3) := by decide +kernel
theorem dX12_foretold_42 : decode cX12_foretold 42 = .ok (.iload_n 3, 1) := by decide +kernel
theorem dX12_foretold_43 : decode cX12_foretold 43 = .ok (.ireturn, 1) := by decide +kernel
theorem dX12_copies_0 : decode cX12_copies 0 = .ok (.iload_n 1, 1) := by decide +kernel
theorem dX12_copies_1 : decode cX12_copies 1 = .ok (.iconst 1, 1) := by decide +kernel
theorem dX12_copies_2 : decode cX12_copies 2 = .ok (.bipush 8, 2) := by decide +kernel
theorem dX12_copies_4 : decode cX12_copies 4 = .ok (.invokestatic 52, 3) := by decide +kernel
theorem dX12_copies_7 : decode cX12_copies 7 = .ok (.ifCond .ne 5, 3) := by decide +kernel
theorem dX12_copies_10 : decode cX12_copies 10 = .ok (.iconst (-1), 1) := by decide +kernel
theorem dX12_copies_11 : decode cX12_copies 11 = .ok (.ireturn, 1) := by decide +kernel
theorem dX12_copies_12 : decode cX12_copies 12 = .ok (.aload_n 0, 1) := by decide +kernel
theorem dX12_copies_13 : decode cX12_copies 13 = .ok (.invokevirtual 369, 3) := by decide +kernel
theorem dX12_copies_16 : decode cX12_copies 16 = .ok (.aload_n 0, 1) := by decide +kernel
theorem dX12_copies_17 : decode cX12_copies 17 = .ok (.getfield 7, 3) := by decide +kernel
theorem dX12_copies_20 : decode cX12_copies 20 = .ok (.bipush 13, 2) := by decide +kernel
theorem dX12_copies_22 : decode cX12_copies 22 = .ok (.iaload, 1) := by decide +kernel
theorem dX12_copies_23 : decode cX12_copies 23 = .ok (.istore_n 2, 1) := by decide +kernel
theorem dX12_copies_24 : decode cX12_copies 24 = .ok (.aload_n 0, 1) := by decide +kernel
theorem dX12_copies_25 : decode cX12_copies 25 = .ok (.iload_n 1, 1) := by decide +kernel
theorem dX12_copies_26 : decode cX12_copies 26 = .ok (.invokevirtual 332, 3) := by decide +kernel
theorem dX12_copies_29 : decode cX12_copies 29 = .ok (.aload_n 0, 1) := by decide +kernel
theorem dX12_copies_30 : decode cX12_copies 30 = .ok (.getfield 7, 3) := by decide +kernel
theorem dX12_copies_33 : decode cX12_copies 33 = .ok (.bipush 13, 2) := by decide +kernel
theorem dX12_copies_35 : decode cX12_copies 35 = .ok (.iaload, 1) := by decide +kernel
theorem dX12_copies_36 : decode cX12_copies 36 = .ok (.iload_n 2, 1) := by decide +kernel
theorem dX12_copies_37 : decode cX12_copies 37 = .ok (.isub, 1) := by decide +kernel
theorem dX12_copies_38 : decode cX12_copies 38 = .ok (.istore_n 3, 1) := by decide +kernel
theorem dX12_copies_39 : decode cX12_copies 39 = .ok (.aload_n 0, 1) := by decide +kernel
theorem dX12_copies_40 : decode cX12_copies 40 = .ok (.invokevirtual 372, 3) := by decide +kernel
theorem dX12_copies_43 : decode cX12_copies 43 = .ok (.iload_n 3, 1) := by decide +kernel
theorem dX12_copies_44 : decode cX12_copies 44 = .ok (.ireturn, 1) := by decide +kernel
theorem dX12_would_0 : decode cX12_would 0 = .ok (.iload_n 1, 1) := by decide +kernel
theorem dX12_would_1 : decode cX12_would 1 = .ok (.iconst 0, 1) := by decide +kernel
theorem dX12_would_2 : decode cX12_would 2 = .ok (.aload_n 0, 1) := by decide +kernel
theorem dX12_would_3 : decode cX12_would 3 = .ok (.getfield 7, 3) := by decide +kernel
theorem dX12_would_6 : decode cX12_would 6 = .ok (.iconst 0, 1) := by decide +kernel
theorem dX12_would_7 : decode cX12_would 7 = .ok (.iaload, 1) := by decide +kernel
theorem dX12_would_8 : decode cX12_would 8 = .ok (.iconst 1, 1) := by decide +kernel
theorem dX12_would_9 : decode cX12_would 9 = .ok (.isub, 1) := by decide +kernel
theorem dX12_would_10 : decode cX12_would 10 = .ok (.invokestatic 52, 3) := by decide +kernel
theorem dX12_would_13 : decode cX12_would 13 = .ok (.ifCond .ne 5, 3) := by decide +kernel
theorem dX12_would_16 : decode cX12_would 16 = .ok (.iconst (-1), 1) := by decide +kernel
theorem dX12_would_17 : decode cX12_would 17 = .ok (.ireturn, 1) := by decide +kernel
theorem dX12_would_18 : decode cX12_would 18 = .ok (.aload_n 0, 1) := by decide +kernel
theorem dX12_would_19 : decode cX12_would 19 = .ok (.invokevirtual 369, 3) := by decide +kernel
theorem dX12_would_22 : decode cX12_would 22 = .ok (.aload_n 0, 1) := by decide +kernel
theorem dX12_would_23 : decode cX12_would 23 = .ok (.getfield 7, 3) := by decide +kernel
theorem dX12_would_26 : decode cX12_would 26 = .ok (.bipush 6, 2) := by decide +kernel
theorem dX12_would_28 : decode cX12_would 28 = .ok (.iaload, 1) := by decide +kernel
theorem dX12_would_29 : decode cX12_would 29 = .ok (.istore_n 2, 1) := by decide +kernel
theorem dX12_would_30 : decode cX12_would 30 = .ok (.aload_n 0, 1) := by decide +kernel
theorem dX12_would_31 : decode cX12_would 31 = .ok (.iload_n 1, 1) := by decide +kernel
theorem dX12_would_32 : decode cX12_would 32 = .ok (.invokevirtual 335, 3) := by decide +kernel
theorem dX12_would_35 : decode cX12_would 35 = .ok (.pop, 1) := by decide +kernel
theorem dX12_would_36 : decode cX12_would 36 = .ok (.aload_n 0, 1) := by decide +kernel
theorem dX12_would_37 : decode cX12_would 37 = .ok (.getfield 7, 3) := by decide +kernel
theorem dX12_would_40 : decode cX12_would 40 = .ok (.bipush 6, 2) := by decide +kernel
theorem dX12_would_42 : decode cX12_would 42 = .ok (.iaload, 1) := by decide +kernel
theorem dX12_would_43 : decode cX12_would 43 = .ok (.iload_n 2, 1) := by decide +kernel
theorem dX12_would_44 : decode cX12_would 44 = .ok (.isub, 1) := by decide +kernel
theorem dX12_would_45 : decode cX12_would 45 = .ok (.istore_n 3, 1) := by decide +kernel
theorem dX12_would_46 : decode cX12_would 46 = .ok (.aload_n 0, 1) := by decide +kernel
theorem dX12_would_47 : decode cX12_would 47 = .ok (.invokevirtual 372, 3) := by decide +kernel
theorem dX12_would_50 : decode cX12_would 50 = .ok (.iload_n 3, 1) := by decide +kernel
theorem dX12_would_51 : decode cX12_would 51 = .ok (.ireturn, 1) := by decide +kernel
theorem dX12_cheapest_0 : decode cX12_cheapest 0 = .ok (.iconst (-1), 1) := by decide +kernel
theorem dX12_cheapest_1 : decode cX12_cheapest 1 = .ok (.istore_n 1, 1) := by decide +kernel
theorem dX12_cheapest_2 : decode cX12_cheapest 2 = .ok (.iconst 0, 1) := by decide +kernel
theorem dX12_cheapest_3 : decode cX12_cheapest 3 = .ok (.istore_n 2, 1) := by decide +kernel
theorem dX12_cheapest_4 : decode cX12_cheapest 4 = .ok (.iconst 0, 1) := by decide +kernel
theorem dX12_cheapest_5 : decode cX12_cheapest 5 = .ok (.istore_n 3, 1) := by decide +kernel
theorem dX12_cheapest_6 : decode cX12_cheapest 6 = .ok (.iload_n 3, 1) := by decide +kernel
theorem dX12_cheapest_7 : decode cX12_cheapest 7 = .ok (.aload_n 0, 1) := by decide +kernel
theorem dX12_cheapest_8 : decode cX12_cheapest 8 = .ok (.getfield 7, 3) := by decide +kernel
theorem dX12_cheapest_11 : decode cX12_cheapest 11 = .ok (.iconst 0, 1) := by decide +kernel
theorem dX12_cheapest_12 : decode cX12_cheapest 12 = .ok (.iaload, 1) := by decide +kernel
theorem dX12_cheapest_13 : decode cX12_cheapest 13 = .ok (.if_icmp .ge 35, 3) := by decide +kernel
theorem dX12_cheapest_16 : decode cX12_cheapest 16 = .ok (.aload_n 0, 1) := by decide +kernel
theorem dX12_cheapest_17 : decode cX12_cheapest 17 = .ok (.iload_n 3, 1) := by decide +kernel
theorem dX12_cheapest_18 : decode cX12_cheapest 18 = .ok (.invokevirtual 375, 3) := by decide +kernel
theorem dX12_cheapest_21 : decode cX12_cheapest 21 = .ok (.istore 4, 2) := by decide +kernel
theorem dX12_cheapest_23 : decode cX12_cheapest 23 = .ok (.iload_n 1, 1) := by decide +kernel
theorem dX12_cheapest_24 : decode cX12_cheapest 24 = .ok (.iconst (-1), 1) := by decide +kernel
theorem dX12_cheapest_25 : decode cX12_cheapest 25 = .ok (.if_icmp .eq 12, 3) := by decide +kernel
theorem dX12_cheapest_28 : decode cX12_cheapest 28 = .ok (.iload 4, 2) := by decide +kernel
theorem dX12_cheapest_30 : decode cX12_cheapest 30 = .ok (.iload_n 2, 1) := by decide +kernel
theorem dX12_cheapest_31 : decode cX12_cheapest 31 = .ok (.if_icmp .lt 6, 3) := by decide +kernel
theorem dX12_cheapest_34 : decode cX12_cheapest 34 = .ok (.goto 8, 3) := by decide +kernel
theorem dX12_cheapest_37 : decode cX12_cheapest 37 = .ok (.iload_n 3, 1) := by decide +kernel
theorem dX12_cheapest_38 : decode cX12_cheapest 38 = .ok (.istore_n 1, 1) := by decide +kernel
theorem dX12_cheapest_39 : decode cX12_cheapest 39 = .ok (.iload 4, 2) := by decide +kernel
theorem dX12_cheapest_41 : decode cX12_cheapest 41 = .ok (.istore_n 2, 1) := by decide +kernel
theorem dX12_cheapest_42 : decode cX12_cheapest 42 = .ok (.iinc 3 1, 3) := by decide +kernel
theorem dX12_cheapest_45 : decode cX12_cheapest 45 = .ok (.goto (-39), 3) := by decide +kernel
theorem dX12_cheapest_48 : decode cX12_cheapest 48 = .ok (.iload_n 1, 1) := by decide +kernel
theorem dX12_cheapest_49 : decode cX12_cheapest 49 = .ok (.ireturn, 1) := by decide +kernel
theorem dX12_isHotter_0 : decode cX12_isHotter 0 = .ok (.aload_n 0, 1) := by decide +kernel
theorem dX12_isHotter_1 : decode cX12_isHotter 1 = .ok (.getfield 7, 3) := by decide +kernel
theorem dX12_isHotter_4 : decode cX12_isHotter 4 = .ok (.bipush 19, 2) := by decide +kernel
theorem dX12_isHotter_6 : decode cX12_isHotter 6 = .ok (.iload_n 1, 1) := by decide +kernel
theorem dX12_isHotter_7 : decode cX12_isHotter 7 = .ok (.iadd, 1) := by decide +kernel
theorem dX12_isHotter_8 : decode cX12_isHotter 8 = .ok (.iaload, 1) := by decide +kernel
theorem dX12_isHotter_9 : decode cX12_isHotter 9 = .ok (.aload_n 0, 1) := by decide +kernel
theorem dX12_isHotter_10 : decode cX12_isHotter 10 = .ok (.getfield 7, 3) := by decide +kernel
theorem dX12_isHotter_13 : decode cX12_isHotter 13 = .ok (.bipush 19, 2) := by decide +kernel
theorem dX12_isHotter_15 : decode cX12_isHotter 15 = .ok (.iload_n 2, 1) := by decide +kernel
theorem dX12_isHotter_16 : decode cX12_isHotter 16 = .ok (.iadd, 1) := by decide +kernel
theorem dX12_isHotter_17 : decode cX12_isHotter 17 = .ok (.iaload, 1) := by decide +kernel
theorem dX12_isHotter_18 : decode cX12_isHotter 18 = .ok (.if_icmp .gt 29, 3) := by decide +kernel
theorem dX12_isHotter_21 : decode cX12_isHotter 21 = .ok (.aload_n 0, 1) := by decide +kernel
theorem dX12_isHotter_22 : decode cX12_isHotter 22 = .ok (.getfield 7, 3) := by decide +kernel
theorem dX12_isHotter_25 : decode cX12_isHotter 25 = .ok (.bipush 19, 2) := by decide +kernel
theorem dX12_isHotter_27 : decode cX12_isHotter 27 = .ok (.iload_n 1, 1) := by decide +kernel
theorem dX12_isHotter_28 : decode cX12_isHotter 28 = .ok (.iadd, 1) := by decide +kernel
theorem dX12_isHotter_29 : decode cX12_isHotter 29 = .ok (.iaload, 1) := by decide +kernel
theorem dX12_isHotter_30 : decode cX12_isHotter 30 = .ok (.aload_n 0, 1) := by decide +kernel
theorem dX12_isHotter_31 : decode cX12_isHotter 31 = .ok (.getfield 7, 3) := by decide +kernel
theorem dX12_isHotter_34 : decode cX12_isHotter 34 = .ok (.bipush 19, 2) := by decide +kernel
theorem dX12_isHotter_36 : decode cX12_isHotter 36 = .ok (.iload_n 2, 1) := by decide +kernel
theorem dX12_isHotter_37 : decode cX12_isHotter 37 = .ok (.iadd, 1) := by decide +kernel
theorem dX12_isHotter_38 : decode cX12_isHotter 38 = .ok (.iaload, 1) := by decide +kernel
theorem dX12_isHotter_39 : decode cX12_isHotter 39 = .ok (.if_icmp .ne 12, 3) := by decide +kernel
theorem dX12_isHotter_42 : decode cX12_isHotter 42 = .ok (.iload_n 1, 1) := by decide +kernel
theorem dX12_isHotter_43 : decode cX12_isHotter 43 = .ok (.iload_n 2, 1) := by decide +kernel
theorem dX12_isHotter_44 : decode cX12_isHotter 44 = .ok (.if_icmp .ge 7, 3) := by decide +kernel
theorem dX12_isHotter_47 : decode cX12_isHotter 47 = .ok (.iconst 1, 1) := by decide +kernel
theorem dX12_isHotter_48 : decode cX12_isHotter 48 = .ok (.goto 4, 3) := by decide +kernel
theorem dX12_isHotter_51 : decode cX12_isHotter 51 = .ok (.iconst 0, 1) := by decide +kernel
theorem dX12_isHotter_52 : decode cX12_isHotter 52 = .ok (.ireturn, 1) := by decide +kernel
theorem dX12_rank_0 : decode cX12_rank 0 = .ok (.iconst 0, 1) := by decide +kernel
theorem dX12_rank_1 : decode cX12_rank 1 = .ok (.istore_n 2, 1) := by decide +kernel
theorem dX12_rank_2 : decode cX12_rank 2 = .ok (.iload_n 2, 1) := by decide +kernel
theorem dX12_rank_3 : decode cX12_rank 3 = .ok (.bipush 10, 2) := by decide +kernel
theorem dX12_rank_5 : decode cX12_rank 5 = .ok (.if_icmp .ge 52, 3) := by decide +kernel
theorem dX12_rank_8 : decode cX12_rank 8 = .ok (.iconst 0, 1) := by decide +kernel
theorem dX12_rank_9 : decode cX12_rank 9 = .ok (.istore_n 3, 1) := by decide +kernel
theorem dX12_rank_10 : decode cX12_rank 10 = .ok (.iconst 0, 1) := by decide +kernel
theorem dX12_rank_11 : decode cX12_rank 11 = .ok (.istore 4, 2) := by decide +kernel
theorem dX12_rank_13 : decode cX12_rank 13 = .ok (.iload 4, 2) := by decide +kernel
theorem dX12_rank_15 : decode cX12_rank 15 = .ok (.bipush 10, 2) := by decide +kernel
theorem dX12_rank_17 : decode cX12_rank 17 = .ok (.if_icmp .ge 27, 3) := by decide +kernel
theorem dX12_rank_20 : decode cX12_rank 20 = .ok (.iload_n 3, 1) := by decide +kernel
theorem dX12_rank_21 : decode cX12_rank 21 = .ok (.aload_n 0, 1) := by decide +kernel
theorem dX12_rank_22 : decode cX12_rank 22 = .ok (.iload 4, 2) := by decide +kernel
theorem dX12_rank_24 : decode cX12_rank 24 = .ok (.iload_n 2, 1) := by decide +kernel
theorem dX12_rank_25 : decode cX12_rank 25 = .ok (.invokevirtual 378, 3) := by decide +kernel
theorem dX12_rank_28 : decode cX12_rank 28 = .ok (.ifCond .eq 7, 3) := by decide +kernel
theorem dX12_rank_31 : decode cX12_rank 31 = .ok (.iconst 1, 1) := by decide +kernel
theorem dX12_rank_32 : decode cX12_rank 32 = .ok (.goto 4, 3) := by decide +kernel
theorem dX12_rank_35 : decode cX12_rank 35 = .ok (.iconst 0, 1) := by decide +kernel
theorem dX12_rank_36 : decode cX12_rank 36 = .ok (.iadd, 1) := by decide +kernel
theorem dX12_rank_37 : decode cX12_rank 37 = .ok (.istore_n 3, 1) := by decide +kernel
theorem dX12_rank_38 : decode cX12_rank 38 = .ok (.iinc 4 1, 3) := by decide +kernel
theorem dX12_rank_41 : decode cX12_rank 41 = .ok (.goto (-28), 3) := by decide +kernel
theorem dX12_rank_44 : decode cX12_rank 44 = .ok (.iload_n 3, 1) := by decide +kernel
theorem dX12_rank_45 : decode cX12_rank 45 = .ok (.iload_n 1, 1) := by decide +kernel
theorem dX12_rank_46 : decode cX12_rank 46 = .ok (.if_icmp .ne 5, 3) := by decide +kernel
theorem dX12_rank_49 : decode cX12_rank 49 = .ok (.iload_n 2, 1) := by decide +kernel
theorem dX12_rank_50 : decode cX12_rank 50 = .ok (.ireturn, 1) := by decide +kernel
theorem dX12_rank_51 : decode cX12_rank 51 = .ok (.iinc 2 1, 3) := by decide +kernel
theorem dX12_rank_54 : decode cX12_rank 54 = .ok (.goto (-52), 3) := by decide +kernel
theorem dX12_rank_57 : decode cX12_rank 57 = .ok (.iconst (-1), 1) := by decide +kernel
theorem dX12_rank_58 : decode cX12_rank 58 = .ok (.ireturn, 1) := by decide +kernel
theorem dX12_coldest_0 : decode cX12_coldest 0 = .ok (.iload_n 1, 1) := by decide +kernel
theorem dX12_coldest_1 : decode cX12_coldest 1 = .ok (.iconst 0, 1) := by decide +kernel
theorem dX12_coldest_2 : decode cX12_coldest 2 = .ok (.iconst 1, 1) := by decide +kernel
theorem dX12_coldest_3 : decode cX12_coldest 3 = .ok (.invokestatic 52, 3) := by decide +kernel
theorem dX12_coldest_6 : decode cX12_coldest 6 = .ok (.ifCond .ne 5, 3) := by decide +kernel
theorem dX12_coldest_9 : decode cX12_coldest 9 = .ok (.iconst (-1), 1) := by decide +kernel
theorem dX12_coldest_10 : decode cX12_coldest 10 = .ok (.ireturn, 1) := by decide +kernel
theorem dX12_coldest_11 : decode cX12_coldest 11 = .ok (.iconst (-1), 1) := by decide +kernel
theorem dX12_coldest_12 : decode cX12_coldest 12 = .ok (.istore_n 2, 1) := by decide +kernel
theorem dX12_coldest_13 : decode cX12_coldest 13 = .ok (.iconst 0, 1) := by decide +kernel
theorem dX12_coldest_14 : decode cX12_coldest 14 = .ok (.istore_n 3, 1) := by decide +kernel
theorem dX12_coldest_15 : decode cX12_coldest 15 = .ok (.iload_n 3, 1) := by decide +kernel
theorem dX12_coldest_16 : decode cX12_coldest 16 = .ok (.bipush 10, 2) := by decide +kernel
theorem dX12_coldest_18 : decode cX12_coldest 18 = .ok (.if_icmp .ge 41, 3) := by decide +kernel
theorem dX12_coldest_21 : decode cX12_coldest 21 = .ok (.aload_n 0, 1) := by decide +kernel
theorem dX12_coldest_22 : decode cX12_coldest 22 = .ok (.getfield 7, 3) := by decide +kernel
theorem dX12_coldest_25 : decode cX12_coldest 25 = .ok (.bipush 109, 2) := by decide +kernel
theorem dX12_coldest_27 : decode cX12_coldest 27 = .ok (.iload_n 3, 1) := by decide +kernel
theorem dX12_coldest_28 : decode cX12_coldest 28 = .ok (.iadd, 1) := by decide +kernel
theorem dX12_coldest_29 : decode cX12_coldest 29 = .ok (.iaload, 1) := by decide +kernel
theorem dX12_coldest_30 : decode cX12_coldest 30 = .ok (.iload_n 1, 1) := by decide +kernel
theorem dX12_coldest_31 : decode cX12_coldest 31 = .ok (.if_icmp .eq 6, 3) := by decide +kernel
theorem dX12_coldest_34 : decode cX12_coldest 34 = .ok (.goto 19, 3) := by decide +kernel
theorem dX12_coldest_37 : decode cX12_coldest 37 = .ok (.iload_n 2, 1) := by decide +kernel
theorem dX12_coldest_38 : decode cX12_coldest 38 = .ok (.iconst (-1), 1) := by decide +kernel
theorem dX12_coldest_39 : decode cX12_coldest 39 = .ok (.if_icmp .eq 12, 3) := by decide +kernel
theorem dX12_coldest_42 : decode cX12_coldest 42 = .ok (.aload_n 0, 1) := by decide +kernel
theorem dX12_coldest_43 : decode cX12_coldest 43 = .ok (.iload_n 2, 1) := by decide +kernel
theorem dX12_coldest_44 : decode cX12_coldest 44 = .ok (.iload_n 3, 1) := by decide +kernel
theorem dX12_coldest_45 : decode cX12_coldest 45 = .ok (.invokevirtual 378, 3) := by decide +kernel
theorem dX12_coldest_48 : decode cX12_coldest 48 = .ok (.ifCond .eq 5, 3) := by decide +kernel
theorem dX12_coldest_51 : decode cX12_coldest 51 = .ok (.iload_n 3, 1) := by decide +kernel
theorem dX12_coldest_52 : decode cX12_coldest 52 = .ok (.istore_n 2, 1) := by decide +kernel
theorem dX12_coldest_53 : decode cX12_coldest 53 = .ok (.iinc 3 1, 3) := by decide +kernel
theorem dX12_coldest_56 : decode cX12_coldest 56 = .ok (.goto (-41), 3) := by decide +kernel
theorem dX12_coldest_59 : decode cX12_coldest 59 = .ok (.iload_n 2, 1) := by decide +kernel
theorem dX12_coldest_60 : decode cX12_coldest 60 = .ok (.ireturn, 1) := by decide +kernel
theorem dX12_warmth_0 : decode cX12_warmth 0 = .ok (.iload_n 1, 1) := by decide +kernel
theorem dX12_warmth_1 : decode cX12_warmth 1 = .ok (.iconst 0, 1) := by decide +kernel
theorem dX12_warmth_2 : decode cX12_warmth 2 = .ok (.iconst 1, 1) := by decide +kernel
theorem dX12_warmth_3 : decode cX12_warmth 3 = .ok (.invokestatic 52, 3) := by decide +kernel
theorem dX12_warmth_6 : decode cX12_warmth 6 = .ok (.ifCond .ne 5, 3) := by decide +kernel
theorem dX12_warmth_9 : decode cX12_warmth 9 = .ok (.iconst (-1), 1) := by decide +kernel
theorem dX12_warmth_10 : decode cX12_warmth 10 = .ok (.ireturn, 1) := by decide +kernel
theorem dX12_warmth_11 : decode cX12_warmth 11 = .ok (.iconst 0, 1) := by decide +kernel
theorem dX12_warmth_12 : decode cX12_warmth 12 = .ok (.istore_n 2, 1) := by decide +kernel
theorem dX12_warmth_13 : decode cX12_warmth 13 = .ok (.iconst 0, 1) := by decide +kernel
theorem dX12_warmth_14 : decode cX12_warmth 14 = .ok (.istore_n 3, 1) := by decide +kernel
theorem dX12_warmth_15 : decode cX12_warmth 15 = .ok (.iload_n 3, 1) := by decide +kernel
theorem dX12_warmth_16 : decode cX12_warmth 16 = .ok (.bipush 10, 2) := by decide +kernel
theorem dX12_warmth_18 : decode cX12_warmth 18 = .ok (.if_icmp .ge 38, 3) := by decide +kernel
theorem dX12_warmth_21 : decode cX12_warmth 21 = .ok (.iload_n 2, 1) := by decide +kernel
theorem dX12_warmth_22 : decode cX12_warmth 22 = .ok (.aload_n 0, 1) := by decide +kernel
theorem dX12_warmth_23 : decode cX12_warmth 23 = .ok (.getfield 7, 3) := by decide +kernel
theorem dX12_warmth_26 : decode cX12_warmth 26 = .ok (.bipush 109, 2) := by decide +kernel
theorem dX12_warmth_28 : decode cX12_warmth 28 = .ok (.iload_n 3, 1) := by decide +kernel
theorem dX12_warmth_29 : decode cX12_warmth 29 = .ok (.iadd, 1) := by decide +kernel
theorem dX12_warmth_30 : decode cX12_warmth 30 = .ok (.iaload, 1) := by decide +kernel
theorem dX12_warmth_31 : decode cX12_warmth 31 = .ok (.iload_n 1, 1) := by decide +kernel
theorem dX12_warmth_32 : decode cX12_warmth 32 = .ok (.if_icmp .ne 15, 3) := by decide +kernel
theorem dX12_warmth_35 : decode cX12_warmth 35 = .ok (.aload_n 0, 1) := by decide +kernel
theorem dX12_warmth_36 : decode cX12_warmth 36 = .ok (.getfield 7, 3) := by decide +kernel
theorem dX12_warmth_39 : decode cX12_warmth 39 = .ok (.bipush 19, 2) := by decide +kernel
theorem dX12_warmth_41 : decode cX12_warmth 41 = .ok (.iload_n 3, 1) := by decide +kernel
theorem dX12_warmth_42 : decode cX12_warmth 42 = .ok (.iadd, 1) := by decide +kernel
theorem dX12_warmth_43 : decode cX12_warmth 43 = .ok (.iaload, 1) := by decide +kernel
theorem dX12_warmth_44 : decode cX12_warmth 44 = .ok (.goto 4, 3) := by decide +kernel
theorem dX12_warmth_47 : decode cX12_warmth 47 = .ok (.iconst 0, 1) := by decide +kernel
theorem dX12_warmth_48 : decode cX12_warmth 48 = .ok (.iadd, 1) := by decide +kernel
theorem dX12_warmth_49 : decode cX12_warmth 49 = .ok (.istore_n 2, 1) := by decide +kernel
theorem dX12_warmth_50 : decode cX12_warmth 50 = .ok (.iinc 3 1, 3) := by decide +kernel
theorem dX12_warmth_53 : decode cX12_warmth 53 = .ok (.goto (-38), 3) := by decide +kernel
theorem dX12_warmth_56 : decode cX12_warmth 56 = .ok (.iload_n 2, 1) := by decide +kernel
theorem dX12_warmth_57 : decode cX12_warmth 57 = .ok (.ireturn, 1) := by decide +kernel
theorem dX12_cools_0 : decode cX12_cools 0 = .ok (.iload_n 1, 1) := by decide +kernel
theorem dX12_cools_1 : decode cX12_cools 1 = .ok (.invokestatic 56, 3) := by decide +kernel
theorem dX12_cools_4 : decode cX12_cools 4 = .ok (.ifCond .ne 5, 3) := by decide +kernel
theorem dX12_cools_7 : decode cX12_cools 7 = .ok (.iconst (-1), 1) := by decide +kernel
theorem dX12_cools_8 : decode cX12_cools 8 = .ok (.ireturn, 1) := by decide +kernel
theorem dX12_cools_9 : decode cX12_cools 9 = .ok (.iconst 0, 1) := by decide +kernel
theorem dX12_cools_10 : decode cX12_cools 10 = .ok (.istore_n 2, 1) := by decide +kernel
theorem dX12_cools_11 : decode cX12_cools 11 = .ok (.aload_n 0, 1) := by decide +kernel
theorem dX12_cools_12 : decode cX12_cools 12 = .ok (.getfield 7, 3) := by decide +kernel
theorem dX12_cools_15 : decode cX12_cools 15 = .ok (.bipush 19, 2) := by decide +kernel
theorem dX12_cools_17 : decode cX12_cools 17 = .ok (.iload_n 1, 1) := by decide +kernel
theorem dX12_cools_18 : decode cX12_cools 18 = .ok (.iadd, 1) := by decide +kernel
theorem dX12_cools_19 : decode cX12_cools 19 = .ok (.iaload, 1) := by decide +kernel
theorem dX12_cools_20 : decode cX12_cools 20 = .ok (.istore_n 3, 1) := by decide +kernel
theorem dX12_cools_21 : decode cX12_cools 21 = .ok (.iload_n 3, 1) := by decide +kernel
theorem dX12_cools_22 : decode cX12_cools 22 = .ok (.ifCond .le 13, 3) := by decide +kernel
theorem dX12_cools_25 : decode cX12_cools 25 = .ok (.iinc 2 1, 3) := by decide +kernel
theorem dX12_cools_28 : decode cX12_cools 28 = .ok (.iload_n 3, 1) := by decide +kernel
theorem dX12_cools_29 : decode cX12_cools 29 = .ok (.iconst 2, 1) := by decide +kernel
theorem dX12_cools_30 : decode cX12_cools 30 = .ok (.idiv, 1) := by decide +kernel
theorem dX12_cools_31 : decode cX12_cools 31 = .ok (.istore_n 3, 1) := by decide +kernel
theorem dX12_cools_32 : decode cX12_cools 32 = .ok (.goto (-11), 3) := by decide +kernel
theorem dX12_cools_35 : decode cX12_cools 35 = .ok (.iload_n 2, 1) := by decide +kernel
theorem dX12_cools_36 : decode cX12_cools 36 = .ok (.ireturn, 1) := by decide +kernel
theorem dX12_share_0 : decode cX12_share 0 = .ok (.aload_n 0, 1) := by decide +kernel
theorem dX12_share_1 : decode cX12_share 1 = .ok (.getfield 7, 3) := by decide +kernel
theorem dX12_share_4 : decode cX12_share 4 = .ok (.bipush 10, 2) := by decide +kernel
theorem dX12_share_6 : decode cX12_share 6 = .ok (.iaload, 1) := by decide +kernel
theorem dX12_share_7 : decode cX12_share 7 = .ok (.ifCond .ne 7, 3) := by decide +kernel
theorem dX12_share_10 : decode cX12_share 10 = .ok (.iconst 0, 1) := by decide +kernel
theorem dX12_share_11 : decode cX12_share 11 = .ok (.goto 23, 3) := by decide +kernel
theorem dX12_share_14 : decode cX12_share 14 = .ok (.aload_n 0, 1) := by decide +kernel
theorem dX12_share_15 : decode cX12_share 15 = .ok (.getfield 7, 3) := by decide +kernel
theorem dX12_share_18 : decode cX12_share 18 = .ok (.bipush 11, 2) := by decide +kernel
theorem dX12_share_20 : decode cX12_share 20 = .ok (.iaload, 1) := by decide +kernel
theorem dX12_share_21 : decode cX12_share 21 = .ok (.i2f, 1) := by decide +kernel
theorem dX12_share_22 : decode cX12_share 22 = .ok (.aload_n 0, 1) := by decide +kernel
theorem dX12_share_23 : decode cX12_share 23 = .ok (.getfield 7, 3) := by decide +kernel
theorem dX12_share_26 : decode cX12_share 26 = .ok (.bipush 10, 2) := by decide +kernel
theorem dX12_share_28 : decode cX12_share 28 = .ok (.iaload, 1) := by decide +kernel
theorem dX12_share_29 : decode cX12_share 29 = .ok (.i2f, 1) := by decide +kernel
theorem dX12_share_30 : decode cX12_share 30 = .ok (.fdiv, 1) := by decide +kernel
theorem dX12_share_31 : decode cX12_share 31 = .ok (.invokestatic 381, 3) := by decide +kernel
theorem dX12_share_34 : decode cX12_share 34 = .ok (.ireturn, 1) := by decide +kernel
theorem dX12_mean_0 : decode cX12_mean 0 = .ok (.aload_n 0, 1) := by decide +kernel
theorem dX12_mean_1 : decode cX12_mean 1 = .ok (.getfield 7, 3) := by decide +kernel
theorem dX12_mean_4 : decode cX12_mean 4 = .ok (.bipush 10, 2) := by decide +kernel
theorem dX12_mean_6 : decode cX12_mean 6 = .ok (.iaload, 1) := by decide +kernel
theorem dX12_mean_7 : decode cX12_mean 7 = .ok (.ifCond .ne 7, 3) := by decide +kernel
theorem dX12_mean_10 : decode cX12_mean 10 = .ok (.lconst 0, 1) := by decide +kernel
theorem dX12_mean_11 : decode cX12_mean 11 = .ok (.goto 23, 3) := by decide +kernel
theorem dX12_mean_14 : decode cX12_mean 14 = .ok (.aload_n 0, 1) := by decide +kernel
theorem dX12_mean_15 : decode cX12_mean 15 = .ok (.getfield 7, 3) := by decide +kernel
theorem dX12_mean_18 : decode cX12_mean 18 = .ok (.bipush 6, 2) := by decide +kernel
theorem dX12_mean_20 : decode cX12_mean 20 = .ok (.iaload, 1) := by decide +kernel
theorem dX12_mean_21 : decode cX12_mean 21 = .ok (.i2d, 1) := by decide +kernel
theorem dX12_mean_22 : decode cX12_mean 22 = .ok (.aload_n 0, 1) := by decide +kernel
theorem dX12_mean_23 : decode cX12_mean 23 = .ok (.getfield 7, 3) := by decide +kernel
theorem dX12_mean_26 : decode cX12_mean 26 = .ok (.bipush 10, 2) := by decide +kernel
theorem dX12_mean_28 : decode cX12_mean 28 = .ok (.iaload, 1) := by decide +kernel
theorem dX12_mean_29 : decode cX12_mean 29 = .ok (.i2d, 1) := by decide +kernel
theorem dX12_mean_30 : decode cX12_mean 30 = .ok (.ddiv, 1) := by decide +kernel
theorem dX12_mean_31 : decode cX12_mean 31 = .ok (.invokestatic 387, 3) := by decide +kernel
theorem dX12_mean_34 : decode cX12_mean 34 = .ok (.lreturn, 1) := by decide +kernel
theorem dX12_book_0 : decode cX12_book 0 = .ok (.iload_n 1, 1) := by decide +kernel
theorem dX12_book_1 : decode cX12_book 1 = .ok (.iconst (-1), 1) := by decide +kernel
theorem dX12_book_2 : decode cX12_book 2 = .ok (.if_icmp .ne 11, 3) := by decide +kernel
theorem dX12_book_5 : decode cX12_book 5 = .ok (.aload_n 0, 1) := by decide +kernel
theorem dX12_book_6 : decode cX12_book 6 = .ok (.getfield 7, 3) := by decide +kernel
theorem dX12_book_9 : decode cX12_book 9 = .ok (.bipush 18, 2) := by decide +kernel
theorem dX12_book_11 : decode cX12_book 11 = .ok (.iaload, 1) := by decide +kernel
theorem dX12_book_12 : decode cX12_book 12 = .ok (.ireturn, 1) := by decide +kernel
theorem dX12_book_13 : decode cX12_book 13 = .ok (.iload_n 1, 1) := by decide +kernel
theorem dX12_book_14 : decode cX12_book 14 = .ok (.iconst 0, 1) := by decide +kernel
theorem dX12_book_15 : decode cX12_book 15 = .ok (.aload_n 0, 1) := by decide +kernel
theorem dX12_book_16 : decode cX12_book 16 = .ok (.getfield 7, 3) := by decide +kernel
theorem dX12_book_19 : decode cX12_book 19 = .ok (.bipush 18, 2) := by decide +kernel
theorem dX12_book_21 : decode cX12_book 21 = .ok (.iaload, 1) := by decide +kernel
theorem dX12_book_22 : decode cX12_book 22 = .ok (.iconst 1, 1) := by decide +kernel
theorem dX12_book_23 : decode cX12_book 23 = .ok (.isub, 1) := by decide +kernel
theorem dX12_book_24 : decode cX12_book 24 = .ok (.invokestatic 52, 3) := by decide +kernel
theorem dX12_book_27 : decode cX12_book 27 = .ok (.ifCond .eq 29, 3) := by decide +kernel
theorem dX12_book_30 : decode cX12_book 30 = .ok (.iload_n 2, 1) := by decide +kernel
theorem dX12_book_31 : decode cX12_book 31 = .ok (.iconst 0, 1) := by decide +kernel
theorem dX12_book_32 : decode cX12_book 32 = .ok (.iconst 3, 1) := by decide +kernel
theorem dX12_book_33 : decode cX12_book 33 = .ok (.invokestatic 52, 3) := by decide +kernel
theorem dX12_book_36 : decode cX12_book 36 = .ok (.ifCond .eq 20, 3) := by decide +kernel
theorem dX12_book_39 : decode cX12_book 39 = .ok (.aload_n 0, 1) := by decide +kernel
theorem dX12_book_40 : decode cX12_book 40 = .ok (.getfield 7, 3) := by decide +kernel
theorem dX12_book_43 : decode cX12_book 43 = .ok (.sipush 240, 3) := by decide +kernel
theorem dX12_book_46 : decode cX12_book 46 = .ok (.iconst 4, 1) := by decide +kernel
theorem dX12_book_47 : decode cX12_book 47 = .ok (.iload_n 1, 1) := by decide +kernel
theorem dX12_book_48 : decode cX12_book 48 = .ok (.imul, 1) := by decide +kernel
theorem dX12_book_49 : decode cX12_book 49 = .ok (.iadd, 1) := by decide +kernel
theorem dX12_book_50 : decode cX12_book 50 = .ok (.iload_n 2, 1) := by decide +kernel
theorem dX12_book_51 : decode cX12_book 51 = .ok (.iadd, 1) := by decide +kernel
theorem dX12_book_52 : decode cX12_book 52 = .ok (.iaload, 1) := by decide +kernel
theorem dX12_book_53 : decode cX12_book 53 = .ok (.goto 5, 3) := by decide +kernel
theorem dX12_book_56 : decode cX12_book 56 = .ok (.bipush (-2), 2) := by decide +kernel
theorem dX12_book_58 : decode cX12_book 58 = .ok (.ireturn, 1) := by decide +kernel
theorem dX12_ledger_0 : decode cX12_ledger 0 = .ok (.iload_n 1, 1) := by decide +kernel
theorem dX12_ledger_1 : decode cX12_ledger 1 = .ok (.iconst 0, 1) := by decide +kernel
theorem dX12_ledger_2 : decode cX12_ledger 2 = .ok (.iconst 5, 1) := by decide +kernel
theorem dX12_ledger_3 : decode cX12_ledger 3 = .ok (.invokestatic 52, 3) := by decide +kernel
theorem dX12_ledger_6 : decode cX12_ledger 6 = .ok (.ifCond .ne 5, 3) := by decide +kernel
theorem dX12_ledger_9 : decode cX12_ledger 9 = .ok (.iconst (-1), 1) := by decide +kernel
theorem dX12_ledger_10 : decode cX12_ledger 10 = .ok (.ireturn, 1) := by decide +kernel
theorem dX12_ledger_11 : decode cX12_ledger 11 = .ok (.iconst 0, 1) := by decide +kernel
theorem dX12_ledger_12 : decode cX12_ledger 12 = .ok (.istore_n 2, 1) := by decide +kernel
theorem dX12_ledger_13 : decode cX12_ledger 13 = .ok (.iconst 0, 1) := by decide +kernel
theorem dX12_ledger_14 : decode cX12_ledger 14 = .ok (.istore_n 3, 1) := by decide +kernel
theorem dX12_ledger_15 : decode cX12_ledger 15 = .ok (.iload_n 3, 1) := by decide +kernel
theorem dX12_ledger_16 : decode cX12_ledger 16 = .ok (.aload_n 0, 1) := by decide +kernel
theorem dX12_ledger_17 : decode cX12_ledger 17 = .ok (.getfield 7, 3) := by decide +kernel
theorem dX12_ledger_20 : decode cX12_ledger 20 = .ok (.bipush 18, 2) := by decide +kernel
theorem dX12_ledger_22 : decode cX12_ledger 22 = .ok (.iaload, 1) := by decide +kernel
theorem dX12_ledger_23 : decode cX12_ledger 23 = .ok (.if_icmp .ge 35, 3) := by decide +kernel
theorem dX12_ledger_26 : decode cX12_ledger 26 = .ok (.iload_n 2, 1) := by decide +kernel
theorem dX12_ledger_27 : decode cX12_ledger 27 = .ok (.aload_n 0, 1) := by decide +kernel
theorem dX12_ledger_28 : decode cX12_ledger 28 = .ok (.getfield 7, 3) := by decide +kernel
theorem dX12_ledger_31 : decode cX12_ledger 31 = .ok (.sipush 240, 3) := by decide +kernel
theorem dX12_ledger_34 : decode cX12_ledger 34 = .ok (.iconst 4, 1) := by decide +kernel
theorem dX12_ledger_35 : decode cX12_ledger 35 = .ok (.iload_n 3, 1) := by decide +kernel
theorem dX12_ledger_36 : decode cX12_ledger 36 = .ok (.imul, 1) := by decide +kernel
theorem dX12_ledger_37 : decode cX12_ledger 37 = .ok (.iadd, 1) := by decide +kernel
theorem dX12_ledger_38 : decode cX12_ledger 38 = .ok (.iconst 1, 1) := by decide +kernel
theorem dX12_ledger_39 : decode cX12_ledger 39 = .ok (.iadd, 1) := by decide +kernel
theorem dX12_ledger_40 : decode cX12_ledger 40 = .ok (.iaload, 1) := by decide +kernel
theorem dX12_ledger_41 : decode cX12_ledger 41 = .ok (.iload_n 1, 1) := by decide +kernel
theorem dX12_ledger_42 : decode cX12_ledger 42 = .ok (.if_icmp .ne 7, 3) := by decide +kernel
theorem dX12_ledger_45 : decode cX12_ledger 45 = .ok (.iconst 1, 1) := by decide +kernel
theorem dX12_ledger_46 : decode cX12_ledger 46 = .ok (.goto 4, 3) := by decide +kernel
theorem dX12_ledger_49 : decode cX12_ledger 49 = .ok (.iconst 0, 1) := by decide +kernel
theorem dX12_ledger_50 : decode cX12_ledger 50 = .ok (.iadd, 1) := by decide +kernel
theorem dX12_ledger_51 : decode cX12_ledger 51 = .ok (.istore_n 2, 1) := by decide +kernel
theorem dX12_ledger_52 : decode cX12_ledger 52 = .ok (.iinc 3 1, 3) := by decide +kernel
theorem dX12_ledger_55 : decode cX12_ledger 55 = .ok (.goto (-40), 3) := by decide +kernel
theorem dX12_ledger_58 : decode cX12_ledger 58 = .ok (.iload_n 2, 1) := by decide +kernel
theorem dX12_ledger_59 : decode cX12_ledger 59 = .ok (.ireturn, 1) := by decide +kernel
theorem dX12_image_0 : decode cX12_image 0 = .ok (.aload_n 0, 1) := by decide +kernel
theorem dX12_image_1 : decode cX12_image 1 = .ok (.getfield 7, 3) := by decide +kernel
theorem dX12_image_4 : decode cX12_image 4 = .ok (.aload_n 0, 1) := by decide +kernel
theorem dX12_image_5 : decode cX12_image 5 = .ok (.getfield 13, 3) := by decide +kernel
theorem dX12_image_8 : decode cX12_image 8 = .ok (.invokestatic 48, 3) := by decide +kernel
theorem dX12_image_11 : decode cX12_image 11 = .ok (.aload_n 0, 1) := by decide +kernel
theorem dX12_image_12 : decode cX12_image 12 = .ok (.getfield 7, 3) := by decide +kernel
theorem dX12_image_15 : decode cX12_image 15 = .ok (.iconst 3, 1) := by decide +kernel
theorem dX12_image_16 : decode cX12_image 16 = .ok (.iaload, 1) := by decide +kernel
theorem dX12_image_17 : decode cX12_image 17 = .ok (.ireturn, 1) := by decide +kernel
theorem dX12_back_0 : decode cX12_back 0 = .ok (.aload_n 0, 1) := by decide +kernel
theorem dX12_back_1 : decode cX12_back 1 = .ok (.getfield 13, 3) := by decide +kernel
theorem dX12_back_4 : decode cX12_back 4 = .ok (.aload_n 0, 1) := by decide +kernel
theorem dX12_back_5 : decode cX12_back 5 = .ok (.getfield 7, 3) := by decide +kernel
theorem dX12_back_8 : decode cX12_back 8 = .ok (.invokestatic 48, 3) := by decide +kernel
theorem dX12_back_11 : decode cX12_back 11 = .ok (.aload_n 0, 1) := by decide +kernel
theorem dX12_back_12 : decode cX12_back 12 = .ok (.getfield 7, 3) := by decide +kernel
theorem dX12_back_15 : decode cX12_back 15 = .ok (.iconst 3, 1) := by decide +kernel
theorem dX12_back_16 : decode cX12_back 16 = .ok (.iaload, 1) := by decide +kernel
theorem dX12_back_17 : decode cX12_back 17 = .ok (.ireturn, 1) := by decide +kernel
theorem dX12_about_0 : decode cX12_about 0 = .ok (.iload_n 1, 1) := by decide +kernel
theorem dX12_about_1 : decode cX12_about 1 = .ok (.ifCond .ne 12, 3) := by decide +kernel
theorem dX12_about_4 : decode cX12_about 4 = .ok (.aload_n 0, 1) := by decide +kernel
theorem dX12_about_5 : decode cX12_about 5 = .ok (.getfield 7, 3) := by decide +kernel
theorem dX12_about_8 : decode cX12_about 8 = .ok (.iconst 0, 1) := by decide +kernel
theorem dX12_about_9 : decode cX12_about 9 = .ok (.iaload, 1) := by decide +kernel
theorem dX12_about_10 : decode cX12_about 10 = .ok (.goto 31, 3) := by decide +kernel
theorem dX12_about_13 : decode cX12_about 13 = .ok (.iload_n 1, 1) := by decide +kernel
theorem dX12_about_14 : decode cX12_about 14 = .ok (.iconst 1, 1) := by decide +kernel
theorem dX12_about_15 : decode cX12_about 15 = .ok (.if_icmp .ne 12, 3) := by decide +kernel
theorem dX12_about_18 : decode cX12_about 18 = .ok (.aload_n 0, 1) := by decide +kernel
theorem dX12_about_19 : decode cX12_about 19 = .ok (.getfield 7, 3) := by decide +kernel
theorem dX12_about_22 : decode cX12_about 22 = .ok (.iconst 1, 1) := by decide +kernel
theorem dX12_about_23 : decode cX12_about 23 = .ok (.iaload, 1) := by decide +kernel
theorem dX12_about_24 : decode cX12_about 24 = .ok (.goto 17, 3) := by decide +kernel
theorem dX12_about_27 : decode cX12_about 27 = .ok (.iload_n 1, 1) := by decide +kernel
theorem dX12_about_28 : decode cX12_about 28 = .ok (.iconst 2, 1) := by decide +kernel
theorem dX12_about_29 : decode cX12_about 29 = .ok (.if_icmp .ne 10, 3) := by decide +kernel
theorem dX12_about_32 : decode cX12_about 32 = .ok (.aload_n 0, 1) := by decide +kernel
theorem dX12_about_33 : decode cX12_about 33 = .ok (.getfield 67, 3) := by decide +kernel
theorem dX12_about_36 : decode cX12_about 36 = .ok (.goto 5, 3) := by decide +kernel
theorem dX12_about_39 : decode cX12_about 39 = .ok (.bipush (-2), 2) := by decide +kernel
theorem dX12_about_41 : decode cX12_about 41 = .ok (.ireturn, 1) := by decide +kernel
