theorem d_M_init_0 : decode c_M_init 0 = .ok (.aload_n 0, 1) := by decide +kernel
theorem d_M_init_1 : decode c_M_init 1 = .ok (.invokespecial 1, 3) := by decide +kernel
theorem d_M_init_4 : decode c_M_init 4 = .ok (.aload_n 0, 1) := by decide +kernel
theorem d_M_init_5 : decode c_M_init 5 = .ok (.sipush 13056, 3) := by decide +kernel
theorem d_M_init_8 : decode c_M_init 8 = .ok (.newarray .byte, 2) := by decide +kernel
theorem d_M_init_10 : decode c_M_init 10 = .ok (.putfield 7, 3) := by decide +kernel
theorem d_M_init_13 : decode c_M_init 13 = .ok (.aload_n 0, 1) := by decide +kernel
theorem d_M_init_14 : decode c_M_init 14 = .ok (.sipush 13056, 3) := by decide +kernel
theorem d_M_init_17 : decode c_M_init 17 = .ok (.newarray .byte, 2) := by decide +kernel
theorem d_M_init_19 : decode c_M_init 19 = .ok (.putfield 13, 3) := by decide +kernel
theorem d_M_init_22 : decode c_M_init 22 = .ok (.aload_n 0, 1) := by decide +kernel
theorem d_M_init_23 : decode c_M_init 23 = .ok (.sipush 204, 3) := by decide +kernel
theorem d_M_init_26 : decode c_M_init 26 = .ok (.newarray .boolean, 2) := by decide +kernel
theorem d_M_init_28 : decode c_M_init 28 = .ok (.putfield 16, 3) := by decide +kernel
theorem d_M_init_31 : decode c_M_init 31 = .ok (.aload_n 0, 1) := by decide +kernel
theorem d_M_init_32 : decode c_M_init 32 = .ok (.bipush 8, 2) := by decide +kernel
theorem d_M_init_34 : decode c_M_init 34 = .ok (.newarray .boolean, 2) := by decide +kernel
theorem d_M_init_36 : decode c_M_init 36 = .ok (.putfield 20, 3) := by decide +kernel
theorem d_M_init_39 : decode c_M_init 39 = .ok (.aload_n 0, 1) := by decide +kernel
theorem d_M_init_40 : decode c_M_init 40 = .ok (.bipush 8, 2) := by decide +kernel
theorem d_M_init_42 : decode c_M_init 42 = .ok (.newarray .int, 2) := by decide +kernel
theorem d_M_init_44 : decode c_M_init 44 = .ok (.putfield 23, 3) := by decide +kernel
theorem d_M_init_47 : decode c_M_init 47 = .ok (.aload_n 0, 1) := by decide +kernel
theorem d_M_init_48 : decode c_M_init 48 = .ok (.bipush 8, 2) := by decide +kernel
theorem d_M_init_50 : decode c_M_init 50 = .ok (.newarray .int, 2) := by decide +kernel
theorem d_M_init_52 : decode c_M_init 52 = .ok (.putfield 27, 3) := by decide +kernel
theorem d_M_init_55 : decode c_M_init 55 = .ok (.aload_n 0, 1) := by decide +kernel
theorem d_M_init_56 : decode c_M_init 56 = .ok (.sipush 320, 3) := by decide +kernel
theorem d_M_init_59 : decode c_M_init 59 = .ok (.newarray .boolean, 2) := by decide +kernel
theorem d_M_init_61 : decode c_M_init 61 = .ok (.putfield 30, 3) := by decide +kernel
theorem d_M_init_64 : decode c_M_init 64 = .ok (.aload_n 0, 1) := by decide +kernel
theorem d_M_init_65 : decode c_M_init 65 = .ok (.bipush 16, 2) := by decide +kernel
theorem d_M_init_67 : decode c_M_init 67 = .ok (.newarray .int, 2) := by decide +kernel
theorem d_M_init_69 : decode c_M_init 69 = .ok (.putfield 33, 3) := by decide +kernel
theorem d_M_init_72 : decode c_M_init 72 = .ok (.aload_n 0, 1) := by decide +kernel
theorem d_M_init_73 : decode c_M_init 73 = .ok (.bipush 16, 2) := by decide +kernel
theorem d_M_init_75 : decode c_M_init 75 = .ok (.newarray .int, 2) := by decide +kernel
theorem d_M_init_77 : decode c_M_init 77 = .ok (.putfield 36, 3) := by decide +kernel
theorem d_M_init_80 : decode c_M_init 80 = .ok (.aload_n 0, 1) := by decide +kernel
theorem d_M_init_81 : decode c_M_init 81 = .ok (.sipush 1300, 3) := by decide +kernel
theorem d_M_init_84 : decode c_M_init 84 = .ok (.newarray .int, 2) := by decide +kernel
theorem d_M_init_86 : decode c_M_init 86 = .ok (.putfield 39, 3) := by decide +kernel
theorem d_M_init_89 : decode c_M_init 89 = .ok (.aload_n 0, 1) := by decide +kernel
theorem d_M_init_90 : decode c_M_init 90 = .ok (.sipush 1300, 3) := by decide +kernel
theorem d_M_init_93 : decode c_M_init 93 = .ok (.newarray .boolean, 2) := by decide +kernel
theorem d_M_init_95 : decode c_M_init 95 = .ok (.putfield 42, 3) := by decide +kernel
theorem d_M_init_98 : decode c_M_init 98 = .ok (.aload_n 0, 1) := by decide +kernel
theorem d_M_init_99 : decode c_M_init 99 = .ok (.sipush 10400, 3) := by decide +kernel
theorem d_M_init_102 : decode c_M_init 102 = .ok (.newarray .int, 2) := by decide +kernel
theorem d_M_init_104 : decode c_M_init 104 = .ok (.putfield 45, 3) := by decide +kernel
theorem d_M_init_107 : decode c_M_init 107 = .ok (.aload_n 0, 1) := by decide +kernel
theorem d_M_init_108 : decode c_M_init 108 = .ok (.sipush 13056, 3) := by decide +kernel
theorem d_M_init_111 : decode c_M_init 111 = .ok (.newarray .byte, 2) := by decide +kernel
theorem d_M_init_113 : decode c_M_init 113 = .ok (.putfield 48, 3) := by decide +kernel
theorem d_M_init_116 : decode c_M_init 116 = .ok (.aload_n 0, 1) := by decide +kernel
theorem d_M_init_117 : decode c_M_init 117 = .ok (.sipush 204, 3) := by decide +kernel
theorem d_M_init_120 : decode c_M_init 120 = .ok (.newarray .boolean, 2) := by decide +kernel
theorem d_M_init_122 : decode c_M_init 122 = .ok (.putfield 51, 3) := by decide +kernel
theorem d_M_init_125 : decode c_M_init 125 = .ok (.aload_n 0, 1) := by decide +kernel
theorem d_M_init_126 : decode c_M_init 126 = .ok (.iconst 4, 1) := by decide +kernel
theorem d_M_init_127 : decode c_M_init 127 = .ok (.bipush 12, 2) := by decide +kernel
theorem d_M_init_129 : decode c_M_init 129 = .ok (.invokevirtual 54, 3) := by decide +kernel
theorem d_M_init_132 : decode c_M_init 132 = .ok (.istore_n 1, 1) := by decide +kernel
theorem d_M_init_133 : decode c_M_init 133 = .ok (.return_, 1) := by decide +kernel
theorem d_M_lay_0 : decode c_M_lay 0 = .ok (.aload_n 0, 1) := by decide +kernel
theorem d_M_lay_1 : decode c_M_lay 1 = .ok (.iconst 0, 1) := by decide +kernel
theorem d_M_lay_2 : decode c_M_lay 2 = .ok (.putfield 58, 3) := by decide +kernel
theorem d_M_lay_5 : decode c_M_lay 5 = .ok (.iload_n 1, 1) := by decide +kernel
theorem d_M_lay_6 : decode c_M_lay 6 = .ok (.iconst 4, 1) := by decide +kernel
theorem d_M_lay_7 : decode c_M_lay 7 = .ok (.if_icmp .lt 21, 3) := by decide +kernel
theorem d_M_lay_10 : decode c_M_lay 10 = .ok (.iload_n 1, 1) := by decide +kernel
theorem d_M_lay_11 : decode c_M_lay 11 = .ok (.bipush 8, 2) := by decide +kernel
theorem d_M_lay_13 : decode c_M_lay 13 = .ok (.if_icmp .gt 15, 3) := by decide +kernel
theorem d_M_lay_16 : decode c_M_lay 16 = .ok (.iload_n 2, 1) := by decide +kernel
theorem d_M_lay_17 : decode c_M_lay 17 = .ok (.bipush 12, 2) := by decide +kernel
theorem d_M_lay_19 : decode c_M_lay 19 = .ok (.if_icmp .lt 9, 3) := by decide +kernel
theorem d_M_lay_22 : decode c_M_lay 22 = .ok (.iload_n 2, 1) := by decide +kernel
theorem d_M_lay_23 : decode c_M_lay 23 = .ok (.bipush 40, 2) := by decide +kernel
theorem d_M_lay_25 : decode c_M_lay 25 = .ok (.if_icmp .le 5, 3) := by decide +kernel
theorem d_M_lay_28 : decode c_M_lay 28 = .ok (.iconst (-1), 1) := by decide +kernel
theorem d_M_lay_29 : decode c_M_lay 29 = .ok (.ireturn, 1) := by decide +kernel
theorem d_M_lay_30 : decode c_M_lay 30 = .ok (.aload_n 0, 1) := by decide +kernel
theorem d_M_lay_31 : decode c_M_lay 31 = .ok (.iload_n 1, 1) := by decide +kernel
theorem d_M_lay_32 : decode c_M_lay 32 = .ok (.putfield 62, 3) := by decide +kernel
theorem d_M_lay_35 : decode c_M_lay 35 = .ok (.aload_n 0, 1) := by decide +kernel
theorem d_M_lay_36 : decode c_M_lay 36 = .ok (.iload_n 2, 1) := by decide +kernel
theorem d_M_lay_37 : decode c_M_lay 37 = .ok (.putfield 65, 3) := by decide +kernel
theorem d_M_lay_40 : decode c_M_lay 40 = .ok (.aload_n 0, 1) := by decide +kernel
theorem d_M_lay_41 : decode c_M_lay 41 = .ok (.iconst 0, 1) := by decide +kernel
theorem d_M_lay_42 : decode c_M_lay 42 = .ok (.putfield 68, 3) := by decide +kernel
theorem d_M_lay_45 : decode c_M_lay 45 = .ok (.iconst 0, 1) := by decide +kernel
theorem d_M_lay_46 : decode c_M_lay 46 = .ok (.istore_n 3, 1) := by decide +kernel
theorem d_M_lay_47 : decode c_M_lay 47 = .ok (.iload_n 3, 1) := by decide +kernel
theorem d_M_lay_48 : decode c_M_lay 48 = .ok (.sipush 13056, 3) := by decide +kernel
theorem d_M_lay_51 : decode c_M_lay 51 = .ok (.if_icmp .ge 23, 3) := by decide +kernel
theorem d_M_lay_54 : decode c_M_lay 54 = .ok (.aload_n 0, 1) := by decide +kernel
theorem d_M_lay_55 : decode c_M_lay 55 = .ok (.getfield 7, 3) := by decide +kernel
theorem d_M_lay_58 : decode c_M_lay 58 = .ok (.iload_n 3, 1) := by decide +kernel
theorem d_M_lay_59 : decode c_M_lay 59 = .ok (.iconst 0, 1) := by decide +kernel
theorem d_M_lay_60 : decode c_M_lay 60 = .ok (.bastore, 1) := by decide +kernel
theorem d_M_lay_61 : decode c_M_lay 61 = .ok (.aload_n 0, 1) := by decide +kernel
theorem d_M_lay_62 : decode c_M_lay 62 = .ok (.getfield 13, 3) := by decide +kernel
theorem d_M_lay_65 : decode c_M_lay 65 = .ok (.iload_n 3, 1) := by decide +kernel
theorem d_M_lay_66 : decode c_M_lay 66 = .ok (.iconst 0, 1) := by decide +kernel
theorem d_M_lay_67 : decode c_M_lay 67 = .ok (.bastore, 1) := by decide +kernel
theorem d_M_lay_68 : decode c_M_lay 68 = .ok (.iinc 3 1, 3) := by decide +kernel
theorem d_M_lay_71 : decode c_M_lay 71 = .ok (.goto (-24), 3) := by decide +kernel
theorem d_M_lay_74 : decode c_M_lay 74 = .ok (.iconst 0, 1) := by decide +kernel
theorem d_M_lay_75 : decode c_M_lay 75 = .ok (.istore_n 3, 1) := by decide +kernel
theorem d_M_lay_76 : decode c_M_lay 76 = .ok (.iload_n 3, 1) := by decide +kernel
theorem d_M_lay_77 : decode c_M_lay 77 = .ok (.sipush 204, 3) := by decide +kernel
theorem d_M_lay_80 : decode c_M_lay 80 = .ok (.if_icmp .ge 23, 3) := by decide +kernel
theorem d_M_lay_83 : decode c_M_lay 83 = .ok (.aload_n 0, 1) := by decide +kernel
theorem d_M_lay_84 : decode c_M_lay 84 = .ok (.getfield 16, 3) := by decide +kernel
theorem d_M_lay_87 : decode c_M_lay 87 = .ok (.iload_n 3, 1) := by decide +kernel
theorem d_M_lay_88 : decode c_M_lay 88 = .ok (.iconst 0, 1) := by decide +kernel
theorem d_M_lay_89 : decode c_M_lay 89 = .ok (.bastore, 1) := by decide +kernel
theorem d_M_lay_90 : decode c_M_lay 90 = .ok (.aload_n 0, 1) := by decide +kernel
theorem d_M_lay_91 : decode c_M_lay 91 = .ok (.getfield 51, 3) := by decide +kernel
theorem d_M_lay_94 : decode c_M_lay 94 = .ok (.iload_n 3, 1) := by decide +kernel
theorem d_M_lay_95 : decode c_M_lay 95 = .ok (.iconst 0, 1) := by decide +kernel
theorem d_M_lay_96 : decode c_M_lay 96 = .ok (.bastore, 1) := by decide +kernel
theorem d_M_lay_97 : decode c_M_lay 97 = .ok (.iinc 3 1, 3) := by decide +kernel
theorem d_M_lay_100 : decode c_M_lay 100 = .ok (.goto (-24), 3) := by decide +kernel
theorem d_M_lay_103 : decode c_M_lay 103 = .ok (.iconst 0, 1) := by decide +kernel
theorem d_M_lay_104 : decode c_M_lay 104 = .ok (.istore_n 3, 1) := by decide +kernel
theorem d_M_lay_105 : decode c_M_lay 105 = .ok (.iload_n 3, 1) := by decide +kernel
theorem d_M_lay_106 : decode c_M_lay 106 = .ok (.sipush 320, 3) := by decide +kernel
theorem d_M_lay_109 : decode c_M_lay 109 = .ok (.if_icmp .ge 16, 3) := by decide +kernel
theorem d_M_lay_112 : decode c_M_lay 112 = .ok (.aload_n 0, 1) := by decide +kernel
theorem d_M_lay_113 : decode c_M_lay 113 = .ok (.getfield 30, 3) := by decide +kernel
theorem d_M_lay_116 : decode c_M_lay 116 = .ok (.iload_n 3, 1) := by decide +kernel
theorem d_M_lay_117 : decode c_M_lay 117 = .ok (.iconst 0, 1) := by decide +kernel
theorem d_M_lay_118 : decode c_M_lay 118 = .ok (.bastore, 1) := by decide +kernel
theorem d_M_lay_119 : decode c_M_lay 119 = .ok (.iinc 3 1, 3) := by decide +kernel
theorem d_M_lay_122 : decode c_M_lay 122 = .ok (.goto (-17), 3) := by decide +kernel
theorem d_M_lay_125 : decode c_M_lay 125 = .ok (.aload_n 0, 1) := by decide +kernel
theorem d_M_lay_126 : decode c_M_lay 126 = .ok (.iconst 0, 1) := by decide +kernel
theorem d_M_lay_127 : decode c_M_lay 127 = .ok (.putfield 72, 3) := by decide +kernel
theorem d_M_lay_130 : decode c_M_lay 130 = .ok (.aload_n 0, 1) := by decide +kernel
theorem d_M_lay_131 : decode c_M_lay 131 = .ok (.iconst 0, 1) := by decide +kernel
theorem d_M_lay_132 : decode c_M_lay 132 = .ok (.putfield 75, 3) := by decide +kernel
theorem d_M_lay_135 : decode c_M_lay 135 = .ok (.aload_n 0, 1) := by decide +kernel
theorem d_M_lay_136 : decode c_M_lay 136 = .ok (.getfield 39, 3) := by decide +kernel
theorem d_M_lay_139 : decode c_M_lay 139 = .ok (.iconst 0, 1) := by decide +kernel
theorem d_M_lay_140 : decode c_M_lay 140 = .ok (.iconst 0, 1) := by decide +kernel
theorem d_M_lay_141 : decode c_M_lay 141 = .ok (.iastore, 1) := by decide +kernel
theorem d_M_lay_142 : decode c_M_lay 142 = .ok (.iconst 0, 1) := by decide +kernel
theorem d_M_lay_143 : decode c_M_lay 143 = .ok (.istore_n 3, 1) := by decide +kernel
theorem d_M_lay_144 : decode c_M_lay 144 = .ok (.iload_n 3, 1) := by decide +kernel
theorem d_M_lay_145 : decode c_M_lay 145 = .ok (.bipush 8, 2) := by decide +kernel
theorem d_M_lay_147 : decode c_M_lay 147 = .ok (.if_icmp .ge 31, 3) := by decide +kernel
theorem d_M_lay_150 : decode c_M_lay 150 = .ok (.aload_n 0, 1) := by decide +kernel
theorem d_M_lay_151 : decode c_M_lay 151 = .ok (.getfield 20, 3) := by decide +kernel
theorem d_M_lay_154 : decode c_M_lay 154 = .ok (.iload_n 3, 1) := by decide +kernel
theorem d_M_lay_155 : decode c_M_lay 155 = .ok (.iconst 0, 1) := by decide +kernel
theorem d_M_lay_156 : decode c_M_lay 156 = .ok (.bastore, 1) := by decide +kernel
theorem d_M_lay_157 : decode c_M_lay 157 = .ok (.aload_n 0, 1) := by decide +kernel
theorem d_M_lay_158 : decode c_M_lay 158 = .ok (.getfield 23, 3) := by decide +kernel
theorem d_M_lay_161 : decode c_M_lay 161 = .ok (.iload_n 3, 1) := by decide +kernel
theorem d_M_lay_162 : decode c_M_lay 162 = .ok (.aload_n 0, 1) := by decide +kernel
theorem d_M_lay_163 : decode c_M_lay 163 = .ok (.getfield 65, 3) := by decide +kernel
theorem d_M_lay_166 : decode c_M_lay 166 = .ok (.iastore, 1) := by decide +kernel
theorem d_M_lay_167 : decode c_M_lay 167 = .ok (.aload_n 0, 1) := by decide +kernel
theorem d_M_lay_168 : decode c_M_lay 168 = .ok (.iload_n 3, 1) := by decide +kernel
theorem d_M_lay_169 : decode c_M_lay 169 = .ok (.invokevirtual 78, 3) := by decide +kernel
theorem d_M_lay_172 : decode c_M_lay 172 = .ok (.iinc 3 1, 3) := by decide +kernel
theorem d_M_lay_175 : decode c_M_lay 175 = .ok (.goto (-31), 3) := by decide +kernel
theorem d_M_lay_178 : decode c_M_lay 178 = .ok (.aload_n 0, 1) := by decide +kernel
theorem d_M_lay_179 : decode c_M_lay 179 = .ok (.iconst 0, 1) := by decide +kernel
theorem d_M_lay_180 : decode c_M_lay 180 = .ok (.invokevirtual 82, 3) := by decide +kernel
theorem d_M_lay_183 : decode c_M_lay 183 = .ok (.aload_n 0, 1) := by decide +kernel
theorem d_M_lay_184 : decode c_M_lay 184 = .ok (.invokevirtual 86, 3) := by decide +kernel
theorem d_M_lay_187 : decode c_M_lay 187 = .ok (.ireturn, 1) := by decide +kernel
theorem d_M_blocks_0 : decode c_M_blocks 0 = .ok (.aload_n 0, 1) := by decide +kernel
theorem d_M_blocks_1 : decode c_M_blocks 1 = .ok (.getfield 62, 3) := by decide +kernel
theorem d_M_blocks_4 : decode c_M_blocks 4 = .ok (.iconst 2, 1) := by decide +kernel
theorem d_M_blocks_5 : decode c_M_blocks 5 = .ok (.isub, 1) := by decide +kernel
theorem d_M_blocks_6 : decode c_M_blocks 6 = .ok (.aload_n 0, 1) := by decide +kernel
theorem d_M_blocks_7 : decode c_M_blocks 7 = .ok (.getfield 65, 3) := by decide +kernel
theorem d_M_blocks_10 : decode c_M_blocks 10 = .ok (.bipush 6, 2) := by decide +kernel
theorem d_M_blocks_12 : decode c_M_blocks 12 = .ok (.isub, 1) := by decide +kernel
theorem d_M_blocks_13 : decode c_M_blocks 13 = .ok (.imul, 1) := by decide +kernel
theorem d_M_blocks_14 : decode c_M_blocks 14 = .ok (.ireturn, 1) := by decide +kernel
theorem d_M_wipe_0 : decode c_M_wipe 0 = .ok (.iconst 0, 1) := by decide +kernel
theorem d_M_wipe_1 : decode c_M_wipe 1 = .ok (.istore_n 2, 1) := by decide +kernel
theorem d_M_wipe_2 : decode c_M_wipe 2 = .ok (.iload_n 2, 1) := by decide +kernel
theorem d_M_wipe_3 : decode c_M_wipe 3 = .ok (.iconst 2, 1) := by decide +kernel
theorem d_M_wipe_4 : decode c_M_wipe 4 = .ok (.if_icmp .ge 31, 3) := by decide +kernel
theorem d_M_wipe_7 : decode c_M_wipe 7 = .ok (.aload_n 0, 1) := by decide +kernel
theorem d_M_wipe_8 : decode c_M_wipe 8 = .ok (.getfield 33, 3) := by decide +kernel
theorem d_M_wipe_11 : decode c_M_wipe 11 = .ok (.iconst 2, 1) := by decide +kernel
theorem d_M_wipe_12 : decode c_M_wipe 12 = .ok (.iload_n 1, 1) := by decide +kernel
theorem d_M_wipe_13 : decode c_M_wipe 13 = .ok (.imul, 1) := by decide +kernel
theorem d_M_wipe_14 : decode c_M_wipe 14 = .ok (.iload_n 2, 1) := by decide +kernel
theorem d_M_wipe_15 : decode c_M_wipe 15 = .ok (.iadd, 1) := by decide +kernel
theorem d_M_wipe_16 : decode c_M_wipe 16 = .ok (.iconst 0, 1) := by decide +kernel
theorem d_M_wipe_17 : decode c_M_wipe 17 = .ok (.iastore, 1) := by decide +kernel
theorem d_M_wipe_18 : decode c_M_wipe 18 = .ok (.aload_n 0, 1) := by decide +kernel
theorem d_M_wipe_19 : decode c_M_wipe 19 = .ok (.getfield 36, 3) := by decide +kernel
theorem d_M_wipe_22 : decode c_M_wipe 22 = .ok (.iconst 2, 1) := by decide +kernel
theorem d_M_wipe_23 : decode c_M_wipe 23 = .ok (.iload_n 1, 1) := by decide +kernel
theorem d_M_wipe_24 : decode c_M_wipe 24 = .ok (.imul, 1) := by decide +kernel
theorem d_M_wipe_25 : decode c_M_wipe 25 = .ok (.iload_n 2, 1) := by decide +kernel
theorem d_M_wipe_26 : decode c_M_wipe 26 = .ok (.iadd, 1) := by decide +kernel
theorem d_M_wipe_27 : decode c_M_wipe 27 = .ok (.iconst 0, 1) := by decide +kernel
theorem d_M_wipe_28 : decode c_M_wipe 28 = .ok (.iastore, 1) := by decide +kernel
theorem d_M_wipe_29 : decode c_M_wipe 29 = .ok (.iinc 2 1, 3) := by decide +kernel
theorem d_M_wipe_32 : decode c_M_wipe 32 = .ok (.goto (-30), 3) := by decide +kernel
theorem d_M_wipe_35 : decode c_M_wipe 35 = .ok (.return_, 1) := by decide +kernel
theorem d_M_newLabel_0 : decode c_M_newLabel 0 = .ok (.iconst 1, 1) := by decide +kernel
theorem d_M_newLabel_1 : decode c_M_newLabel 1 = .ok (.aload_n 0, 1) := by decide +kernel
theorem d_M_newLabel_2 : decode c_M_newLabel 2 = .ok (.getfield 39, 3) := by decide +kernel
theorem d_M_newLabel_5 : decode c_M_newLabel 5 = .ok (.aload_n 0, 1) := by decide +kernel
theorem d_M_newLabel_6 : decode c_M_newLabel 6 = .ok (.getfield 75, 3) := by decide +kernel
theorem d_M_newLabel_9 : decode c_M_newLabel 9 = .ok (.iaload, 1) := by decide +kernel
theorem d_M_newLabel_10 : decode c_M_newLabel 10 = .ok (.isub, 1) := by decide +kernel
theorem d_M_newLabel_11 : decode c_M_newLabel 11 = .ok (.istore_n 2, 1) := by decide +kernel
theorem d_M_newLabel_12 : decode c_M_newLabel 12 = .ok (.aload_n 0, 1) := by decide +kernel
theorem d_M_newLabel_13 : decode c_M_newLabel 13 = .ok (.dup, 1) := by decide +kernel
theorem d_M_newLabel_14 : decode c_M_newLabel 14 = .ok (.getfield 72, 3) := by decide +kernel
theorem d_M_newLabel_17 : decode c_M_newLabel 17 = .ok (.iconst 1, 1) := by decide +kernel
theorem d_M_newLabel_18 : decode c_M_newLabel 18 = .ok (.iadd, 1) := by decide +kernel
theorem d_M_newLabel_19 : decode c_M_newLabel 19 = .ok (.putfield 72, 3) := by decide +kernel
theorem d_M_newLabel_22 : decode c_M_newLabel 22 = .ok (.aload_n 0, 1) := by decide +kernel
theorem d_M_newLabel_23 : decode c_M_newLabel 23 = .ok (.getfield 39, 3) := by decide +kernel
theorem d_M_newLabel_26 : decode c_M_newLabel 26 = .ok (.aload_n 0, 1) := by decide +kernel
theorem d_M_newLabel_27 : decode c_M_newLabel 27 = .ok (.getfield 72, 3) := by decide +kernel
theorem d_M_newLabel_30 : decode c_M_newLabel 30 = .ok (.iload_n 2, 1) := by decide +kernel
theorem d_M_newLabel_31 : decode c_M_newLabel 31 = .ok (.iastore, 1) := by decide +kernel
theorem d_M_newLabel_32 : decode c_M_newLabel 32 = .ok (.aload_n 0, 1) := by decide +kernel
theorem d_M_newLabel_33 : decode c_M_newLabel 33 = .ok (.getfield 42, 3) := by decide +kernel
theorem d_M_newLabel_36 : decode c_M_newLabel 36 = .ok (.aload_n 0, 1) := by decide +kernel
theorem d_M_newLabel_37 : decode c_M_newLabel 37 = .ok (.getfield 72, 3) := by decide +kernel
theorem d_M_newLabel_40 : decode c_M_newLabel 40 = .ok (.iload_n 1, 1) := by decide +kernel
theorem d_M_newLabel_41 : decode c_M_newLabel 41 = .ok (.bastore, 1) := by decide +kernel
theorem d_M_newLabel_42 : decode c_M_newLabel 42 = .ok (.iconst 0, 1) := by decide +kernel
theorem d_M_newLabel_43 : decode c_M_newLabel 43 = .ok (.istore_n 3, 1) := by decide +kernel
theorem d_M_newLabel_44 : decode c_M_newLabel 44 = .ok (.iload_n 3, 1) := by decide +kernel
theorem d_M_newLabel_45 : decode c_M_newLabel 45 = .ok (.bipush 8, 2) := by decide +kernel
theorem d_M_newLabel_47 : decode c_M_newLabel 47 = .ok (.if_icmp .ge 29, 3) := by decide +kernel
theorem d_M_newLabel_50 : decode c_M_newLabel 50 = .ok (.aload_n 0, 1) := by decide +kernel
theorem d_M_newLabel_51 : decode c_M_newLabel 51 = .ok (.getfield 45, 3) := by decide +kernel
theorem d_M_newLabel_54 : decode c_M_newLabel 54 = .ok (.bipush 8, 2) := by decide +kernel
theorem d_M_newLabel_56 : decode c_M_newLabel 56 = .ok (.aload_n 0, 1) := by decide +kernel
theorem d_M_newLabel_57 : decode c_M_newLabel 57 = .ok (.getfield 72, 3) := by decide +kernel
theorem d_M_newLabel_60 : decode c_M_newLabel 60 = .ok (.imul, 1) := by decide +kernel
theorem d_M_newLabel_61 : decode c_M_newLabel 61 = .ok (.iload_n 3, 1) := by decide +kernel
theorem d_M_newLabel_62 : decode c_M_newLabel 62 = .ok (.iadd, 1) := by decide +kernel
theorem d_M_newLabel_63 : decode c_M_newLabel 63 = .ok (.aload_n 0, 1) := by decide +kernel
theorem d_M_newLabel_64 : decode c_M_newLabel 64 = .ok (.getfield 23, 3) := by decide +kernel
theorem d_M_newLabel_67 : decode c_M_newLabel 67 = .ok (.iload_n 3, 1) := by decide +kernel
theorem d_M_newLabel_68 : decode c_M_newLabel 68 = .ok (.iaload, 1) := by decide +kernel
theorem d_M_newLabel_69 : decode c_M_newLabel 69 = .ok (.iastore, 1) := by decide +kernel
theorem d_M_newLabel_70 : decode c_M_newLabel 70 = .ok (.iinc 3 1, 3) := by decide +kernel
theorem d_M_newLabel_73 : decode c_M_newLabel 73 = .ok (.goto (-29), 3) := by decide +kernel
theorem d_M_newLabel_76 : decode c_M_newLabel 76 = .ok (.return_, 1) := by decide +kernel
theorem d_M_has_0 : decode c_M_has 0 = .ok (.iconst 0, 1) := by decide +kernel
theorem d_M_has_1 : decode c_M_has 1 = .ok (.istore_n 2, 1) := by decide +kernel
theorem d_M_has_2 : decode c_M_has 2 = .ok (.iconst 2, 1) := by decide +kernel
theorem d_M_has_3 : decode c_M_has 3 = .ok (.iload_n 1, 1) := by decide +kernel
theorem d_M_has_4 : decode c_M_has 4 = .ok (.imul, 1) := by decide +kernel
theorem d_M_has_5 : decode c_M_has 5 = .ok (.istore_n 3, 1) := by decide +kernel
theorem d_M_has_6 : decode c_M_has 6 = .ok (.iload_n 3, 1) := by decide +kernel
theorem d_M_has_7 : decode c_M_has 7 = .ok (.iconst 2, 1) := by decide +kernel
theorem d_M_has_8 : decode c_M_has 8 = .ok (.iload_n 1, 1) := by decide +kernel
theorem d_M_has_9 : decode c_M_has 9 = .ok (.imul, 1) := by decide +kernel
theorem d_M_has_10 : decode c_M_has 10 = .ok (.iconst 2, 1) := by decide +kernel
theorem d_M_has_11 : decode c_M_has 11 = .ok (.iadd, 1) := by decide +kernel
theorem d_M_has_12 : decode c_M_has 12 = .ok (.if_icmp .ge 54, 3) := by decide +kernel
theorem d_M_has_15 : decode c_M_has 15 = .ok (.aload_n 0, 1) := by decide +kernel
theorem d_M_has_16 : decode c_M_has 16 = .ok (.getfield 20, 3) := by decide +kernel
theorem d_M_has_19 : decode c_M_has 19 = .ok (.iload_n 1, 1) := by decide +kernel
theorem d_M_has_20 : decode c_M_has 20 = .ok (.baload, 1) := by decide +kernel
theorem d_M_has_21 : decode c_M_has 21 = .ok (.ifCond .ne 45, 3) := by decide +kernel
theorem d_M_has_24 : decode c_M_has 24 = .ok (.aload_n 0, 1) := by decide +kernel
theorem d_M_has_25 : decode c_M_has 25 = .ok (.getfield 33, 3) := by decide +kernel
theorem d_M_has_28 : decode c_M_has 28 = .ok (.iload_n 3, 1) := by decide +kernel
theorem d_M_has_29 : decode c_M_has 29 = .ok (.iaload, 1) := by decide +kernel
theorem d_M_has_30 : decode c_M_has 30 = .ok (.aload_n 0, 1) := by decide +kernel
theorem d_M_has_31 : decode c_M_has 31 = .ok (.getfield 36, 3) := by decide +kernel
theorem d_M_has_34 : decode c_M_has 34 = .ok (.iload_n 3, 1) := by decide +kernel
theorem d_M_has_35 : decode c_M_has 35 = .ok (.iaload, 1) := by decide +kernel
theorem d_M_has_36 : decode c_M_has 36 = .ok (.if_icmp .ne 22, 3) := by decide +kernel
theorem d_M_has_39 : decode c_M_has 39 = .ok (.aload_n 0, 1) := by decide +kernel
theorem d_M_has_40 : decode c_M_has 40 = .ok (.getfield 33, 3) := by decide +kernel
theorem d_M_has_43 : decode c_M_has 43 = .ok (.iload_n 3, 1) := by decide +kernel
theorem d_M_has_44 : decode c_M_has 44 = .ok (.iaload, 1) := by decide +kernel
theorem d_M_has_45 : decode c_M_has 45 = .ok (.iload_n 2, 1) := by decide +kernel
theorem d_M_has_46 : decode c_M_has 46 = .ok (.if_icmp .le 12, 3) := by decide +kernel
theorem d_M_has_49 : decode c_M_has 49 = .ok (.aload_n 0, 1) := by decide +kernel
theorem d_M_has_50 : decode c_M_has 50 = .ok (.getfield 33, 3) := by decide +kernel
theorem d_M_has_53 : decode c_M_has 53 = .ok (.iload_n 3, 1) := by decide +kernel
theorem d_M_has_54 : decode c_M_has 54 = .ok (.iaload, 1) := by decide +kernel
theorem d_M_has_55 : decode c_M_has 55 = .ok (.goto 4, 3) := by decide +kernel
theorem d_M_has_58 : decode c_M_has 58 = .ok (.iload_n 2, 1) := by decide +kernel
theorem d_M_has_59 : decode c_M_has 59 = .ok (.istore_n 2, 1) := by decide +kernel
theorem d_M_has_60 : decode c_M_has 60 = .ok (.iinc 3 1, 3) := by decide +kernel
theorem d_M_has_63 : decode c_M_has 63 = .ok (.goto (-57), 3) := by decide +kernel
theorem d_M_has_66 : decode c_M_has 66 = .ok (.iload_n 2, 1) := by decide +kernel
theorem d_M_has_67 : decode c_M_has 67 = .ok (.ireturn, 1) := by decide +kernel
theorem d_M_bitsOf_0 : decode c_M_bitsOf 0 = .ok (.iload_n 3, 1) := by decide +kernel
theorem d_M_bitsOf_1 : decode c_M_bitsOf 1 = .ok (.bipush 31, 2) := by decide +kernel
theorem d_M_bitsOf_3 : decode c_M_bitsOf 3 = .ok (.if_icmp .le 7, 3) := by decide +kernel
theorem d_M_bitsOf_6 : decode c_M_bitsOf 6 = .ok (.iconst 0, 1) := by decide +kernel
theorem d_M_bitsOf_7 : decode c_M_bitsOf 7 = .ok (.goto 13, 3) := by decide +kernel
theorem d_M_bitsOf_10 : decode c_M_bitsOf 10 = .ok (.lload_n 1, 1) := by decide +kernel
theorem d_M_bitsOf_11 : decode c_M_bitsOf 11 = .ok (.iconst 2, 1) := by decide +kernel
theorem d_M_bitsOf_12 : decode c_M_bitsOf 12 = .ok (.iload_n 3, 1) := by decide +kernel
theorem d_M_bitsOf_13 : decode c_M_bitsOf 13 = .ok (.imul, 1) := by decide +kernel
theorem d_M_bitsOf_14 : decode c_M_bitsOf 14 = .ok (.lshr, 1) := by decide +kernel
theorem d_M_bitsOf_15 : decode c_M_bitsOf 15 = .ok (.ldc2_w 90, 3) := by decide +kernel
theorem d_M_bitsOf_18 : decode c_M_bitsOf 18 = .ok (.land, 1) := by decide +kernel
theorem d_M_bitsOf_19 : decode c_M_bitsOf 19 = .ok (.l2i, 1) := by decide +kernel
theorem d_M_bitsOf_20 : decode c_M_bitsOf 20 = .ok (.ireturn, 1) := by decide +kernel
theorem d_M_spread_0 : decode c_M_spread 0 = .ok (.iconst 0, 1) := by decide +kernel
theorem d_M_spread_1 : decode c_M_spread 1 = .ok (.istore 6, 2) := by decide +kernel
theorem d_M_spread_3 : decode c_M_spread 3 = .ok (.iconst 0, 1) := by decide +kernel
theorem d_M_spread_4 : decode c_M_spread 4 = .ok (.istore 7, 2) := by decide +kernel
theorem d_M_spread_6 : decode c_M_spread 6 = .ok (.iload 7, 2) := by decide +kernel
theorem d_M_spread_8 : decode c_M_spread 8 = .ok (.aload_n 0, 1) := by decide +kernel
theorem d_M_spread_9 : decode c_M_spread 9 = .ok (.getfield 62, 3) := by decide +kernel
theorem d_M_spread_12 : decode c_M_spread 12 = .ok (.if_icmp .ge 126, 3) := by decide +kernel
theorem d_M_spread_15 : decode c_M_spread 15 = .ok (.aload_n 0, 1) := by decide +kernel
theorem d_M_spread_16 : decode c_M_spread 16 = .ok (.getfield 20, 3) := by decide +kernel
theorem d_M_spread_19 : decode c_M_spread 19 = .ok (.iload 7, 2) := by decide +kernel
theorem d_M_spread_21 : decode c_M_spread 21 = .ok (.baload, 1) := by decide +kernel
theorem d_M_spread_22 : decode c_M_spread 22 = .ok (.ifCond .ne 110, 3) := by decide +kernel
theorem d_M_spread_25 : decode c_M_spread 25 = .ok (.iload_n 2, 1) := by decide +kernel
theorem d_M_spread_26 : decode c_M_spread 26 = .ok (.ifCond .eq 12, 3) := by decide +kernel
theorem d_M_spread_29 : decode c_M_spread 29 = .ok (.aload_n 0, 1) := by decide +kernel
theorem d_M_spread_30 : decode c_M_spread 30 = .ok (.iload 7, 2) := by decide +kernel
theorem d_M_spread_32 : decode c_M_spread 32 = .ok (.invokevirtual 92, 3) := by decide +kernel
theorem d_M_spread_35 : decode c_M_spread 35 = .ok (.ifCond .le 97, 3) := by decide +kernel
theorem d_M_spread_38 : decode c_M_spread 38 = .ok (.iload_n 3, 1) := by decide +kernel
theorem d_M_spread_39 : decode c_M_spread 39 = .ok (.ifCond .eq 14, 3) := by decide +kernel
theorem d_M_spread_42 : decode c_M_spread 42 = .ok (.aload_n 0, 1) := by decide +kernel
theorem d_M_spread_43 : decode c_M_spread 43 = .ok (.lload 4, 2) := by decide +kernel
theorem d_M_spread_45 : decode c_M_spread 45 = .ok (.iload 6, 2) := by decide +kernel
theorem d_M_spread_47 : decode c_M_spread 47 = .ok (.invokevirtual 96, 3) := by decide +kernel
theorem d_M_spread_50 : decode c_M_spread 50 = .ok (.goto 4, 3) := by decide +kernel
theorem d_M_spread_53 : decode c_M_spread 53 = .ok (.iconst 1, 1) := by decide +kernel
theorem d_M_spread_54 : decode c_M_spread 54 = .ok (.istore 8, 2) := by decide +kernel
theorem d_M_spread_56 : decode c_M_spread 56 = .ok (.iconst 2, 1) := by decide +kernel
theorem d_M_spread_57 : decode c_M_spread 57 = .ok (.iload 7, 2) := by decide +kernel
theorem d_M_spread_59 : decode c_M_spread 59 = .ok (.imul, 1) := by decide +kernel
theorem d_M_spread_60 : decode c_M_spread 60 = .ok (.aload_n 0, 1) := by decide +kernel
theorem d_M_spread_61 : decode c_M_spread 61 = .ok (.getfield 39, 3) := by decide +kernel
theorem d_M_spread_64 : decode c_M_spread 64 = .ok (.iload_n 1, 1) := by decide +kernel
theorem d_M_spread_65 : decode c_M_spread 65 = .ok (.iaload, 1) := by decide +kernel
theorem d_M_spread_66 : decode c_M_spread 66 = .ok (.iadd, 1) := by decide +kernel
theorem d_M_spread_67 : decode c_M_spread 67 = .ok (.istore 9, 2) := by decide +kernel
theorem d_M_spread_69 : decode c_M_spread 69 = .ok (.aload_n 0, 1) := by decide +kernel
theorem d_M_spread_70 : decode c_M_spread 70 = .ok (.getfield 33, 3) := by decide +kernel
theorem d_M_spread_73 : decode c_M_spread 73 = .ok (.iload 9, 2) := by decide +kernel
theorem d_M_spread_75 : decode c_M_spread 75 = .ok (.iload 8, 2) := by decide +kernel
theorem d_M_spread_77 : decode c_M_spread 77 = .ok (.iconst 1, 1) := by decide +kernel
theorem d_M_spread_78 : decode c_M_spread 78 = .ok (.if_icmp .eq 9, 3) := by decide +kernel
theorem d_M_spread_81 : decode c_M_spread 81 = .ok (.iload 8, 2) := by decide +kernel
theorem d_M_spread_83 : decode c_M_spread 83 = .ok (.iconst 2, 1) := by decide +kernel
theorem d_M_spread_84 : decode c_M_spread 84 = .ok (.if_icmp .ne 7, 3) := by decide +kernel
theorem d_M_spread_87 : decode c_M_spread 87 = .ok (.iload_n 1, 1) := by decide +kernel
theorem d_M_spread_88 : decode c_M_spread 88 = .ok (.goto 10, 3) := by decide +kernel
theorem d_M_spread_91 : decode c_M_spread 91 = .ok (.aload_n 0, 1) := by decide +kernel
theorem d_M_spread_92 : decode c_M_spread 92 = .ok (.getfield 33, 3) := by decide +kernel
theorem d_M_spread_95 : decode c_M_spread 95 = .ok (.iload 9, 2) := by decide +kernel
theorem d_M_spread_97 : decode c_M_spread 97 = .ok (.iaload, 1) := by decide +kernel
theorem d_M_spread_98 : decode c_M_spread 98 = .ok (.iastore, 1) := by decide +kernel
theorem d_M_spread_99 : decode c_M_spread 99 = .ok (.aload_n 0, 1) := by decide +kernel
theorem d_M_spread_100 : decode c_M_spread 100 = .ok (.getfield 36, 3) := by decide +kernel
theorem d_M_spread_103 : decode c_M_spread 103 = .ok (.iload 9, 2) := by decide +kernel
theorem d_M_spread_105 : decode c_M_spread 105 = .ok (.iload 8, 2) := by decide +kernel
theorem d_M_spread_107 : decode c_M_spread 107 = .ok (.iconst 1, 1) := by decide +kernel
theorem d_M_spread_108 : decode c_M_spread 108 = .ok (.if_icmp .eq 9, 3) := by decide +kernel
theorem d_M_spread_111 : decode c_M_spread 111 = .ok (.iload 8, 2) := by decide +kernel
theorem d_M_spread_113 : decode c_M_spread 113 = .ok (.iconst 3, 1) := by decide +kernel
theorem d_M_spread_114 : decode c_M_spread 114 = .ok (.if_icmp .ne 7, 3) := by decide +kernel
theorem d_M_spread_117 : decode c_M_spread 117 = .ok (.iload_n 1, 1) := by decide +kernel
theorem d_M_spread_118 : decode c_M_spread 118 = .ok (.goto 10, 3) := by decide +kernel
theorem d_M_spread_121 : decode c_M_spread 121 = .ok (.aload_n 0, 1) := by decide +kernel
theorem d_M_spread_122 : decode c_M_spread 122 = .ok (.getfield 36, 3) := by decide +kernel
theorem d_M_spread_125 : decode c_M_spread 125 = .ok (.iload 9, 2) := by decide +kernel
theorem d_M_spread_127 : decode c_M_spread 127 = .ok (.iaload, 1) := by decide +kernel
theorem d_M_spread_128 : decode c_M_spread 128 = .ok (.iastore, 1) := by decide +kernel
theorem d_M_spread_129 : decode c_M_spread 129 = .ok (.iinc 6 1, 3) := by decide +kernel
theorem d_M_spread_132 : decode c_M_spread 132 = .ok (.iinc 7 1, 3) := by decide +kernel
theorem d_M_spread_135 : decode c_M_spread 135 = .ok (.goto (-129), 3) := by decide +kernel
theorem d_M_spread_138 : decode c_M_spread 138 = .ok (.return_, 1) := by decide +kernel
theorem d_M_label_0 : decode c_M_label 0 = .ok (.aload_n 0, 1) := by decide +kernel
theorem d_M_label_1 : decode c_M_label 1 = .ok (.iload_n 1, 1) := by decide +kernel
theorem d_M_label_2 : decode c_M_label 2 = .ok (.invokevirtual 100, 3) := by decide +kernel
theorem d_M_label_5 : decode c_M_label 5 = .ok (.aload_n 0, 1) := by decide +kernel
theorem d_M_label_6 : decode c_M_label 6 = .ok (.aload_n 0, 1) := by decide +kernel
theorem d_M_label_7 : decode c_M_label 7 = .ok (.getfield 72, 3) := by decide +kernel
theorem d_M_label_10 : decode c_M_label 10 = .ok (.iconst 0, 1) := by decide +kernel
theorem d_M_label_11 : decode c_M_label 11 = .ok (.iconst 0, 1) := by decide +kernel
theorem d_M_label_12 : decode c_M_label 12 = .ok (.lconst 0, 1) := by decide +kernel
theorem d_M_label_13 : decode c_M_label 13 = .ok (.invokevirtual 103, 3) := by decide +kernel
theorem d_M_label_16 : decode c_M_label 16 = .ok (.aload_n 0, 1) := by decide +kernel
theorem d_M_label_17 : decode c_M_label 17 = .ok (.aload_n 0, 1) := by decide +kernel
theorem d_M_label_18 : decode c_M_label 18 = .ok (.getfield 72, 3) := by decide +kernel
theorem d_M_label_21 : decode c_M_label 21 = .ok (.putfield 75, 3) := by decide +kernel
theorem d_M_label_24 : decode c_M_label 24 = .ok (.return_, 1) := by decide +kernel
theorem d_M_stopAtLabel_0 : decode c_M_stopAtLabel 0 = .ok (.aload_n 0, 1) := by decide +kernel
theorem d_M_stopAtLabel_1 : decode c_M_stopAtLabel 1 = .ok (.iload_n 1, 1) := by decide +kernel
theorem d_M_stopAtLabel_2 : decode c_M_stopAtLabel 2 = .ok (.invokevirtual 100, 3) := by decide +kernel
theorem d_M_stopAtLabel_5 : decode c_M_stopAtLabel 5 = .ok (.aload_n 0, 1) := by decide +kernel
theorem d_M_stopAtLabel_6 : decode c_M_stopAtLabel 6 = .ok (.aload_n 0, 1) := by decide +kernel
theorem d_M_stopAtLabel_7 : decode c_M_stopAtLabel 7 = .ok (.getfield 72, 3) := by decide +kernel
theorem d_M_stopAtLabel_10 : decode c_M_stopAtLabel 10 = .ok (.iconst 0, 1) := by decide +kernel
theorem d_M_stopAtLabel_11 : decode c_M_stopAtLabel 11 = .ok (.iconst 1, 1) := by decide +kernel
theorem d_M_stopAtLabel_12 : decode c_M_stopAtLabel 12 = .ok (.lload_n 2, 1) := by decide +kernel
theorem d_M_stopAtLabel_13 : decode c_M_stopAtLabel 13 = .ok (.invokevirtual 103, 3) := by decide +kernel
theorem d_M_stopAtLabel_16 : decode c_M_stopAtLabel 16 = .ok (.aload_n 0, 1) := by decide +kernel
theorem d_M_stopAtLabel_17 : decode c_M_stopAtLabel 17 = .ok (.invokevirtual 107, 3) := by decide +kernel
theorem d_M_stopAtLabel_20 : decode c_M_stopAtLabel 20 = .ok (.ireturn, 1) := by decide +kernel
theorem d_M_powerOff_0 : decode c_M_powerOff 0 = .ok (.aload_n 0, 1) := by decide +kernel
theorem d_M_powerOff_1 : decode c_M_powerOff 1 = .ok (.iconst 1, 1) := by decide +kernel
theorem d_M_powerOff_2 : decode c_M_powerOff 2 = .ok (.putfield 68, 3) := by decide +kernel
theorem d_M_powerOff_5 : decode c_M_powerOff 5 = .ok (.iconst 0, 1) := by decide +kernel
theorem d_M_powerOff_6 : decode c_M_powerOff 6 = .ok (.istore_n 1, 1) := by decide +kernel
theorem d_M_powerOff_7 : decode c_M_powerOff 7 = .ok (.iload_n 1, 1) := by decide +kernel
theorem d_M_powerOff_8 : decode c_M_powerOff 8 = .ok (.sipush 204, 3) := by decide +kernel
theorem d_M_powerOff_11 : decode c_M_powerOff 11 = .ok (.if_icmp .ge 16, 3) := by decide +kernel
theorem d_M_powerOff_14 : decode c_M_powerOff 14 = .ok (.aload_n 0, 1) := by decide +kernel
theorem d_M_powerOff_15 : decode c_M_powerOff 15 = .ok (.getfield 16, 3) := by decide +kernel
theorem d_M_powerOff_18 : decode c_M_powerOff 18 = .ok (.iload_n 1, 1) := by decide +kernel
theorem d_M_powerOff_19 : decode c_M_powerOff 19 = .ok (.iconst 0, 1) := by decide +kernel
theorem d_M_powerOff_20 : decode c_M_powerOff 20 = .ok (.bastore, 1) := by decide +kernel
theorem d_M_powerOff_21 : decode c_M_powerOff 21 = .ok (.iinc 1 1, 3) := by decide +kernel
theorem d_M_powerOff_24 : decode c_M_powerOff 24 = .ok (.goto (-17), 3) := by decide +kernel
theorem d_M_powerOff_27 : decode c_M_powerOff 27 = .ok (.bipush (-2), 2) := by decide +kernel
theorem d_M_powerOff_29 : decode c_M_powerOff 29 = .ok (.ireturn, 1) := by decide +kernel
theorem d_M_isGone_0 : decode c_M_isGone 0 = .ok (.aload_n 0, 1) := by decide +kernel
theorem d_M_isGone_1 : decode c_M_isGone 1 = .ok (.getfield 20, 3) := by decide +kernel
theorem d_M_isGone_4 : decode c_M_isGone 4 = .ok (.iload_n 1, 1) := by decide +kernel
theorem d_M_isGone_5 : decode c_M_isGone 5 = .ok (.baload, 1) := by decide +kernel
theorem d_M_isGone_6 : decode c_M_isGone 6 = .ok (.ifCond .ne 27, 3) := by decide +kernel
theorem d_M_isGone_9 : decode c_M_isGone 9 = .ok (.iload_n 2, 1) := by decide +kernel
theorem d_M_isGone_10 : decode c_M_isGone 10 = .ok (.aload_n 0, 1) := by decide +kernel
theorem d_M_isGone_11 : decode c_M_isGone 11 = .ok (.getfield 23, 3) := by decide +kernel
theorem d_M_isGone_14 : decode c_M_isGone 14 = .ok (.iload_n 1, 1) := by decide +kernel
theorem d_M_isGone_15 : decode c_M_isGone 15 = .ok (.iaload, 1) := by decide +kernel
theorem d_M_isGone_16 : decode c_M_isGone 16 = .ok (.if_icmp .ge 17, 3) := by decide +kernel
theorem d_M_isGone_19 : decode c_M_isGone 19 = .ok (.aload_n 0, 1) := by decide +kernel
theorem d_M_isGone_20 : decode c_M_isGone 20 = .ok (.getfield 30, 3) := by decide +kernel
theorem d_M_isGone_23 : decode c_M_isGone 23 = .ok (.bipush 40, 2) := by decide +kernel
theorem d_M_isGone_25 : decode c_M_isGone 25 = .ok (.iload_n 1, 1) := by decide +kernel
theorem d_M_isGone_26 : decode c_M_isGone 26 = .ok (.imul, 1) := by decide +kernel
theorem d_M_isGone_27 : decode c_M_isGone 27 = .ok (.iload_n 2, 1) := by decide +kernel
theorem d_M_isGone_28 : decode c_M_isGone 28 = .ok (.iadd, 1) := by decide +kernel
theorem d_M_isGone_29 : decode c_M_isGone 29 = .ok (.baload, 1) := by decide +kernel
theorem d_M_isGone_30 : decode c_M_isGone 30 = .ok (.ifCond .eq 7, 3) := by decide +kernel
theorem d_M_isGone_33 : decode c_M_isGone 33 = .ok (.iconst 1, 1) := by decide +kernel
theorem d_M_isGone_34 : decode c_M_isGone 34 = .ok (.goto 4, 3) := by decide +kernel
theorem d_M_isGone_37 : decode c_M_isGone 37 = .ok (.iconst 0, 1) := by decide +kernel
theorem d_M_isGone_38 : decode c_M_isGone 38 = .ok (.ireturn, 1) := by decide +kernel
theorem d_M_goneIn_0 : decode c_M_goneIn 0 = .ok (.iconst 0, 1) := by decide +kernel
theorem d_M_goneIn_1 : decode c_M_goneIn 1 = .ok (.istore_n 2, 1) := by decide +kernel
theorem d_M_goneIn_2 : decode c_M_goneIn 2 = .ok (.iconst 0, 1) := by decide +kernel
theorem d_M_goneIn_3 : decode c_M_goneIn 3 = .ok (.istore_n 3, 1) := by decide +kernel
theorem d_M_goneIn_4 : decode c_M_goneIn 4 = .ok (.iload_n 3, 1) := by decide +kernel
theorem d_M_goneIn_5 : decode c_M_goneIn 5 = .ok (.aload_n 0, 1) := by decide +kernel
theorem d_M_goneIn_6 : decode c_M_goneIn 6 = .ok (.getfield 62, 3) := by decide +kernel
theorem d_M_goneIn_9 : decode c_M_goneIn 9 = .ok (.if_icmp .ge 26, 3) := by decide +kernel
theorem d_M_goneIn_12 : decode c_M_goneIn 12 = .ok (.iload_n 2, 1) := by decide +kernel
theorem d_M_goneIn_13 : decode c_M_goneIn 13 = .ok (.aload_n 0, 1) := by decide +kernel
theorem d_M_goneIn_14 : decode c_M_goneIn 14 = .ok (.iload_n 3, 1) := by decide +kernel
theorem d_M_goneIn_15 : decode c_M_goneIn 15 = .ok (.iload_n 1, 1) := by decide +kernel
theorem d_M_goneIn_16 : decode c_M_goneIn 16 = .ok (.invokevirtual 110, 3) := by decide +kernel
theorem d_M_goneIn_19 : decode c_M_goneIn 19 = .ok (.ifCond .eq 7, 3) := by decide +kernel
theorem d_M_goneIn_22 : decode c_M_goneIn 22 = .ok (.iconst 1, 1) := by decide +kernel
theorem d_M_goneIn_23 : decode c_M_goneIn 23 = .ok (.goto 4, 3) := by decide +kernel
theorem d_M_goneIn_26 : decode c_M_goneIn 26 = .ok (.iconst 0, 1) := by decide +kernel
theorem d_M_goneIn_27 : decode c_M_goneIn 27 = .ok (.iadd, 1) := by decide +kernel
theorem d_M_goneIn_28 : decode c_M_goneIn 28 = .ok (.istore_n 2, 1) := by decide +kernel
theorem d_M_goneIn_29 : decode c_M_goneIn 29 = .ok (.iinc 3 1, 3) := by decide +kernel
theorem d_M_goneIn_32 : decode c_M_goneIn 32 = .ok (.goto (-28), 3) := by decide +kernel
theorem d_M_goneIn_35 : decode c_M_goneIn 35 = .ok (.iload_n 2, 1) := by decide +kernel
theorem d_M_goneIn_36 : decode c_M_goneIn 36 = .ok (.ireturn, 1) := by decide +kernel
theorem d_M_gone_0 : decode c_M_gone 0 = .ok (.aload_n 0, 1) := by decide +kernel
theorem d_M_gone_1 : decode c_M_gone 1 = .ok (.iconst 0, 1) := by decide +kernel
theorem d_M_gone_2 : decode c_M_gone 2 = .ok (.putfield 58, 3) := by decide +kernel
theorem d_M_gone_5 : decode c_M_gone 5 = .ok (.iload_n 1, 1) := by decide +kernel
theorem d_M_gone_6 : decode c_M_gone 6 = .ok (.iconst 2, 1) := by decide +kernel
theorem d_M_gone_7 : decode c_M_gone 7 = .ok (.if_icmp .lt 11, 3) := by decide +kernel
theorem d_M_gone_10 : decode c_M_gone 10 = .ok (.iload_n 1, 1) := by decide +kernel
theorem d_M_gone_11 : decode c_M_gone 11 = .ok (.aload_n 0, 1) := by decide +kernel
theorem d_M_gone_12 : decode c_M_gone 12 = .ok (.getfield 65, 3) := by decide +kernel
theorem d_M_gone_15 : decode c_M_gone 15 = .ok (.if_icmp .lt 7, 3) := by decide +kernel
theorem d_M_gone_18 : decode c_M_gone 18 = .ok (.iconst (-1), 1) := by decide +kernel
theorem d_M_gone_19 : decode c_M_gone 19 = .ok (.goto 8, 3) := by decide +kernel
theorem d_M_gone_22 : decode c_M_gone 22 = .ok (.aload_n 0, 1) := by decide +kernel
theorem d_M_gone_23 : decode c_M_gone 23 = .ok (.iload_n 1, 1) := by decide +kernel
theorem d_M_gone_24 : decode c_M_gone 24 = .ok (.invokevirtual 114, 3) := by decide +kernel
theorem d_M_gone_27 : decode c_M_gone 27 = .ok (.ireturn, 1) := by decide +kernel
theorem d_M_noDisk_0 : decode c_M_noDisk 0 = .ok (.iload_n 1, 1) := by decide +kernel
theorem d_M_noDisk_1 : decode c_M_noDisk 1 = .ok (.ifCond .lt 11, 3) := by decide +kernel
theorem d_M_noDisk_4 : decode c_M_noDisk 4 = .ok (.iload_n 1, 1) := by decide +kernel
theorem d_M_noDisk_5 : decode c_M_noDisk 5 = .ok (.aload_n 0, 1) := by decide +kernel
theorem d_M_noDisk_6 : decode c_M_noDisk 6 = .ok (.getfield 62, 3) := by decide +kernel
theorem d_M_noDisk_9 : decode c_M_noDisk 9 = .ok (.if_icmp .lt 7, 3) := by decide +kernel
theorem d_M_noDisk_12 : decode c_M_noDisk 12 = .ok (.iconst 1, 1) := by decide +kernel
theorem d_M_noDisk_13 : decode c_M_noDisk 13 = .ok (.goto 4, 3) := by decide +kernel
theorem d_M_noDisk_16 : decode c_M_noDisk 16 = .ok (.iconst 0, 1) := by decide +kernel
theorem d_M_noDisk_17 : decode c_M_noDisk 17 = .ok (.ireturn, 1) := by decide +kernel
theorem d_M_status_0 : decode c_M_status 0 = .ok (.aload_n 0, 1) := by decide +kernel
theorem d_M_status_1 : decode c_M_status 1 = .ok (.iconst 0, 1) := by decide +kernel
theorem d_M_status_2 : decode c_M_status 2 = .ok (.putfield 58, 3) := by decide +kernel
theorem d_M_status_5 : decode c_M_status 5 = .ok (.aload_n 0, 1) := by decide +kernel
theorem d_M_status_6 : decode c_M_status 6 = .ok (.iload_n 1, 1) := by decide +kernel
theorem d_M_status_7 : decode c_M_status 7 = .ok (.invokevirtual 117, 3) := by decide +kernel
theorem d_M_status_10 : decode c_M_status 10 = .ok (.ifCond .eq 8, 3) := by decide +kernel
theorem d_M_status_13 : decode c_M_status 13 = .ok (.bipush (-3), 2) := by decide +kernel
theorem d_M_status_15 : decode c_M_status 15 = .ok (.goto 22, 3) := by decide +kernel
theorem d_M_status_18 : decode c_M_status 18 = .ok (.aload_n 0, 1) := by decide +kernel
theorem d_M_status_19 : decode c_M_status 19 = .ok (.getfield 20, 3) := by decide +kernel
theorem d_M_status_22 : decode c_M_status 22 = .ok (.iload_n 1, 1) := by decide +kernel
theorem d_M_status_23 : decode c_M_status 23 = .ok (.baload, 1) := by decide +kernel
theorem d_M_status_24 : decode c_M_status 24 = .ok (.ifCond .eq 7, 3) := by decide +kernel
theorem d_M_status_27 : decode c_M_status 27 = .ok (.iconst (-1), 1) := by decide +kernel
theorem d_M_status_28 : decode c_M_status 28 = .ok (.goto 9, 3) := by decide +kernel
theorem d_M_status_31 : decode c_M_status 31 = .ok (.aload_n 0, 1) := by decide +kernel
theorem d_M_status_32 : decode c_M_status 32 = .ok (.getfield 23, 3) := by decide +kernel
theorem d_M_status_35 : decode c_M_status 35 = .ok (.iload_n 1, 1) := by decide +kernel
theorem d_M_status_36 : decode c_M_status 36 = .ok (.iaload, 1) := by decide +kernel
theorem d_M_status_37 : decode c_M_status 37 = .ok (.ireturn, 1) := by decide +kernel
theorem d_M_manyLost_0 : decode c_M_manyLost 0 = .ok (.iconst 0, 1) := by decide +kernel
theorem d_M_manyLost_1 : decode c_M_manyLost 1 = .ok (.istore_n 1, 1) := by decide +kernel
theorem d_M_manyLost_2 : decode c_M_manyLost 2 = .ok (.iconst 0, 1) := by decide +kernel
theorem d_M_manyLost_3 : decode c_M_manyLost 3 = .ok (.istore_n 2, 1) := by decide +kernel
theorem d_M_manyLost_4 : decode c_M_manyLost 4 = .ok (.iload_n 2, 1) := by decide +kernel
theorem d_M_manyLost_5 : decode c_M_manyLost 5 = .ok (.aload_n 0, 1) := by decide +kernel
theorem d_M_manyLost_6 : decode c_M_manyLost 6 = .ok (.getfield 62, 3) := by decide +kernel
theorem d_M_manyLost_9 : decode c_M_manyLost 9 = .ok (.if_icmp .ge 26, 3) := by decide +kernel
theorem d_M_manyLost_12 : decode c_M_manyLost 12 = .ok (.iload_n 1, 1) := by decide +kernel
theorem d_M_manyLost_13 : decode c_M_manyLost 13 = .ok (.aload_n 0, 1) := by decide +kernel
theorem d_M_manyLost_14 : decode c_M_manyLost 14 = .ok (.getfield 20, 3) := by decide +kernel
theorem d_M_manyLost_17 : decode c_M_manyLost 17 = .ok (.iload_n 2, 1) := by decide +kernel
theorem d_M_manyLost_18 : decode c_M_manyLost 18 = .ok (.baload, 1) := by decide +kernel
theorem d_M_manyLost_19 : decode c_M_manyLost 19 = .ok (.ifCond .eq 7, 3) := by decide +kernel
theorem d_M_manyLost_22 : decode c_M_manyLost 22 = .ok (.iconst 1, 1) := by decide +kernel
theorem d_M_manyLost_23 : decode c_M_manyLost 23 = .ok (.goto 4, 3) := by decide +kernel
theorem d_M_manyLost_26 : decode c_M_manyLost 26 = .ok (.iconst 0, 1) := by decide +kernel
theorem d_M_manyLost_27 : decode c_M_manyLost 27 = .ok (.iadd, 1) := by decide +kernel
theorem d_M_manyLost_28 : decode c_M_manyLost 28 = .ok (.istore_n 1, 1) := by decide +kernel
theorem d_M_manyLost_29 : decode c_M_manyLost 29 = .ok (.iinc 2 1, 3) := by decide +kernel
theorem d_M_manyLost_32 : decode c_M_manyLost 32 = .ok (.goto (-28), 3) := by decide +kernel
theorem d_M_manyLost_35 : decode c_M_manyLost 35 = .ok (.iload_n 1, 1) := by decide +kernel
theorem d_M_manyLost_36 : decode c_M_manyLost 36 = .ok (.ireturn, 1) := by decide +kernel
theorem d_M_isBlank_0 : decode c_M_isBlank 0 = .ok (.aload_n 0, 1) := by decide +kernel
theorem d_M_isBlank_1 : decode c_M_isBlank 1 = .ok (.getfield 20, 3) := by decide +kernel
theorem d_M_isBlank_4 : decode c_M_isBlank 4 = .ok (.iload_n 1, 1) := by decide +kernel
theorem d_M_isBlank_5 : decode c_M_isBlank 5 = .ok (.baload, 1) := by decide +kernel
theorem d_M_isBlank_6 : decode c_M_isBlank 6 = .ok (.ifCond .ne 20, 3) := by decide +kernel
theorem d_M_isBlank_9 : decode c_M_isBlank 9 = .ok (.aload_n 0, 1) := by decide +kernel
theorem d_M_isBlank_10 : decode c_M_isBlank 10 = .ok (.getfield 23, 3) := by decide +kernel
theorem d_M_isBlank_13 : decode c_M_isBlank 13 = .ok (.iload_n 1, 1) := by decide +kernel
theorem d_M_isBlank_14 : decode c_M_isBlank 14 = .ok (.iaload, 1) := by decide +kernel
theorem d_M_isBlank_15 : decode c_M_isBlank 15 = .ok (.aload_n 0, 1) := by decide +kernel
theorem d_M_isBlank_16 : decode c_M_isBlank 16 = .ok (.getfield 65, 3) := by decide +kernel
theorem d_M_isBlank_19 : decode c_M_isBlank 19 = .ok (.if_icmp .ge 7, 3) := by decide +kernel
theorem d_M_isBlank_22 : decode c_M_isBlank 22 = .ok (.iconst 1, 1) := by decide +kernel
theorem d_M_isBlank_23 : decode c_M_isBlank 23 = .ok (.goto 4, 3) := by decide +kernel
theorem d_M_isBlank_26 : decode c_M_isBlank 26 = .ok (.iconst 0, 1) := by decide +kernel
theorem d_M_isBlank_27 : decode c_M_isBlank 27 = .ok (.ireturn, 1) := by decide +kernel
theorem d_M_noBlock_0 : decode c_M_noBlock 0 = .ok (.iload_n 1, 1) := by decide +kernel
theorem d_M_noBlock_1 : decode c_M_noBlock 1 = .ok (.ifCond .lt 11, 3) := by decide +kernel
theorem d_M_noBlock_4 : decode c_M_noBlock 4 = .ok (.iload_n 1, 1) := by decide +kernel
theorem d_M_noBlock_5 : decode c_M_noBlock 5 = .ok (.aload_n 0, 1) := by decide +kernel
theorem d_M_noBlock_6 : decode c_M_noBlock 6 = .ok (.invokevirtual 86, 3) := by decide +kernel
theorem d_M_noBlock_9 : decode c_M_noBlock 9 = .ok (.if_icmp .lt 7, 3) := by decide +kernel
theorem d_M_noBlock_12 : decode c_M_noBlock 12 = .ok (.iconst 1, 1) := by decide +kernel
theorem d_M_noBlock_13 : decode c_M_noBlock 13 = .ok (.goto 4, 3) := by decide +kernel
theorem d_M_noBlock_16 : decode c_M_noBlock 16 = .ok (.iconst 0, 1) := by decide +kernel
theorem d_M_noBlock_17 : decode c_M_noBlock 17 = .ok (.ireturn, 1) := by decide +kernel
theorem d_M_rowOf_0 : decode c_M_rowOf 0 = .ok (.bipush 6, 2) := by decide +kernel
theorem d_M_rowOf_2 : decode c_M_rowOf 2 = .ok (.iload_n 1, 1) := by decide +kernel
theorem d_M_rowOf_3 : decode c_M_rowOf 3 = .ok (.aload_n 0, 1) := by decide +kernel
theorem d_M_rowOf_4 : decode c_M_rowOf 4 = .ok (.getfield 62, 3) := by decide +kernel
theorem d_M_rowOf_7 : decode c_M_rowOf 7 = .ok (.iconst 2, 1) := by decide +kernel
theorem d_M_rowOf_8 : decode c_M_rowOf 8 = .ok (.isub, 1) := by decide +kernel
theorem d_M_rowOf_9 : decode c_M_rowOf 9 = .ok (.idiv, 1) := by decide +kernel
theorem d_M_rowOf_10 : decode c_M_rowOf 10 = .ok (.iadd, 1) := by decide +kernel
theorem d_M_rowOf_11 : decode c_M_rowOf 11 = .ok (.ireturn, 1) := by decide +kernel
theorem d_M_inRow_0 : decode c_M_inRow 0 = .ok (.iconst 0, 1) := by decide +kernel
theorem d_M_inRow_1 : decode c_M_inRow 1 = .ok (.istore_n 3, 1) := by decide +kernel
theorem d_M_inRow_2 : decode c_M_inRow 2 = .ok (.iconst 0, 1) := by decide +kernel
theorem d_M_inRow_3 : decode c_M_inRow 3 = .ok (.istore 4, 2) := by decide +kernel
theorem d_M_inRow_5 : decode c_M_inRow 5 = .ok (.iload 4, 2) := by decide +kernel
theorem d_M_inRow_7 : decode c_M_inRow 7 = .ok (.aload_n 0, 1) := by decide +kernel
theorem d_M_inRow_8 : decode c_M_inRow 8 = .ok (.invokevirtual 86, 3) := by decide +kernel
theorem d_M_inRow_11 : decode c_M_inRow 11 = .ok (.if_icmp .ge 34, 3) := by decide +kernel
theorem d_M_inRow_14 : decode c_M_inRow 14 = .ok (.iload_n 3, 1) := by decide +kernel
theorem d_M_inRow_15 : decode c_M_inRow 15 = .ok (.aload_n 1, 1) := by decide +kernel
theorem d_M_inRow_16 : decode c_M_inRow 16 = .ok (.iload 4, 2) := by decide +kernel
theorem d_M_inRow_18 : decode c_M_inRow 18 = .ok (.baload, 1) := by decide +kernel
theorem d_M_inRow_19 : decode c_M_inRow 19 = .ok (.ifCond .eq 17, 3) := by decide +kernel
theorem d_M_inRow_22 : decode c_M_inRow 22 = .ok (.aload_n 0, 1) := by decide +kernel
theorem d_M_inRow_23 : decode c_M_inRow 23 = .ok (.iload 4, 2) := by decide +kernel
theorem d_M_inRow_25 : decode c_M_inRow 25 = .ok (.invokevirtual 121, 3) := by decide +kernel
theorem d_M_inRow_28 : decode c_M_inRow 28 = .ok (.iload_n 2, 1) := by decide +kernel
theorem d_M_inRow_29 : decode c_M_inRow 29 = .ok (.if_icmp .ne 7, 3) := by decide +kernel
theorem d_M_inRow_32 : decode c_M_inRow 32 = .ok (.iconst 1, 1) := by decide +kernel
theorem d_M_inRow_33 : decode c_M_inRow 33 = .ok (.goto 4, 3) := by decide +kernel
theorem d_M_inRow_36 : decode c_M_inRow 36 = .ok (.iconst 0, 1) := by decide +kernel
theorem d_M_inRow_37 : decode c_M_inRow 37 = .ok (.iadd, 1) := by decide +kernel
theorem d_M_inRow_38 : decode c_M_inRow 38 = .ok (.istore_n 3, 1) := by decide +kernel
theorem d_M_inRow_39 : decode c_M_inRow 39 = .ok (.iinc 4 1, 3) := by decide +kernel
theorem d_M_inRow_42 : decode c_M_inRow 42 = .ok (.goto (-37), 3) := by decide +kernel
theorem d_M_inRow_45 : decode c_M_inRow 45 = .ok (.iload_n 3, 1) := by decide +kernel
theorem d_M_inRow_46 : decode c_M_inRow 46 = .ok (.ireturn, 1) := by decide +kernel
theorem d_M_many_0 : decode c_M_many 0 = .ok (.iconst 0, 1) := by decide +kernel
theorem d_M_many_1 : decode c_M_many 1 = .ok (.istore_n 1, 1) := by decide +kernel
theorem d_M_many_2 : decode c_M_many 2 = .ok (.iconst 0, 1) := by decide +kernel
theorem d_M_many_3 : decode c_M_many 3 = .ok (.istore_n 2, 1) := by decide +kernel
theorem d_M_many_4 : decode c_M_many 4 = .ok (.iload_n 2, 1) := by decide +kernel
theorem d_M_many_5 : decode c_M_many 5 = .ok (.aload_n 0, 1) := by decide +kernel
theorem d_M_many_6 : decode c_M_many 6 = .ok (.invokevirtual 86, 3) := by decide +kernel
theorem d_M_many_9 : decode c_M_many 9 = .ok (.if_icmp .ge 26, 3) := by decide +kernel
theorem d_M_many_12 : decode c_M_many 12 = .ok (.iload_n 1, 1) := by decide +kernel
theorem d_M_many_13 : decode c_M_many 13 = .ok (.aload_n 0, 1) := by decide +kernel
theorem d_M_many_14 : decode c_M_many 14 = .ok (.getfield 16, 3) := by decide +kernel
theorem d_M_many_17 : decode c_M_many 17 = .ok (.iload_n 2, 1) := by decide +kernel
theorem d_M_many_18 : decode c_M_many 18 = .ok (.baload, 1) := by decide +kernel
theorem d_M_many_19 : decode c_M_many 19 = .ok (.ifCond .eq 7, 3) := by decide +kernel
theorem d_M_many_22 : decode c_M_many 22 = .ok (.iconst 1, 1) := by decide +kernel
theorem d_M_many_23 : decode c_M_many 23 = .ok (.goto 4, 3) := by decide +kernel
theorem d_M_many_26 : decode c_M_many 26 = .ok (.iconst 0, 1) := by decide +kernel
theorem d_M_many_27 : decode c_M_many 27 = .ok (.iadd, 1) := by decide +kernel
theorem d_M_many_28 : decode c_M_many 28 = .ok (.istore_n 1, 1) := by decide +kernel
theorem d_M_many_29 : decode c_M_many 29 = .ok (.iinc 2 1, 3) := by decide +kernel
theorem d_M_many_32 : decode c_M_many 32 = .ok (.goto (-28), 3) := by decide +kernel
theorem d_M_many_35 : decode c_M_many 35 = .ok (.iload_n 1, 1) := by decide +kernel
theorem d_M_many_36 : decode c_M_many 36 = .ok (.ireturn, 1) := by decide +kernel
theorem d_M_use_0 : decode c_M_use 0 = .ok (.aload_n 0, 1) := by decide +kernel
theorem d_M_use_1 : decode c_M_use 1 = .ok (.invokevirtual 124, 3) := by decide +kernel
theorem d_M_use_4 : decode c_M_use 4 = .ok (.istore_n 1, 1) := by decide +kernel
theorem d_M_use_5 : decode c_M_use 5 = .ok (.iconst 0, 1) := by decide +kernel
theorem d_M_use_6 : decode c_M_use 6 = .ok (.istore_n 2, 1) := by decide +kernel
theorem d_M_use_7 : decode c_M_use 7 = .ok (.bipush 6, 2) := by decide +kernel
theorem d_M_use_9 : decode c_M_use 9 = .ok (.istore_n 3, 1) := by decide +kernel
theorem d_M_use_10 : decode c_M_use 10 = .ok (.iload_n 3, 1) := by decide +kernel
theorem d_M_use_11 : decode c_M_use 11 = .ok (.aload_n 0, 1) := by decide +kernel
theorem d_M_use_12 : decode c_M_use 12 = .ok (.getfield 65, 3) := by decide +kernel
theorem d_M_use_15 : decode c_M_use 15 = .ok (.if_icmp .ge 29, 3) := by decide +kernel
theorem d_M_use_18 : decode c_M_use 18 = .ok (.iload_n 2, 1) := by decide +kernel
theorem d_M_use_19 : decode c_M_use 19 = .ok (.aload_n 0, 1) := by decide +kernel
theorem d_M_use_20 : decode c_M_use 20 = .ok (.aload_n 0, 1) := by decide +kernel
theorem d_M_use_21 : decode c_M_use 21 = .ok (.getfield 16, 3) := by decide +kernel
theorem d_M_use_24 : decode c_M_use 24 = .ok (.iload_n 3, 1) := by decide +kernel
theorem d_M_use_25 : decode c_M_use 25 = .ok (.invokevirtual 127, 3) := by decide +kernel
theorem d_M_use_28 : decode c_M_use 28 = .ok (.ifCond .le 7, 3) := by decide +kernel
theorem d_M_use_31 : decode c_M_use 31 = .ok (.iconst 1, 1) := by decide +kernel
theorem d_M_use_32 : decode c_M_use 32 = .ok (.goto 4, 3) := by decide +kernel
theorem d_M_use_35 : decode c_M_use 35 = .ok (.iconst 0, 1) := by decide +kernel
theorem d_M_use_36 : decode c_M_use 36 = .ok (.iadd, 1) := by decide +kernel
theorem d_M_use_37 : decode c_M_use 37 = .ok (.istore_n 2, 1) := by decide +kernel
theorem d_M_use_38 : decode c_M_use 38 = .ok (.iinc 3 1, 3) := by decide +kernel
theorem d_M_use_41 : decode c_M_use 41 = .ok (.goto (-31), 3) := by decide +kernel
theorem d_M_use_44 : decode c_M_use 44 = .ok (.iload_n 1, 1) := by decide +kernel
theorem d_M_use_45 : decode c_M_use 45 = .ok (.ifCond .ne 7, 3) := by decide +kernel
theorem d_M_use_48 : decode c_M_use 48 = .ok (.iconst 0, 1) := by decide +kernel
theorem d_M_use_49 : decode c_M_use 49 = .ok (.goto 10, 3) := by decide +kernel
theorem d_M_use_52 : decode c_M_use 52 = .ok (.iconst 1, 1) := by decide +kernel
theorem d_M_use_53 : decode c_M_use 53 = .ok (.iload_n 1, 1) := by decide +kernel
theorem d_M_use_54 : decode c_M_use 54 = .ok (.iadd, 1) := by decide +kernel
theorem d_M_use_55 : decode c_M_use 55 = .ok (.iconst 2, 1) := by decide +kernel
theorem d_M_use_56 : decode c_M_use 56 = .ok (.iload_n 2, 1) := by decide +kernel
theorem d_M_use_57 : decode c_M_use 57 = .ok (.imul, 1) := by decide +kernel
theorem d_M_use_58 : decode c_M_use 58 = .ok (.iadd, 1) := by decide +kernel
theorem d_M_use_59 : decode c_M_use 59 = .ok (.ireturn, 1) := by decide +kernel
theorem d_M_write_0 : decode c_M_write 0 = .ok (.aload_n 0, 1) := by decide +kernel
theorem d_M_write_1 : decode c_M_write 1 = .ok (.iconst 0, 1) := by decide +kernel
theorem d_M_write_2 : decode c_M_write 2 = .ok (.putfield 58, 3) := by decide +kernel
theorem d_M_write_5 : decode c_M_write 5 = .ok (.aload_n 0, 1) := by decide +kernel
theorem d_M_write_6 : decode c_M_write 6 = .ok (.getfield 68, 3) := by decide +kernel
theorem d_M_write_9 : decode c_M_write 9 = .ok (.ifCond .eq 6, 3) := by decide +kernel
theorem d_M_write_12 : decode c_M_write 12 = .ok (.bipush (-2), 2) := by decide +kernel
theorem d_M_write_14 : decode c_M_write 14 = .ok (.ireturn, 1) := by decide +kernel
theorem d_M_write_15 : decode c_M_write 15 = .ok (.aload_n 0, 1) := by decide +kernel
theorem d_M_write_16 : decode c_M_write 16 = .ok (.iload_n 1, 1) := by decide +kernel
theorem d_M_write_17 : decode c_M_write 17 = .ok (.invokevirtual 131, 3) := by decide +kernel
theorem d_M_write_20 : decode c_M_write 20 = .ok (.ifCond .ne 39, 3) := by decide +kernel
theorem d_M_write_23 : decode c_M_write 23 = .ok (.iload_n 3, 1) := by decide +kernel
theorem d_M_write_24 : decode c_M_write 24 = .ok (.iconst 1, 1) := by decide +kernel
theorem d_M_write_25 : decode c_M_write 25 = .ok (.if_icmp .lt 34, 3) := by decide +kernel
theorem d_M_write_28 : decode c_M_write 28 = .ok (.iload_n 3, 1) := by decide +kernel
theorem d_M_write_29 : decode c_M_write 29 = .ok (.bipush 64, 2) := by decide +kernel
theorem d_M_write_31 : decode c_M_write 31 = .ok (.if_icmp .gt 28, 3) := by decide +kernel
theorem d_M_write_34 : decode c_M_write 34 = .ok (.iload_n 2, 1) := by decide +kernel
theorem d_M_write_35 : decode c_M_write 35 = .ok (.ifCond .lt 24, 3) := by decide +kernel
theorem d_M_write_38 : decode c_M_write 38 = .ok (.iload_n 2, 1) := by decide +kernel
theorem d_M_write_39 : decode c_M_write 39 = .ok (.bipush 64, 2) := by decide +kernel
theorem d_M_write_41 : decode c_M_write 41 = .ok (.iload_n 3, 1) := by decide +kernel
theorem d_M_write_42 : decode c_M_write 42 = .ok (.isub, 1) := by decide +kernel
theorem d_M_write_43 : decode c_M_write 43 = .ok (.if_icmp .gt 16, 3) := by decide +kernel
theorem d_M_write_46 : decode c_M_write 46 = .ok (.iload 4, 2) := by decide +kernel
theorem d_M_write_48 : decode c_M_write 48 = .ok (.ifCond .lt 11, 3) := by decide +kernel
theorem d_M_write_51 : decode c_M_write 51 = .ok (.iload 4, 2) := by decide +kernel
theorem d_M_write_53 : decode c_M_write 53 = .ok (.sipush 255, 3) := by decide +kernel
theorem d_M_write_56 : decode c_M_write 56 = .ok (.if_icmp .le 5, 3) := by decide +kernel
theorem d_M_write_59 : decode c_M_write 59 = .ok (.iconst (-1), 1) := by decide +kernel
theorem d_M_write_60 : decode c_M_write 60 = .ok (.ireturn, 1) := by decide +kernel
theorem d_M_write_61 : decode c_M_write 61 = .ok (.aload_n 0, 1) := by decide +kernel
theorem d_M_write_62 : decode c_M_write 62 = .ok (.getfield 16, 3) := by decide +kernel
theorem d_M_write_65 : decode c_M_write 65 = .ok (.iload_n 1, 1) := by decide +kernel
theorem d_M_write_66 : decode c_M_write 66 = .ok (.baload, 1) := by decide +kernel
theorem d_M_write_67 : decode c_M_write 67 = .ok (.istore 5, 2) := by decide +kernel
theorem d_M_write_69 : decode c_M_write 69 = .ok (.aload_n 0, 1) := by decide +kernel
theorem d_M_write_70 : decode c_M_write 70 = .ok (.getfield 16, 3) := by decide +kernel
theorem d_M_write_73 : decode c_M_write 73 = .ok (.iload_n 1, 1) := by decide +kernel
theorem d_M_write_74 : decode c_M_write 74 = .ok (.iconst 1, 1) := by decide +kernel
theorem d_M_write_75 : decode c_M_write 75 = .ok (.bastore, 1) := by decide +kernel
theorem d_M_write_76 : decode c_M_write 76 = .ok (.aload_n 0, 1) := by decide +kernel
theorem d_M_write_77 : decode c_M_write 77 = .ok (.invokevirtual 134, 3) := by decide +kernel
theorem d_M_write_80 : decode c_M_write 80 = .ok (.iconst 4, 1) := by decide +kernel
theorem d_M_write_81 : decode c_M_write 81 = .ok (.aload_n 0, 1) := by decide +kernel
theorem d_M_write_82 : decode c_M_write 82 = .ok (.getfield 62, 3) := by decide +kernel
theorem d_M_write_85 : decode c_M_write 85 = .ok (.iconst 2, 1) := by decide +kernel
theorem d_M_write_86 : decode c_M_write 86 = .ok (.isub, 1) := by decide +kernel
theorem d_M_write_87 : decode c_M_write 87 = .ok (.imul, 1) := by decide +kernel
theorem d_M_write_88 : decode c_M_write 88 = .ok (.if_icmp .le 14, 3) := by decide +kernel
theorem d_M_write_91 : decode c_M_write 91 = .ok (.aload_n 0, 1) := by decide +kernel
theorem d_M_write_92 : decode c_M_write 92 = .ok (.getfield 16, 3) := by decide +kernel
theorem d_M_write_95 : decode c_M_write 95 = .ok (.iload_n 1, 1) := by decide +kernel
theorem d_M_write_96 : decode c_M_write 96 = .ok (.iload 5, 2) := by decide +kernel
theorem d_M_write_98 : decode c_M_write 98 = .ok (.bastore, 1) := by decide +kernel
theorem d_M_write_99 : decode c_M_write 99 = .ok (.bipush (-3), 2) := by decide +kernel
theorem d_M_write_101 : decode c_M_write 101 = .ok (.ireturn, 1) := by decide +kernel
theorem d_M_write_102 : decode c_M_write 102 = .ok (.iconst 0, 1) := by decide +kernel
theorem d_M_write_103 : decode c_M_write 103 = .ok (.istore 6, 2) := by decide +kernel
theorem d_M_write_105 : decode c_M_write 105 = .ok (.iload 6, 2) := by decide +kernel
theorem d_M_write_107 : decode c_M_write 107 = .ok (.iload_n 3, 1) := by decide +kernel
theorem d_M_write_108 : decode c_M_write 108 = .ok (.if_icmp .ge 26, 3) := by decide +kernel
theorem d_M_write_111 : decode c_M_write 111 = .ok (.aload_n 0, 1) := by decide +kernel
theorem d_M_write_112 : decode c_M_write 112 = .ok (.getfield 7, 3) := by decide +kernel
theorem d_M_write_115 : decode c_M_write 115 = .ok (.bipush 64, 2) := by decide +kernel
theorem d_M_write_117 : decode c_M_write 117 = .ok (.iload_n 1, 1) := by decide +kernel
theorem d_M_write_118 : decode c_M_write 118 = .ok (.imul, 1) := by decide +kernel
theorem d_M_write_119 : decode c_M_write 119 = .ok (.iload_n 2, 1) := by decide +kernel
theorem d_M_write_120 : decode c_M_write 120 = .ok (.iadd, 1) := by decide +kernel
theorem d_M_write_121 : decode c_M_write 121 = .ok (.iload 6, 2) := by decide +kernel
theorem d_M_write_123 : decode c_M_write 123 = .ok (.iadd, 1) := by decide +kernel
theorem d_M_write_124 : decode c_M_write 124 = .ok (.iload 4, 2) := by decide +kernel
theorem d_M_write_126 : decode c_M_write 126 = .ok (.i2b, 1) := by decide +kernel
theorem d_M_write_127 : decode c_M_write 127 = .ok (.bastore, 1) := by decide +kernel
theorem d_M_write_128 : decode c_M_write 128 = .ok (.iinc 6 1, 3) := by decide +kernel
theorem d_M_write_131 : decode c_M_write 131 = .ok (.goto (-26), 3) := by decide +kernel
theorem d_M_write_134 : decode c_M_write 134 = .ok (.aload_n 0, 1) := by decide +kernel
theorem d_M_write_135 : decode c_M_write 135 = .ok (.invokevirtual 134, 3) := by decide +kernel
theorem d_M_write_138 : decode c_M_write 138 = .ok (.ireturn, 1) := by decide +kernel
theorem d_M_read_0 : decode c_M_read 0 = .ok (.aload_n 0, 1) := by decide +kernel
theorem d_M_read_1 : decode c_M_read 1 = .ok (.iconst 0, 1) := by decide +kernel
theorem d_M_read_2 : decode c_M_read 2 = .ok (.putfield 58, 3) := by decide +kernel
theorem d_M_read_5 : decode c_M_read 5 = .ok (.aload_n 0, 1) := by decide +kernel
theorem d_M_read_6 : decode c_M_read 6 = .ok (.getfield 68, 3) := by decide +kernel
theorem d_M_read_9 : decode c_M_read 9 = .ok (.ifCond .eq 8, 3) := by decide +kernel
theorem d_M_read_12 : decode c_M_read 12 = .ok (.bipush (-2), 2) := by decide +kernel
theorem d_M_read_14 : decode c_M_read 14 = .ok (.goto 40, 3) := by decide +kernel
theorem d_M_read_17 : decode c_M_read 17 = .ok (.aload_n 0, 1) := by decide +kernel
theorem d_M_read_18 : decode c_M_read 18 = .ok (.iload_n 1, 1) := by decide +kernel
theorem d_M_read_19 : decode c_M_read 19 = .ok (.invokevirtual 131, 3) := by decide +kernel
theorem d_M_read_22 : decode c_M_read 22 = .ok (.ifCond .ne 13, 3) := by decide +kernel
theorem d_M_read_25 : decode c_M_read 25 = .ok (.iload_n 2, 1) := by decide +kernel
theorem d_M_read_26 : decode c_M_read 26 = .ok (.ifCond .lt 9, 3) := by decide +kernel
theorem d_M_read_29 : decode c_M_read 29 = .ok (.iload_n 2, 1) := by decide +kernel
theorem d_M_read_30 : decode c_M_read 30 = .ok (.bipush 64, 2) := by decide +kernel
theorem d_M_read_32 : decode c_M_read 32 = .ok (.if_icmp .lt 7, 3) := by decide +kernel
theorem d_M_read_35 : decode c_M_read 35 = .ok (.iconst (-1), 1) := by decide +kernel
theorem d_M_read_36 : decode c_M_read 36 = .ok (.goto 18, 3) := by decide +kernel
theorem d_M_read_39 : decode c_M_read 39 = .ok (.aload_n 0, 1) := by decide +kernel
theorem d_M_read_40 : decode c_M_read 40 = .ok (.getfield 7, 3) := by decide +kernel
theorem d_M_read_43 : decode c_M_read 43 = .ok (.bipush 64, 2) := by decide +kernel
theorem d_M_read_45 : decode c_M_read 45 = .ok (.iload_n 1, 1) := by decide +kernel
theorem d_M_read_46 : decode c_M_read 46 = .ok (.imul, 1) := by decide +kernel
theorem d_M_read_47 : decode c_M_read 47 = .ok (.iload_n 2, 1) := by decide +kernel
theorem d_M_read_48 : decode c_M_read 48 = .ok (.iadd, 1) := by decide +kernel
theorem d_M_read_49 : decode c_M_read 49 = .ok (.baload, 1) := by decide +kernel
theorem d_M_read_50 : decode c_M_read 50 = .ok (.sipush 255, 3) := by decide +kernel
theorem d_M_read_53 : decode c_M_read 53 = .ok (.iand, 1) := by decide +kernel
theorem d_M_read_54 : decode c_M_read 54 = .ok (.ireturn, 1) := by decide +kernel
theorem d_M_copy_0 : decode c_M_copy 0 = .ok (.bipush 64, 2) := by decide +kernel
theorem d_M_copy_2 : decode c_M_copy 2 = .ok (.iload_n 3, 1) := by decide +kernel
theorem d_M_copy_3 : decode c_M_copy 3 = .ok (.imul, 1) := by decide +kernel
theorem d_M_copy_4 : decode c_M_copy 4 = .ok (.istore 4, 2) := by decide +kernel
theorem d_M_copy_6 : decode c_M_copy 6 = .ok (.iload 4, 2) := by decide +kernel
theorem d_M_copy_8 : decode c_M_copy 8 = .ok (.bipush 64, 2) := by decide +kernel
theorem d_M_copy_10 : decode c_M_copy 10 = .ok (.iload_n 3, 1) := by decide +kernel
theorem d_M_copy_11 : decode c_M_copy 11 = .ok (.imul, 1) := by decide +kernel
theorem d_M_copy_12 : decode c_M_copy 12 = .ok (.bipush 64, 2) := by decide +kernel
theorem d_M_copy_14 : decode c_M_copy 14 = .ok (.iadd, 1) := by decide +kernel
