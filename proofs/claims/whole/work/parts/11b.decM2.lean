theorem d_M_copy_15 : decode c_M_copy 15 = .ok (.if_icmp .ge 17, 3) := by decide +kernel
theorem d_M_copy_18 : decode c_M_copy 18 = .ok (.aload_n 2, 1) := by decide +kernel
theorem d_M_copy_19 : decode c_M_copy 19 = .ok (.iload 4, 2) := by decide +kernel
theorem d_M_copy_21 : decode c_M_copy 21 = .ok (.aload_n 1, 1) := by decide +kernel
theorem d_M_copy_22 : decode c_M_copy 22 = .ok (.iload 4, 2) := by decide +kernel
theorem d_M_copy_24 : decode c_M_copy 24 = .ok (.baload, 1) := by decide +kernel
theorem d_M_copy_25 : decode c_M_copy 25 = .ok (.bastore, 1) := by decide +kernel
theorem d_M_copy_26 : decode c_M_copy 26 = .ok (.iinc 4 1, 3) := by decide +kernel
theorem d_M_copy_29 : decode c_M_copy 29 = .ok (.goto (-23), 3) := by decide +kernel
theorem d_M_copy_32 : decode c_M_copy 32 = .ok (.return_, 1) := by decide +kernel
theorem d_M_commit_0 : decode c_M_commit 0 = .ok (.aload_n 0, 1) := by decide +kernel
theorem d_M_commit_1 : decode c_M_commit 1 = .ok (.iconst 0, 1) := by decide +kernel
theorem d_M_commit_2 : decode c_M_commit 2 = .ok (.putfield 58, 3) := by decide +kernel
theorem d_M_commit_5 : decode c_M_commit 5 = .ok (.aload_n 0, 1) := by decide +kernel
theorem d_M_commit_6 : decode c_M_commit 6 = .ok (.getfield 68, 3) := by decide +kernel
theorem d_M_commit_9 : decode c_M_commit 9 = .ok (.ifCond .eq 6, 3) := by decide +kernel
theorem d_M_commit_12 : decode c_M_commit 12 = .ok (.bipush (-2), 2) := by decide +kernel
theorem d_M_commit_14 : decode c_M_commit 14 = .ok (.ireturn, 1) := by decide +kernel
theorem d_M_commit_15 : decode c_M_commit 15 = .ok (.iload_n 1, 1) := by decide +kernel
theorem d_M_commit_16 : decode c_M_commit 16 = .ok (.ifCond .lt 8, 3) := by decide +kernel
theorem d_M_commit_19 : decode c_M_commit 19 = .ok (.iload_n 1, 1) := by decide +kernel
theorem d_M_commit_20 : decode c_M_commit 20 = .ok (.iconst 4, 1) := by decide +kernel
theorem d_M_commit_21 : decode c_M_commit 21 = .ok (.if_icmp .le 5, 3) := by decide +kernel
theorem d_M_commit_24 : decode c_M_commit 24 = .ok (.iconst (-1), 1) := by decide +kernel
theorem d_M_commit_25 : decode c_M_commit 25 = .ok (.ireturn, 1) := by decide +kernel
theorem d_M_commit_26 : decode c_M_commit 26 = .ok (.aload_n 0, 1) := by decide +kernel
theorem d_M_commit_27 : decode c_M_commit 27 = .ok (.invokevirtual 134, 3) := by decide +kernel
theorem d_M_commit_30 : decode c_M_commit 30 = .ok (.istore 4, 2) := by decide +kernel
theorem d_M_commit_32 : decode c_M_commit 32 = .ok (.iload 4, 2) := by decide +kernel
theorem d_M_commit_34 : decode c_M_commit 34 = .ok (.ifCond .ne 5, 3) := by decide +kernel
theorem d_M_commit_37 : decode c_M_commit 37 = .ok (.iconst 0, 1) := by decide +kernel
theorem d_M_commit_38 : decode c_M_commit 38 = .ok (.ireturn, 1) := by decide +kernel
theorem d_M_commit_39 : decode c_M_commit 39 = .ok (.iload_n 1, 1) := by decide +kernel
theorem d_M_commit_40 : decode c_M_commit 40 = .ok (.iconst 1, 1) := by decide +kernel
theorem d_M_commit_41 : decode c_M_commit 41 = .ok (.if_icmp .ne 8, 3) := by decide +kernel
theorem d_M_commit_44 : decode c_M_commit 44 = .ok (.aload_n 0, 1) := by decide +kernel
theorem d_M_commit_45 : decode c_M_commit 45 = .ok (.invokevirtual 107, 3) := by decide +kernel
theorem d_M_commit_48 : decode c_M_commit 48 = .ok (.ireturn, 1) := by decide +kernel
theorem d_M_commit_49 : decode c_M_commit 49 = .ok (.iconst 0, 1) := by decide +kernel
theorem d_M_commit_50 : decode c_M_commit 50 = .ok (.istore 5, 2) := by decide +kernel
theorem d_M_commit_52 : decode c_M_commit 52 = .ok (.iload 5, 2) := by decide +kernel
theorem d_M_commit_54 : decode c_M_commit 54 = .ok (.aload_n 0, 1) := by decide +kernel
theorem d_M_commit_55 : decode c_M_commit 55 = .ok (.invokevirtual 86, 3) := by decide +kernel
theorem d_M_commit_58 : decode c_M_commit 58 = .ok (.if_icmp .ge 37, 3) := by decide +kernel
theorem d_M_commit_61 : decode c_M_commit 61 = .ok (.aload_n 0, 1) := by decide +kernel
theorem d_M_commit_62 : decode c_M_commit 62 = .ok (.getfield 51, 3) := by decide +kernel
theorem d_M_commit_65 : decode c_M_commit 65 = .ok (.iload 5, 2) := by decide +kernel
theorem d_M_commit_67 : decode c_M_commit 67 = .ok (.aload_n 0, 1) := by decide +kernel
theorem d_M_commit_68 : decode c_M_commit 68 = .ok (.getfield 16, 3) := by decide +kernel
theorem d_M_commit_71 : decode c_M_commit 71 = .ok (.iload 5, 2) := by decide +kernel
theorem d_M_commit_73 : decode c_M_commit 73 = .ok (.baload, 1) := by decide +kernel
theorem d_M_commit_74 : decode c_M_commit 74 = .ok (.bastore, 1) := by decide +kernel
theorem d_M_commit_75 : decode c_M_commit 75 = .ok (.aload_n 0, 1) := by decide +kernel
theorem d_M_commit_76 : decode c_M_commit 76 = .ok (.aload_n 0, 1) := by decide +kernel
theorem d_M_commit_77 : decode c_M_commit 77 = .ok (.getfield 7, 3) := by decide +kernel
theorem d_M_commit_80 : decode c_M_commit 80 = .ok (.aload_n 0, 1) := by decide +kernel
theorem d_M_commit_81 : decode c_M_commit 81 = .ok (.getfield 48, 3) := by decide +kernel
theorem d_M_commit_84 : decode c_M_commit 84 = .ok (.iload 5, 2) := by decide +kernel
theorem d_M_commit_86 : decode c_M_commit 86 = .ok (.invokevirtual 137, 3) := by decide +kernel
theorem d_M_commit_89 : decode c_M_commit 89 = .ok (.iinc 5 1, 3) := by decide +kernel
theorem d_M_commit_92 : decode c_M_commit 92 = .ok (.goto (-40), 3) := by decide +kernel
theorem d_M_commit_95 : decode c_M_commit 95 = .ok (.iload_n 1, 1) := by decide +kernel
theorem d_M_commit_96 : decode c_M_commit 96 = .ok (.iconst 2, 1) := by decide +kernel
theorem d_M_commit_97 : decode c_M_commit 97 = .ok (.if_icmp .ne 10, 3) := by decide +kernel
theorem d_M_commit_100 : decode c_M_commit 100 = .ok (.aload_n 0, 1) := by decide +kernel
theorem d_M_commit_101 : decode c_M_commit 101 = .ok (.iconst 1, 1) := by decide +kernel
theorem d_M_commit_102 : decode c_M_commit 102 = .ok (.lload_n 2, 1) := by decide +kernel
theorem d_M_commit_103 : decode c_M_commit 103 = .ok (.invokevirtual 141, 3) := by decide +kernel
theorem d_M_commit_106 : decode c_M_commit 106 = .ok (.ireturn, 1) := by decide +kernel
theorem d_M_commit_107 : decode c_M_commit 107 = .ok (.aload_n 0, 1) := by decide +kernel
theorem d_M_commit_108 : decode c_M_commit 108 = .ok (.iconst 1, 1) := by decide +kernel
theorem d_M_commit_109 : decode c_M_commit 109 = .ok (.invokevirtual 82, 3) := by decide +kernel
theorem d_M_commit_112 : decode c_M_commit 112 = .ok (.iload_n 1, 1) := by decide +kernel
theorem d_M_commit_113 : decode c_M_commit 113 = .ok (.iconst 3, 1) := by decide +kernel
theorem d_M_commit_114 : decode c_M_commit 114 = .ok (.if_icmp .ne 8, 3) := by decide +kernel
theorem d_M_commit_117 : decode c_M_commit 117 = .ok (.aload_n 0, 1) := by decide +kernel
theorem d_M_commit_118 : decode c_M_commit 118 = .ok (.invokevirtual 107, 3) := by decide +kernel
theorem d_M_commit_121 : decode c_M_commit 121 = .ok (.ireturn, 1) := by decide +kernel
theorem d_M_commit_122 : decode c_M_commit 122 = .ok (.aload_n 0, 1) := by decide +kernel
theorem d_M_commit_123 : decode c_M_commit 123 = .ok (.invokevirtual 145, 3) := by decide +kernel
theorem d_M_commit_126 : decode c_M_commit 126 = .ok (.iload_n 1, 1) := by decide +kernel
theorem d_M_commit_127 : decode c_M_commit 127 = .ok (.iconst 4, 1) := by decide +kernel
theorem d_M_commit_128 : decode c_M_commit 128 = .ok (.if_icmp .ne 10, 3) := by decide +kernel
theorem d_M_commit_131 : decode c_M_commit 131 = .ok (.aload_n 0, 1) := by decide +kernel
theorem d_M_commit_132 : decode c_M_commit 132 = .ok (.iconst 0, 1) := by decide +kernel
theorem d_M_commit_133 : decode c_M_commit 133 = .ok (.lload_n 2, 1) := by decide +kernel
theorem d_M_commit_134 : decode c_M_commit 134 = .ok (.invokevirtual 141, 3) := by decide +kernel
theorem d_M_commit_137 : decode c_M_commit 137 = .ok (.ireturn, 1) := by decide +kernel
theorem d_M_commit_138 : decode c_M_commit 138 = .ok (.aload_n 0, 1) := by decide +kernel
theorem d_M_commit_139 : decode c_M_commit 139 = .ok (.iconst 0, 1) := by decide +kernel
theorem d_M_commit_140 : decode c_M_commit 140 = .ok (.invokevirtual 82, 3) := by decide +kernel
theorem d_M_commit_143 : decode c_M_commit 143 = .ok (.iconst 0, 1) := by decide +kernel
theorem d_M_commit_144 : decode c_M_commit 144 = .ok (.istore 5, 2) := by decide +kernel
theorem d_M_commit_146 : decode c_M_commit 146 = .ok (.iload 5, 2) := by decide +kernel
theorem d_M_commit_148 : decode c_M_commit 148 = .ok (.aload_n 0, 1) := by decide +kernel
theorem d_M_commit_149 : decode c_M_commit 149 = .ok (.invokevirtual 86, 3) := by decide +kernel
theorem d_M_commit_152 : decode c_M_commit 152 = .ok (.if_icmp .ge 17, 3) := by decide +kernel
theorem d_M_commit_155 : decode c_M_commit 155 = .ok (.aload_n 0, 1) := by decide +kernel
theorem d_M_commit_156 : decode c_M_commit 156 = .ok (.getfield 16, 3) := by decide +kernel
theorem d_M_commit_159 : decode c_M_commit 159 = .ok (.iload 5, 2) := by decide +kernel
theorem d_M_commit_161 : decode c_M_commit 161 = .ok (.iconst 0, 1) := by decide +kernel
theorem d_M_commit_162 : decode c_M_commit 162 = .ok (.bastore, 1) := by decide +kernel
theorem d_M_commit_163 : decode c_M_commit 163 = .ok (.iinc 5 1, 3) := by decide +kernel
theorem d_M_commit_166 : decode c_M_commit 166 = .ok (.goto (-20), 3) := by decide +kernel
theorem d_M_commit_169 : decode c_M_commit 169 = .ok (.iload 4, 2) := by decide +kernel
theorem d_M_commit_171 : decode c_M_commit 171 = .ok (.ireturn, 1) := by decide +kernel
theorem d_M_place_0 : decode c_M_place 0 = .ok (.iconst 0, 1) := by decide +kernel
theorem d_M_place_1 : decode c_M_place 1 = .ok (.istore_n 1, 1) := by decide +kernel
theorem d_M_place_2 : decode c_M_place 2 = .ok (.iload_n 1, 1) := by decide +kernel
theorem d_M_place_3 : decode c_M_place 3 = .ok (.aload_n 0, 1) := by decide +kernel
theorem d_M_place_4 : decode c_M_place 4 = .ok (.invokevirtual 86, 3) := by decide +kernel
theorem d_M_place_7 : decode c_M_place 7 = .ok (.if_icmp .ge 31, 3) := by decide +kernel
theorem d_M_place_10 : decode c_M_place 10 = .ok (.aload_n 0, 1) := by decide +kernel
theorem d_M_place_11 : decode c_M_place 11 = .ok (.getfield 51, 3) := by decide +kernel
theorem d_M_place_14 : decode c_M_place 14 = .ok (.iload_n 1, 1) := by decide +kernel
theorem d_M_place_15 : decode c_M_place 15 = .ok (.baload, 1) := by decide +kernel
theorem d_M_place_16 : decode c_M_place 16 = .ok (.ifCond .eq 16, 3) := by decide +kernel
theorem d_M_place_19 : decode c_M_place 19 = .ok (.aload_n 0, 1) := by decide +kernel
theorem d_M_place_20 : decode c_M_place 20 = .ok (.aload_n 0, 1) := by decide +kernel
theorem d_M_place_21 : decode c_M_place 21 = .ok (.getfield 48, 3) := by decide +kernel
theorem d_M_place_24 : decode c_M_place 24 = .ok (.aload_n 0, 1) := by decide +kernel
theorem d_M_place_25 : decode c_M_place 25 = .ok (.getfield 13, 3) := by decide +kernel
theorem d_M_place_28 : decode c_M_place 28 = .ok (.iload_n 1, 1) := by decide +kernel
theorem d_M_place_29 : decode c_M_place 29 = .ok (.invokevirtual 137, 3) := by decide +kernel
theorem d_M_place_32 : decode c_M_place 32 = .ok (.iinc 1 1, 3) := by decide +kernel
theorem d_M_place_35 : decode c_M_place 35 = .ok (.goto (-33), 3) := by decide +kernel
theorem d_M_place_38 : decode c_M_place 38 = .ok (.return_, 1) := by decide +kernel
theorem d_M_forget_0 : decode c_M_forget 0 = .ok (.aload_n 0, 1) := by decide +kernel
theorem d_M_forget_1 : decode c_M_forget 1 = .ok (.iconst 0, 1) := by decide +kernel
theorem d_M_forget_2 : decode c_M_forget 2 = .ok (.putfield 58, 3) := by decide +kernel
theorem d_M_forget_5 : decode c_M_forget 5 = .ok (.aload_n 0, 1) := by decide +kernel
theorem d_M_forget_6 : decode c_M_forget 6 = .ok (.getfield 68, 3) := by decide +kernel
theorem d_M_forget_9 : decode c_M_forget 9 = .ok (.ifCond .eq 6, 3) := by decide +kernel
theorem d_M_forget_12 : decode c_M_forget 12 = .ok (.bipush (-2), 2) := by decide +kernel
theorem d_M_forget_14 : decode c_M_forget 14 = .ok (.ireturn, 1) := by decide +kernel
theorem d_M_forget_15 : decode c_M_forget 15 = .ok (.aload_n 0, 1) := by decide +kernel
theorem d_M_forget_16 : decode c_M_forget 16 = .ok (.invokevirtual 124, 3) := by decide +kernel
theorem d_M_forget_19 : decode c_M_forget 19 = .ok (.istore_n 1, 1) := by decide +kernel
theorem d_M_forget_20 : decode c_M_forget 20 = .ok (.iconst 0, 1) := by decide +kernel
theorem d_M_forget_21 : decode c_M_forget 21 = .ok (.istore_n 2, 1) := by decide +kernel
theorem d_M_forget_22 : decode c_M_forget 22 = .ok (.iload_n 2, 1) := by decide +kernel
theorem d_M_forget_23 : decode c_M_forget 23 = .ok (.aload_n 0, 1) := by decide +kernel
theorem d_M_forget_24 : decode c_M_forget 24 = .ok (.invokevirtual 86, 3) := by decide +kernel
theorem d_M_forget_27 : decode c_M_forget 27 = .ok (.if_icmp .ge 29, 3) := by decide +kernel
theorem d_M_forget_30 : decode c_M_forget 30 = .ok (.aload_n 0, 1) := by decide +kernel
theorem d_M_forget_31 : decode c_M_forget 31 = .ok (.aload_n 0, 1) := by decide +kernel
theorem d_M_forget_32 : decode c_M_forget 32 = .ok (.getfield 13, 3) := by decide +kernel
theorem d_M_forget_35 : decode c_M_forget 35 = .ok (.aload_n 0, 1) := by decide +kernel
theorem d_M_forget_36 : decode c_M_forget 36 = .ok (.getfield 7, 3) := by decide +kernel
theorem d_M_forget_39 : decode c_M_forget 39 = .ok (.iload_n 2, 1) := by decide +kernel
theorem d_M_forget_40 : decode c_M_forget 40 = .ok (.invokevirtual 137, 3) := by decide +kernel
theorem d_M_forget_43 : decode c_M_forget 43 = .ok (.aload_n 0, 1) := by decide +kernel
theorem d_M_forget_44 : decode c_M_forget 44 = .ok (.getfield 16, 3) := by decide +kernel
theorem d_M_forget_47 : decode c_M_forget 47 = .ok (.iload_n 2, 1) := by decide +kernel
theorem d_M_forget_48 : decode c_M_forget 48 = .ok (.iconst 0, 1) := by decide +kernel
theorem d_M_forget_49 : decode c_M_forget 49 = .ok (.bastore, 1) := by decide +kernel
theorem d_M_forget_50 : decode c_M_forget 50 = .ok (.iinc 2 1, 3) := by decide +kernel
theorem d_M_forget_53 : decode c_M_forget 53 = .ok (.goto (-31), 3) := by decide +kernel
theorem d_M_forget_56 : decode c_M_forget 56 = .ok (.iload_n 1, 1) := by decide +kernel
theorem d_M_forget_57 : decode c_M_forget 57 = .ok (.ireturn, 1) := by decide +kernel
theorem d_M_lose_0 : decode c_M_lose 0 = .ok (.aload_n 0, 1) := by decide +kernel
theorem d_M_lose_1 : decode c_M_lose 1 = .ok (.iconst 0, 1) := by decide +kernel
theorem d_M_lose_2 : decode c_M_lose 2 = .ok (.putfield 58, 3) := by decide +kernel
theorem d_M_lose_5 : decode c_M_lose 5 = .ok (.aload_n 0, 1) := by decide +kernel
theorem d_M_lose_6 : decode c_M_lose 6 = .ok (.iload_n 1, 1) := by decide +kernel
theorem d_M_lose_7 : decode c_M_lose 7 = .ok (.invokevirtual 117, 3) := by decide +kernel
theorem d_M_lose_10 : decode c_M_lose 10 = .ok (.ifCond .ne 12, 3) := by decide +kernel
theorem d_M_lose_13 : decode c_M_lose 13 = .ok (.aload_n 0, 1) := by decide +kernel
theorem d_M_lose_14 : decode c_M_lose 14 = .ok (.getfield 20, 3) := by decide +kernel
theorem d_M_lose_17 : decode c_M_lose 17 = .ok (.iload_n 1, 1) := by decide +kernel
theorem d_M_lose_18 : decode c_M_lose 18 = .ok (.baload, 1) := by decide +kernel
theorem d_M_lose_19 : decode c_M_lose 19 = .ok (.ifCond .eq 5, 3) := by decide +kernel
theorem d_M_lose_22 : decode c_M_lose 22 = .ok (.iconst (-1), 1) := by decide +kernel
theorem d_M_lose_23 : decode c_M_lose 23 = .ok (.ireturn, 1) := by decide +kernel
theorem d_M_lose_24 : decode c_M_lose 24 = .ok (.iconst 2, 1) := by decide +kernel
theorem d_M_lose_25 : decode c_M_lose 25 = .ok (.istore_n 2, 1) := by decide +kernel
theorem d_M_lose_26 : decode c_M_lose 26 = .ok (.iload_n 2, 1) := by decide +kernel
theorem d_M_lose_27 : decode c_M_lose 27 = .ok (.aload_n 0, 1) := by decide +kernel
theorem d_M_lose_28 : decode c_M_lose 28 = .ok (.getfield 65, 3) := by decide +kernel
theorem d_M_lose_31 : decode c_M_lose 31 = .ok (.if_icmp .ge 30, 3) := by decide +kernel
theorem d_M_lose_34 : decode c_M_lose 34 = .ok (.aload_n 0, 1) := by decide +kernel
theorem d_M_lose_35 : decode c_M_lose 35 = .ok (.iload_n 1, 1) := by decide +kernel
theorem d_M_lose_36 : decode c_M_lose 36 = .ok (.iload_n 2, 1) := by decide +kernel
theorem d_M_lose_37 : decode c_M_lose 37 = .ok (.invokevirtual 110, 3) := by decide +kernel
theorem d_M_lose_40 : decode c_M_lose 40 = .ok (.ifCond .ne 15, 3) := by decide +kernel
theorem d_M_lose_43 : decode c_M_lose 43 = .ok (.aload_n 0, 1) := by decide +kernel
theorem d_M_lose_44 : decode c_M_lose 44 = .ok (.iload_n 2, 1) := by decide +kernel
theorem d_M_lose_45 : decode c_M_lose 45 = .ok (.invokevirtual 114, 3) := by decide +kernel
theorem d_M_lose_48 : decode c_M_lose 48 = .ok (.iconst 2, 1) := by decide +kernel
theorem d_M_lose_49 : decode c_M_lose 49 = .ok (.if_icmp .ne 6, 3) := by decide +kernel
theorem d_M_lose_52 : decode c_M_lose 52 = .ok (.bipush (-3), 2) := by decide +kernel
theorem d_M_lose_54 : decode c_M_lose 54 = .ok (.ireturn, 1) := by decide +kernel
theorem d_M_lose_55 : decode c_M_lose 55 = .ok (.iinc 2 1, 3) := by decide +kernel
theorem d_M_lose_58 : decode c_M_lose 58 = .ok (.goto (-32), 3) := by decide +kernel
theorem d_M_lose_61 : decode c_M_lose 61 = .ok (.aload_n 0, 1) := by decide +kernel
theorem d_M_lose_62 : decode c_M_lose 62 = .ok (.getfield 20, 3) := by decide +kernel
theorem d_M_lose_65 : decode c_M_lose 65 = .ok (.iload_n 1, 1) := by decide +kernel
theorem d_M_lose_66 : decode c_M_lose 66 = .ok (.iconst 1, 1) := by decide +kernel
theorem d_M_lose_67 : decode c_M_lose 67 = .ok (.bastore, 1) := by decide +kernel
theorem d_M_lose_68 : decode c_M_lose 68 = .ok (.aload_n 0, 1) := by decide +kernel
theorem d_M_lose_69 : decode c_M_lose 69 = .ok (.iload_n 1, 1) := by decide +kernel
theorem d_M_lose_70 : decode c_M_lose 70 = .ok (.invokevirtual 78, 3) := by decide +kernel
theorem d_M_lose_73 : decode c_M_lose 73 = .ok (.iconst 0, 1) := by decide +kernel
theorem d_M_lose_74 : decode c_M_lose 74 = .ok (.istore_n 2, 1) := by decide +kernel
theorem d_M_lose_75 : decode c_M_lose 75 = .ok (.iload_n 2, 1) := by decide +kernel
theorem d_M_lose_76 : decode c_M_lose 76 = .ok (.bipush 40, 2) := by decide +kernel
theorem d_M_lose_78 : decode c_M_lose 78 = .ok (.if_icmp .ge 21, 3) := by decide +kernel
theorem d_M_lose_81 : decode c_M_lose 81 = .ok (.aload_n 0, 1) := by decide +kernel
theorem d_M_lose_82 : decode c_M_lose 82 = .ok (.getfield 30, 3) := by decide +kernel
theorem d_M_lose_85 : decode c_M_lose 85 = .ok (.bipush 40, 2) := by decide +kernel
theorem d_M_lose_87 : decode c_M_lose 87 = .ok (.iload_n 1, 1) := by decide +kernel
theorem d_M_lose_88 : decode c_M_lose 88 = .ok (.imul, 1) := by decide +kernel
theorem d_M_lose_89 : decode c_M_lose 89 = .ok (.iload_n 2, 1) := by decide +kernel
theorem d_M_lose_90 : decode c_M_lose 90 = .ok (.iadd, 1) := by decide +kernel
theorem d_M_lose_91 : decode c_M_lose 91 = .ok (.iconst 0, 1) := by decide +kernel
theorem d_M_lose_92 : decode c_M_lose 92 = .ok (.bastore, 1) := by decide +kernel
theorem d_M_lose_93 : decode c_M_lose 93 = .ok (.iinc 2 1, 3) := by decide +kernel
theorem d_M_lose_96 : decode c_M_lose 96 = .ok (.goto (-21), 3) := by decide +kernel
theorem d_M_lose_99 : decode c_M_lose 99 = .ok (.aload_n 0, 1) := by decide +kernel
theorem d_M_lose_100 : decode c_M_lose 100 = .ok (.invokevirtual 148, 3) := by decide +kernel
theorem d_M_lose_103 : decode c_M_lose 103 = .ok (.ireturn, 1) := by decide +kernel
theorem d_M_replace_0 : decode c_M_replace 0 = .ok (.aload_n 0, 1) := by decide +kernel
theorem d_M_replace_1 : decode c_M_replace 1 = .ok (.iconst 0, 1) := by decide +kernel
theorem d_M_replace_2 : decode c_M_replace 2 = .ok (.putfield 58, 3) := by decide +kernel
theorem d_M_replace_5 : decode c_M_replace 5 = .ok (.aload_n 0, 1) := by decide +kernel
theorem d_M_replace_6 : decode c_M_replace 6 = .ok (.iload_n 1, 1) := by decide +kernel
theorem d_M_replace_7 : decode c_M_replace 7 = .ok (.invokevirtual 117, 3) := by decide +kernel
theorem d_M_replace_10 : decode c_M_replace 10 = .ok (.ifCond .ne 12, 3) := by decide +kernel
theorem d_M_replace_13 : decode c_M_replace 13 = .ok (.aload_n 0, 1) := by decide +kernel
theorem d_M_replace_14 : decode c_M_replace 14 = .ok (.getfield 20, 3) := by decide +kernel
theorem d_M_replace_17 : decode c_M_replace 17 = .ok (.iload_n 1, 1) := by decide +kernel
theorem d_M_replace_18 : decode c_M_replace 18 = .ok (.baload, 1) := by decide +kernel
theorem d_M_replace_19 : decode c_M_replace 19 = .ok (.ifCond .ne 5, 3) := by decide +kernel
theorem d_M_replace_22 : decode c_M_replace 22 = .ok (.iconst (-1), 1) := by decide +kernel
theorem d_M_replace_23 : decode c_M_replace 23 = .ok (.ireturn, 1) := by decide +kernel
theorem d_M_replace_24 : decode c_M_replace 24 = .ok (.aload_n 0, 1) := by decide +kernel
theorem d_M_replace_25 : decode c_M_replace 25 = .ok (.getfield 20, 3) := by decide +kernel
theorem d_M_replace_28 : decode c_M_replace 28 = .ok (.iload_n 1, 1) := by decide +kernel
theorem d_M_replace_29 : decode c_M_replace 29 = .ok (.iconst 0, 1) := by decide +kernel
theorem d_M_replace_30 : decode c_M_replace 30 = .ok (.bastore, 1) := by decide +kernel
theorem d_M_replace_31 : decode c_M_replace 31 = .ok (.aload_n 0, 1) := by decide +kernel
theorem d_M_replace_32 : decode c_M_replace 32 = .ok (.getfield 23, 3) := by decide +kernel
theorem d_M_replace_35 : decode c_M_replace 35 = .ok (.iload_n 1, 1) := by decide +kernel
theorem d_M_replace_36 : decode c_M_replace 36 = .ok (.iconst 0, 1) := by decide +kernel
theorem d_M_replace_37 : decode c_M_replace 37 = .ok (.iastore, 1) := by decide +kernel
theorem d_M_replace_38 : decode c_M_replace 38 = .ok (.aload_n 0, 1) := by decide +kernel
theorem d_M_replace_39 : decode c_M_replace 39 = .ok (.getfield 68, 3) := by decide +kernel
theorem d_M_replace_42 : decode c_M_replace 42 = .ok (.ifCond .ne 8, 3) := by decide +kernel
theorem d_M_replace_45 : decode c_M_replace 45 = .ok (.aload_n 0, 1) := by decide +kernel
theorem d_M_replace_46 : decode c_M_replace 46 = .ok (.iconst 0, 1) := by decide +kernel
theorem d_M_replace_47 : decode c_M_replace 47 = .ok (.invokevirtual 82, 3) := by decide +kernel
theorem d_M_replace_50 : decode c_M_replace 50 = .ok (.iconst 0, 1) := by decide +kernel
theorem d_M_replace_51 : decode c_M_replace 51 = .ok (.ireturn, 1) := by decide +kernel
theorem d_M_rot_0 : decode c_M_rot 0 = .ok (.aload_n 0, 1) := by decide +kernel
theorem d_M_rot_1 : decode c_M_rot 1 = .ok (.iconst 0, 1) := by decide +kernel
theorem d_M_rot_2 : decode c_M_rot 2 = .ok (.putfield 58, 3) := by decide +kernel
theorem d_M_rot_5 : decode c_M_rot 5 = .ok (.aload_n 0, 1) := by decide +kernel
theorem d_M_rot_6 : decode c_M_rot 6 = .ok (.iload_n 1, 1) := by decide +kernel
theorem d_M_rot_7 : decode c_M_rot 7 = .ok (.invokevirtual 117, 3) := by decide +kernel
theorem d_M_rot_10 : decode c_M_rot 10 = .ok (.ifCond .ne 25, 3) := by decide +kernel
theorem d_M_rot_13 : decode c_M_rot 13 = .ok (.iload_n 2, 1) := by decide +kernel
theorem d_M_rot_14 : decode c_M_rot 14 = .ok (.iconst 2, 1) := by decide +kernel
theorem d_M_rot_15 : decode c_M_rot 15 = .ok (.if_icmp .lt 20, 3) := by decide +kernel
theorem d_M_rot_18 : decode c_M_rot 18 = .ok (.iload_n 2, 1) := by decide +kernel
theorem d_M_rot_19 : decode c_M_rot 19 = .ok (.aload_n 0, 1) := by decide +kernel
theorem d_M_rot_20 : decode c_M_rot 20 = .ok (.getfield 65, 3) := by decide +kernel
theorem d_M_rot_23 : decode c_M_rot 23 = .ok (.if_icmp .ge 12, 3) := by decide +kernel
theorem d_M_rot_26 : decode c_M_rot 26 = .ok (.aload_n 0, 1) := by decide +kernel
theorem d_M_rot_27 : decode c_M_rot 27 = .ok (.iload_n 1, 1) := by decide +kernel
theorem d_M_rot_28 : decode c_M_rot 28 = .ok (.iload_n 2, 1) := by decide +kernel
theorem d_M_rot_29 : decode c_M_rot 29 = .ok (.invokevirtual 110, 3) := by decide +kernel
theorem d_M_rot_32 : decode c_M_rot 32 = .ok (.ifCond .eq 5, 3) := by decide +kernel
theorem d_M_rot_35 : decode c_M_rot 35 = .ok (.iconst (-1), 1) := by decide +kernel
theorem d_M_rot_36 : decode c_M_rot 36 = .ok (.ireturn, 1) := by decide +kernel
theorem d_M_rot_37 : decode c_M_rot 37 = .ok (.aload_n 0, 1) := by decide +kernel
theorem d_M_rot_38 : decode c_M_rot 38 = .ok (.iload_n 2, 1) := by decide +kernel
theorem d_M_rot_39 : decode c_M_rot 39 = .ok (.invokevirtual 114, 3) := by decide +kernel
theorem d_M_rot_42 : decode c_M_rot 42 = .ok (.iconst 2, 1) := by decide +kernel
theorem d_M_rot_43 : decode c_M_rot 43 = .ok (.if_icmp .ne 6, 3) := by decide +kernel
theorem d_M_rot_46 : decode c_M_rot 46 = .ok (.bipush (-3), 2) := by decide +kernel
theorem d_M_rot_48 : decode c_M_rot 48 = .ok (.ireturn, 1) := by decide +kernel
theorem d_M_rot_49 : decode c_M_rot 49 = .ok (.aload_n 0, 1) := by decide +kernel
theorem d_M_rot_50 : decode c_M_rot 50 = .ok (.getfield 30, 3) := by decide +kernel
theorem d_M_rot_53 : decode c_M_rot 53 = .ok (.bipush 40, 2) := by decide +kernel
theorem d_M_rot_55 : decode c_M_rot 55 = .ok (.iload_n 1, 1) := by decide +kernel
theorem d_M_rot_56 : decode c_M_rot 56 = .ok (.imul, 1) := by decide +kernel
theorem d_M_rot_57 : decode c_M_rot 57 = .ok (.iload_n 2, 1) := by decide +kernel
theorem d_M_rot_58 : decode c_M_rot 58 = .ok (.iadd, 1) := by decide +kernel
theorem d_M_rot_59 : decode c_M_rot 59 = .ok (.iconst 1, 1) := by decide +kernel
theorem d_M_rot_60 : decode c_M_rot 60 = .ok (.bastore, 1) := by decide +kernel
theorem d_M_rot_61 : decode c_M_rot 61 = .ok (.aload_n 0, 1) := by decide +kernel
theorem d_M_rot_62 : decode c_M_rot 62 = .ok (.iload_n 2, 1) := by decide +kernel
theorem d_M_rot_63 : decode c_M_rot 63 = .ok (.invokevirtual 114, 3) := by decide +kernel
theorem d_M_rot_66 : decode c_M_rot 66 = .ok (.ireturn, 1) := by decide +kernel
theorem d_M_fill_0 : decode c_M_fill 0 = .ok (.aload_n 0, 1) := by decide +kernel
theorem d_M_fill_1 : decode c_M_fill 1 = .ok (.iconst 0, 1) := by decide +kernel
theorem d_M_fill_2 : decode c_M_fill 2 = .ok (.putfield 58, 3) := by decide +kernel
theorem d_M_fill_5 : decode c_M_fill 5 = .ok (.aload_n 0, 1) := by decide +kernel
theorem d_M_fill_6 : decode c_M_fill 6 = .ok (.getfield 68, 3) := by decide +kernel
theorem d_M_fill_9 : decode c_M_fill 9 = .ok (.ifCond .eq 6, 3) := by decide +kernel
theorem d_M_fill_12 : decode c_M_fill 12 = .ok (.bipush (-2), 2) := by decide +kernel
theorem d_M_fill_14 : decode c_M_fill 14 = .ok (.ireturn, 1) := by decide +kernel
theorem d_M_fill_15 : decode c_M_fill 15 = .ok (.aload_n 0, 1) := by decide +kernel
theorem d_M_fill_16 : decode c_M_fill 16 = .ok (.iload_n 1, 1) := by decide +kernel
theorem d_M_fill_17 : decode c_M_fill 17 = .ok (.invokevirtual 117, 3) := by decide +kernel
theorem d_M_fill_20 : decode c_M_fill 20 = .ok (.ifCond .ne 20, 3) := by decide +kernel
theorem d_M_fill_23 : decode c_M_fill 23 = .ok (.aload_n 0, 1) := by decide +kernel
theorem d_M_fill_24 : decode c_M_fill 24 = .ok (.iload_n 1, 1) := by decide +kernel
theorem d_M_fill_25 : decode c_M_fill 25 = .ok (.invokevirtual 151, 3) := by decide +kernel
theorem d_M_fill_28 : decode c_M_fill 28 = .ok (.ifCond .eq 12, 3) := by decide +kernel
theorem d_M_fill_31 : decode c_M_fill 31 = .ok (.iload_n 2, 1) := by decide +kernel
theorem d_M_fill_32 : decode c_M_fill 32 = .ok (.ifCond .lt 8, 3) := by decide +kernel
theorem d_M_fill_35 : decode c_M_fill 35 = .ok (.iload_n 2, 1) := by decide +kernel
theorem d_M_fill_36 : decode c_M_fill 36 = .ok (.iconst 2, 1) := by decide +kernel
theorem d_M_fill_37 : decode c_M_fill 37 = .ok (.if_icmp .le 5, 3) := by decide +kernel
theorem d_M_fill_40 : decode c_M_fill 40 = .ok (.iconst (-1), 1) := by decide +kernel
theorem d_M_fill_41 : decode c_M_fill 41 = .ok (.ireturn, 1) := by decide +kernel
theorem d_M_fill_42 : decode c_M_fill 42 = .ok (.iload_n 2, 1) := by decide +kernel
theorem d_M_fill_43 : decode c_M_fill 43 = .ok (.iconst 1, 1) := by decide +kernel
theorem d_M_fill_44 : decode c_M_fill 44 = .ok (.if_icmp .ne 8, 3) := by decide +kernel
theorem d_M_fill_47 : decode c_M_fill 47 = .ok (.aload_n 0, 1) := by decide +kernel
theorem d_M_fill_48 : decode c_M_fill 48 = .ok (.invokevirtual 107, 3) := by decide +kernel
theorem d_M_fill_51 : decode c_M_fill 51 = .ok (.ireturn, 1) := by decide +kernel
theorem d_M_fill_52 : decode c_M_fill 52 = .ok (.aload_n 0, 1) := by decide +kernel
theorem d_M_fill_53 : decode c_M_fill 53 = .ok (.getfield 23, 3) := by decide +kernel
theorem d_M_fill_56 : decode c_M_fill 56 = .ok (.iload_n 1, 1) := by decide +kernel
theorem d_M_fill_57 : decode c_M_fill 57 = .ok (.dup2, 1) := by decide +kernel
theorem d_M_fill_58 : decode c_M_fill 58 = .ok (.iaload, 1) := by decide +kernel
theorem d_M_fill_59 : decode c_M_fill 59 = .ok (.iconst 1, 1) := by decide +kernel
theorem d_M_fill_60 : decode c_M_fill 60 = .ok (.iadd, 1) := by decide +kernel
theorem d_M_fill_61 : decode c_M_fill 61 = .ok (.iastore, 1) := by decide +kernel
theorem d_M_fill_62 : decode c_M_fill 62 = .ok (.iload_n 2, 1) := by decide +kernel
theorem d_M_fill_63 : decode c_M_fill 63 = .ok (.iconst 2, 1) := by decide +kernel
theorem d_M_fill_64 : decode c_M_fill 64 = .ok (.if_icmp .ne 34, 3) := by decide +kernel
theorem d_M_fill_67 : decode c_M_fill 67 = .ok (.aload_n 0, 1) := by decide +kernel
theorem d_M_fill_68 : decode c_M_fill 68 = .ok (.iconst 0, 1) := by decide +kernel
theorem d_M_fill_69 : decode c_M_fill 69 = .ok (.invokevirtual 100, 3) := by decide +kernel
theorem d_M_fill_72 : decode c_M_fill 72 = .ok (.aload_n 0, 1) := by decide +kernel
theorem d_M_fill_73 : decode c_M_fill 73 = .ok (.getfield 23, 3) := by decide +kernel
theorem d_M_fill_76 : decode c_M_fill 76 = .ok (.iload_n 1, 1) := by decide +kernel
theorem d_M_fill_77 : decode c_M_fill 77 = .ok (.dup2, 1) := by decide +kernel
theorem d_M_fill_78 : decode c_M_fill 78 = .ok (.iaload, 1) := by decide +kernel
theorem d_M_fill_79 : decode c_M_fill 79 = .ok (.iconst 1, 1) := by decide +kernel
theorem d_M_fill_80 : decode c_M_fill 80 = .ok (.isub, 1) := by decide +kernel
theorem d_M_fill_81 : decode c_M_fill 81 = .ok (.iastore, 1) := by decide +kernel
theorem d_M_fill_82 : decode c_M_fill 82 = .ok (.aload_n 0, 1) := by decide +kernel
theorem d_M_fill_83 : decode c_M_fill 83 = .ok (.aload_n 0, 1) := by decide +kernel
theorem d_M_fill_84 : decode c_M_fill 84 = .ok (.getfield 72, 3) := by decide +kernel
theorem d_M_fill_87 : decode c_M_fill 87 = .ok (.iconst 0, 1) := by decide +kernel
theorem d_M_fill_88 : decode c_M_fill 88 = .ok (.iconst 1, 1) := by decide +kernel
theorem d_M_fill_89 : decode c_M_fill 89 = .ok (.lload_n 3, 1) := by decide +kernel
theorem d_M_fill_90 : decode c_M_fill 90 = .ok (.invokevirtual 103, 3) := by decide +kernel
theorem d_M_fill_93 : decode c_M_fill 93 = .ok (.aload_n 0, 1) := by decide +kernel
theorem d_M_fill_94 : decode c_M_fill 94 = .ok (.invokevirtual 107, 3) := by decide +kernel
theorem d_M_fill_97 : decode c_M_fill 97 = .ok (.ireturn, 1) := by decide +kernel
theorem d_M_fill_98 : decode c_M_fill 98 = .ok (.aload_n 0, 1) := by decide +kernel
theorem d_M_fill_99 : decode c_M_fill 99 = .ok (.iconst 0, 1) := by decide +kernel
theorem d_M_fill_100 : decode c_M_fill 100 = .ok (.invokevirtual 82, 3) := by decide +kernel
theorem d_M_fill_103 : decode c_M_fill 103 = .ok (.aload_n 0, 1) := by decide +kernel
theorem d_M_fill_104 : decode c_M_fill 104 = .ok (.getfield 23, 3) := by decide +kernel
theorem d_M_fill_107 : decode c_M_fill 107 = .ok (.iload_n 1, 1) := by decide +kernel
theorem d_M_fill_108 : decode c_M_fill 108 = .ok (.iaload, 1) := by decide +kernel
theorem d_M_fill_109 : decode c_M_fill 109 = .ok (.ireturn, 1) := by decide +kernel
theorem d_M_scrub_0 : decode c_M_scrub 0 = .ok (.aload_n 0, 1) := by decide +kernel
theorem d_M_scrub_1 : decode c_M_scrub 1 = .ok (.iconst 0, 1) := by decide +kernel
theorem d_M_scrub_2 : decode c_M_scrub 2 = .ok (.putfield 58, 3) := by decide +kernel
theorem d_M_scrub_5 : decode c_M_scrub 5 = .ok (.aload_n 0, 1) := by decide +kernel
theorem d_M_scrub_6 : decode c_M_scrub 6 = .ok (.getfield 68, 3) := by decide +kernel
theorem d_M_scrub_9 : decode c_M_scrub 9 = .ok (.ifCond .eq 6, 3) := by decide +kernel
theorem d_M_scrub_12 : decode c_M_scrub 12 = .ok (.bipush (-2), 2) := by decide +kernel
theorem d_M_scrub_14 : decode c_M_scrub 14 = .ok (.ireturn, 1) := by decide +kernel
theorem d_M_scrub_15 : decode c_M_scrub 15 = .ok (.iload_n 1, 1) := by decide +kernel
theorem d_M_scrub_16 : decode c_M_scrub 16 = .ok (.iconst 2, 1) := by decide +kernel
theorem d_M_scrub_17 : decode c_M_scrub 17 = .ok (.if_icmp .lt 20, 3) := by decide +kernel
theorem d_M_scrub_20 : decode c_M_scrub 20 = .ok (.iload_n 1, 1) := by decide +kernel
theorem d_M_scrub_21 : decode c_M_scrub 21 = .ok (.aload_n 0, 1) := by decide +kernel
theorem d_M_scrub_22 : decode c_M_scrub 22 = .ok (.getfield 65, 3) := by decide +kernel
theorem d_M_scrub_25 : decode c_M_scrub 25 = .ok (.if_icmp .ge 12, 3) := by decide +kernel
theorem d_M_scrub_28 : decode c_M_scrub 28 = .ok (.iload_n 2, 1) := by decide +kernel
theorem d_M_scrub_29 : decode c_M_scrub 29 = .ok (.ifCond .lt 8, 3) := by decide +kernel
theorem d_M_scrub_32 : decode c_M_scrub 32 = .ok (.iload_n 2, 1) := by decide +kernel
theorem d_M_scrub_33 : decode c_M_scrub 33 = .ok (.iconst 1, 1) := by decide +kernel
theorem d_M_scrub_34 : decode c_M_scrub 34 = .ok (.if_icmp .le 5, 3) := by decide +kernel
theorem d_M_scrub_37 : decode c_M_scrub 37 = .ok (.iconst (-1), 1) := by decide +kernel
theorem d_M_scrub_38 : decode c_M_scrub 38 = .ok (.ireturn, 1) := by decide +kernel
theorem d_M_scrub_39 : decode c_M_scrub 39 = .ok (.iconst 0, 1) := by decide +kernel
theorem d_M_scrub_40 : decode c_M_scrub 40 = .ok (.istore 5, 2) := by decide +kernel
theorem d_M_scrub_42 : decode c_M_scrub 42 = .ok (.iconst 0, 1) := by decide +kernel
theorem d_M_scrub_43 : decode c_M_scrub 43 = .ok (.istore 6, 2) := by decide +kernel
theorem d_M_scrub_45 : decode c_M_scrub 45 = .ok (.iload 6, 2) := by decide +kernel
theorem d_M_scrub_47 : decode c_M_scrub 47 = .ok (.aload_n 0, 1) := by decide +kernel
theorem d_M_scrub_48 : decode c_M_scrub 48 = .ok (.getfield 62, 3) := by decide +kernel
theorem d_M_scrub_51 : decode c_M_scrub 51 = .ok (.if_icmp .ge 34, 3) := by decide +kernel
theorem d_M_scrub_54 : decode c_M_scrub 54 = .ok (.iload 5, 2) := by decide +kernel
theorem d_M_scrub_56 : decode c_M_scrub 56 = .ok (.aload_n 0, 1) := by decide +kernel
theorem d_M_scrub_57 : decode c_M_scrub 57 = .ok (.getfield 30, 3) := by decide +kernel
theorem d_M_scrub_60 : decode c_M_scrub 60 = .ok (.bipush 40, 2) := by decide +kernel
theorem d_M_scrub_62 : decode c_M_scrub 62 = .ok (.iload 6, 2) := by decide +kernel
theorem d_M_scrub_64 : decode c_M_scrub 64 = .ok (.imul, 1) := by decide +kernel
theorem d_M_scrub_65 : decode c_M_scrub 65 = .ok (.iload_n 1, 1) := by decide +kernel
theorem d_M_scrub_66 : decode c_M_scrub 66 = .ok (.iadd, 1) := by decide +kernel
theorem d_M_scrub_67 : decode c_M_scrub 67 = .ok (.baload, 1) := by decide +kernel
theorem d_M_scrub_68 : decode c_M_scrub 68 = .ok (.ifCond .eq 7, 3) := by decide +kernel
theorem d_M_scrub_71 : decode c_M_scrub 71 = .ok (.iconst 1, 1) := by decide +kernel
theorem d_M_scrub_72 : decode c_M_scrub 72 = .ok (.goto 4, 3) := by decide +kernel
theorem d_M_scrub_75 : decode c_M_scrub 75 = .ok (.iconst 0, 1) := by decide +kernel
theorem d_M_scrub_76 : decode c_M_scrub 76 = .ok (.iadd, 1) := by decide +kernel
theorem d_M_scrub_77 : decode c_M_scrub 77 = .ok (.istore 5, 2) := by decide +kernel
theorem d_M_scrub_79 : decode c_M_scrub 79 = .ok (.iinc 6 1, 3) := by decide +kernel
theorem d_M_scrub_82 : decode c_M_scrub 82 = .ok (.goto (-37), 3) := by decide +kernel
theorem d_M_scrub_85 : decode c_M_scrub 85 = .ok (.iload 5, 2) := by decide +kernel
theorem d_M_scrub_87 : decode c_M_scrub 87 = .ok (.ifCond .le 13, 3) := by decide +kernel
theorem d_M_scrub_90 : decode c_M_scrub 90 = .ok (.iload_n 2, 1) := by decide +kernel
theorem d_M_scrub_91 : decode c_M_scrub 91 = .ok (.iconst 1, 1) := by decide +kernel
theorem d_M_scrub_92 : decode c_M_scrub 92 = .ok (.if_icmp .ne 8, 3) := by decide +kernel
theorem d_M_scrub_95 : decode c_M_scrub 95 = .ok (.aload_n 0, 1) := by decide +kernel
theorem d_M_scrub_96 : decode c_M_scrub 96 = .ok (.invokevirtual 107, 3) := by decide +kernel
theorem d_M_scrub_99 : decode c_M_scrub 99 = .ok (.ireturn, 1) := by decide +kernel
theorem d_M_scrub_100 : decode c_M_scrub 100 = .ok (.iconst 0, 1) := by decide +kernel
theorem d_M_scrub_101 : decode c_M_scrub 101 = .ok (.istore 6, 2) := by decide +kernel
theorem d_M_scrub_103 : decode c_M_scrub 103 = .ok (.iload 6, 2) := by decide +kernel
theorem d_M_scrub_105 : decode c_M_scrub 105 = .ok (.aload_n 0, 1) := by decide +kernel
theorem d_M_scrub_106 : decode c_M_scrub 106 = .ok (.getfield 62, 3) := by decide +kernel
theorem d_M_scrub_109 : decode c_M_scrub 109 = .ok (.if_icmp .ge 22, 3) := by decide +kernel
theorem d_M_scrub_112 : decode c_M_scrub 112 = .ok (.aload_n 0, 1) := by decide +kernel
theorem d_M_scrub_113 : decode c_M_scrub 113 = .ok (.getfield 30, 3) := by decide +kernel
theorem d_M_scrub_116 : decode c_M_scrub 116 = .ok (.bipush 40, 2) := by decide +kernel
theorem d_M_scrub_118 : decode c_M_scrub 118 = .ok (.iload 6, 2) := by decide +kernel
theorem d_M_scrub_120 : decode c_M_scrub 120 = .ok (.imul, 1) := by decide +kernel
theorem d_M_scrub_121 : decode c_M_scrub 121 = .ok (.iload_n 1, 1) := by decide +kernel
theorem d_M_scrub_122 : decode c_M_scrub 122 = .ok (.iadd, 1) := by decide +kernel
theorem d_M_scrub_123 : decode c_M_scrub 123 = .ok (.iconst 0, 1) := by decide +kernel
theorem d_M_scrub_124 : decode c_M_scrub 124 = .ok (.bastore, 1) := by decide +kernel
theorem d_M_scrub_125 : decode c_M_scrub 125 = .ok (.iinc 6 1, 3) := by decide +kernel
theorem d_M_scrub_128 : decode c_M_scrub 128 = .ok (.goto (-25), 3) := by decide +kernel
theorem d_M_scrub_131 : decode c_M_scrub 131 = .ok (.iload 5, 2) := by decide +kernel
theorem d_M_scrub_133 : decode c_M_scrub 133 = .ok (.ireturn, 1) := by decide +kernel
theorem d_M_fail_0 : decode c_M_fail 0 = .ok (.aload_n 0, 1) := by decide +kernel
theorem d_M_fail_1 : decode c_M_fail 1 = .ok (.iconst 0, 1) := by decide +kernel
theorem d_M_fail_2 : decode c_M_fail 2 = .ok (.putfield 58, 3) := by decide +kernel
theorem d_M_fail_5 : decode c_M_fail 5 = .ok (.aload_n 0, 1) := by decide +kernel
theorem d_M_fail_6 : decode c_M_fail 6 = .ok (.getfield 68, 3) := by decide +kernel
theorem d_M_fail_9 : decode c_M_fail 9 = .ok (.ifCond .eq 8, 3) := by decide +kernel
theorem d_M_fail_12 : decode c_M_fail 12 = .ok (.bipush (-2), 2) := by decide +kernel
theorem d_M_fail_14 : decode c_M_fail 14 = .ok (.goto 10, 3) := by decide +kernel
theorem d_M_fail_17 : decode c_M_fail 17 = .ok (.aload_n 0, 1) := by decide +kernel
theorem d_M_fail_18 : decode c_M_fail 18 = .ok (.invokevirtual 107, 3) := by decide +kernel
theorem d_M_fail_21 : decode c_M_fail 21 = .ok (.bipush (-2), 2) := by decide +kernel
theorem d_M_fail_23 : decode c_M_fail 23 = .ok (.isub, 1) := by decide +kernel
theorem d_M_fail_24 : decode c_M_fail 24 = .ok (.ireturn, 1) := by decide +kernel
theorem d_M_writes_0 : decode c_M_writes 0 = .ok (.iload_n 1, 1) := by decide +kernel
theorem d_M_writes_1 : decode c_M_writes 1 = .ok (.aload_n 0, 1) := by decide +kernel
theorem d_M_writes_2 : decode c_M_writes 2 = .ok (.getfield 62, 3) := by decide +kernel
theorem d_M_writes_5 : decode c_M_writes 5 = .ok (.irem, 1) := by decide +kernel
theorem d_M_writes_6 : decode c_M_writes 6 = .ok (.istore_n 3, 1) := by decide +kernel
theorem d_M_writes_7 : decode c_M_writes 7 = .ok (.aload_n 0, 1) := by decide +kernel
theorem d_M_writes_8 : decode c_M_writes 8 = .ok (.getfield 20, 3) := by decide +kernel
theorem d_M_writes_11 : decode c_M_writes 11 = .ok (.iload_n 3, 1) := by decide +kernel
theorem d_M_writes_12 : decode c_M_writes 12 = .ok (.baload, 1) := by decide +kernel
theorem d_M_writes_13 : decode c_M_writes 13 = .ok (.ifCond .ne 13, 3) := by decide +kernel
theorem d_M_writes_16 : decode c_M_writes 16 = .ok (.iload_n 2, 1) := by decide +kernel
theorem d_M_writes_17 : decode c_M_writes 17 = .ok (.aload_n 0, 1) := by decide +kernel
theorem d_M_writes_18 : decode c_M_writes 18 = .ok (.getfield 23, 3) := by decide +kernel
theorem d_M_writes_21 : decode c_M_writes 21 = .ok (.iload_n 3, 1) := by decide +kernel
theorem d_M_writes_22 : decode c_M_writes 22 = .ok (.iaload, 1) := by decide +kernel
theorem d_M_writes_23 : decode c_M_writes 23 = .ok (.if_icmp .lt 7, 3) := by decide +kernel
theorem d_M_writes_26 : decode c_M_writes 26 = .ok (.iconst 0, 1) := by decide +kernel
theorem d_M_writes_27 : decode c_M_writes 27 = .ok (.goto 4, 3) := by decide +kernel
theorem d_M_writes_30 : decode c_M_writes 30 = .ok (.iconst 1, 1) := by decide +kernel
theorem d_M_writes_31 : decode c_M_writes 31 = .ok (.ireturn, 1) := by decide +kernel
theorem d_M_placed_0 : decode c_M_placed 0 = .ok (.iconst 0, 1) := by decide +kernel
theorem d_M_placed_1 : decode c_M_placed 1 = .ok (.istore_n 1, 1) := by decide +kernel
theorem d_M_placed_2 : decode c_M_placed 2 = .ok (.bipush 6, 2) := by decide +kernel
theorem d_M_placed_4 : decode c_M_placed 4 = .ok (.istore_n 2, 1) := by decide +kernel
theorem d_M_placed_5 : decode c_M_placed 5 = .ok (.iload_n 2, 1) := by decide +kernel
theorem d_M_placed_6 : decode c_M_placed 6 = .ok (.aload_n 0, 1) := by decide +kernel
theorem d_M_placed_7 : decode c_M_placed 7 = .ok (.getfield 65, 3) := by decide +kernel
theorem d_M_placed_10 : decode c_M_placed 10 = .ok (.if_icmp .ge 39, 3) := by decide +kernel
theorem d_M_placed_13 : decode c_M_placed 13 = .ok (.aload_n 0, 1) := by decide +kernel
theorem d_M_placed_14 : decode c_M_placed 14 = .ok (.aload_n 0, 1) := by decide +kernel
theorem d_M_placed_15 : decode c_M_placed 15 = .ok (.getfield 51, 3) := by decide +kernel
theorem d_M_placed_18 : decode c_M_placed 18 = .ok (.iload_n 2, 1) := by decide +kernel
theorem d_M_placed_19 : decode c_M_placed 19 = .ok (.invokevirtual 127, 3) := by decide +kernel
theorem d_M_placed_22 : decode c_M_placed 22 = .ok (.ifCond .le 21, 3) := by decide +kernel
theorem d_M_placed_25 : decode c_M_placed 25 = .ok (.iload_n 1, 1) := by decide +kernel
theorem d_M_placed_26 : decode c_M_placed 26 = .ok (.aload_n 0, 1) := by decide +kernel
theorem d_M_placed_27 : decode c_M_placed 27 = .ok (.iload_n 2, 1) := by decide +kernel
theorem d_M_placed_28 : decode c_M_placed 28 = .ok (.iload_n 2, 1) := by decide +kernel
theorem d_M_placed_29 : decode c_M_placed 29 = .ok (.invokevirtual 154, 3) := by decide +kernel
theorem d_M_placed_32 : decode c_M_placed 32 = .ok (.aload_n 0, 1) := by decide +kernel
theorem d_M_placed_33 : decode c_M_placed 33 = .ok (.iload_n 2, 1) := by decide +kernel
theorem d_M_placed_34 : decode c_M_placed 34 = .ok (.iconst 1, 1) := by decide +kernel
theorem d_M_placed_35 : decode c_M_placed 35 = .ok (.iadd, 1) := by decide +kernel
theorem d_M_placed_36 : decode c_M_placed 36 = .ok (.iload_n 2, 1) := by decide +kernel
theorem d_M_placed_37 : decode c_M_placed 37 = .ok (.invokevirtual 154, 3) := by decide +kernel
theorem d_M_placed_40 : decode c_M_placed 40 = .ok (.iadd, 1) := by decide +kernel
theorem d_M_placed_41 : decode c_M_placed 41 = .ok (.iadd, 1) := by decide +kernel
theorem d_M_placed_42 : decode c_M_placed 42 = .ok (.istore_n 1, 1) := by decide +kernel
theorem d_M_placed_43 : decode c_M_placed 43 = .ok (.iinc 2 1, 3) := by decide +kernel
theorem d_M_placed_46 : decode c_M_placed 46 = .ok (.goto (-41), 3) := by decide +kernel
theorem d_M_placed_49 : decode c_M_placed 49 = .ok (.iconst 0, 1) := by decide +kernel
theorem d_M_placed_50 : decode c_M_placed 50 = .ok (.istore_n 2, 1) := by decide +kernel
theorem d_M_placed_51 : decode c_M_placed 51 = .ok (.iload_n 2, 1) := by decide +kernel
theorem d_M_placed_52 : decode c_M_placed 52 = .ok (.aload_n 0, 1) := by decide +kernel
theorem d_M_placed_53 : decode c_M_placed 53 = .ok (.invokevirtual 86, 3) := by decide +kernel
theorem d_M_placed_56 : decode c_M_placed 56 = .ok (.if_icmp .ge 50, 3) := by decide +kernel
theorem d_M_placed_59 : decode c_M_placed 59 = .ok (.iload_n 1, 1) := by decide +kernel
theorem d_M_placed_60 : decode c_M_placed 60 = .ok (.aload_n 0, 1) := by decide +kernel
theorem d_M_placed_61 : decode c_M_placed 61 = .ok (.getfield 51, 3) := by decide +kernel
theorem d_M_placed_64 : decode c_M_placed 64 = .ok (.iload_n 2, 1) := by decide +kernel
theorem d_M_placed_65 : decode c_M_placed 65 = .ok (.baload, 1) := by decide +kernel
theorem d_M_placed_66 : decode c_M_placed 66 = .ok (.ifCond .eq 31, 3) := by decide +kernel
theorem d_M_placed_69 : decode c_M_placed 69 = .ok (.aload_n 0, 1) := by decide +kernel
theorem d_M_placed_70 : decode c_M_placed 70 = .ok (.aload_n 0, 1) := by decide +kernel
theorem d_M_placed_71 : decode c_M_placed 71 = .ok (.iload_n 2, 1) := by decide +kernel
theorem d_M_placed_72 : decode c_M_placed 72 = .ok (.invokevirtual 121, 3) := by decide +kernel
theorem d_M_placed_75 : decode c_M_placed 75 = .ok (.iconst 2, 1) := by decide +kernel
theorem d_M_placed_76 : decode c_M_placed 76 = .ok (.iadd, 1) := by decide +kernel
theorem d_M_placed_77 : decode c_M_placed 77 = .ok (.iload_n 2, 1) := by decide +kernel
theorem d_M_placed_78 : decode c_M_placed 78 = .ok (.aload_n 0, 1) := by decide +kernel
theorem d_M_placed_79 : decode c_M_placed 79 = .ok (.getfield 62, 3) := by decide +kernel
theorem d_M_placed_82 : decode c_M_placed 82 = .ok (.iconst 2, 1) := by decide +kernel
theorem d_M_placed_83 : decode c_M_placed 83 = .ok (.isub, 1) := by decide +kernel
theorem d_M_placed_84 : decode c_M_placed 84 = .ok (.irem, 1) := by decide +kernel
theorem d_M_placed_85 : decode c_M_placed 85 = .ok (.iadd, 1) := by decide +kernel
theorem d_M_placed_86 : decode c_M_placed 86 = .ok (.aload_n 0, 1) := by decide +kernel
theorem d_M_placed_87 : decode c_M_placed 87 = .ok (.iload_n 2, 1) := by decide +kernel
theorem d_M_placed_88 : decode c_M_placed 88 = .ok (.invokevirtual 121, 3) := by decide +kernel
theorem d_M_placed_91 : decode c_M_placed 91 = .ok (.invokevirtual 154, 3) := by decide +kernel
theorem d_M_placed_94 : decode c_M_placed 94 = .ok (.goto 4, 3) := by decide +kernel
theorem d_M_placed_97 : decode c_M_placed 97 = .ok (.iconst 0, 1) := by decide +kernel
theorem d_M_placed_98 : decode c_M_placed 98 = .ok (.iadd, 1) := by decide +kernel
theorem d_M_placed_99 : decode c_M_placed 99 = .ok (.istore_n 1, 1) := by decide +kernel
theorem d_M_placed_100 : decode c_M_placed 100 = .ok (.iinc 2 1, 3) := by decide +kernel
theorem d_M_placed_103 : decode c_M_placed 103 = .ok (.goto (-52), 3) := by decide +kernel
theorem d_M_placed_106 : decode c_M_placed 106 = .ok (.iload_n 1, 1) := by decide +kernel
theorem d_M_placed_107 : decode c_M_placed 107 = .ok (.ireturn, 1) := by decide +kernel
theorem d_M_stopped_0 : decode c_M_stopped 0 = .ok (.iconst 0, 1) := by decide +kernel
theorem d_M_stopped_1 : decode c_M_stopped 1 = .ok (.istore_n 1, 1) := by decide +kernel
theorem d_M_stopped_2 : decode c_M_stopped 2 = .ok (.iload_n 1, 1) := by decide +kernel
theorem d_M_stopped_3 : decode c_M_stopped 3 = .ok (.aload_n 0, 1) := by decide +kernel
theorem d_M_stopped_4 : decode c_M_stopped 4 = .ok (.getfield 62, 3) := by decide +kernel
theorem d_M_stopped_7 : decode c_M_stopped 7 = .ok (.if_icmp .ge 21, 3) := by decide +kernel
theorem d_M_stopped_10 : decode c_M_stopped 10 = .ok (.aload_n 0, 1) := by decide +kernel
theorem d_M_stopped_11 : decode c_M_stopped 11 = .ok (.getfield 23, 3) := by decide +kernel
theorem d_M_stopped_14 : decode c_M_stopped 14 = .ok (.iload_n 1, 1) := by decide +kernel
theorem d_M_stopped_15 : decode c_M_stopped 15 = .ok (.aload_n 0, 1) := by decide +kernel
theorem d_M_stopped_16 : decode c_M_stopped 16 = .ok (.getfield 27, 3) := by decide +kernel
theorem d_M_stopped_19 : decode c_M_stopped 19 = .ok (.iload_n 1, 1) := by decide +kernel
theorem d_M_stopped_20 : decode c_M_stopped 20 = .ok (.iaload, 1) := by decide +kernel
theorem d_M_stopped_21 : decode c_M_stopped 21 = .ok (.iastore, 1) := by decide +kernel
theorem d_M_stopped_22 : decode c_M_stopped 22 = .ok (.iinc 1 1, 3) := by decide +kernel
theorem d_M_stopped_25 : decode c_M_stopped 25 = .ok (.goto (-23), 3) := by decide +kernel
theorem d_M_stopped_28 : decode c_M_stopped 28 = .ok (.bipush (-2), 2) := by decide +kernel
theorem d_M_stopped_30 : decode c_M_stopped 30 = .ok (.ireturn, 1) := by decide +kernel
theorem d_M_mount_0 : decode c_M_mount 0 = .ok (.aload_n 0, 1) := by decide +kernel
theorem d_M_mount_1 : decode c_M_mount 1 = .ok (.iconst 0, 1) := by decide +kernel
theorem d_M_mount_2 : decode c_M_mount 2 = .ok (.putfield 58, 3) := by decide +kernel
theorem d_M_mount_5 : decode c_M_mount 5 = .ok (.aload_n 0, 1) := by decide +kernel
theorem d_M_mount_6 : decode c_M_mount 6 = .ok (.getfield 68, 3) := by decide +kernel
theorem d_M_mount_9 : decode c_M_mount 9 = .ok (.ifCond .eq 12, 3) := by decide +kernel
theorem d_M_mount_12 : decode c_M_mount 12 = .ok (.iload_n 1, 1) := by decide +kernel
theorem d_M_mount_13 : decode c_M_mount 13 = .ok (.ifCond .lt 8, 3) := by decide +kernel
theorem d_M_mount_16 : decode c_M_mount 16 = .ok (.iload_n 1, 1) := by decide +kernel
theorem d_M_mount_17 : decode c_M_mount 17 = .ok (.iconst 3, 1) := by decide +kernel
theorem d_M_mount_18 : decode c_M_mount 18 = .ok (.if_icmp .le 5, 3) := by decide +kernel
theorem d_M_mount_21 : decode c_M_mount 21 = .ok (.iconst (-1), 1) := by decide +kernel
theorem d_M_mount_22 : decode c_M_mount 22 = .ok (.ireturn, 1) := by decide +kernel
theorem d_M_mount_23 : decode c_M_mount 23 = .ok (.iconst 0, 1) := by decide +kernel
theorem d_M_mount_24 : decode c_M_mount 24 = .ok (.istore 4, 2) := by decide +kernel
theorem d_M_mount_26 : decode c_M_mount 26 = .ok (.iconst 0, 1) := by decide +kernel
theorem d_M_mount_27 : decode c_M_mount 27 = .ok (.istore 5, 2) := by decide +kernel
theorem d_M_mount_29 : decode c_M_mount 29 = .ok (.iload 5, 2) := by decide +kernel
theorem d_M_mount_31 : decode c_M_mount 31 = .ok (.aload_n 0, 1) := by decide +kernel
theorem d_M_mount_32 : decode c_M_mount 32 = .ok (.getfield 62, 3) := by decide +kernel
theorem d_M_mount_35 : decode c_M_mount 35 = .ok (.if_icmp .ge 33, 3) := by decide +kernel
theorem d_M_mount_38 : decode c_M_mount 38 = .ok (.aload_n 0, 1) := by decide +kernel
theorem d_M_mount_39 : decode c_M_mount 39 = .ok (.iload 5, 2) := by decide +kernel
theorem d_M_mount_41 : decode c_M_mount 41 = .ok (.invokevirtual 92, 3) := by decide +kernel
theorem d_M_mount_44 : decode c_M_mount 44 = .ok (.iload 4, 2) := by decide +kernel
theorem d_M_mount_46 : decode c_M_mount 46 = .ok (.if_icmp .le 12, 3) := by decide +kernel
theorem d_M_mount_49 : decode c_M_mount 49 = .ok (.aload_n 0, 1) := by decide +kernel
theorem d_M_mount_50 : decode c_M_mount 50 = .ok (.iload 5, 2) := by decide +kernel
theorem d_M_mount_52 : decode c_M_mount 52 = .ok (.invokevirtual 92, 3) := by decide +kernel
theorem d_M_mount_55 : decode c_M_mount 55 = .ok (.goto 5, 3) := by decide +kernel
theorem d_M_mount_58 : decode c_M_mount 58 = .ok (.iload 4, 2) := by decide +kernel
theorem d_M_mount_60 : decode c_M_mount 60 = .ok (.istore 4, 2) := by decide +kernel
theorem d_M_mount_62 : decode c_M_mount 62 = .ok (.iinc 5 1, 3) := by decide +kernel
theorem d_M_mount_65 : decode c_M_mount 65 = .ok (.goto (-36), 3) := by decide +kernel
theorem d_M_mount_68 : decode c_M_mount 68 = .ok (.aload_n 0, 1) := by decide +kernel
theorem d_M_mount_69 : decode c_M_mount 69 = .ok (.iload 4, 2) := by decide +kernel
theorem d_M_mount_71 : decode c_M_mount 71 = .ok (.putfield 75, 3) := by decide +kernel
theorem d_M_mount_74 : decode c_M_mount 74 = .ok (.iconst 0, 1) := by decide +kernel
theorem d_M_mount_75 : decode c_M_mount 75 = .ok (.istore 5, 2) := by decide +kernel
theorem d_M_mount_77 : decode c_M_mount 77 = .ok (.iload 5, 2) := by decide +kernel
theorem d_M_mount_79 : decode c_M_mount 79 = .ok (.aload_n 0, 1) := by decide +kernel
theorem d_M_mount_80 : decode c_M_mount 80 = .ok (.getfield 62, 3) := by decide +kernel
theorem d_M_mount_83 : decode c_M_mount 83 = .ok (.if_icmp .ge 23, 3) := by decide +kernel
theorem d_M_mount_86 : decode c_M_mount 86 = .ok (.aload_n 0, 1) := by decide +kernel
theorem d_M_mount_87 : decode c_M_mount 87 = .ok (.getfield 27, 3) := by decide +kernel
theorem d_M_mount_90 : decode c_M_mount 90 = .ok (.iload 5, 2) := by decide +kernel
theorem d_M_mount_92 : decode c_M_mount 92 = .ok (.aload_n 0, 1) := by decide +kernel
theorem d_M_mount_93 : decode c_M_mount 93 = .ok (.getfield 23, 3) := by decide +kernel
theorem d_M_mount_96 : decode c_M_mount 96 = .ok (.iload 5, 2) := by decide +kernel
theorem d_M_mount_98 : decode c_M_mount 98 = .ok (.iaload, 1) := by decide +kernel
theorem d_M_mount_99 : decode c_M_mount 99 = .ok (.iastore, 1) := by decide +kernel
theorem d_M_mount_100 : decode c_M_mount 100 = .ok (.iinc 5 1, 3) := by decide +kernel
theorem d_M_mount_103 : decode c_M_mount 103 = .ok (.goto (-26), 3) := by decide +kernel
theorem d_M_mount_106 : decode c_M_mount 106 = .ok (.iconst 0, 1) := by decide +kernel
theorem d_M_mount_107 : decode c_M_mount 107 = .ok (.istore 5, 2) := by decide +kernel
theorem d_M_mount_109 : decode c_M_mount 109 = .ok (.iload 5, 2) := by decide +kernel
theorem d_M_mount_111 : decode c_M_mount 111 = .ok (.aload_n 0, 1) := by decide +kernel
theorem d_M_mount_112 : decode c_M_mount 112 = .ok (.getfield 62, 3) := by decide +kernel
theorem d_M_mount_115 : decode c_M_mount 115 = .ok (.if_icmp .ge 62, 3) := by decide +kernel
theorem d_M_mount_118 : decode c_M_mount 118 = .ok (.aload_n 0, 1) := by decide +kernel
theorem d_M_mount_119 : decode c_M_mount 119 = .ok (.getfield 23, 3) := by decide +kernel
theorem d_M_mount_122 : decode c_M_mount 122 = .ok (.iload 5, 2) := by decide +kernel
theorem d_M_mount_124 : decode c_M_mount 124 = .ok (.aload_n 0, 1) := by decide +kernel
theorem d_M_mount_125 : decode c_M_mount 125 = .ok (.getfield 20, 3) := by decide +kernel
theorem d_M_mount_128 : decode c_M_mount 128 = .ok (.iload 5, 2) := by decide +kernel
theorem d_M_mount_130 : decode c_M_mount 130 = .ok (.baload, 1) := by decide +kernel
theorem d_M_mount_131 : decode c_M_mount 131 = .ok (.ifCond .eq 13, 3) := by decide +kernel
theorem d_M_mount_134 : decode c_M_mount 134 = .ok (.aload_n 0, 1) := by decide +kernel
theorem d_M_mount_135 : decode c_M_mount 135 = .ok (.getfield 23, 3) := by decide +kernel
theorem d_M_mount_138 : decode c_M_mount 138 = .ok (.iload 5, 2) := by decide +kernel
theorem d_M_mount_140 : decode c_M_mount 140 = .ok (.iaload, 1) := by decide +kernel
theorem d_M_mount_141 : decode c_M_mount 141 = .ok (.goto 29, 3) := by decide +kernel
theorem d_M_mount_144 : decode c_M_mount 144 = .ok (.aload_n 0, 1) := by decide +kernel
theorem d_M_mount_145 : decode c_M_mount 145 = .ok (.iload 5, 2) := by decide +kernel
theorem d_M_mount_147 : decode c_M_mount 147 = .ok (.invokevirtual 92, 3) := by decide +kernel
theorem d_M_mount_150 : decode c_M_mount 150 = .ok (.ifCond .ne 7, 3) := by decide +kernel
theorem d_M_mount_153 : decode c_M_mount 153 = .ok (.iconst 0, 1) := by decide +kernel
theorem d_M_mount_154 : decode c_M_mount 154 = .ok (.goto 16, 3) := by decide +kernel
theorem d_M_mount_157 : decode c_M_mount 157 = .ok (.aload_n 0, 1) := by decide +kernel
theorem d_M_mount_158 : decode c_M_mount 158 = .ok (.getfield 45, 3) := by decide +kernel
theorem d_M_mount_161 : decode c_M_mount 161 = .ok (.bipush 8, 2) := by decide +kernel
theorem d_M_mount_163 : decode c_M_mount 163 = .ok (.iload 4, 2) := by decide +kernel
theorem d_M_mount_165 : decode c_M_mount 165 = .ok (.imul, 1) := by decide +kernel
theorem d_M_mount_166 : decode c_M_mount 166 = .ok (.iload 5, 2) := by decide +kernel
theorem d_M_mount_168 : decode c_M_mount 168 = .ok (.iadd, 1) := by decide +kernel
theorem d_M_mount_169 : decode c_M_mount 169 = .ok (.iaload, 1) := by decide +kernel
theorem d_M_mount_170 : decode c_M_mount 170 = .ok (.iastore, 1) := by decide +kernel
theorem d_M_mount_171 : decode c_M_mount 171 = .ok (.iinc 5 1, 3) := by decide +kernel
theorem d_M_mount_174 : decode c_M_mount 174 = .ok (.goto (-65), 3) := by decide +kernel
theorem d_M_mount_177 : decode c_M_mount 177 = .ok (.aload_n 0, 1) := by decide +kernel
theorem d_M_mount_178 : decode c_M_mount 178 = .ok (.getfield 42, 3) := by decide +kernel
theorem d_M_mount_181 : decode c_M_mount 181 = .ok (.iload 4, 2) := by decide +kernel
theorem d_M_mount_183 : decode c_M_mount 183 = .ok (.baload, 1) := by decide +kernel
theorem d_M_mount_184 : decode c_M_mount 184 = .ok (.istore 5, 2) := by decide +kernel
theorem d_M_mount_186 : decode c_M_mount 186 = .ok (.aload_n 0, 1) := by decide +kernel
theorem d_M_mount_187 : decode c_M_mount 187 = .ok (.iload 4, 2) := by decide +kernel
theorem d_M_mount_189 : decode c_M_mount 189 = .ok (.iconst 1, 1) := by decide +kernel
theorem d_M_mount_190 : decode c_M_mount 190 = .ok (.iload_n 1, 1) := by decide +kernel
theorem d_M_mount_191 : decode c_M_mount 191 = .ok (.iconst 1, 1) := by decide +kernel
theorem d_M_mount_192 : decode c_M_mount 192 = .ok (.if_icmp .ne 7, 3) := by decide +kernel
theorem d_M_mount_195 : decode c_M_mount 195 = .ok (.iconst 1, 1) := by decide +kernel
theorem d_M_mount_196 : decode c_M_mount 196 = .ok (.goto 4, 3) := by decide +kernel
theorem d_M_mount_199 : decode c_M_mount 199 = .ok (.iconst 0, 1) := by decide +kernel
theorem d_M_mount_200 : decode c_M_mount 200 = .ok (.lload_n 2, 1) := by decide +kernel
theorem d_M_mount_201 : decode c_M_mount 201 = .ok (.invokevirtual 103, 3) := by decide +kernel
theorem d_M_mount_204 : decode c_M_mount 204 = .ok (.iload_n 1, 1) := by decide +kernel
theorem d_M_mount_205 : decode c_M_mount 205 = .ok (.iconst 1, 1) := by decide +kernel
theorem d_M_mount_206 : decode c_M_mount 206 = .ok (.if_icmp .ne 8, 3) := by decide +kernel
theorem d_M_mount_209 : decode c_M_mount 209 = .ok (.aload_n 0, 1) := by decide +kernel
theorem d_M_mount_210 : decode c_M_mount 210 = .ok (.invokevirtual 157, 3) := by decide +kernel
theorem d_M_mount_213 : decode c_M_mount 213 = .ok (.ireturn, 1) := by decide +kernel
theorem d_M_mount_214 : decode c_M_mount 214 = .ok (.iconst 0, 1) := by decide +kernel
theorem d_M_mount_215 : decode c_M_mount 215 = .ok (.istore 6, 2) := by decide +kernel
theorem d_M_mount_217 : decode c_M_mount 217 = .ok (.iload 5, 2) := by decide +kernel
theorem d_M_mount_219 : decode c_M_mount 219 = .ok (.ifCond .eq 21, 3) := by decide +kernel
theorem d_M_mount_222 : decode c_M_mount 222 = .ok (.iload_n 1, 1) := by decide +kernel
theorem d_M_mount_223 : decode c_M_mount 223 = .ok (.iconst 2, 1) := by decide +kernel
theorem d_M_mount_224 : decode c_M_mount 224 = .ok (.if_icmp .ne 6, 3) := by decide +kernel
theorem d_M_mount_227 : decode c_M_mount 227 = .ok (.bipush (-2), 2) := by decide +kernel
theorem d_M_mount_229 : decode c_M_mount 229 = .ok (.ireturn, 1) := by decide +kernel
theorem d_M_mount_230 : decode c_M_mount 230 = .ok (.aload_n 0, 1) := by decide +kernel
theorem d_M_mount_231 : decode c_M_mount 231 = .ok (.invokevirtual 145, 3) := by decide +kernel
theorem d_M_mount_234 : decode c_M_mount 234 = .ok (.aload_n 0, 1) := by decide +kernel
theorem d_M_mount_235 : decode c_M_mount 235 = .ok (.invokevirtual 160, 3) := by decide +kernel
theorem d_M_mount_238 : decode c_M_mount 238 = .ok (.istore 6, 2) := by decide +kernel
theorem d_M_mount_240 : decode c_M_mount 240 = .ok (.iload_n 1, 1) := by decide +kernel
theorem d_M_mount_241 : decode c_M_mount 241 = .ok (.iconst 3, 1) := by decide +kernel
theorem d_M_mount_242 : decode c_M_mount 242 = .ok (.if_icmp .ne 22, 3) := by decide +kernel
theorem d_M_mount_245 : decode c_M_mount 245 = .ok (.aload_n 0, 1) := by decide +kernel
theorem d_M_mount_246 : decode c_M_mount 246 = .ok (.iconst 0, 1) := by decide +kernel
theorem d_M_mount_247 : decode c_M_mount 247 = .ok (.invokevirtual 100, 3) := by decide +kernel
theorem d_M_mount_250 : decode c_M_mount 250 = .ok (.aload_n 0, 1) := by decide +kernel
theorem d_M_mount_251 : decode c_M_mount 251 = .ok (.aload_n 0, 1) := by decide +kernel
theorem d_M_mount_252 : decode c_M_mount 252 = .ok (.getfield 72, 3) := by decide +kernel
theorem d_M_mount_255 : decode c_M_mount 255 = .ok (.iconst 0, 1) := by decide +kernel
theorem d_M_mount_256 : decode c_M_mount 256 = .ok (.iconst 1, 1) := by decide +kernel
theorem d_M_mount_257 : decode c_M_mount 257 = .ok (.lload_n 2, 1) := by decide +kernel
theorem d_M_mount_258 : decode c_M_mount 258 = .ok (.invokevirtual 103, 3) := by decide +kernel
theorem d_M_mount_261 : decode c_M_mount 261 = .ok (.bipush (-2), 2) := by decide +kernel
theorem d_M_mount_263 : decode c_M_mount 263 = .ok (.ireturn, 1) := by decide +kernel
theorem d_M_mount_264 : decode c_M_mount 264 = .ok (.aload_n 0, 1) := by decide +kernel
theorem d_M_mount_265 : decode c_M_mount 265 = .ok (.iconst 0, 1) := by decide +kernel
theorem d_M_mount_266 : decode c_M_mount 266 = .ok (.invokevirtual 82, 3) := by decide +kernel
theorem d_M_mount_269 : decode c_M_mount 269 = .ok (.aload_n 0, 1) := by decide +kernel
theorem d_M_mount_270 : decode c_M_mount 270 = .ok (.iconst 0, 1) := by decide +kernel
theorem d_M_mount_271 : decode c_M_mount 271 = .ok (.putfield 68, 3) := by decide +kernel
theorem d_M_mount_274 : decode c_M_mount 274 = .ok (.iconst 0, 1) := by decide +kernel
theorem d_M_mount_275 : decode c_M_mount 275 = .ok (.istore 7, 2) := by decide +kernel
theorem d_M_mount_277 : decode c_M_mount 277 = .ok (.iload 7, 2) := by decide +kernel
theorem d_M_mount_279 : decode c_M_mount 279 = .ok (.aload_n 0, 1) := by decide +kernel
theorem d_M_mount_280 : decode c_M_mount 280 = .ok (.invokevirtual 86, 3) := by decide +kernel
theorem d_M_mount_283 : decode c_M_mount 283 = .ok (.if_icmp .ge 31, 3) := by decide +kernel
theorem d_M_mount_286 : decode c_M_mount 286 = .ok (.aload_n 0, 1) := by decide +kernel
theorem d_M_mount_287 : decode c_M_mount 287 = .ok (.aload_n 0, 1) := by decide +kernel
theorem d_M_mount_288 : decode c_M_mount 288 = .ok (.getfield 13, 3) := by decide +kernel
theorem d_M_mount_291 : decode c_M_mount 291 = .ok (.aload_n 0, 1) := by decide +kernel
theorem d_M_mount_292 : decode c_M_mount 292 = .ok (.getfield 7, 3) := by decide +kernel
theorem d_M_mount_295 : decode c_M_mount 295 = .ok (.iload 7, 2) := by decide +kernel
theorem d_M_mount_297 : decode c_M_mount 297 = .ok (.invokevirtual 137, 3) := by decide +kernel
theorem d_M_mount_300 : decode c_M_mount 300 = .ok (.aload_n 0, 1) := by decide +kernel
theorem d_M_mount_301 : decode c_M_mount 301 = .ok (.getfield 16, 3) := by decide +kernel
theorem d_M_mount_304 : decode c_M_mount 304 = .ok (.iload 7, 2) := by decide +kernel
theorem d_M_mount_306 : decode c_M_mount 306 = .ok (.iconst 0, 1) := by decide +kernel
theorem d_M_mount_307 : decode c_M_mount 307 = .ok (.bastore, 1) := by decide +kernel
theorem d_M_mount_308 : decode c_M_mount 308 = .ok (.iinc 7 1, 3) := by decide +kernel
theorem d_M_mount_311 : decode c_M_mount 311 = .ok (.goto (-34), 3) := by decide +kernel
theorem d_M_mount_314 : decode c_M_mount 314 = .ok (.iload 6, 2) := by decide +kernel
theorem d_M_mount_316 : decode c_M_mount 316 = .ok (.ireturn, 1) := by decide +kernel
theorem d_M_check_0 : decode c_M_check 0 = .ok (.aload_n 0, 1) := by decide +kernel
theorem d_M_check_1 : decode c_M_check 1 = .ok (.iconst 0, 1) := by decide +kernel
theorem d_M_check_2 : decode c_M_check 2 = .ok (.putfield 58, 3) := by decide +kernel
theorem d_M_check_5 : decode c_M_check 5 = .ok (.aload_n 0, 1) := by decide +kernel
theorem d_M_check_6 : decode c_M_check 6 = .ok (.getfield 68, 3) := by decide +kernel
theorem d_M_check_9 : decode c_M_check 9 = .ok (.ifCond .eq 8, 3) := by decide +kernel
theorem d_M_check_12 : decode c_M_check 12 = .ok (.bipush (-2), 2) := by decide +kernel
theorem d_M_check_14 : decode c_M_check 14 = .ok (.goto 4, 3) := by decide +kernel
theorem d_M_check_17 : decode c_M_check 17 = .ok (.iconst 0, 1) := by decide +kernel
theorem d_M_check_18 : decode c_M_check 18 = .ok (.ireturn, 1) := by decide +kernel
theorem d_M_count_0 : decode c_M_count 0 = .ok (.aload_n 0, 1) := by decide +kernel
theorem d_M_count_1 : decode c_M_count 1 = .ok (.iconst 0, 1) := by decide +kernel
theorem d_M_count_2 : decode c_M_count 2 = .ok (.putfield 58, 3) := by decide +kernel
theorem d_M_count_5 : decode c_M_count 5 = .ok (.aload_n 0, 1) := by decide +kernel
theorem d_M_count_6 : decode c_M_count 6 = .ok (.getfield 68, 3) := by decide +kernel
theorem d_M_count_9 : decode c_M_count 9 = .ok (.ifCond .eq 6, 3) := by decide +kernel
theorem d_M_count_12 : decode c_M_count 12 = .ok (.bipush (-2), 2) := by decide +kernel
theorem d_M_count_14 : decode c_M_count 14 = .ok (.ireturn, 1) := by decide +kernel
theorem d_M_count_15 : decode c_M_count 15 = .ok (.iconst 0, 1) := by decide +kernel
theorem d_M_count_16 : decode c_M_count 16 = .ok (.istore_n 2, 1) := by decide +kernel
theorem d_M_count_17 : decode c_M_count 17 = .ok (.iconst 0, 1) := by decide +kernel
theorem d_M_count_18 : decode c_M_count 18 = .ok (.istore_n 3, 1) := by decide +kernel
theorem d_M_count_19 : decode c_M_count 19 = .ok (.iload_n 3, 1) := by decide +kernel
theorem d_M_count_20 : decode c_M_count 20 = .ok (.aload_n 0, 1) := by decide +kernel
theorem d_M_count_21 : decode c_M_count 21 = .ok (.getfield 62, 3) := by decide +kernel
theorem d_M_count_24 : decode c_M_count 24 = .ok (.if_icmp .ge 25, 3) := by decide +kernel
theorem d_M_count_27 : decode c_M_count 27 = .ok (.iload_n 2, 1) := by decide +kernel
theorem d_M_count_28 : decode c_M_count 28 = .ok (.aload_n 0, 1) := by decide +kernel
theorem d_M_count_29 : decode c_M_count 29 = .ok (.iload_n 3, 1) := by decide +kernel
theorem d_M_count_30 : decode c_M_count 30 = .ok (.invokevirtual 151, 3) := by decide +kernel
theorem d_M_count_33 : decode c_M_count 33 = .ok (.ifCond .eq 7, 3) := by decide +kernel
theorem d_M_count_36 : decode c_M_count 36 = .ok (.iconst 1, 1) := by decide +kernel
theorem d_M_count_37 : decode c_M_count 37 = .ok (.goto 4, 3) := by decide +kernel
theorem d_M_count_40 : decode c_M_count 40 = .ok (.iconst 0, 1) := by decide +kernel
theorem d_M_count_41 : decode c_M_count 41 = .ok (.iadd, 1) := by decide +kernel
theorem d_M_count_42 : decode c_M_count 42 = .ok (.istore_n 2, 1) := by decide +kernel
theorem d_M_count_43 : decode c_M_count 43 = .ok (.iinc 3 1, 3) := by decide +kernel
theorem d_M_count_46 : decode c_M_count 46 = .ok (.goto (-27), 3) := by decide +kernel
theorem d_M_count_49 : decode c_M_count 49 = .ok (.iload_n 1, 1) := by decide +kernel
theorem d_M_count_50 : decode c_M_count 50 = .ok (.ifCond .ne 10, 3) := by decide +kernel
theorem d_M_count_53 : decode c_M_count 53 = .ok (.aload_n 0, 1) := by decide +kernel
theorem d_M_count_54 : decode c_M_count 54 = .ok (.invokevirtual 86, 3) := by decide +kernel
theorem d_M_count_57 : decode c_M_count 57 = .ok (.goto 49, 3) := by decide +kernel
theorem d_M_count_60 : decode c_M_count 60 = .ok (.iload_n 1, 1) := by decide +kernel
theorem d_M_count_61 : decode c_M_count 61 = .ok (.iconst 1, 1) := by decide +kernel
theorem d_M_count_62 : decode c_M_count 62 = .ok (.if_icmp .ne 10, 3) := by decide +kernel
theorem d_M_count_65 : decode c_M_count 65 = .ok (.aload_n 0, 1) := by decide +kernel
theorem d_M_count_66 : decode c_M_count 66 = .ok (.invokevirtual 134, 3) := by decide +kernel
theorem d_M_count_69 : decode c_M_count 69 = .ok (.goto 37, 3) := by decide +kernel
theorem d_M_count_72 : decode c_M_count 72 = .ok (.iload_n 1, 1) := by decide +kernel
theorem d_M_count_73 : decode c_M_count 73 = .ok (.iconst 2, 1) := by decide +kernel
theorem d_M_count_74 : decode c_M_count 74 = .ok (.if_icmp .ne 10, 3) := by decide +kernel
theorem d_M_count_77 : decode c_M_count 77 = .ok (.aload_n 0, 1) := by decide +kernel
theorem d_M_count_78 : decode c_M_count 78 = .ok (.invokevirtual 124, 3) := by decide +kernel
theorem d_M_count_81 : decode c_M_count 81 = .ok (.goto 25, 3) := by decide +kernel
theorem d_M_count_84 : decode c_M_count 84 = .ok (.iload_n 1, 1) := by decide +kernel
theorem d_M_count_85 : decode c_M_count 85 = .ok (.iconst 3, 1) := by decide +kernel
theorem d_M_count_86 : decode c_M_count 86 = .ok (.if_icmp .ne 10, 3) := by decide +kernel
theorem d_M_count_89 : decode c_M_count 89 = .ok (.aload_n 0, 1) := by decide +kernel
theorem d_M_count_90 : decode c_M_count 90 = .ok (.invokevirtual 148, 3) := by decide +kernel
theorem d_M_count_93 : decode c_M_count 93 = .ok (.goto 13, 3) := by decide +kernel
theorem d_M_count_96 : decode c_M_count 96 = .ok (.iload_n 1, 1) := by decide +kernel
theorem d_M_count_97 : decode c_M_count 97 = .ok (.iconst 4, 1) := by decide +kernel
theorem d_M_count_98 : decode c_M_count 98 = .ok (.if_icmp .ne 7, 3) := by decide +kernel
theorem d_M_count_101 : decode c_M_count 101 = .ok (.iload_n 2, 1) := by decide +kernel
theorem d_M_count_102 : decode c_M_count 102 = .ok (.goto 4, 3) := by decide +kernel
theorem d_M_count_105 : decode c_M_count 105 = .ok (.iconst (-1), 1) := by decide +kernel
theorem d_M_count_106 : decode c_M_count 106 = .ok (.ireturn, 1) := by decide +kernel

