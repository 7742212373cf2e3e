theorem d_D_init_0 : decode c_D_init 0 = .ok (.aload_n 0, 1) := by decide +kernel
theorem d_D_init_1 : decode c_D_init 1 = .ok (.invokespecial 3, 3) := by decide +kernel
theorem d_D_init_4 : decode c_D_init 4 = .ok (.aload_n 0, 1) := by decide +kernel
theorem d_D_init_5 : decode c_D_init 5 = .ok (.bipush 8, 2) := by decide +kernel
theorem d_D_init_7 : decode c_D_init 7 = .ok (.newarray .int, 2) := by decide +kernel
theorem d_D_init_9 : decode c_D_init 9 = .ok (.putfield 9, 3) := by decide +kernel
theorem d_D_init_12 : decode c_D_init 12 = .ok (.aload_n 0, 1) := by decide +kernel
theorem d_D_init_13 : decode c_D_init 13 = .ok (.bipush 8, 2) := by decide +kernel
theorem d_D_init_15 : decode c_D_init 15 = .ok (.newarray .long, 2) := by decide +kernel
theorem d_D_init_17 : decode c_D_init 17 = .ok (.putfield 13, 3) := by decide +kernel
theorem d_D_init_20 : decode c_D_init 20 = .ok (.aload_n 0, 1) := by decide +kernel
theorem d_D_init_21 : decode c_D_init 21 = .ok (.sipush 13056, 3) := by decide +kernel
theorem d_D_init_24 : decode c_D_init 24 = .ok (.newarray .byte, 2) := by decide +kernel
theorem d_D_init_26 : decode c_D_init 26 = .ok (.putfield 17, 3) := by decide +kernel
theorem d_D_init_29 : decode c_D_init 29 = .ok (.aload_n 0, 1) := by decide +kernel
theorem d_D_init_30 : decode c_D_init 30 = .ok (.new 21, 3) := by decide +kernel
theorem d_D_init_33 : decode c_D_init 33 = .ok (.dup, 1) := by decide +kernel
theorem d_D_init_34 : decode c_D_init 34 = .ok (.invokespecial 23, 3) := by decide +kernel
theorem d_D_init_37 : decode c_D_init 37 = .ok (.putfield 24, 3) := by decide +kernel
theorem d_D_init_40 : decode c_D_init 40 = .ok (.aload_n 0, 1) := by decide +kernel
theorem d_D_init_41 : decode c_D_init 41 = .ok (.new 21, 3) := by decide +kernel
theorem d_D_init_44 : decode c_D_init 44 = .ok (.dup, 1) := by decide +kernel
theorem d_D_init_45 : decode c_D_init 45 = .ok (.invokespecial 23, 3) := by decide +kernel
theorem d_D_init_48 : decode c_D_init 48 = .ok (.putfield 28, 3) := by decide +kernel
theorem d_D_init_51 : decode c_D_init 51 = .ok (.aload_n 0, 1) := by decide +kernel
theorem d_D_init_52 : decode c_D_init 52 = .ok (.new 31, 3) := by decide +kernel
theorem d_D_init_55 : decode c_D_init 55 = .ok (.dup, 1) := by decide +kernel
theorem d_D_init_56 : decode c_D_init 56 = .ok (.invokespecial 33, 3) := by decide +kernel
theorem d_D_init_59 : decode c_D_init 59 = .ok (.putfield 34, 3) := by decide +kernel
theorem d_D_init_62 : decode c_D_init 62 = .ok (.aload_n 0, 1) := by decide +kernel
theorem d_D_init_63 : decode c_D_init 63 = .ok (.iconst 4, 1) := by decide +kernel
theorem d_D_init_64 : decode c_D_init 64 = .ok (.bipush 12, 2) := by decide +kernel
theorem d_D_init_66 : decode c_D_init 66 = .ok (.invokevirtual 38, 3) := by decide +kernel
theorem d_D_init_69 : decode c_D_init 69 = .ok (.return_, 1) := by decide +kernel
theorem d_D_lay_0 : decode c_D_lay 0 = .ok (.iload_n 1, 1) := by decide +kernel
theorem d_D_lay_1 : decode c_D_lay 1 = .ok (.iconst 4, 1) := by decide +kernel
theorem d_D_lay_2 : decode c_D_lay 2 = .ok (.if_icmp .lt 21, 3) := by decide +kernel
theorem d_D_lay_5 : decode c_D_lay 5 = .ok (.iload_n 1, 1) := by decide +kernel
theorem d_D_lay_6 : decode c_D_lay 6 = .ok (.bipush 8, 2) := by decide +kernel
theorem d_D_lay_8 : decode c_D_lay 8 = .ok (.if_icmp .gt 15, 3) := by decide +kernel
theorem d_D_lay_11 : decode c_D_lay 11 = .ok (.iload_n 2, 1) := by decide +kernel
theorem d_D_lay_12 : decode c_D_lay 12 = .ok (.bipush 12, 2) := by decide +kernel
theorem d_D_lay_14 : decode c_D_lay 14 = .ok (.if_icmp .lt 9, 3) := by decide +kernel
theorem d_D_lay_17 : decode c_D_lay 17 = .ok (.iload_n 2, 1) := by decide +kernel
theorem d_D_lay_18 : decode c_D_lay 18 = .ok (.bipush 40, 2) := by decide +kernel
theorem d_D_lay_20 : decode c_D_lay 20 = .ok (.if_icmp .le 5, 3) := by decide +kernel
theorem d_D_lay_23 : decode c_D_lay 23 = .ok (.iconst (-1), 1) := by decide +kernel
theorem d_D_lay_24 : decode c_D_lay 24 = .ok (.ireturn, 1) := by decide +kernel
theorem d_D_lay_25 : decode c_D_lay 25 = .ok (.aload_n 0, 1) := by decide +kernel
theorem d_D_lay_26 : decode c_D_lay 26 = .ok (.iload_n 1, 1) := by decide +kernel
theorem d_D_lay_27 : decode c_D_lay 27 = .ok (.iload_n 2, 1) := by decide +kernel
theorem d_D_lay_28 : decode c_D_lay 28 = .ok (.invokevirtual 38, 3) := by decide +kernel
theorem d_D_lay_31 : decode c_D_lay 31 = .ok (.aload_n 0, 1) := by decide +kernel
theorem d_D_lay_32 : decode c_D_lay 32 = .ok (.invokevirtual 42, 3) := by decide +kernel
theorem d_D_lay_35 : decode c_D_lay 35 = .ok (.ireturn, 1) := by decide +kernel
theorem d_D_write_0 : decode c_D_write 0 = .ok (.aload_n 0, 1) := by decide +kernel
theorem d_D_write_1 : decode c_D_write 1 = .ok (.getfield 46, 3) := by decide +kernel
theorem d_D_write_4 : decode c_D_write 4 = .ok (.ifCond .ne 6, 3) := by decide +kernel
theorem d_D_write_7 : decode c_D_write 7 = .ok (.bipush (-2), 2) := by decide +kernel
theorem d_D_write_9 : decode c_D_write 9 = .ok (.ireturn, 1) := by decide +kernel
theorem d_D_write_10 : decode c_D_write 10 = .ok (.aload_n 0, 1) := by decide +kernel
theorem d_D_write_11 : decode c_D_write 11 = .ok (.iload_n 1, 1) := by decide +kernel
theorem d_D_write_12 : decode c_D_write 12 = .ok (.iload_n 2, 1) := by decide +kernel
theorem d_D_write_13 : decode c_D_write 13 = .ok (.invokevirtual 50, 3) := by decide +kernel
theorem d_D_write_16 : decode c_D_write 16 = .ok (.ifCond .eq 29, 3) := by decide +kernel
theorem d_D_write_19 : decode c_D_write 19 = .ok (.iload_n 3, 1) := by decide +kernel
theorem d_D_write_20 : decode c_D_write 20 = .ok (.iconst 1, 1) := by decide +kernel
theorem d_D_write_21 : decode c_D_write 21 = .ok (.if_icmp .lt 24, 3) := by decide +kernel
theorem d_D_write_24 : decode c_D_write 24 = .ok (.iload_n 3, 1) := by decide +kernel
theorem d_D_write_25 : decode c_D_write 25 = .ok (.bipush 64, 2) := by decide +kernel
theorem d_D_write_27 : decode c_D_write 27 = .ok (.iload_n 2, 1) := by decide +kernel
theorem d_D_write_28 : decode c_D_write 28 = .ok (.isub, 1) := by decide +kernel
theorem d_D_write_29 : decode c_D_write 29 = .ok (.if_icmp .gt 16, 3) := by decide +kernel
theorem d_D_write_32 : decode c_D_write 32 = .ok (.iload 4, 2) := by decide +kernel
theorem d_D_write_34 : decode c_D_write 34 = .ok (.ifCond .lt 11, 3) := by decide +kernel
theorem d_D_write_37 : decode c_D_write 37 = .ok (.iload 4, 2) := by decide +kernel
theorem d_D_write_39 : decode c_D_write 39 = .ok (.sipush 255, 3) := by decide +kernel
theorem d_D_write_42 : decode c_D_write 42 = .ok (.if_icmp .le 5, 3) := by decide +kernel
theorem d_D_write_45 : decode c_D_write 45 = .ok (.iconst (-1), 1) := by decide +kernel
theorem d_D_write_46 : decode c_D_write 46 = .ok (.ireturn, 1) := by decide +kernel
theorem d_D_write_47 : decode c_D_write 47 = .ok (.aload_n 0, 1) := by decide +kernel
theorem d_D_write_48 : decode c_D_write 48 = .ok (.getfield 24, 3) := by decide +kernel
theorem d_D_write_51 : decode c_D_write 51 = .ok (.iload_n 1, 1) := by decide +kernel
theorem d_D_write_52 : decode c_D_write 52 = .ok (.invokevirtual 54, 3) := by decide +kernel
theorem d_D_write_55 : decode c_D_write 55 = .ok (.istore 5, 2) := by decide +kernel
theorem d_D_write_57 : decode c_D_write 57 = .ok (.iload 5, 2) := by decide +kernel
theorem d_D_write_59 : decode c_D_write 59 = .ok (.ifCond .ge 49, 3) := by decide +kernel
theorem d_D_write_62 : decode c_D_write 62 = .ok (.aload_n 0, 1) := by decide +kernel
theorem d_D_write_63 : decode c_D_write 63 = .ok (.iload_n 1, 1) := by decide +kernel
theorem d_D_write_64 : decode c_D_write 64 = .ok (.invokevirtual 58, 3) := by decide +kernel
theorem d_D_write_67 : decode c_D_write 67 = .ok (.istore 6, 2) := by decide +kernel
theorem d_D_write_69 : decode c_D_write 69 = .ok (.aload_n 0, 1) := by decide +kernel
theorem d_D_write_70 : decode c_D_write 70 = .ok (.getfield 24, 3) := by decide +kernel
theorem d_D_write_73 : decode c_D_write 73 = .ok (.iload 6, 2) := by decide +kernel
theorem d_D_write_75 : decode c_D_write 75 = .ok (.invokevirtual 61, 3) := by decide +kernel
theorem d_D_write_78 : decode c_D_write 78 = .ok (.iconst 4, 1) := by decide +kernel
theorem d_D_write_79 : decode c_D_write 79 = .ok (.aload_n 0, 1) := by decide +kernel
theorem d_D_write_80 : decode c_D_write 80 = .ok (.getfield 64, 3) := by decide +kernel
theorem d_D_write_83 : decode c_D_write 83 = .ok (.iconst 2, 1) := by decide +kernel
theorem d_D_write_84 : decode c_D_write 84 = .ok (.isub, 1) := by decide +kernel
theorem d_D_write_85 : decode c_D_write 85 = .ok (.imul, 1) := by decide +kernel
theorem d_D_write_86 : decode c_D_write 86 = .ok (.if_icmp .le 6, 3) := by decide +kernel
theorem d_D_write_89 : decode c_D_write 89 = .ok (.bipush (-3), 2) := by decide +kernel
theorem d_D_write_91 : decode c_D_write 91 = .ok (.ireturn, 1) := by decide +kernel
theorem d_D_write_92 : decode c_D_write 92 = .ok (.aload_n 0, 1) := by decide +kernel
theorem d_D_write_93 : decode c_D_write 93 = .ok (.getfield 24, 3) := by decide +kernel
theorem d_D_write_96 : decode c_D_write 96 = .ok (.iload_n 1, 1) := by decide +kernel
theorem d_D_write_97 : decode c_D_write 97 = .ok (.iload 6, 2) := by decide +kernel
theorem d_D_write_99 : decode c_D_write 99 = .ok (.aload_n 0, 1) := by decide +kernel
theorem d_D_write_100 : decode c_D_write 100 = .ok (.getfield 17, 3) := by decide +kernel
theorem d_D_write_103 : decode c_D_write 103 = .ok (.invokevirtual 68, 3) := by decide +kernel
theorem d_D_write_106 : decode c_D_write 106 = .ok (.istore 5, 2) := by decide +kernel
theorem d_D_write_108 : decode c_D_write 108 = .ok (.aload_n 0, 1) := by decide +kernel
theorem d_D_write_109 : decode c_D_write 109 = .ok (.getfield 24, 3) := by decide +kernel
theorem d_D_write_112 : decode c_D_write 112 = .ok (.iload 5, 2) := by decide +kernel
theorem d_D_write_114 : decode c_D_write 114 = .ok (.iload_n 2, 1) := by decide +kernel
theorem d_D_write_115 : decode c_D_write 115 = .ok (.iload_n 3, 1) := by decide +kernel
theorem d_D_write_116 : decode c_D_write 116 = .ok (.iload 4, 2) := by decide +kernel
theorem d_D_write_118 : decode c_D_write 118 = .ok (.invokevirtual 72, 3) := by decide +kernel
theorem d_D_write_121 : decode c_D_write 121 = .ok (.aload_n 0, 1) := by decide +kernel
theorem d_D_write_122 : decode c_D_write 122 = .ok (.getfield 24, 3) := by decide +kernel
theorem d_D_write_125 : decode c_D_write 125 = .ok (.invokevirtual 76, 3) := by decide +kernel
theorem d_D_write_128 : decode c_D_write 128 = .ok (.ireturn, 1) := by decide +kernel
theorem d_D_read_0 : decode c_D_read 0 = .ok (.aload_n 0, 1) := by decide +kernel
theorem d_D_read_1 : decode c_D_read 1 = .ok (.getfield 46, 3) := by decide +kernel
theorem d_D_read_4 : decode c_D_read 4 = .ok (.ifCond .ne 6, 3) := by decide +kernel
theorem d_D_read_7 : decode c_D_read 7 = .ok (.bipush (-2), 2) := by decide +kernel
theorem d_D_read_9 : decode c_D_read 9 = .ok (.ireturn, 1) := by decide +kernel
theorem d_D_read_10 : decode c_D_read 10 = .ok (.aload_n 0, 1) := by decide +kernel
theorem d_D_read_11 : decode c_D_read 11 = .ok (.iload_n 1, 1) := by decide +kernel
theorem d_D_read_12 : decode c_D_read 12 = .ok (.iload_n 2, 1) := by decide +kernel
theorem d_D_read_13 : decode c_D_read 13 = .ok (.invokevirtual 50, 3) := by decide +kernel
theorem d_D_read_16 : decode c_D_read 16 = .ok (.ifCond .ne 5, 3) := by decide +kernel
theorem d_D_read_19 : decode c_D_read 19 = .ok (.iconst (-1), 1) := by decide +kernel
theorem d_D_read_20 : decode c_D_read 20 = .ok (.ireturn, 1) := by decide +kernel
theorem d_D_read_21 : decode c_D_read 21 = .ok (.aload_n 0, 1) := by decide +kernel
theorem d_D_read_22 : decode c_D_read 22 = .ok (.getfield 24, 3) := by decide +kernel
theorem d_D_read_25 : decode c_D_read 25 = .ok (.iload_n 1, 1) := by decide +kernel
theorem d_D_read_26 : decode c_D_read 26 = .ok (.invokevirtual 54, 3) := by decide +kernel
theorem d_D_read_29 : decode c_D_read 29 = .ok (.istore_n 3, 1) := by decide +kernel
theorem d_D_read_30 : decode c_D_read 30 = .ok (.iload_n 3, 1) := by decide +kernel
theorem d_D_read_31 : decode c_D_read 31 = .ok (.ifCond .ge 21, 3) := by decide +kernel
theorem d_D_read_34 : decode c_D_read 34 = .ok (.aload_n 0, 1) := by decide +kernel
theorem d_D_read_35 : decode c_D_read 35 = .ok (.getfield 17, 3) := by decide +kernel
theorem d_D_read_38 : decode c_D_read 38 = .ok (.iload_n 1, 1) := by decide +kernel
theorem d_D_read_39 : decode c_D_read 39 = .ok (.bipush 64, 2) := by decide +kernel
theorem d_D_read_41 : decode c_D_read 41 = .ok (.imul, 1) := by decide +kernel
theorem d_D_read_42 : decode c_D_read 42 = .ok (.iload_n 2, 1) := by decide +kernel
theorem d_D_read_43 : decode c_D_read 43 = .ok (.iadd, 1) := by decide +kernel
theorem d_D_read_44 : decode c_D_read 44 = .ok (.baload, 1) := by decide +kernel
theorem d_D_read_45 : decode c_D_read 45 = .ok (.sipush 255, 3) := by decide +kernel
theorem d_D_read_48 : decode c_D_read 48 = .ok (.iand, 1) := by decide +kernel
theorem d_D_read_49 : decode c_D_read 49 = .ok (.goto 12, 3) := by decide +kernel
theorem d_D_read_52 : decode c_D_read 52 = .ok (.aload_n 0, 1) := by decide +kernel
theorem d_D_read_53 : decode c_D_read 53 = .ok (.getfield 24, 3) := by decide +kernel
theorem d_D_read_56 : decode c_D_read 56 = .ok (.iload_n 3, 1) := by decide +kernel
theorem d_D_read_57 : decode c_D_read 57 = .ok (.iload_n 2, 1) := by decide +kernel
theorem d_D_read_58 : decode c_D_read 58 = .ok (.invokevirtual 79, 3) := by decide +kernel
theorem d_D_read_61 : decode c_D_read 61 = .ok (.ireturn, 1) := by decide +kernel
theorem d_D_commit_0 : decode c_D_commit 0 = .ok (.aload_n 0, 1) := by decide +kernel
theorem d_D_commit_1 : decode c_D_commit 1 = .ok (.getfield 46, 3) := by decide +kernel
theorem d_D_commit_4 : decode c_D_commit 4 = .ok (.ifCond .ne 6, 3) := by decide +kernel
theorem d_D_commit_7 : decode c_D_commit 7 = .ok (.bipush (-2), 2) := by decide +kernel
theorem d_D_commit_9 : decode c_D_commit 9 = .ok (.ireturn, 1) := by decide +kernel
theorem d_D_commit_10 : decode c_D_commit 10 = .ok (.iload_n 1, 1) := by decide +kernel
theorem d_D_commit_11 : decode c_D_commit 11 = .ok (.ifCond .lt 8, 3) := by decide +kernel
theorem d_D_commit_14 : decode c_D_commit 14 = .ok (.iload_n 1, 1) := by decide +kernel
theorem d_D_commit_15 : decode c_D_commit 15 = .ok (.iconst 4, 1) := by decide +kernel
theorem d_D_commit_16 : decode c_D_commit 16 = .ok (.if_icmp .le 5, 3) := by decide +kernel
theorem d_D_commit_19 : decode c_D_commit 19 = .ok (.iconst (-1), 1) := by decide +kernel
theorem d_D_commit_20 : decode c_D_commit 20 = .ok (.ireturn, 1) := by decide +kernel
theorem d_D_commit_21 : decode c_D_commit 21 = .ok (.aload_n 0, 1) := by decide +kernel
theorem d_D_commit_22 : decode c_D_commit 22 = .ok (.getfield 24, 3) := by decide +kernel
theorem d_D_commit_25 : decode c_D_commit 25 = .ok (.invokevirtual 83, 3) := by decide +kernel
theorem d_D_commit_28 : decode c_D_commit 28 = .ok (.ifCond .eq 5, 3) := by decide +kernel
theorem d_D_commit_31 : decode c_D_commit 31 = .ok (.iconst 0, 1) := by decide +kernel
theorem d_D_commit_32 : decode c_D_commit 32 = .ok (.ireturn, 1) := by decide +kernel
theorem d_D_commit_33 : decode c_D_commit 33 = .ok (.iload_n 1, 1) := by decide +kernel
theorem d_D_commit_34 : decode c_D_commit 34 = .ok (.iconst 1, 1) := by decide +kernel
theorem d_D_commit_35 : decode c_D_commit 35 = .ok (.if_icmp .ne 8, 3) := by decide +kernel
theorem d_D_commit_38 : decode c_D_commit 38 = .ok (.aload_n 0, 1) := by decide +kernel
theorem d_D_commit_39 : decode c_D_commit 39 = .ok (.invokevirtual 87, 3) := by decide +kernel
theorem d_D_commit_42 : decode c_D_commit 42 = .ok (.ireturn, 1) := by decide +kernel
theorem d_D_commit_43 : decode c_D_commit 43 = .ok (.aload_n 0, 1) := by decide +kernel
theorem d_D_commit_44 : decode c_D_commit 44 = .ok (.getfield 28, 3) := by decide +kernel
theorem d_D_commit_47 : decode c_D_commit 47 = .ok (.aload_n 0, 1) := by decide +kernel
theorem d_D_commit_48 : decode c_D_commit 48 = .ok (.getfield 24, 3) := by decide +kernel
theorem d_D_commit_51 : decode c_D_commit 51 = .ok (.invokevirtual 90, 3) := by decide +kernel
theorem d_D_commit_54 : decode c_D_commit 54 = .ok (.aload_n 0, 1) := by decide +kernel
theorem d_D_commit_55 : decode c_D_commit 55 = .ok (.getfield 34, 3) := by decide +kernel
theorem d_D_commit_58 : decode c_D_commit 58 = .ok (.iconst 1, 1) := by decide +kernel
theorem d_D_commit_59 : decode c_D_commit 59 = .ok (.aload_n 0, 1) := by decide +kernel
theorem d_D_commit_60 : decode c_D_commit 60 = .ok (.getfield 9, 3) := by decide +kernel
theorem d_D_commit_63 : decode c_D_commit 63 = .ok (.invokevirtual 94, 3) := by decide +kernel
theorem d_D_commit_66 : decode c_D_commit 66 = .ok (.iload_n 1, 1) := by decide +kernel
theorem d_D_commit_67 : decode c_D_commit 67 = .ok (.iconst 2, 1) := by decide +kernel
theorem d_D_commit_68 : decode c_D_commit 68 = .ok (.if_icmp .ne 9, 3) := by decide +kernel
theorem d_D_commit_71 : decode c_D_commit 71 = .ok (.aload_n 0, 1) := by decide +kernel
theorem d_D_commit_72 : decode c_D_commit 72 = .ok (.lload_n 2, 1) := by decide +kernel
theorem d_D_commit_73 : decode c_D_commit 73 = .ok (.invokevirtual 98, 3) := by decide +kernel
theorem d_D_commit_76 : decode c_D_commit 76 = .ok (.ireturn, 1) := by decide +kernel
theorem d_D_commit_77 : decode c_D_commit 77 = .ok (.aload_n 0, 1) := by decide +kernel
theorem d_D_commit_78 : decode c_D_commit 78 = .ok (.invokevirtual 102, 3) := by decide +kernel
theorem d_D_commit_81 : decode c_D_commit 81 = .ok (.iload_n 1, 1) := by decide +kernel
theorem d_D_commit_82 : decode c_D_commit 82 = .ok (.iconst 3, 1) := by decide +kernel
theorem d_D_commit_83 : decode c_D_commit 83 = .ok (.if_icmp .ne 8, 3) := by decide +kernel
theorem d_D_commit_86 : decode c_D_commit 86 = .ok (.aload_n 0, 1) := by decide +kernel
theorem d_D_commit_87 : decode c_D_commit 87 = .ok (.invokevirtual 87, 3) := by decide +kernel
theorem d_D_commit_90 : decode c_D_commit 90 = .ok (.ireturn, 1) := by decide +kernel
theorem d_D_commit_91 : decode c_D_commit 91 = .ok (.aload_n 0, 1) := by decide +kernel
theorem d_D_commit_92 : decode c_D_commit 92 = .ok (.getfield 28, 3) := by decide +kernel
theorem d_D_commit_95 : decode c_D_commit 95 = .ok (.aload_n 0, 1) := by decide +kernel
theorem d_D_commit_96 : decode c_D_commit 96 = .ok (.getfield 17, 3) := by decide +kernel
theorem d_D_commit_99 : decode c_D_commit 99 = .ok (.invokevirtual 105, 3) := by decide +kernel
theorem d_D_commit_102 : decode c_D_commit 102 = .ok (.aload_n 0, 1) := by decide +kernel
theorem d_D_commit_103 : decode c_D_commit 103 = .ok (.getfield 34, 3) := by decide +kernel
theorem d_D_commit_106 : decode c_D_commit 106 = .ok (.iconst 0, 1) := by decide +kernel
theorem d_D_commit_107 : decode c_D_commit 107 = .ok (.aload_n 0, 1) := by decide +kernel
theorem d_D_commit_108 : decode c_D_commit 108 = .ok (.getfield 9, 3) := by decide +kernel
theorem d_D_commit_111 : decode c_D_commit 111 = .ok (.invokevirtual 94, 3) := by decide +kernel
theorem d_D_commit_114 : decode c_D_commit 114 = .ok (.iload_n 1, 1) := by decide +kernel
theorem d_D_commit_115 : decode c_D_commit 115 = .ok (.iconst 4, 1) := by decide +kernel
theorem d_D_commit_116 : decode c_D_commit 116 = .ok (.if_icmp .ne 9, 3) := by decide +kernel
theorem d_D_commit_119 : decode c_D_commit 119 = .ok (.aload_n 0, 1) := by decide +kernel
theorem d_D_commit_120 : decode c_D_commit 120 = .ok (.lload_n 2, 1) := by decide +kernel
theorem d_D_commit_121 : decode c_D_commit 121 = .ok (.invokevirtual 98, 3) := by decide +kernel
theorem d_D_commit_124 : decode c_D_commit 124 = .ok (.ireturn, 1) := by decide +kernel
theorem d_D_commit_125 : decode c_D_commit 125 = .ok (.aload_n 0, 1) := by decide +kernel
theorem d_D_commit_126 : decode c_D_commit 126 = .ok (.invokevirtual 102, 3) := by decide +kernel
theorem d_D_commit_129 : decode c_D_commit 129 = .ok (.aload_n 0, 1) := by decide +kernel
theorem d_D_commit_130 : decode c_D_commit 130 = .ok (.getfield 24, 3) := by decide +kernel
theorem d_D_commit_133 : decode c_D_commit 133 = .ok (.invokevirtual 76, 3) := by decide +kernel
theorem d_D_commit_136 : decode c_D_commit 136 = .ok (.istore 4, 2) := by decide +kernel
theorem d_D_commit_138 : decode c_D_commit 138 = .ok (.aload_n 0, 1) := by decide +kernel
theorem d_D_commit_139 : decode c_D_commit 139 = .ok (.getfield 24, 3) := by decide +kernel
theorem d_D_commit_142 : decode c_D_commit 142 = .ok (.invokevirtual 109, 3) := by decide +kernel
theorem d_D_commit_145 : decode c_D_commit 145 = .ok (.iload 4, 2) := by decide +kernel
theorem d_D_commit_147 : decode c_D_commit 147 = .ok (.ireturn, 1) := by decide +kernel
theorem d_D_forget_0 : decode c_D_forget 0 = .ok (.aload_n 0, 1) := by decide +kernel
theorem d_D_forget_1 : decode c_D_forget 1 = .ok (.getfield 46, 3) := by decide +kernel
theorem d_D_forget_4 : decode c_D_forget 4 = .ok (.ifCond .ne 6, 3) := by decide +kernel
theorem d_D_forget_7 : decode c_D_forget 7 = .ok (.bipush (-2), 2) := by decide +kernel
theorem d_D_forget_9 : decode c_D_forget 9 = .ok (.ireturn, 1) := by decide +kernel
theorem d_D_forget_10 : decode c_D_forget 10 = .ok (.aload_n 0, 1) := by decide +kernel
theorem d_D_forget_11 : decode c_D_forget 11 = .ok (.getfield 24, 3) := by decide +kernel
theorem d_D_forget_14 : decode c_D_forget 14 = .ok (.invokevirtual 112, 3) := by decide +kernel
theorem d_D_forget_17 : decode c_D_forget 17 = .ok (.istore_n 1, 1) := by decide +kernel
theorem d_D_forget_18 : decode c_D_forget 18 = .ok (.aload_n 0, 1) := by decide +kernel
theorem d_D_forget_19 : decode c_D_forget 19 = .ok (.getfield 24, 3) := by decide +kernel
theorem d_D_forget_22 : decode c_D_forget 22 = .ok (.invokevirtual 109, 3) := by decide +kernel
theorem d_D_forget_25 : decode c_D_forget 25 = .ok (.iload_n 1, 1) := by decide +kernel
theorem d_D_forget_26 : decode c_D_forget 26 = .ok (.ireturn, 1) := by decide +kernel
theorem d_D_lose_0 : decode c_D_lose 0 = .ok (.aload_n 0, 1) := by decide +kernel
theorem d_D_lose_1 : decode c_D_lose 1 = .ok (.iload_n 1, 1) := by decide +kernel
theorem d_D_lose_2 : decode c_D_lose 2 = .ok (.invokevirtual 115, 3) := by decide +kernel
theorem d_D_lose_5 : decode c_D_lose 5 = .ok (.ifCond .eq 13, 3) := by decide +kernel
theorem d_D_lose_8 : decode c_D_lose 8 = .ok (.aload_n 0, 1) := by decide +kernel
theorem d_D_lose_9 : decode c_D_lose 9 = .ok (.getfield 9, 3) := by decide +kernel
theorem d_D_lose_12 : decode c_D_lose 12 = .ok (.iload_n 1, 1) := by decide +kernel
theorem d_D_lose_13 : decode c_D_lose 13 = .ok (.iaload, 1) := by decide +kernel
theorem d_D_lose_14 : decode c_D_lose 14 = .ok (.iconst (-1), 1) := by decide +kernel
theorem d_D_lose_15 : decode c_D_lose 15 = .ok (.if_icmp .ne 5, 3) := by decide +kernel
theorem d_D_lose_18 : decode c_D_lose 18 = .ok (.iconst (-1), 1) := by decide +kernel
theorem d_D_lose_19 : decode c_D_lose 19 = .ok (.ireturn, 1) := by decide +kernel
theorem d_D_lose_20 : decode c_D_lose 20 = .ok (.aload_n 0, 1) := by decide +kernel
theorem d_D_lose_21 : decode c_D_lose 21 = .ok (.iload_n 1, 1) := by decide +kernel
theorem d_D_lose_22 : decode c_D_lose 22 = .ok (.invokevirtual 119, 3) := by decide +kernel
theorem d_D_lose_25 : decode c_D_lose 25 = .ok (.ifCond .ne 6, 3) := by decide +kernel
theorem d_D_lose_28 : decode c_D_lose 28 = .ok (.bipush (-3), 2) := by decide +kernel
theorem d_D_lose_30 : decode c_D_lose 30 = .ok (.ireturn, 1) := by decide +kernel
theorem d_D_lose_31 : decode c_D_lose 31 = .ok (.aload_n 0, 1) := by decide +kernel
theorem d_D_lose_32 : decode c_D_lose 32 = .ok (.getfield 9, 3) := by decide +kernel
theorem d_D_lose_35 : decode c_D_lose 35 = .ok (.iload_n 1, 1) := by decide +kernel
theorem d_D_lose_36 : decode c_D_lose 36 = .ok (.iconst (-1), 1) := by decide +kernel
theorem d_D_lose_37 : decode c_D_lose 37 = .ok (.iastore, 1) := by decide +kernel
theorem d_D_lose_38 : decode c_D_lose 38 = .ok (.aload_n 0, 1) := by decide +kernel
theorem d_D_lose_39 : decode c_D_lose 39 = .ok (.getfield 13, 3) := by decide +kernel
theorem d_D_lose_42 : decode c_D_lose 42 = .ok (.iload_n 1, 1) := by decide +kernel
theorem d_D_lose_43 : decode c_D_lose 43 = .ok (.lconst 0, 1) := by decide +kernel
theorem d_D_lose_44 : decode c_D_lose 44 = .ok (.lastore, 1) := by decide +kernel
theorem d_D_lose_45 : decode c_D_lose 45 = .ok (.aload_n 0, 1) := by decide +kernel
theorem d_D_lose_46 : decode c_D_lose 46 = .ok (.getfield 34, 3) := by decide +kernel
theorem d_D_lose_49 : decode c_D_lose 49 = .ok (.iload_n 1, 1) := by decide +kernel
theorem d_D_lose_50 : decode c_D_lose 50 = .ok (.invokevirtual 122, 3) := by decide +kernel
theorem d_D_lose_53 : decode c_D_lose 53 = .ok (.aload_n 0, 1) := by decide +kernel
theorem d_D_lose_54 : decode c_D_lose 54 = .ok (.invokevirtual 126, 3) := by decide +kernel
theorem d_D_lose_57 : decode c_D_lose 57 = .ok (.ireturn, 1) := by decide +kernel
theorem d_D_replace_0 : decode c_D_replace 0 = .ok (.aload_n 0, 1) := by decide +kernel
theorem d_D_replace_1 : decode c_D_replace 1 = .ok (.iload_n 1, 1) := by decide +kernel
theorem d_D_replace_2 : decode c_D_replace 2 = .ok (.invokevirtual 115, 3) := by decide +kernel
theorem d_D_replace_5 : decode c_D_replace 5 = .ok (.ifCond .eq 13, 3) := by decide +kernel
theorem d_D_replace_8 : decode c_D_replace 8 = .ok (.aload_n 0, 1) := by decide +kernel
theorem d_D_replace_9 : decode c_D_replace 9 = .ok (.getfield 9, 3) := by decide +kernel
theorem d_D_replace_12 : decode c_D_replace 12 = .ok (.iload_n 1, 1) := by decide +kernel
theorem d_D_replace_13 : decode c_D_replace 13 = .ok (.iaload, 1) := by decide +kernel
theorem d_D_replace_14 : decode c_D_replace 14 = .ok (.iconst (-1), 1) := by decide +kernel
theorem d_D_replace_15 : decode c_D_replace 15 = .ok (.if_icmp .eq 5, 3) := by decide +kernel
theorem d_D_replace_18 : decode c_D_replace 18 = .ok (.iconst (-1), 1) := by decide +kernel
theorem d_D_replace_19 : decode c_D_replace 19 = .ok (.ireturn, 1) := by decide +kernel
theorem d_D_replace_20 : decode c_D_replace 20 = .ok (.aload_n 0, 1) := by decide +kernel
theorem d_D_replace_21 : decode c_D_replace 21 = .ok (.getfield 9, 3) := by decide +kernel
theorem d_D_replace_24 : decode c_D_replace 24 = .ok (.iload_n 1, 1) := by decide +kernel
theorem d_D_replace_25 : decode c_D_replace 25 = .ok (.iconst 0, 1) := by decide +kernel
theorem d_D_replace_26 : decode c_D_replace 26 = .ok (.iastore, 1) := by decide +kernel
theorem d_D_replace_27 : decode c_D_replace 27 = .ok (.aload_n 0, 1) := by decide +kernel
theorem d_D_replace_28 : decode c_D_replace 28 = .ok (.getfield 46, 3) := by decide +kernel
theorem d_D_replace_31 : decode c_D_replace 31 = .ok (.ifCond .eq 19, 3) := by decide +kernel
theorem d_D_replace_34 : decode c_D_replace 34 = .ok (.aload_n 0, 1) := by decide +kernel
theorem d_D_replace_35 : decode c_D_replace 35 = .ok (.getfield 34, 3) := by decide +kernel
theorem d_D_replace_38 : decode c_D_replace 38 = .ok (.iconst 0, 1) := by decide +kernel
theorem d_D_replace_39 : decode c_D_replace 39 = .ok (.aload_n 0, 1) := by decide +kernel
theorem d_D_replace_40 : decode c_D_replace 40 = .ok (.getfield 9, 3) := by decide +kernel
theorem d_D_replace_43 : decode c_D_replace 43 = .ok (.invokevirtual 94, 3) := by decide +kernel
theorem d_D_replace_46 : decode c_D_replace 46 = .ok (.aload_n 0, 1) := by decide +kernel
theorem d_D_replace_47 : decode c_D_replace 47 = .ok (.invokevirtual 102, 3) := by decide +kernel
theorem d_D_replace_50 : decode c_D_replace 50 = .ok (.iconst 0, 1) := by decide +kernel
theorem d_D_replace_51 : decode c_D_replace 51 = .ok (.ireturn, 1) := by decide +kernel
theorem d_D_rot_0 : decode c_D_rot 0 = .ok (.aload_n 0, 1) := by decide +kernel
theorem d_D_rot_1 : decode c_D_rot 1 = .ok (.iload_n 1, 1) := by decide +kernel
theorem d_D_rot_2 : decode c_D_rot 2 = .ok (.invokevirtual 115, 3) := by decide +kernel
theorem d_D_rot_5 : decode c_D_rot 5 = .ok (.ifCond .eq 20, 3) := by decide +kernel
theorem d_D_rot_8 : decode c_D_rot 8 = .ok (.aload_n 0, 1) := by decide +kernel
theorem d_D_rot_9 : decode c_D_rot 9 = .ok (.iload_n 2, 1) := by decide +kernel
theorem d_D_rot_10 : decode c_D_rot 10 = .ok (.invokevirtual 129, 3) := by decide +kernel
theorem d_D_rot_13 : decode c_D_rot 13 = .ok (.ifCond .eq 12, 3) := by decide +kernel
theorem d_D_rot_16 : decode c_D_rot 16 = .ok (.aload_n 0, 1) := by decide +kernel
theorem d_D_rot_17 : decode c_D_rot 17 = .ok (.iload_n 1, 1) := by decide +kernel
theorem d_D_rot_18 : decode c_D_rot 18 = .ok (.iload_n 2, 1) := by decide +kernel
theorem d_D_rot_19 : decode c_D_rot 19 = .ok (.invokevirtual 132, 3) := by decide +kernel
theorem d_D_rot_22 : decode c_D_rot 22 = .ok (.ifCond .eq 5, 3) := by decide +kernel
theorem d_D_rot_25 : decode c_D_rot 25 = .ok (.iconst (-1), 1) := by decide +kernel
theorem d_D_rot_26 : decode c_D_rot 26 = .ok (.ireturn, 1) := by decide +kernel
theorem d_D_rot_27 : decode c_D_rot 27 = .ok (.aload_n 0, 1) := by decide +kernel
theorem d_D_rot_28 : decode c_D_rot 28 = .ok (.iload_n 2, 1) := by decide +kernel
theorem d_D_rot_29 : decode c_D_rot 29 = .ok (.invokevirtual 135, 3) := by decide +kernel
theorem d_D_rot_32 : decode c_D_rot 32 = .ok (.istore_n 3, 1) := by decide +kernel
theorem d_D_rot_33 : decode c_D_rot 33 = .ok (.iload_n 3, 1) := by decide +kernel
theorem d_D_rot_34 : decode c_D_rot 34 = .ok (.iconst 2, 1) := by decide +kernel
theorem d_D_rot_35 : decode c_D_rot 35 = .ok (.if_icmp .lt 6, 3) := by decide +kernel
theorem d_D_rot_38 : decode c_D_rot 38 = .ok (.bipush (-3), 2) := by decide +kernel
theorem d_D_rot_40 : decode c_D_rot 40 = .ok (.ireturn, 1) := by decide +kernel
theorem d_D_rot_41 : decode c_D_rot 41 = .ok (.aload_n 0, 1) := by decide +kernel
theorem d_D_rot_42 : decode c_D_rot 42 = .ok (.getfield 13, 3) := by decide +kernel
theorem d_D_rot_45 : decode c_D_rot 45 = .ok (.iload_n 1, 1) := by decide +kernel
theorem d_D_rot_46 : decode c_D_rot 46 = .ok (.dup2, 1) := by decide +kernel
theorem d_D_rot_47 : decode c_D_rot 47 = .ok (.laload, 1) := by decide +kernel
theorem d_D_rot_48 : decode c_D_rot 48 = .ok (.lconst 1, 1) := by decide +kernel
theorem d_D_rot_49 : decode c_D_rot 49 = .ok (.iload_n 2, 1) := by decide +kernel
theorem d_D_rot_50 : decode c_D_rot 50 = .ok (.lshl, 1) := by decide +kernel
theorem d_D_rot_51 : decode c_D_rot 51 = .ok (.lor, 1) := by decide +kernel
theorem d_D_rot_52 : decode c_D_rot 52 = .ok (.lastore, 1) := by decide +kernel
theorem d_D_rot_53 : decode c_D_rot 53 = .ok (.iload_n 3, 1) := by decide +kernel
theorem d_D_rot_54 : decode c_D_rot 54 = .ok (.iconst 1, 1) := by decide +kernel
theorem d_D_rot_55 : decode c_D_rot 55 = .ok (.iadd, 1) := by decide +kernel
theorem d_D_rot_56 : decode c_D_rot 56 = .ok (.ireturn, 1) := by decide +kernel
theorem d_D_fill_0 : decode c_D_fill 0 = .ok (.aload_n 0, 1) := by decide +kernel
theorem d_D_fill_1 : decode c_D_fill 1 = .ok (.getfield 46, 3) := by decide +kernel
theorem d_D_fill_4 : decode c_D_fill 4 = .ok (.ifCond .ne 6, 3) := by decide +kernel
theorem d_D_fill_7 : decode c_D_fill 7 = .ok (.bipush (-2), 2) := by decide +kernel
theorem d_D_fill_9 : decode c_D_fill 9 = .ok (.ireturn, 1) := by decide +kernel
theorem d_D_fill_10 : decode c_D_fill 10 = .ok (.aload_n 0, 1) := by decide +kernel
theorem d_D_fill_11 : decode c_D_fill 11 = .ok (.iload_n 1, 1) := by decide +kernel
theorem d_D_fill_12 : decode c_D_fill 12 = .ok (.invokevirtual 115, 3) := by decide +kernel
theorem d_D_fill_15 : decode c_D_fill 15 = .ok (.ifCond .eq 20, 3) := by decide +kernel
theorem d_D_fill_18 : decode c_D_fill 18 = .ok (.aload_n 0, 1) := by decide +kernel
theorem d_D_fill_19 : decode c_D_fill 19 = .ok (.iload_n 1, 1) := by decide +kernel
theorem d_D_fill_20 : decode c_D_fill 20 = .ok (.invokevirtual 138, 3) := by decide +kernel
theorem d_D_fill_23 : decode c_D_fill 23 = .ok (.ifCond .eq 12, 3) := by decide +kernel
theorem d_D_fill_26 : decode c_D_fill 26 = .ok (.iload_n 2, 1) := by decide +kernel
theorem d_D_fill_27 : decode c_D_fill 27 = .ok (.ifCond .lt 8, 3) := by decide +kernel
theorem d_D_fill_30 : decode c_D_fill 30 = .ok (.iload_n 2, 1) := by decide +kernel
theorem d_D_fill_31 : decode c_D_fill 31 = .ok (.iconst 2, 1) := by decide +kernel
theorem d_D_fill_32 : decode c_D_fill 32 = .ok (.if_icmp .le 5, 3) := by decide +kernel
theorem d_D_fill_35 : decode c_D_fill 35 = .ok (.iconst (-1), 1) := by decide +kernel
theorem d_D_fill_36 : decode c_D_fill 36 = .ok (.ireturn, 1) := by decide +kernel
theorem d_D_fill_37 : decode c_D_fill 37 = .ok (.iload_n 2, 1) := by decide +kernel
theorem d_D_fill_38 : decode c_D_fill 38 = .ok (.iconst 1, 1) := by decide +kernel
theorem d_D_fill_39 : decode c_D_fill 39 = .ok (.if_icmp .ne 8, 3) := by decide +kernel
theorem d_D_fill_42 : decode c_D_fill 42 = .ok (.aload_n 0, 1) := by decide +kernel
theorem d_D_fill_43 : decode c_D_fill 43 = .ok (.invokevirtual 87, 3) := by decide +kernel
theorem d_D_fill_46 : decode c_D_fill 46 = .ok (.ireturn, 1) := by decide +kernel
theorem d_D_fill_47 : decode c_D_fill 47 = .ok (.aload_n 0, 1) := by decide +kernel
theorem d_D_fill_48 : decode c_D_fill 48 = .ok (.getfield 9, 3) := by decide +kernel
theorem d_D_fill_51 : decode c_D_fill 51 = .ok (.iload_n 1, 1) := by decide +kernel
theorem d_D_fill_52 : decode c_D_fill 52 = .ok (.iaload, 1) := by decide +kernel
theorem d_D_fill_53 : decode c_D_fill 53 = .ok (.iconst 1, 1) := by decide +kernel
theorem d_D_fill_54 : decode c_D_fill 54 = .ok (.iadd, 1) := by decide +kernel
theorem d_D_fill_55 : decode c_D_fill 55 = .ok (.istore 5, 2) := by decide +kernel
theorem d_D_fill_57 : decode c_D_fill 57 = .ok (.aload_n 0, 1) := by decide +kernel
theorem d_D_fill_58 : decode c_D_fill 58 = .ok (.getfield 34, 3) := by decide +kernel
theorem d_D_fill_61 : decode c_D_fill 61 = .ok (.iconst 0, 1) := by decide +kernel
theorem d_D_fill_62 : decode c_D_fill 62 = .ok (.aload_n 0, 1) := by decide +kernel
theorem d_D_fill_63 : decode c_D_fill 63 = .ok (.getfield 9, 3) := by decide +kernel
theorem d_D_fill_66 : decode c_D_fill 66 = .ok (.invokevirtual 94, 3) := by decide +kernel
theorem d_D_fill_69 : decode c_D_fill 69 = .ok (.aload_n 0, 1) := by decide +kernel
theorem d_D_fill_70 : decode c_D_fill 70 = .ok (.getfield 34, 3) := by decide +kernel
theorem d_D_fill_73 : decode c_D_fill 73 = .ok (.iload_n 1, 1) := by decide +kernel
theorem d_D_fill_74 : decode c_D_fill 74 = .ok (.iload 5, 2) := by decide +kernel
theorem d_D_fill_76 : decode c_D_fill 76 = .ok (.invokevirtual 141, 3) := by decide +kernel
theorem d_D_fill_79 : decode c_D_fill 79 = .ok (.iload_n 2, 1) := by decide +kernel
theorem d_D_fill_80 : decode c_D_fill 80 = .ok (.iconst 2, 1) := by decide +kernel
theorem d_D_fill_81 : decode c_D_fill 81 = .ok (.if_icmp .ne 9, 3) := by decide +kernel
theorem d_D_fill_84 : decode c_D_fill 84 = .ok (.aload_n 0, 1) := by decide +kernel
theorem d_D_fill_85 : decode c_D_fill 85 = .ok (.lload_n 3, 1) := by decide +kernel
theorem d_D_fill_86 : decode c_D_fill 86 = .ok (.invokevirtual 98, 3) := by decide +kernel
theorem d_D_fill_89 : decode c_D_fill 89 = .ok (.ireturn, 1) := by decide +kernel
theorem d_D_fill_90 : decode c_D_fill 90 = .ok (.aload_n 0, 1) := by decide +kernel
theorem d_D_fill_91 : decode c_D_fill 91 = .ok (.invokevirtual 102, 3) := by decide +kernel
theorem d_D_fill_94 : decode c_D_fill 94 = .ok (.aload_n 0, 1) := by decide +kernel
theorem d_D_fill_95 : decode c_D_fill 95 = .ok (.getfield 9, 3) := by decide +kernel
theorem d_D_fill_98 : decode c_D_fill 98 = .ok (.iload_n 1, 1) := by decide +kernel
theorem d_D_fill_99 : decode c_D_fill 99 = .ok (.iload 5, 2) := by decide +kernel
theorem d_D_fill_101 : decode c_D_fill 101 = .ok (.iastore, 1) := by decide +kernel
theorem d_D_fill_102 : decode c_D_fill 102 = .ok (.iload 5, 2) := by decide +kernel
theorem d_D_fill_104 : decode c_D_fill 104 = .ok (.ireturn, 1) := by decide +kernel
theorem d_D_scrub_0 : decode c_D_scrub 0 = .ok (.aload_n 0, 1) := by decide +kernel
theorem d_D_scrub_1 : decode c_D_scrub 1 = .ok (.getfield 46, 3) := by decide +kernel
theorem d_D_scrub_4 : decode c_D_scrub 4 = .ok (.ifCond .ne 6, 3) := by decide +kernel
theorem d_D_scrub_7 : decode c_D_scrub 7 = .ok (.bipush (-2), 2) := by decide +kernel
theorem d_D_scrub_9 : decode c_D_scrub 9 = .ok (.ireturn, 1) := by decide +kernel
theorem d_D_scrub_10 : decode c_D_scrub 10 = .ok (.aload_n 0, 1) := by decide +kernel
theorem d_D_scrub_11 : decode c_D_scrub 11 = .ok (.iload_n 1, 1) := by decide +kernel
theorem d_D_scrub_12 : decode c_D_scrub 12 = .ok (.invokevirtual 129, 3) := by decide +kernel
theorem d_D_scrub_15 : decode c_D_scrub 15 = .ok (.ifCond .eq 12, 3) := by decide +kernel
theorem d_D_scrub_18 : decode c_D_scrub 18 = .ok (.iload_n 2, 1) := by decide +kernel
theorem d_D_scrub_19 : decode c_D_scrub 19 = .ok (.ifCond .lt 8, 3) := by decide +kernel
theorem d_D_scrub_22 : decode c_D_scrub 22 = .ok (.iload_n 2, 1) := by decide +kernel
theorem d_D_scrub_23 : decode c_D_scrub 23 = .ok (.iconst 1, 1) := by decide +kernel
theorem d_D_scrub_24 : decode c_D_scrub 24 = .ok (.if_icmp .le 5, 3) := by decide +kernel
theorem d_D_scrub_27 : decode c_D_scrub 27 = .ok (.iconst (-1), 1) := by decide +kernel
theorem d_D_scrub_28 : decode c_D_scrub 28 = .ok (.ireturn, 1) := by decide +kernel
theorem d_D_scrub_29 : decode c_D_scrub 29 = .ok (.aload_n 0, 1) := by decide +kernel
theorem d_D_scrub_30 : decode c_D_scrub 30 = .ok (.iload_n 1, 1) := by decide +kernel
theorem d_D_scrub_31 : decode c_D_scrub 31 = .ok (.invokevirtual 144, 3) := by decide +kernel
theorem d_D_scrub_34 : decode c_D_scrub 34 = .ok (.istore 5, 2) := by decide +kernel
theorem d_D_scrub_36 : decode c_D_scrub 36 = .ok (.iload 5, 2) := by decide +kernel
theorem d_D_scrub_38 : decode c_D_scrub 38 = .ok (.ifCond .ne 5, 3) := by decide +kernel
theorem d_D_scrub_41 : decode c_D_scrub 41 = .ok (.iconst 0, 1) := by decide +kernel
theorem d_D_scrub_42 : decode c_D_scrub 42 = .ok (.ireturn, 1) := by decide +kernel
theorem d_D_scrub_43 : decode c_D_scrub 43 = .ok (.iload_n 2, 1) := by decide +kernel
theorem d_D_scrub_44 : decode c_D_scrub 44 = .ok (.iconst 1, 1) := by decide +kernel
theorem d_D_scrub_45 : decode c_D_scrub 45 = .ok (.if_icmp .ne 8, 3) := by decide +kernel
theorem d_D_scrub_48 : decode c_D_scrub 48 = .ok (.aload_n 0, 1) := by decide +kernel
theorem d_D_scrub_49 : decode c_D_scrub 49 = .ok (.invokevirtual 87, 3) := by decide +kernel
theorem d_D_scrub_52 : decode c_D_scrub 52 = .ok (.ireturn, 1) := by decide +kernel
theorem d_D_scrub_53 : decode c_D_scrub 53 = .ok (.iconst 0, 1) := by decide +kernel
theorem d_D_scrub_54 : decode c_D_scrub 54 = .ok (.istore 6, 2) := by decide +kernel
theorem d_D_scrub_56 : decode c_D_scrub 56 = .ok (.iload 6, 2) := by decide +kernel
theorem d_D_scrub_58 : decode c_D_scrub 58 = .ok (.aload_n 0, 1) := by decide +kernel
theorem d_D_scrub_59 : decode c_D_scrub 59 = .ok (.getfield 64, 3) := by decide +kernel
theorem d_D_scrub_62 : decode c_D_scrub 62 = .ok (.if_icmp .ge 26, 3) := by decide +kernel
theorem d_D_scrub_65 : decode c_D_scrub 65 = .ok (.aload_n 0, 1) := by decide +kernel
theorem d_D_scrub_66 : decode c_D_scrub 66 = .ok (.getfield 13, 3) := by decide +kernel
theorem d_D_scrub_69 : decode c_D_scrub 69 = .ok (.iload 6, 2) := by decide +kernel
theorem d_D_scrub_71 : decode c_D_scrub 71 = .ok (.dup2, 1) := by decide +kernel
theorem d_D_scrub_72 : decode c_D_scrub 72 = .ok (.laload, 1) := by decide +kernel
theorem d_D_scrub_73 : decode c_D_scrub 73 = .ok (.lconst 1, 1) := by decide +kernel
theorem d_D_scrub_74 : decode c_D_scrub 74 = .ok (.iload_n 1, 1) := by decide +kernel
theorem d_D_scrub_75 : decode c_D_scrub 75 = .ok (.lshl, 1) := by decide +kernel
theorem d_D_scrub_76 : decode c_D_scrub 76 = .ok (.ldc2_w 147, 3) := by decide +kernel
theorem d_D_scrub_79 : decode c_D_scrub 79 = .ok (.lxor, 1) := by decide +kernel
theorem d_D_scrub_80 : decode c_D_scrub 80 = .ok (.land, 1) := by decide +kernel
theorem d_D_scrub_81 : decode c_D_scrub 81 = .ok (.lastore, 1) := by decide +kernel
theorem d_D_scrub_82 : decode c_D_scrub 82 = .ok (.iinc 6 1, 3) := by decide +kernel
theorem d_D_scrub_85 : decode c_D_scrub 85 = .ok (.goto (-29), 3) := by decide +kernel
theorem d_D_scrub_88 : decode c_D_scrub 88 = .ok (.iload 5, 2) := by decide +kernel
theorem d_D_scrub_90 : decode c_D_scrub 90 = .ok (.ireturn, 1) := by decide +kernel
theorem d_D_mount_0 : decode c_D_mount 0 = .ok (.aload_n 0, 1) := by decide +kernel
theorem d_D_mount_1 : decode c_D_mount 1 = .ok (.getfield 46, 3) := by decide +kernel
theorem d_D_mount_4 : decode c_D_mount 4 = .ok (.ifCond .ne 12, 3) := by decide +kernel
theorem d_D_mount_7 : decode c_D_mount 7 = .ok (.iload_n 1, 1) := by decide +kernel
theorem d_D_mount_8 : decode c_D_mount 8 = .ok (.ifCond .lt 8, 3) := by decide +kernel
theorem d_D_mount_11 : decode c_D_mount 11 = .ok (.iload_n 1, 1) := by decide +kernel
theorem d_D_mount_12 : decode c_D_mount 12 = .ok (.iconst 3, 1) := by decide +kernel
theorem d_D_mount_13 : decode c_D_mount 13 = .ok (.if_icmp .le 5, 3) := by decide +kernel
theorem d_D_mount_16 : decode c_D_mount 16 = .ok (.iconst (-1), 1) := by decide +kernel
theorem d_D_mount_17 : decode c_D_mount 17 = .ok (.ireturn, 1) := by decide +kernel
theorem d_D_mount_18 : decode c_D_mount 18 = .ok (.aload_n 0, 1) := by decide +kernel
theorem d_D_mount_19 : decode c_D_mount 19 = .ok (.getfield 34, 3) := by decide +kernel
theorem d_D_mount_22 : decode c_D_mount 22 = .ok (.invokevirtual 149, 3) := by decide +kernel
theorem d_D_mount_25 : decode c_D_mount 25 = .ok (.iload_n 1, 1) := by decide +kernel
theorem d_D_mount_26 : decode c_D_mount 26 = .ok (.iconst 1, 1) := by decide +kernel
theorem d_D_mount_27 : decode c_D_mount 27 = .ok (.if_icmp .ne 11, 3) := by decide +kernel
theorem d_D_mount_30 : decode c_D_mount 30 = .ok (.aload_n 0, 1) := by decide +kernel
theorem d_D_mount_31 : decode c_D_mount 31 = .ok (.lload_n 2, 1) := by decide +kernel
theorem d_D_mount_32 : decode c_D_mount 32 = .ok (.invokevirtual 152, 3) := by decide +kernel
theorem d_D_mount_35 : decode c_D_mount 35 = .ok (.bipush (-2), 2) := by decide +kernel
theorem d_D_mount_37 : decode c_D_mount 37 = .ok (.ireturn, 1) := by decide +kernel
theorem d_D_mount_38 : decode c_D_mount 38 = .ok (.aload_n 0, 1) := by decide +kernel
theorem d_D_mount_39 : decode c_D_mount 39 = .ok (.ldc2_w 156, 3) := by decide +kernel
theorem d_D_mount_42 : decode c_D_mount 42 = .ok (.invokevirtual 152, 3) := by decide +kernel
theorem d_D_mount_45 : decode c_D_mount 45 = .ok (.aload_n 0, 1) := by decide +kernel
theorem d_D_mount_46 : decode c_D_mount 46 = .ok (.invokevirtual 158, 3) := by decide +kernel
theorem d_D_mount_49 : decode c_D_mount 49 = .ok (.iconst 0, 1) := by decide +kernel
theorem d_D_mount_50 : decode c_D_mount 50 = .ok (.istore 4, 2) := by decide +kernel
theorem d_D_mount_52 : decode c_D_mount 52 = .ok (.aload_n 0, 1) := by decide +kernel
theorem d_D_mount_53 : decode c_D_mount 53 = .ok (.getfield 34, 3) := by decide +kernel
theorem d_D_mount_56 : decode c_D_mount 56 = .ok (.invokevirtual 161, 3) := by decide +kernel
theorem d_D_mount_59 : decode c_D_mount 59 = .ok (.ifCond .eq 28, 3) := by decide +kernel
theorem d_D_mount_62 : decode c_D_mount 62 = .ok (.iload_n 1, 1) := by decide +kernel
theorem d_D_mount_63 : decode c_D_mount 63 = .ok (.iconst 2, 1) := by decide +kernel
theorem d_D_mount_64 : decode c_D_mount 64 = .ok (.if_icmp .ne 6, 3) := by decide +kernel
theorem d_D_mount_67 : decode c_D_mount 67 = .ok (.bipush (-2), 2) := by decide +kernel
theorem d_D_mount_69 : decode c_D_mount 69 = .ok (.ireturn, 1) := by decide +kernel
theorem d_D_mount_70 : decode c_D_mount 70 = .ok (.aload_n 0, 1) := by decide +kernel
theorem d_D_mount_71 : decode c_D_mount 71 = .ok (.getfield 28, 3) := by decide +kernel
theorem d_D_mount_74 : decode c_D_mount 74 = .ok (.aload_n 0, 1) := by decide +kernel
theorem d_D_mount_75 : decode c_D_mount 75 = .ok (.getfield 17, 3) := by decide +kernel
theorem d_D_mount_78 : decode c_D_mount 78 = .ok (.invokevirtual 105, 3) := by decide +kernel
theorem d_D_mount_81 : decode c_D_mount 81 = .ok (.aload_n 0, 1) := by decide +kernel
theorem d_D_mount_82 : decode c_D_mount 82 = .ok (.invokevirtual 164, 3) := by decide +kernel
theorem d_D_mount_85 : decode c_D_mount 85 = .ok (.istore 4, 2) := by decide +kernel
theorem d_D_mount_87 : decode c_D_mount 87 = .ok (.aload_n 0, 1) := by decide +kernel
theorem d_D_mount_88 : decode c_D_mount 88 = .ok (.getfield 34, 3) := by decide +kernel
theorem d_D_mount_91 : decode c_D_mount 91 = .ok (.iconst 0, 1) := by decide +kernel
theorem d_D_mount_92 : decode c_D_mount 92 = .ok (.aload_n 0, 1) := by decide +kernel
theorem d_D_mount_93 : decode c_D_mount 93 = .ok (.getfield 9, 3) := by decide +kernel
theorem d_D_mount_96 : decode c_D_mount 96 = .ok (.invokevirtual 94, 3) := by decide +kernel
theorem d_D_mount_99 : decode c_D_mount 99 = .ok (.iload_n 1, 1) := by decide +kernel
theorem d_D_mount_100 : decode c_D_mount 100 = .ok (.iconst 3, 1) := by decide +kernel
theorem d_D_mount_101 : decode c_D_mount 101 = .ok (.if_icmp .ne 9, 3) := by decide +kernel
theorem d_D_mount_104 : decode c_D_mount 104 = .ok (.aload_n 0, 1) := by decide +kernel
theorem d_D_mount_105 : decode c_D_mount 105 = .ok (.lload_n 2, 1) := by decide +kernel
theorem d_D_mount_106 : decode c_D_mount 106 = .ok (.invokevirtual 98, 3) := by decide +kernel
theorem d_D_mount_109 : decode c_D_mount 109 = .ok (.ireturn, 1) := by decide +kernel
theorem d_D_mount_110 : decode c_D_mount 110 = .ok (.aload_n 0, 1) := by decide +kernel
theorem d_D_mount_111 : decode c_D_mount 111 = .ok (.invokevirtual 102, 3) := by decide +kernel
theorem d_D_mount_114 : decode c_D_mount 114 = .ok (.aload_n 0, 1) := by decide +kernel
theorem d_D_mount_115 : decode c_D_mount 115 = .ok (.iconst 1, 1) := by decide +kernel
theorem d_D_mount_116 : decode c_D_mount 116 = .ok (.putfield 46, 3) := by decide +kernel
theorem d_D_mount_119 : decode c_D_mount 119 = .ok (.iload 4, 2) := by decide +kernel
theorem d_D_mount_121 : decode c_D_mount 121 = .ok (.ireturn, 1) := by decide +kernel
theorem d_D_fail_0 : decode c_D_fail 0 = .ok (.aload_n 0, 1) := by decide +kernel
theorem d_D_fail_1 : decode c_D_fail 1 = .ok (.getfield 46, 3) := by decide +kernel
theorem d_D_fail_4 : decode c_D_fail 4 = .ok (.ifCond .ne 6, 3) := by decide +kernel
theorem d_D_fail_7 : decode c_D_fail 7 = .ok (.bipush (-2), 2) := by decide +kernel
theorem d_D_fail_9 : decode c_D_fail 9 = .ok (.ireturn, 1) := by decide +kernel
theorem d_D_fail_10 : decode c_D_fail 10 = .ok (.aload_n 0, 1) := by decide +kernel
theorem d_D_fail_11 : decode c_D_fail 11 = .ok (.invokevirtual 87, 3) := by decide +kernel
theorem d_D_fail_14 : decode c_D_fail 14 = .ok (.pop, 1) := by decide +kernel
theorem d_D_fail_15 : decode c_D_fail 15 = .ok (.iconst 0, 1) := by decide +kernel
theorem d_D_fail_16 : decode c_D_fail 16 = .ok (.ireturn, 1) := by decide +kernel
theorem d_D_check_0 : decode c_D_check 0 = .ok (.aload_n 0, 1) := by decide +kernel
theorem d_D_check_1 : decode c_D_check 1 = .ok (.getfield 46, 3) := by decide +kernel
theorem d_D_check_4 : decode c_D_check 4 = .ok (.ifCond .eq 7, 3) := by decide +kernel
theorem d_D_check_7 : decode c_D_check 7 = .ok (.iconst 0, 1) := by decide +kernel
theorem d_D_check_8 : decode c_D_check 8 = .ok (.goto 5, 3) := by decide +kernel
theorem d_D_check_11 : decode c_D_check 11 = .ok (.bipush (-2), 2) := by decide +kernel
theorem d_D_check_13 : decode c_D_check 13 = .ok (.ireturn, 1) := by decide +kernel
theorem d_D_gone_0 : decode c_D_gone 0 = .ok (.aload_n 0, 1) := by decide +kernel
theorem d_D_gone_1 : decode c_D_gone 1 = .ok (.iload_n 1, 1) := by decide +kernel
theorem d_D_gone_2 : decode c_D_gone 2 = .ok (.invokevirtual 129, 3) := by decide +kernel
theorem d_D_gone_5 : decode c_D_gone 5 = .ok (.ifCond .eq 11, 3) := by decide +kernel
theorem d_D_gone_8 : decode c_D_gone 8 = .ok (.aload_n 0, 1) := by decide +kernel
theorem d_D_gone_9 : decode c_D_gone 9 = .ok (.iload_n 1, 1) := by decide +kernel
theorem d_D_gone_10 : decode c_D_gone 10 = .ok (.invokevirtual 135, 3) := by decide +kernel
theorem d_D_gone_13 : decode c_D_gone 13 = .ok (.goto 4, 3) := by decide +kernel
theorem d_D_gone_16 : decode c_D_gone 16 = .ok (.iconst (-1), 1) := by decide +kernel
theorem d_D_gone_17 : decode c_D_gone 17 = .ok (.ireturn, 1) := by decide +kernel
theorem d_D_status_0 : decode c_D_status 0 = .ok (.aload_n 0, 1) := by decide +kernel
theorem d_D_status_1 : decode c_D_status 1 = .ok (.iload_n 1, 1) := by decide +kernel
theorem d_D_status_2 : decode c_D_status 2 = .ok (.invokevirtual 115, 3) := by decide +kernel
theorem d_D_status_5 : decode c_D_status 5 = .ok (.ifCond .eq 12, 3) := by decide +kernel
theorem d_D_status_8 : decode c_D_status 8 = .ok (.aload_n 0, 1) := by decide +kernel
theorem d_D_status_9 : decode c_D_status 9 = .ok (.getfield 9, 3) := by decide +kernel
theorem d_D_status_12 : decode c_D_status 12 = .ok (.iload_n 1, 1) := by decide +kernel
theorem d_D_status_13 : decode c_D_status 13 = .ok (.iaload, 1) := by decide +kernel
theorem d_D_status_14 : decode c_D_status 14 = .ok (.goto 5, 3) := by decide +kernel
theorem d_D_status_17 : decode c_D_status 17 = .ok (.bipush (-3), 2) := by decide +kernel
theorem d_D_status_19 : decode c_D_status 19 = .ok (.ireturn, 1) := by decide +kernel
theorem d_D_count_0 : decode c_D_count 0 = .ok (.aload_n 0, 1) := by decide +kernel
theorem d_D_count_1 : decode c_D_count 1 = .ok (.getfield 46, 3) := by decide +kernel
theorem d_D_count_4 : decode c_D_count 4 = .ok (.ifCond .ne 6, 3) := by decide +kernel
theorem d_D_count_7 : decode c_D_count 7 = .ok (.bipush (-2), 2) := by decide +kernel
theorem d_D_count_9 : decode c_D_count 9 = .ok (.ireturn, 1) := by decide +kernel
theorem d_D_count_10 : decode c_D_count 10 = .ok (.iload_n 1, 1) := by decide +kernel
theorem d_D_count_11 : decode c_D_count 11 = .ok (.tableswitch 64 0 4 #[33, 38, 46, 54, 59], 33) := by decide +kernel
theorem d_D_count_44 : decode c_D_count 44 = .ok (.aload_n 0, 1) := by decide +kernel
theorem d_D_count_45 : decode c_D_count 45 = .ok (.invokevirtual 42, 3) := by decide +kernel
theorem d_D_count_48 : decode c_D_count 48 = .ok (.ireturn, 1) := by decide +kernel
theorem d_D_count_49 : decode c_D_count 49 = .ok (.aload_n 0, 1) := by decide +kernel
theorem d_D_count_50 : decode c_D_count 50 = .ok (.getfield 24, 3) := by decide +kernel
theorem d_D_count_53 : decode c_D_count 53 = .ok (.invokevirtual 76, 3) := by decide +kernel
theorem d_D_count_56 : decode c_D_count 56 = .ok (.ireturn, 1) := by decide +kernel
theorem d_D_count_57 : decode c_D_count 57 = .ok (.aload_n 0, 1) := by decide +kernel
theorem d_D_count_58 : decode c_D_count 58 = .ok (.getfield 24, 3) := by decide +kernel
theorem d_D_count_61 : decode c_D_count 61 = .ok (.invokevirtual 112, 3) := by decide +kernel
theorem d_D_count_64 : decode c_D_count 64 = .ok (.ireturn, 1) := by decide +kernel
theorem d_D_count_65 : decode c_D_count 65 = .ok (.aload_n 0, 1) := by decide +kernel
theorem d_D_count_66 : decode c_D_count 66 = .ok (.invokevirtual 126, 3) := by decide +kernel
theorem d_D_count_69 : decode c_D_count 69 = .ok (.ireturn, 1) := by decide +kernel
theorem d_D_count_70 : decode c_D_count 70 = .ok (.aload_n 0, 1) := by decide +kernel
theorem d_D_count_71 : decode c_D_count 71 = .ok (.invokevirtual 167, 3) := by decide +kernel
theorem d_D_count_74 : decode c_D_count 74 = .ok (.ireturn, 1) := by decide +kernel
theorem d_D_count_75 : decode c_D_count 75 = .ok (.iconst (-1), 1) := by decide +kernel
theorem d_D_count_76 : decode c_D_count 76 = .ok (.ireturn, 1) := by decide +kernel
theorem d_D_layOut_0 : decode c_D_layOut 0 = .ok (.aload_n 0, 1) := by decide +kernel
theorem d_D_layOut_1 : decode c_D_layOut 1 = .ok (.iload_n 1, 1) := by decide +kernel
theorem d_D_layOut_2 : decode c_D_layOut 2 = .ok (.putfield 64, 3) := by decide +kernel
theorem d_D_layOut_5 : decode c_D_layOut 5 = .ok (.aload_n 0, 1) := by decide +kernel
theorem d_D_layOut_6 : decode c_D_layOut 6 = .ok (.iload_n 2, 1) := by decide +kernel
theorem d_D_layOut_7 : decode c_D_layOut 7 = .ok (.putfield 170, 3) := by decide +kernel
theorem d_D_layOut_10 : decode c_D_layOut 10 = .ok (.aload_n 0, 1) := by decide +kernel
theorem d_D_layOut_11 : decode c_D_layOut 11 = .ok (.iconst 1, 1) := by decide +kernel
theorem d_D_layOut_12 : decode c_D_layOut 12 = .ok (.putfield 46, 3) := by decide +kernel
theorem d_D_layOut_15 : decode c_D_layOut 15 = .ok (.aload_n 0, 1) := by decide +kernel
theorem d_D_layOut_16 : decode c_D_layOut 16 = .ok (.getfield 9, 3) := by decide +kernel
theorem d_D_layOut_19 : decode c_D_layOut 19 = .ok (.iload_n 2, 1) := by decide +kernel
theorem d_D_layOut_20 : decode c_D_layOut 20 = .ok (.invokestatic 173, 3) := by decide +kernel
theorem d_D_layOut_23 : decode c_D_layOut 23 = .ok (.aload_n 0, 1) := by decide +kernel
theorem d_D_layOut_24 : decode c_D_layOut 24 = .ok (.getfield 13, 3) := by decide +kernel
theorem d_D_layOut_27 : decode c_D_layOut 27 = .ok (.lconst 0, 1) := by decide +kernel
theorem d_D_layOut_28 : decode c_D_layOut 28 = .ok (.invokestatic 179, 3) := by decide +kernel
theorem d_D_layOut_31 : decode c_D_layOut 31 = .ok (.aload_n 0, 1) := by decide +kernel
theorem d_D_layOut_32 : decode c_D_layOut 32 = .ok (.getfield 17, 3) := by decide +kernel
theorem d_D_layOut_35 : decode c_D_layOut 35 = .ok (.iconst 0, 1) := by decide +kernel
theorem d_D_layOut_36 : decode c_D_layOut 36 = .ok (.invokestatic 182, 3) := by decide +kernel
theorem d_D_layOut_39 : decode c_D_layOut 39 = .ok (.aload_n 0, 1) := by decide +kernel
theorem d_D_layOut_40 : decode c_D_layOut 40 = .ok (.getfield 24, 3) := by decide +kernel
theorem d_D_layOut_43 : decode c_D_layOut 43 = .ok (.invokevirtual 109, 3) := by decide +kernel
theorem d_D_layOut_46 : decode c_D_layOut 46 = .ok (.iconst 0, 1) := by decide +kernel
theorem d_D_layOut_47 : decode c_D_layOut 47 = .ok (.istore_n 3, 1) := by decide +kernel
theorem d_D_layOut_48 : decode c_D_layOut 48 = .ok (.iload_n 3, 1) := by decide +kernel
theorem d_D_layOut_49 : decode c_D_layOut 49 = .ok (.bipush 8, 2) := by decide +kernel
theorem d_D_layOut_51 : decode c_D_layOut 51 = .ok (.if_icmp .ge 17, 3) := by decide +kernel
theorem d_D_layOut_54 : decode c_D_layOut 54 = .ok (.aload_n 0, 1) := by decide +kernel
theorem d_D_layOut_55 : decode c_D_layOut 55 = .ok (.getfield 34, 3) := by decide +kernel
theorem d_D_layOut_58 : decode c_D_layOut 58 = .ok (.iload_n 3, 1) := by decide +kernel
theorem d_D_layOut_59 : decode c_D_layOut 59 = .ok (.invokevirtual 122, 3) := by decide +kernel
theorem d_D_layOut_62 : decode c_D_layOut 62 = .ok (.iinc 3 1, 3) := by decide +kernel
theorem d_D_layOut_65 : decode c_D_layOut 65 = .ok (.goto (-17), 3) := by decide +kernel
theorem d_D_layOut_68 : decode c_D_layOut 68 = .ok (.aload_n 0, 1) := by decide +kernel
theorem d_D_layOut_69 : decode c_D_layOut 69 = .ok (.getfield 34, 3) := by decide +kernel
theorem d_D_layOut_72 : decode c_D_layOut 72 = .ok (.iconst 0, 1) := by decide +kernel
theorem d_D_layOut_73 : decode c_D_layOut 73 = .ok (.aload_n 0, 1) := by decide +kernel
theorem d_D_layOut_74 : decode c_D_layOut 74 = .ok (.getfield 9, 3) := by decide +kernel
theorem d_D_layOut_77 : decode c_D_layOut 77 = .ok (.invokevirtual 94, 3) := by decide +kernel
theorem d_D_layOut_80 : decode c_D_layOut 80 = .ok (.aload_n 0, 1) := by decide +kernel
theorem d_D_layOut_81 : decode c_D_layOut 81 = .ok (.invokevirtual 102, 3) := by decide +kernel
theorem d_D_layOut_84 : decode c_D_layOut 84 = .ok (.return_, 1) := by decide +kernel
theorem d_D_powerFails_0 : decode c_D_powerFails 0 = .ok (.aload_n 0, 1) := by decide +kernel
theorem d_D_powerFails_1 : decode c_D_powerFails 1 = .ok (.iconst 0, 1) := by decide +kernel
theorem d_D_powerFails_2 : decode c_D_powerFails 2 = .ok (.putfield 46, 3) := by decide +kernel
theorem d_D_powerFails_5 : decode c_D_powerFails 5 = .ok (.aload_n 0, 1) := by decide +kernel
theorem d_D_powerFails_6 : decode c_D_powerFails 6 = .ok (.getfield 24, 3) := by decide +kernel
theorem d_D_powerFails_9 : decode c_D_powerFails 9 = .ok (.invokevirtual 109, 3) := by decide +kernel
theorem d_D_powerFails_12 : decode c_D_powerFails 12 = .ok (.bipush (-2), 2) := by decide +kernel
theorem d_D_powerFails_14 : decode c_D_powerFails 14 = .ok (.ireturn, 1) := by decide +kernel
theorem d_D_powerFailsInLabel_0 : decode c_D_powerFailsInLabel 0 = .ok (.aload_n 0, 1) := by decide +kernel
theorem d_D_powerFailsInLabel_1 : decode c_D_powerFailsInLabel 1 = .ok (.lload_n 1, 1) := by decide +kernel
theorem d_D_powerFailsInLabel_2 : decode c_D_powerFailsInLabel 2 = .ok (.invokevirtual 185, 3) := by decide +kernel
theorem d_D_powerFailsInLabel_5 : decode c_D_powerFailsInLabel 5 = .ok (.aload_n 0, 1) := by decide +kernel
theorem d_D_powerFailsInLabel_6 : decode c_D_powerFailsInLabel 6 = .ok (.invokevirtual 87, 3) := by decide +kernel
theorem d_D_powerFailsInLabel_9 : decode c_D_powerFailsInLabel 9 = .ok (.ireturn, 1) := by decide +kernel
theorem d_D_finishLabel_0 : decode c_D_finishLabel 0 = .ok (.aload_n 0, 1) := by decide +kernel
theorem d_D_finishLabel_1 : decode c_D_finishLabel 1 = .ok (.ldc2_w 156, 3) := by decide +kernel
theorem d_D_finishLabel_4 : decode c_D_finishLabel 4 = .ok (.invokevirtual 185, 3) := by decide +kernel
theorem d_D_finishLabel_7 : decode c_D_finishLabel 7 = .ok (.aload_n 0, 1) := by decide +kernel
theorem d_D_finishLabel_8 : decode c_D_finishLabel 8 = .ok (.getfield 34, 3) := by decide +kernel
theorem d_D_finishLabel_11 : decode c_D_finishLabel 11 = .ok (.invokevirtual 188, 3) := by decide +kernel
theorem d_D_finishLabel_14 : decode c_D_finishLabel 14 = .ok (.return_, 1) := by decide +kernel
theorem d_D_writeLabel_0 : decode c_D_writeLabel 0 = .ok (.iconst 0, 1) := by decide +kernel
theorem d_D_writeLabel_1 : decode c_D_writeLabel 1 = .ok (.istore_n 3, 1) := by decide +kernel
theorem d_D_writeLabel_2 : decode c_D_writeLabel 2 = .ok (.iconst 0, 1) := by decide +kernel
theorem d_D_writeLabel_3 : decode c_D_writeLabel 3 = .ok (.istore 4, 2) := by decide +kernel
theorem d_D_writeLabel_5 : decode c_D_writeLabel 5 = .ok (.iload 4, 2) := by decide +kernel
theorem d_D_writeLabel_7 : decode c_D_writeLabel 7 = .ok (.aload_n 0, 1) := by decide +kernel
theorem d_D_writeLabel_8 : decode c_D_writeLabel 8 = .ok (.getfield 64, 3) := by decide +kernel
theorem d_D_writeLabel_11 : decode c_D_writeLabel 11 = .ok (.if_icmp .ge 37, 3) := by decide +kernel
theorem d_D_writeLabel_14 : decode c_D_writeLabel 14 = .ok (.aload_n 0, 1) := by decide +kernel
theorem d_D_writeLabel_15 : decode c_D_writeLabel 15 = .ok (.getfield 9, 3) := by decide +kernel
theorem d_D_writeLabel_18 : decode c_D_writeLabel 18 = .ok (.iload 4, 2) := by decide +kernel
theorem d_D_writeLabel_20 : decode c_D_writeLabel 20 = .ok (.iaload, 1) := by decide +kernel
theorem d_D_writeLabel_21 : decode c_D_writeLabel 21 = .ok (.iconst (-1), 1) := by decide +kernel
theorem d_D_writeLabel_22 : decode c_D_writeLabel 22 = .ok (.if_icmp .eq 20, 3) := by decide +kernel
theorem d_D_writeLabel_25 : decode c_D_writeLabel 25 = .ok (.aload_n 0, 1) := by decide +kernel
theorem d_D_writeLabel_26 : decode c_D_writeLabel 26 = .ok (.getfield 34, 3) := by decide +kernel
theorem d_D_writeLabel_29 : decode c_D_writeLabel 29 = .ok (.iload 4, 2) := by decide +kernel
theorem d_D_writeLabel_31 : decode c_D_writeLabel 31 = .ok (.lload_n 1, 1) := by decide +kernel
theorem d_D_writeLabel_32 : decode c_D_writeLabel 32 = .ok (.iload_n 3, 1) := by decide +kernel
theorem d_D_writeLabel_33 : decode c_D_writeLabel 33 = .ok (.invokestatic 191, 3) := by decide +kernel
theorem d_D_writeLabel_36 : decode c_D_writeLabel 36 = .ok (.invokevirtual 195, 3) := by decide +kernel
theorem d_D_writeLabel_39 : decode c_D_writeLabel 39 = .ok (.iinc 3 1, 3) := by decide +kernel
theorem d_D_writeLabel_42 : decode c_D_writeLabel 42 = .ok (.iinc 4 1, 3) := by decide +kernel
theorem d_D_writeLabel_45 : decode c_D_writeLabel 45 = .ok (.goto (-40), 3) := by decide +kernel
theorem d_D_writeLabel_48 : decode c_D_writeLabel 48 = .ok (.return_, 1) := by decide +kernel
theorem d_D_writeLabelAgain_0 : decode c_D_writeLabelAgain 0 = .ok (.iconst 0, 1) := by decide +kernel
theorem d_D_writeLabelAgain_1 : decode c_D_writeLabelAgain 1 = .ok (.istore_n 3, 1) := by decide +kernel
theorem d_D_writeLabelAgain_2 : decode c_D_writeLabelAgain 2 = .ok (.iconst 0, 1) := by decide +kernel
theorem d_D_writeLabelAgain_3 : decode c_D_writeLabelAgain 3 = .ok (.istore 4, 2) := by decide +kernel
theorem d_D_writeLabelAgain_5 : decode c_D_writeLabelAgain 5 = .ok (.iload 4, 2) := by decide +kernel
theorem d_D_writeLabelAgain_7 : decode c_D_writeLabelAgain 7 = .ok (.aload_n 0, 1) := by decide +kernel
theorem d_D_writeLabelAgain_8 : decode c_D_writeLabelAgain 8 = .ok (.getfield 64, 3) := by decide +kernel
theorem d_D_writeLabelAgain_11 : decode c_D_writeLabelAgain 11 = .ok (.if_icmp .ge 38, 3) := by decide +kernel
theorem d_D_writeLabelAgain_14 : decode c_D_writeLabelAgain 14 = .ok (.aload_n 0, 1) := by decide +kernel
theorem d_D_writeLabelAgain_15 : decode c_D_writeLabelAgain 15 = .ok (.getfield 34, 3) := by decide +kernel
theorem d_D_writeLabelAgain_18 : decode c_D_writeLabelAgain 18 = .ok (.iload 4, 2) := by decide +kernel
theorem d_D_writeLabelAgain_20 : decode c_D_writeLabelAgain 20 = .ok (.invokevirtual 198, 3) := by decide +kernel
theorem d_D_writeLabelAgain_23 : decode c_D_writeLabelAgain 23 = .ok (.ifCond .eq 20, 3) := by decide +kernel
theorem d_D_writeLabelAgain_26 : decode c_D_writeLabelAgain 26 = .ok (.aload_n 0, 1) := by decide +kernel
theorem d_D_writeLabelAgain_27 : decode c_D_writeLabelAgain 27 = .ok (.getfield 34, 3) := by decide +kernel
theorem d_D_writeLabelAgain_30 : decode c_D_writeLabelAgain 30 = .ok (.iload 4, 2) := by decide +kernel
theorem d_D_writeLabelAgain_32 : decode c_D_writeLabelAgain 32 = .ok (.lload_n 1, 1) := by decide +kernel
theorem d_D_writeLabelAgain_33 : decode c_D_writeLabelAgain 33 = .ok (.iload_n 3, 1) := by decide +kernel
theorem d_D_writeLabelAgain_34 : decode c_D_writeLabelAgain 34 = .ok (.invokestatic 191, 3) := by decide +kernel
theorem d_D_writeLabelAgain_37 : decode c_D_writeLabelAgain 37 = .ok (.invokevirtual 201, 3) := by decide +kernel
theorem d_D_writeLabelAgain_40 : decode c_D_writeLabelAgain 40 = .ok (.iinc 3 1, 3) := by decide +kernel
theorem d_D_writeLabelAgain_43 : decode c_D_writeLabelAgain 43 = .ok (.iinc 4 1, 3) := by decide +kernel
theorem d_D_writeLabelAgain_46 : decode c_D_writeLabelAgain 46 = .ok (.goto (-41), 3) := by decide +kernel
theorem d_D_writeLabelAgain_49 : decode c_D_writeLabelAgain 49 = .ok (.return_, 1) := by decide +kernel
theorem d_D_partDown_0 : decode c_D_partDown 0 = .ok (.lload_n 0, 1) := by decide +kernel
theorem d_D_partDown_1 : decode c_D_partDown 1 = .ok (.iconst 2, 1) := by decide +kernel
theorem d_D_partDown_2 : decode c_D_partDown 2 = .ok (.iload_n 2, 1) := by decide +kernel
theorem d_D_partDown_3 : decode c_D_partDown 3 = .ok (.imul, 1) := by decide +kernel
theorem d_D_partDown_4 : decode c_D_partDown 4 = .ok (.lushr, 1) := by decide +kernel
theorem d_D_partDown_5 : decode c_D_partDown 5 = .ok (.l2i, 1) := by decide +kernel
theorem d_D_partDown_6 : decode c_D_partDown 6 = .ok (.iconst 3, 1) := by decide +kernel
theorem d_D_partDown_7 : decode c_D_partDown 7 = .ok (.iand, 1) := by decide +kernel
theorem d_D_partDown_8 : decode c_D_partDown 8 = .ok (.ireturn, 1) := by decide +kernel
theorem d_D_takeMarksOfLabel_0 : decode c_D_takeMarksOfLabel 0 = .ok (.iconst 0, 1) := by decide +kernel
theorem d_D_takeMarksOfLabel_1 : decode c_D_takeMarksOfLabel 1 = .ok (.istore_n 1, 1) := by decide +kernel
theorem d_D_takeMarksOfLabel_2 : decode c_D_takeMarksOfLabel 2 = .ok (.iload_n 1, 1) := by decide +kernel
theorem d_D_takeMarksOfLabel_3 : decode c_D_takeMarksOfLabel 3 = .ok (.aload_n 0, 1) := by decide +kernel
theorem d_D_takeMarksOfLabel_4 : decode c_D_takeMarksOfLabel 4 = .ok (.getfield 64, 3) := by decide +kernel
theorem d_D_takeMarksOfLabel_7 : decode c_D_takeMarksOfLabel 7 = .ok (.if_icmp .ge 48, 3) := by decide +kernel
theorem d_D_takeMarksOfLabel_10 : decode c_D_takeMarksOfLabel 10 = .ok (.aload_n 0, 1) := by decide +kernel
theorem d_D_takeMarksOfLabel_11 : decode c_D_takeMarksOfLabel 11 = .ok (.getfield 9, 3) := by decide +kernel
theorem d_D_takeMarksOfLabel_14 : decode c_D_takeMarksOfLabel 14 = .ok (.iload_n 1, 1) := by decide +kernel
theorem d_D_takeMarksOfLabel_15 : decode c_D_takeMarksOfLabel 15 = .ok (.iaload, 1) := by decide +kernel
theorem d_D_takeMarksOfLabel_16 : decode c_D_takeMarksOfLabel 16 = .ok (.iconst (-1), 1) := by decide +kernel
theorem d_D_takeMarksOfLabel_17 : decode c_D_takeMarksOfLabel 17 = .ok (.if_icmp .eq 32, 3) := by decide +kernel
theorem d_D_takeMarksOfLabel_20 : decode c_D_takeMarksOfLabel 20 = .ok (.aload_n 0, 1) := by decide +kernel
theorem d_D_takeMarksOfLabel_21 : decode c_D_takeMarksOfLabel 21 = .ok (.getfield 9, 3) := by decide +kernel
theorem d_D_takeMarksOfLabel_24 : decode c_D_takeMarksOfLabel 24 = .ok (.iload_n 1, 1) := by decide +kernel
theorem d_D_takeMarksOfLabel_25 : decode c_D_takeMarksOfLabel 25 = .ok (.aload_n 0, 1) := by decide +kernel
theorem d_D_takeMarksOfLabel_26 : decode c_D_takeMarksOfLabel 26 = .ok (.getfield 34, 3) := by decide +kernel
theorem d_D_takeMarksOfLabel_29 : decode c_D_takeMarksOfLabel 29 = .ok (.iload_n 1, 1) := by decide +kernel
theorem d_D_takeMarksOfLabel_30 : decode c_D_takeMarksOfLabel 30 = .ok (.invokevirtual 198, 3) := by decide +kernel
theorem d_D_takeMarksOfLabel_33 : decode c_D_takeMarksOfLabel 33 = .ok (.ifCond .eq 14, 3) := by decide +kernel
theorem d_D_takeMarksOfLabel_36 : decode c_D_takeMarksOfLabel 36 = .ok (.aload_n 0, 1) := by decide +kernel
theorem d_D_takeMarksOfLabel_37 : decode c_D_takeMarksOfLabel 37 = .ok (.getfield 34, 3) := by decide +kernel
theorem d_D_takeMarksOfLabel_40 : decode c_D_takeMarksOfLabel 40 = .ok (.iload_n 1, 1) := by decide +kernel
theorem d_D_takeMarksOfLabel_41 : decode c_D_takeMarksOfLabel 41 = .ok (.invokevirtual 204, 3) := by decide +kernel
theorem d_D_takeMarksOfLabel_44 : decode c_D_takeMarksOfLabel 44 = .ok (.goto 4, 3) := by decide +kernel
theorem d_D_takeMarksOfLabel_47 : decode c_D_takeMarksOfLabel 47 = .ok (.iconst 0, 1) := by decide +kernel
theorem d_D_takeMarksOfLabel_48 : decode c_D_takeMarksOfLabel 48 = .ok (.iastore, 1) := by decide +kernel
theorem d_D_takeMarksOfLabel_49 : decode c_D_takeMarksOfLabel 49 = .ok (.iinc 1 1, 3) := by decide +kernel
theorem d_D_takeMarksOfLabel_52 : decode c_D_takeMarksOfLabel 52 = .ok (.goto (-50), 3) := by decide +kernel
theorem d_D_takeMarksOfLabel_55 : decode c_D_takeMarksOfLabel 55 = .ok (.return_, 1) := by decide +kernel
theorem d_D_unitsOfJournal_0 : decode c_D_unitsOfJournal 0 = .ok (.iconst 0, 1) := by decide +kernel
theorem d_D_unitsOfJournal_1 : decode c_D_unitsOfJournal 1 = .ok (.istore_n 1, 1) := by decide +kernel
theorem d_D_unitsOfJournal_2 : decode c_D_unitsOfJournal 2 = .ok (.iconst 0, 1) := by decide +kernel
theorem d_D_unitsOfJournal_3 : decode c_D_unitsOfJournal 3 = .ok (.istore_n 2, 1) := by decide +kernel
theorem d_D_unitsOfJournal_4 : decode c_D_unitsOfJournal 4 = .ok (.iload_n 2, 1) := by decide +kernel
theorem d_D_unitsOfJournal_5 : decode c_D_unitsOfJournal 5 = .ok (.aload_n 0, 1) := by decide +kernel
theorem d_D_unitsOfJournal_6 : decode c_D_unitsOfJournal 6 = .ok (.getfield 28, 3) := by decide +kernel
theorem d_D_unitsOfJournal_9 : decode c_D_unitsOfJournal 9 = .ok (.invokevirtual 112, 3) := by decide +kernel
theorem d_D_unitsOfJournal_12 : decode c_D_unitsOfJournal 12 = .ok (.if_icmp .ge 74, 3) := by decide +kernel
theorem d_D_unitsOfJournal_15 : decode c_D_unitsOfJournal 15 = .ok (.aload_n 0, 1) := by decide +kernel
theorem d_D_unitsOfJournal_16 : decode c_D_unitsOfJournal 16 = .ok (.getfield 28, 3) := by decide +kernel
theorem d_D_unitsOfJournal_19 : decode c_D_unitsOfJournal 19 = .ok (.iload_n 2, 1) := by decide +kernel
theorem d_D_unitsOfJournal_20 : decode c_D_unitsOfJournal 20 = .ok (.invokevirtual 207, 3) := by decide +kernel
theorem d_D_unitsOfJournal_23 : decode c_D_unitsOfJournal 23 = .ok (.istore_n 3, 1) := by decide +kernel
theorem d_D_unitsOfJournal_24 : decode c_D_unitsOfJournal 24 = .ok (.aload_n 0, 1) := by decide +kernel
theorem d_D_unitsOfJournal_25 : decode c_D_unitsOfJournal 25 = .ok (.getfield 28, 3) := by decide +kernel
theorem d_D_unitsOfJournal_28 : decode c_D_unitsOfJournal 28 = .ok (.iload_n 2, 1) := by decide +kernel
theorem d_D_unitsOfJournal_29 : decode c_D_unitsOfJournal 29 = .ok (.invokevirtual 210, 3) := by decide +kernel
theorem d_D_unitsOfJournal_32 : decode c_D_unitsOfJournal 32 = .ok (.aload_n 0, 1) := by decide +kernel
theorem d_D_unitsOfJournal_33 : decode c_D_unitsOfJournal 33 = .ok (.getfield 64, 3) := by decide +kernel
theorem d_D_unitsOfJournal_36 : decode c_D_unitsOfJournal 36 = .ok (.iconst 2, 1) := by decide +kernel
theorem d_D_unitsOfJournal_37 : decode c_D_unitsOfJournal 37 = .ok (.isub, 1) := by decide +kernel
theorem d_D_unitsOfJournal_38 : decode c_D_unitsOfJournal 38 = .ok (.irem, 1) := by decide +kernel
theorem d_D_unitsOfJournal_39 : decode c_D_unitsOfJournal 39 = .ok (.istore 4, 2) := by decide +kernel
theorem d_D_unitsOfJournal_41 : decode c_D_unitsOfJournal 41 = .ok (.iload_n 1, 1) := by decide +kernel
theorem d_D_unitsOfJournal_42 : decode c_D_unitsOfJournal 42 = .ok (.aload_n 0, 1) := by decide +kernel
theorem d_D_unitsOfJournal_43 : decode c_D_unitsOfJournal 43 = .ok (.iload_n 3, 1) := by decide +kernel
theorem d_D_unitsOfJournal_44 : decode c_D_unitsOfJournal 44 = .ok (.iconst 2, 1) := by decide +kernel
theorem d_D_unitsOfJournal_45 : decode c_D_unitsOfJournal 45 = .ok (.iload 4, 2) := by decide +kernel
theorem d_D_unitsOfJournal_47 : decode c_D_unitsOfJournal 47 = .ok (.iadd, 1) := by decide +kernel
theorem d_D_unitsOfJournal_48 : decode c_D_unitsOfJournal 48 = .ok (.invokevirtual 213, 3) := by decide +kernel
theorem d_D_unitsOfJournal_51 : decode c_D_unitsOfJournal 51 = .ok (.iadd, 1) := by decide +kernel
theorem d_D_unitsOfJournal_52 : decode c_D_unitsOfJournal 52 = .ok (.istore_n 1, 1) := by decide +kernel
theorem d_D_unitsOfJournal_53 : decode c_D_unitsOfJournal 53 = .ok (.aload_n 0, 1) := by decide +kernel
theorem d_D_unitsOfJournal_54 : decode c_D_unitsOfJournal 54 = .ok (.getfield 28, 3) := by decide +kernel
theorem d_D_unitsOfJournal_57 : decode c_D_unitsOfJournal 57 = .ok (.iload_n 2, 1) := by decide +kernel
theorem d_D_unitsOfJournal_58 : decode c_D_unitsOfJournal 58 = .ok (.invokevirtual 216, 3) := by decide +kernel
theorem d_D_unitsOfJournal_61 : decode c_D_unitsOfJournal 61 = .ok (.ifCond .eq 19, 3) := by decide +kernel
theorem d_D_unitsOfJournal_64 : decode c_D_unitsOfJournal 64 = .ok (.iload_n 1, 1) := by decide +kernel
theorem d_D_unitsOfJournal_65 : decode c_D_unitsOfJournal 65 = .ok (.aload_n 0, 1) := by decide +kernel
theorem d_D_unitsOfJournal_66 : decode c_D_unitsOfJournal 66 = .ok (.iload_n 3, 1) := by decide +kernel
theorem d_D_unitsOfJournal_67 : decode c_D_unitsOfJournal 67 = .ok (.iconst 0, 1) := by decide +kernel
theorem d_D_unitsOfJournal_68 : decode c_D_unitsOfJournal 68 = .ok (.invokevirtual 213, 3) := by decide +kernel
theorem d_D_unitsOfJournal_71 : decode c_D_unitsOfJournal 71 = .ok (.aload_n 0, 1) := by decide +kernel
theorem d_D_unitsOfJournal_72 : decode c_D_unitsOfJournal 72 = .ok (.iload_n 3, 1) := by decide +kernel
theorem d_D_unitsOfJournal_73 : decode c_D_unitsOfJournal 73 = .ok (.iconst 1, 1) := by decide +kernel
theorem d_D_unitsOfJournal_74 : decode c_D_unitsOfJournal 74 = .ok (.invokevirtual 213, 3) := by decide +kernel
theorem d_D_unitsOfJournal_77 : decode c_D_unitsOfJournal 77 = .ok (.iadd, 1) := by decide +kernel
theorem d_D_unitsOfJournal_78 : decode c_D_unitsOfJournal 78 = .ok (.iadd, 1) := by decide +kernel
theorem d_D_unitsOfJournal_79 : decode c_D_unitsOfJournal 79 = .ok (.istore_n 1, 1) := by decide +kernel
theorem d_D_unitsOfJournal_80 : decode c_D_unitsOfJournal 80 = .ok (.iinc 2 1, 3) := by decide +kernel
theorem d_D_unitsOfJournal_83 : decode c_D_unitsOfJournal 83 = .ok (.goto (-79), 3) := by decide +kernel
theorem d_D_unitsOfJournal_86 : decode c_D_unitsOfJournal 86 = .ok (.iload_n 1, 1) := by decide +kernel
theorem d_D_unitsOfJournal_87 : decode c_D_unitsOfJournal 87 = .ok (.ireturn, 1) := by decide +kernel
theorem d_D_takesUnit_0 : decode c_D_takesUnit 0 = .ok (.aload_n 0, 1) := by decide +kernel
theorem d_D_takesUnit_1 : decode c_D_takesUnit 1 = .ok (.getfield 9, 3) := by decide +kernel
theorem d_D_takesUnit_4 : decode c_D_takesUnit 4 = .ok (.iload_n 1, 1) := by decide +kernel
theorem d_D_takesUnit_5 : decode c_D_takesUnit 5 = .ok (.iload_n 2, 1) := by decide +kernel
theorem d_D_takesUnit_6 : decode c_D_takesUnit 6 = .ok (.iadd, 1) := by decide +kernel
theorem d_D_takesUnit_7 : decode c_D_takesUnit 7 = .ok (.aload_n 0, 1) := by decide +kernel
theorem d_D_takesUnit_8 : decode c_D_takesUnit 8 = .ok (.getfield 64, 3) := by decide +kernel
theorem d_D_takesUnit_11 : decode c_D_takesUnit 11 = .ok (.irem, 1) := by decide +kernel
theorem d_D_takesUnit_12 : decode c_D_takesUnit 12 = .ok (.iaload, 1) := by decide +kernel
theorem d_D_takesUnit_13 : decode c_D_takesUnit 13 = .ok (.iload_n 1, 1) := by decide +kernel
theorem d_D_takesUnit_14 : decode c_D_takesUnit 14 = .ok (.if_icmp .le 7, 3) := by decide +kernel
theorem d_D_takesUnit_17 : decode c_D_takesUnit 17 = .ok (.iconst 1, 1) := by decide +kernel
theorem d_D_takesUnit_18 : decode c_D_takesUnit 18 = .ok (.goto 4, 3) := by decide +kernel
theorem d_D_takesUnit_21 : decode c_D_takesUnit 21 = .ok (.iconst 0, 1) := by decide +kernel
theorem d_D_takesUnit_22 : decode c_D_takesUnit 22 = .ok (.ireturn, 1) := by decide +kernel
theorem d_D_blocks_0 : decode c_D_blocks 0 = .ok (.aload_n 0, 1) := by decide +kernel
theorem d_D_blocks_1 : decode c_D_blocks 1 = .ok (.getfield 64, 3) := by decide +kernel
theorem d_D_blocks_4 : decode c_D_blocks 4 = .ok (.iconst 2, 1) := by decide +kernel
theorem d_D_blocks_5 : decode c_D_blocks 5 = .ok (.isub, 1) := by decide +kernel
theorem d_D_blocks_6 : decode c_D_blocks 6 = .ok (.aload_n 0, 1) := by decide +kernel
theorem d_D_blocks_7 : decode c_D_blocks 7 = .ok (.getfield 170, 3) := by decide +kernel
theorem d_D_blocks_10 : decode c_D_blocks 10 = .ok (.bipush 6, 2) := by decide +kernel
theorem d_D_blocks_12 : decode c_D_blocks 12 = .ok (.isub, 1) := by decide +kernel
theorem d_D_blocks_13 : decode c_D_blocks 13 = .ok (.imul, 1) := by decide +kernel
theorem d_D_blocks_14 : decode c_D_blocks 14 = .ok (.ireturn, 1) := by decide +kernel
theorem d_D_rowOf_0 : decode c_D_rowOf 0 = .ok (.bipush 6, 2) := by decide +kernel
theorem d_D_rowOf_2 : decode c_D_rowOf 2 = .ok (.iload_n 1, 1) := by decide +kernel
theorem d_D_rowOf_3 : decode c_D_rowOf 3 = .ok (.aload_n 0, 1) := by decide +kernel
theorem d_D_rowOf_4 : decode c_D_rowOf 4 = .ok (.getfield 64, 3) := by decide +kernel
theorem d_D_rowOf_7 : decode c_D_rowOf 7 = .ok (.iconst 2, 1) := by decide +kernel
theorem d_D_rowOf_8 : decode c_D_rowOf 8 = .ok (.isub, 1) := by decide +kernel
theorem d_D_rowOf_9 : decode c_D_rowOf 9 = .ok (.idiv, 1) := by decide +kernel
theorem d_D_rowOf_10 : decode c_D_rowOf 10 = .ok (.iadd, 1) := by decide +kernel
theorem d_D_rowOf_11 : decode c_D_rowOf 11 = .ok (.ireturn, 1) := by decide +kernel
theorem d_D_isByte_0 : decode c_D_isByte 0 = .ok (.iload_n 1, 1) := by decide +kernel
theorem d_D_isByte_1 : decode c_D_isByte 1 = .ok (.ifCond .lt 25, 3) := by decide +kernel
theorem d_D_isByte_4 : decode c_D_isByte 4 = .ok (.iload_n 1, 1) := by decide +kernel
theorem d_D_isByte_5 : decode c_D_isByte 5 = .ok (.aload_n 0, 1) := by decide +kernel
theorem d_D_isByte_6 : decode c_D_isByte 6 = .ok (.invokevirtual 42, 3) := by decide +kernel
theorem d_D_isByte_9 : decode c_D_isByte 9 = .ok (.if_icmp .ge 17, 3) := by decide +kernel
theorem d_D_isByte_12 : decode c_D_isByte 12 = .ok (.iload_n 2, 1) := by decide +kernel
theorem d_D_isByte_13 : decode c_D_isByte 13 = .ok (.ifCond .lt 13, 3) := by decide +kernel
theorem d_D_isByte_16 : decode c_D_isByte 16 = .ok (.iload_n 2, 1) := by decide +kernel
theorem d_D_isByte_17 : decode c_D_isByte 17 = .ok (.bipush 64, 2) := by decide +kernel
theorem d_D_isByte_19 : decode c_D_isByte 19 = .ok (.if_icmp .ge 7, 3) := by decide +kernel
theorem d_D_isByte_22 : decode c_D_isByte 22 = .ok (.iconst 1, 1) := by decide +kernel
theorem d_D_isByte_23 : decode c_D_isByte 23 = .ok (.goto 4, 3) := by decide +kernel
theorem d_D_isByte_26 : decode c_D_isByte 26 = .ok (.iconst 0, 1) := by decide +kernel
theorem d_D_isByte_27 : decode c_D_isByte 27 = .ok (.ireturn, 1) := by decide +kernel
theorem d_D_isDisk_0 : decode c_D_isDisk 0 = .ok (.iload_n 1, 1) := by decide +kernel
theorem d_D_isDisk_1 : decode c_D_isDisk 1 = .ok (.ifCond .lt 15, 3) := by decide +kernel
theorem d_D_isDisk_4 : decode c_D_isDisk 4 = .ok (.iload_n 1, 1) := by decide +kernel
theorem d_D_isDisk_5 : decode c_D_isDisk 5 = .ok (.aload_n 0, 1) := by decide +kernel
theorem d_D_isDisk_6 : decode c_D_isDisk 6 = .ok (.getfield 64, 3) := by decide +kernel
theorem d_D_isDisk_9 : decode c_D_isDisk 9 = .ok (.if_icmp .ge 7, 3) := by decide +kernel
theorem d_D_isDisk_12 : decode c_D_isDisk 12 = .ok (.iconst 1, 1) := by decide +kernel
theorem d_D_isDisk_13 : decode c_D_isDisk 13 = .ok (.goto 4, 3) := by decide +kernel
theorem d_D_isDisk_16 : decode c_D_isDisk 16 = .ok (.iconst 0, 1) := by decide +kernel
theorem d_D_isDisk_17 : decode c_D_isDisk 17 = .ok (.ireturn, 1) := by decide +kernel
theorem d_D_isRow_0 : decode c_D_isRow 0 = .ok (.iload_n 1, 1) := by decide +kernel
theorem d_D_isRow_1 : decode c_D_isRow 1 = .ok (.iconst 2, 1) := by decide +kernel
theorem d_D_isRow_2 : decode c_D_isRow 2 = .ok (.if_icmp .lt 15, 3) := by decide +kernel
theorem d_D_isRow_5 : decode c_D_isRow 5 = .ok (.iload_n 1, 1) := by decide +kernel
theorem d_D_isRow_6 : decode c_D_isRow 6 = .ok (.aload_n 0, 1) := by decide +kernel
theorem d_D_isRow_7 : decode c_D_isRow 7 = .ok (.getfield 170, 3) := by decide +kernel
theorem d_D_isRow_10 : decode c_D_isRow 10 = .ok (.if_icmp .ge 7, 3) := by decide +kernel
theorem d_D_isRow_13 : decode c_D_isRow 13 = .ok (.iconst 1, 1) := by decide +kernel
theorem d_D_isRow_14 : decode c_D_isRow 14 = .ok (.goto 4, 3) := by decide +kernel
theorem d_D_isRow_17 : decode c_D_isRow 17 = .ok (.iconst 0, 1) := by decide +kernel
theorem d_D_isRow_18 : decode c_D_isRow 18 = .ok (.ireturn, 1) := by decide +kernel
theorem d_D_isBlank_0 : decode c_D_isBlank 0 = .ok (.aload_n 0, 1) := by decide +kernel
theorem d_D_isBlank_1 : decode c_D_isBlank 1 = .ok (.getfield 9, 3) := by decide +kernel
theorem d_D_isBlank_4 : decode c_D_isBlank 4 = .ok (.iload_n 1, 1) := by decide +kernel
theorem d_D_isBlank_5 : decode c_D_isBlank 5 = .ok (.iaload, 1) := by decide +kernel
theorem d_D_isBlank_6 : decode c_D_isBlank 6 = .ok (.iconst (-1), 1) := by decide +kernel
theorem d_D_isBlank_7 : decode c_D_isBlank 7 = .ok (.if_icmp .eq 20, 3) := by decide +kernel
theorem d_D_isBlank_10 : decode c_D_isBlank 10 = .ok (.aload_n 0, 1) := by decide +kernel
theorem d_D_isBlank_11 : decode c_D_isBlank 11 = .ok (.getfield 9, 3) := by decide +kernel
theorem d_D_isBlank_14 : decode c_D_isBlank 14 = .ok (.iload_n 1, 1) := by decide +kernel
theorem d_D_isBlank_15 : decode c_D_isBlank 15 = .ok (.iaload, 1) := by decide +kernel
theorem d_D_isBlank_16 : decode c_D_isBlank 16 = .ok (.aload_n 0, 1) := by decide +kernel
theorem d_D_isBlank_17 : decode c_D_isBlank 17 = .ok (.getfield 170, 3) := by decide +kernel
theorem d_D_isBlank_20 : decode c_D_isBlank 20 = .ok (.if_icmp .ge 7, 3) := by decide +kernel
theorem d_D_isBlank_23 : decode c_D_isBlank 23 = .ok (.iconst 1, 1) := by decide +kernel
theorem d_D_isBlank_24 : decode c_D_isBlank 24 = .ok (.goto 4, 3) := by decide +kernel
theorem d_D_isBlank_27 : decode c_D_isBlank 27 = .ok (.iconst 0, 1) := by decide +kernel
theorem d_D_isBlank_28 : decode c_D_isBlank 28 = .ok (.ireturn, 1) := by decide +kernel
theorem d_D_isRotten_0 : decode c_D_isRotten 0 = .ok (.aload_n 0, 1) := by decide +kernel
theorem d_D_isRotten_1 : decode c_D_isRotten 1 = .ok (.getfield 13, 3) := by decide +kernel
theorem d_D_isRotten_4 : decode c_D_isRotten 4 = .ok (.iload_n 1, 1) := by decide +kernel
theorem d_D_isRotten_5 : decode c_D_isRotten 5 = .ok (.laload, 1) := by decide +kernel
theorem d_D_isRotten_6 : decode c_D_isRotten 6 = .ok (.iload_n 2, 1) := by decide +kernel
theorem d_D_isRotten_7 : decode c_D_isRotten 7 = .ok (.lushr, 1) := by decide +kernel
theorem d_D_isRotten_8 : decode c_D_isRotten 8 = .ok (.lconst 1, 1) := by decide +kernel
theorem d_D_isRotten_9 : decode c_D_isRotten 9 = .ok (.land, 1) := by decide +kernel
theorem d_D_isRotten_10 : decode c_D_isRotten 10 = .ok (.lconst 0, 1) := by decide +kernel
theorem d_D_isRotten_11 : decode c_D_isRotten 11 = .ok (.lcmp, 1) := by decide +kernel
theorem d_D_isRotten_12 : decode c_D_isRotten 12 = .ok (.ifCond .eq 7, 3) := by decide +kernel
theorem d_D_isRotten_15 : decode c_D_isRotten 15 = .ok (.iconst 1, 1) := by decide +kernel
theorem d_D_isRotten_16 : decode c_D_isRotten 16 = .ok (.goto 4, 3) := by decide +kernel
theorem d_D_isRotten_19 : decode c_D_isRotten 19 = .ok (.iconst 0, 1) := by decide +kernel
theorem d_D_isRotten_20 : decode c_D_isRotten 20 = .ok (.ireturn, 1) := by decide +kernel
theorem d_D_isGone_0 : decode c_D_isGone 0 = .ok (.aload_n 0, 1) := by decide +kernel
theorem d_D_isGone_1 : decode c_D_isGone 1 = .ok (.getfield 9, 3) := by decide +kernel
theorem d_D_isGone_4 : decode c_D_isGone 4 = .ok (.iload_n 1, 1) := by decide +kernel
theorem d_D_isGone_5 : decode c_D_isGone 5 = .ok (.iaload, 1) := by decide +kernel
theorem d_D_isGone_6 : decode c_D_isGone 6 = .ok (.iload_n 2, 1) := by decide +kernel
theorem d_D_isGone_7 : decode c_D_isGone 7 = .ok (.if_icmp .le 12, 3) := by decide +kernel
theorem d_D_isGone_10 : decode c_D_isGone 10 = .ok (.aload_n 0, 1) := by decide +kernel
theorem d_D_isGone_11 : decode c_D_isGone 11 = .ok (.iload_n 1, 1) := by decide +kernel
theorem d_D_isGone_12 : decode c_D_isGone 12 = .ok (.iload_n 2, 1) := by decide +kernel
theorem d_D_isGone_13 : decode c_D_isGone 13 = .ok (.invokevirtual 219, 3) := by decide +kernel
theorem d_D_isGone_16 : decode c_D_isGone 16 = .ok (.ifCond .eq 7, 3) := by decide +kernel
theorem d_D_isGone_19 : decode c_D_isGone 19 = .ok (.iconst 1, 1) := by decide +kernel
theorem d_D_isGone_20 : decode c_D_isGone 20 = .ok (.goto 4, 3) := by decide +kernel
theorem d_D_isGone_23 : decode c_D_isGone 23 = .ok (.iconst 0, 1) := by decide +kernel
theorem d_D_isGone_24 : decode c_D_isGone 24 = .ok (.ireturn, 1) := by decide +kernel
theorem d_D_goneIn_0 : decode c_D_goneIn 0 = .ok (.iconst 0, 1) := by decide +kernel
theorem d_D_goneIn_1 : decode c_D_goneIn 1 = .ok (.istore_n 2, 1) := by decide +kernel
theorem d_D_goneIn_2 : decode c_D_goneIn 2 = .ok (.iconst 0, 1) := by decide +kernel
theorem d_D_goneIn_3 : decode c_D_goneIn 3 = .ok (.istore_n 3, 1) := by decide +kernel
theorem d_D_goneIn_4 : decode c_D_goneIn 4 = .ok (.iload_n 3, 1) := by decide +kernel
theorem d_D_goneIn_5 : decode c_D_goneIn 5 = .ok (.aload_n 0, 1) := by decide +kernel
theorem d_D_goneIn_6 : decode c_D_goneIn 6 = .ok (.getfield 64, 3) := by decide +kernel
theorem d_D_goneIn_9 : decode c_D_goneIn 9 = .ok (.if_icmp .ge 21, 3) := by decide +kernel
theorem d_D_goneIn_12 : decode c_D_goneIn 12 = .ok (.aload_n 0, 1) := by decide +kernel
theorem d_D_goneIn_13 : decode c_D_goneIn 13 = .ok (.iload_n 3, 1) := by decide +kernel
theorem d_D_goneIn_14 : decode c_D_goneIn 14 = .ok (.iload_n 1, 1) := by decide +kernel
theorem d_D_goneIn_15 : decode c_D_goneIn 15 = .ok (.invokevirtual 132, 3) := by decide +kernel
theorem d_D_goneIn_18 : decode c_D_goneIn 18 = .ok (.ifCond .eq 6, 3) := by decide +kernel
theorem d_D_goneIn_21 : decode c_D_goneIn 21 = .ok (.iinc 2 1, 3) := by decide +kernel
theorem d_D_goneIn_24 : decode c_D_goneIn 24 = .ok (.iinc 3 1, 3) := by decide +kernel
theorem d_D_goneIn_27 : decode c_D_goneIn 27 = .ok (.goto (-23), 3) := by decide +kernel
theorem d_D_goneIn_30 : decode c_D_goneIn 30 = .ok (.iload_n 2, 1) := by decide +kernel
theorem d_D_goneIn_31 : decode c_D_goneIn 31 = .ok (.ireturn, 1) := by decide +kernel
theorem d_D_rottenIn_0 : decode c_D_rottenIn 0 = .ok (.iconst 0, 1) := by decide +kernel
theorem d_D_rottenIn_1 : decode c_D_rottenIn 1 = .ok (.istore_n 2, 1) := by decide +kernel
theorem d_D_rottenIn_2 : decode c_D_rottenIn 2 = .ok (.iconst 0, 1) := by decide +kernel
theorem d_D_rottenIn_3 : decode c_D_rottenIn 3 = .ok (.istore_n 3, 1) := by decide +kernel
theorem d_D_rottenIn_4 : decode c_D_rottenIn 4 = .ok (.iload_n 3, 1) := by decide +kernel
theorem d_D_rottenIn_5 : decode c_D_rottenIn 5 = .ok (.aload_n 0, 1) := by decide +kernel
theorem d_D_rottenIn_6 : decode c_D_rottenIn 6 = .ok (.getfield 64, 3) := by decide +kernel
theorem d_D_rottenIn_9 : decode c_D_rottenIn 9 = .ok (.if_icmp .ge 21, 3) := by decide +kernel
theorem d_D_rottenIn_12 : decode c_D_rottenIn 12 = .ok (.aload_n 0, 1) := by decide +kernel
theorem d_D_rottenIn_13 : decode c_D_rottenIn 13 = .ok (.iload_n 3, 1) := by decide +kernel
theorem d_D_rottenIn_14 : decode c_D_rottenIn 14 = .ok (.iload_n 1, 1) := by decide +kernel
theorem d_D_rottenIn_15 : decode c_D_rottenIn 15 = .ok (.invokevirtual 219, 3) := by decide +kernel
theorem d_D_rottenIn_18 : decode c_D_rottenIn 18 = .ok (.ifCond .eq 6, 3) := by decide +kernel
theorem d_D_rottenIn_21 : decode c_D_rottenIn 21 = .ok (.iinc 2 1, 3) := by decide +kernel
theorem d_D_rottenIn_24 : decode c_D_rottenIn 24 = .ok (.iinc 3 1, 3) := by decide +kernel
theorem d_D_rottenIn_27 : decode c_D_rottenIn 27 = .ok (.goto (-23), 3) := by decide +kernel
theorem d_D_rottenIn_30 : decode c_D_rottenIn 30 = .ok (.iload_n 2, 1) := by decide +kernel
theorem d_D_rottenIn_31 : decode c_D_rottenIn 31 = .ok (.ireturn, 1) := by decide +kernel
theorem d_D_canBeMissed_0 : decode c_D_canBeMissed 0 = .ok (.iconst 2, 1) := by decide +kernel
theorem d_D_canBeMissed_1 : decode c_D_canBeMissed 1 = .ok (.istore_n 2, 1) := by decide +kernel
theorem d_D_canBeMissed_2 : decode c_D_canBeMissed 2 = .ok (.iload_n 2, 1) := by decide +kernel
theorem d_D_canBeMissed_3 : decode c_D_canBeMissed 3 = .ok (.aload_n 0, 1) := by decide +kernel
theorem d_D_canBeMissed_4 : decode c_D_canBeMissed 4 = .ok (.getfield 170, 3) := by decide +kernel
theorem d_D_canBeMissed_7 : decode c_D_canBeMissed 7 = .ok (.if_icmp .ge 29, 3) := by decide +kernel
theorem d_D_canBeMissed_10 : decode c_D_canBeMissed 10 = .ok (.aload_n 0, 1) := by decide +kernel
theorem d_D_canBeMissed_11 : decode c_D_canBeMissed 11 = .ok (.iload_n 1, 1) := by decide +kernel
theorem d_D_canBeMissed_12 : decode c_D_canBeMissed 12 = .ok (.iload_n 2, 1) := by decide +kernel
theorem d_D_canBeMissed_13 : decode c_D_canBeMissed 13 = .ok (.invokevirtual 132, 3) := by decide +kernel
theorem d_D_canBeMissed_16 : decode c_D_canBeMissed 16 = .ok (.ifCond .ne 14, 3) := by decide +kernel
theorem d_D_canBeMissed_19 : decode c_D_canBeMissed 19 = .ok (.aload_n 0, 1) := by decide +kernel
theorem d_D_canBeMissed_20 : decode c_D_canBeMissed 20 = .ok (.iload_n 2, 1) := by decide +kernel
theorem d_D_canBeMissed_21 : decode c_D_canBeMissed 21 = .ok (.invokevirtual 135, 3) := by decide +kernel
theorem d_D_canBeMissed_24 : decode c_D_canBeMissed 24 = .ok (.iconst 2, 1) := by decide +kernel
theorem d_D_canBeMissed_25 : decode c_D_canBeMissed 25 = .ok (.if_icmp .lt 5, 3) := by decide +kernel
theorem d_D_canBeMissed_28 : decode c_D_canBeMissed 28 = .ok (.iconst 0, 1) := by decide +kernel
theorem d_D_canBeMissed_29 : decode c_D_canBeMissed 29 = .ok (.ireturn, 1) := by decide +kernel
theorem d_D_canBeMissed_30 : decode c_D_canBeMissed 30 = .ok (.iinc 2 1, 3) := by decide +kernel
theorem d_D_canBeMissed_33 : decode c_D_canBeMissed 33 = .ok (.goto (-31), 3) := by decide +kernel
theorem d_D_canBeMissed_36 : decode c_D_canBeMissed 36 = .ok (.iconst 1, 1) := by decide +kernel
theorem d_D_canBeMissed_37 : decode c_D_canBeMissed 37 = .ok (.ireturn, 1) := by decide +kernel
theorem d_D_lostDisks_0 : decode c_D_lostDisks 0 = .ok (.aload_n 0, 1) := by decide +kernel
theorem d_D_lostDisks_1 : decode c_D_lostDisks 1 = .ok (.iconst (-1), 1) := by decide +kernel
theorem d_D_lostDisks_2 : decode c_D_lostDisks 2 = .ok (.iconst (-1), 1) := by decide +kernel
theorem d_D_lostDisks_3 : decode c_D_lostDisks 3 = .ok (.invokevirtual 222, 3) := by decide +kernel
theorem d_D_lostDisks_6 : decode c_D_lostDisks 6 = .ok (.ireturn, 1) := by decide +kernel
theorem d_D_blankDisks_0 : decode c_D_blankDisks 0 = .ok (.aload_n 0, 1) := by decide +kernel
theorem d_D_blankDisks_1 : decode c_D_blankDisks 1 = .ok (.iconst 0, 1) := by decide +kernel
theorem d_D_blankDisks_2 : decode c_D_blankDisks 2 = .ok (.aload_n 0, 1) := by decide +kernel
theorem d_D_blankDisks_3 : decode c_D_blankDisks 3 = .ok (.getfield 170, 3) := by decide +kernel
theorem d_D_blankDisks_6 : decode c_D_blankDisks 6 = .ok (.iconst 1, 1) := by decide +kernel
theorem d_D_blankDisks_7 : decode c_D_blankDisks 7 = .ok (.isub, 1) := by decide +kernel
theorem d_D_blankDisks_8 : decode c_D_blankDisks 8 = .ok (.invokevirtual 222, 3) := by decide +kernel
theorem d_D_blankDisks_11 : decode c_D_blankDisks 11 = .ok (.ireturn, 1) := by decide +kernel
theorem d_D_disksMarked_0 : decode c_D_disksMarked 0 = .ok (.iconst 0, 1) := by decide +kernel
theorem d_D_disksMarked_1 : decode c_D_disksMarked 1 = .ok (.istore_n 3, 1) := by decide +kernel
theorem d_D_disksMarked_2 : decode c_D_disksMarked 2 = .ok (.iconst 0, 1) := by decide +kernel
theorem d_D_disksMarked_3 : decode c_D_disksMarked 3 = .ok (.istore 4, 2) := by decide +kernel
theorem d_D_disksMarked_5 : decode c_D_disksMarked 5 = .ok (.iload 4, 2) := by decide +kernel
theorem d_D_disksMarked_7 : decode c_D_disksMarked 7 = .ok (.aload_n 0, 1) := by decide +kernel
theorem d_D_disksMarked_8 : decode c_D_disksMarked 8 = .ok (.getfield 64, 3) := by decide +kernel
theorem d_D_disksMarked_11 : decode c_D_disksMarked 11 = .ok (.if_icmp .ge 34, 3) := by decide +kernel
theorem d_D_disksMarked_14 : decode c_D_disksMarked 14 = .ok (.aload_n 0, 1) := by decide +kernel
theorem d_D_disksMarked_15 : decode c_D_disksMarked 15 = .ok (.getfield 9, 3) := by decide +kernel
theorem d_D_disksMarked_18 : decode c_D_disksMarked 18 = .ok (.iload 4, 2) := by decide +kernel
theorem d_D_disksMarked_20 : decode c_D_disksMarked 20 = .ok (.iaload, 1) := by decide +kernel
theorem d_D_disksMarked_21 : decode c_D_disksMarked 21 = .ok (.iload_n 1, 1) := by decide +kernel
theorem d_D_disksMarked_22 : decode c_D_disksMarked 22 = .ok (.if_icmp .lt 17, 3) := by decide +kernel
theorem d_D_disksMarked_25 : decode c_D_disksMarked 25 = .ok (.aload_n 0, 1) := by decide +kernel
theorem d_D_disksMarked_26 : decode c_D_disksMarked 26 = .ok (.getfield 9, 3) := by decide +kernel
theorem d_D_disksMarked_29 : decode c_D_disksMarked 29 = .ok (.iload 4, 2) := by decide +kernel
theorem d_D_disksMarked_31 : decode c_D_disksMarked 31 = .ok (.iaload, 1) := by decide +kernel
theorem d_D_disksMarked_32 : decode c_D_disksMarked 32 = .ok (.iload_n 2, 1) := by decide +kernel
theorem d_D_disksMarked_33 : decode c_D_disksMarked 33 = .ok (.if_icmp .gt 6, 3) := by decide +kernel
theorem d_D_disksMarked_36 : decode c_D_disksMarked 36 = .ok (.iinc 3 1, 3) := by decide +kernel
theorem d_D_disksMarked_39 : decode c_D_disksMarked 39 = .ok (.iinc 4 1, 3) := by decide +kernel
theorem d_D_disksMarked_42 : decode c_D_disksMarked 42 = .ok (.goto (-37), 3) := by decide +kernel
theorem d_D_disksMarked_45 : decode c_D_disksMarked 45 = .ok (.iload_n 3, 1) := by decide +kernel
theorem d_D_disksMarked_46 : decode c_D_disksMarked 46 = .ok (.ireturn, 1) := by decide +kernel
