theorem d_G_init_0 : decode c_G_init 0 = .ok (.aload_n 0, 1) := by decide +kernel
theorem d_G_init_1 : decode c_G_init 1 = .ok (.invokespecial 3, 3) := by decide +kernel
theorem d_G_init_4 : decode c_G_init 4 = .ok (.aload_n 0, 1) := by decide +kernel
theorem d_G_init_5 : decode c_G_init 5 = .ok (.bipush 24, 2) := by decide +kernel
theorem d_G_init_7 : decode c_G_init 7 = .ok (.newarray .int, 2) := by decide +kernel
theorem d_G_init_9 : decode c_G_init 9 = .ok (.putfield 9, 3) := by decide +kernel
theorem d_G_init_12 : decode c_G_init 12 = .ok (.aload_n 0, 1) := by decide +kernel
theorem d_G_init_13 : decode c_G_init 13 = .ok (.bipush 24, 2) := by decide +kernel
theorem d_G_init_15 : decode c_G_init 15 = .ok (.newarray .int, 2) := by decide +kernel
theorem d_G_init_17 : decode c_G_init 17 = .ok (.putfield 15, 3) := by decide +kernel
theorem d_G_init_20 : decode c_G_init 20 = .ok (.aload_n 0, 1) := by decide +kernel
theorem d_G_init_21 : decode c_G_init 21 = .ok (.sipush 1536, 3) := by decide +kernel
theorem d_G_init_24 : decode c_G_init 24 = .ok (.newarray .byte, 2) := by decide +kernel
theorem d_G_init_26 : decode c_G_init 26 = .ok (.putfield 18, 3) := by decide +kernel
theorem d_G_init_29 : decode c_G_init 29 = .ok (.return_, 1) := by decide +kernel
theorem d_G_clear_0 : decode c_G_clear 0 = .ok (.aload_n 0, 1) := by decide +kernel
theorem d_G_clear_1 : decode c_G_clear 1 = .ok (.iconst 0, 1) := by decide +kernel
theorem d_G_clear_2 : decode c_G_clear 2 = .ok (.putfield 22, 3) := by decide +kernel
theorem d_G_clear_5 : decode c_G_clear 5 = .ok (.aload_n 0, 1) := by decide +kernel
theorem d_G_clear_6 : decode c_G_clear 6 = .ok (.iconst 0, 1) := by decide +kernel
theorem d_G_clear_7 : decode c_G_clear 7 = .ok (.putfield 26, 3) := by decide +kernel
theorem d_G_clear_10 : decode c_G_clear 10 = .ok (.return_, 1) := by decide +kernel
theorem d_G_isEmpty_0 : decode c_G_isEmpty 0 = .ok (.aload_n 0, 1) := by decide +kernel
theorem d_G_isEmpty_1 : decode c_G_isEmpty 1 = .ok (.getfield 22, 3) := by decide +kernel
theorem d_G_isEmpty_4 : decode c_G_isEmpty 4 = .ok (.ifCond .ne 7, 3) := by decide +kernel
theorem d_G_isEmpty_7 : decode c_G_isEmpty 7 = .ok (.iconst 1, 1) := by decide +kernel
theorem d_G_isEmpty_8 : decode c_G_isEmpty 8 = .ok (.goto 4, 3) := by decide +kernel
theorem d_G_isEmpty_11 : decode c_G_isEmpty 11 = .ok (.iconst 0, 1) := by decide +kernel
theorem d_G_isEmpty_12 : decode c_G_isEmpty 12 = .ok (.ireturn, 1) := by decide +kernel
theorem d_G_size_0 : decode c_G_size 0 = .ok (.aload_n 0, 1) := by decide +kernel
theorem d_G_size_1 : decode c_G_size 1 = .ok (.getfield 22, 3) := by decide +kernel
theorem d_G_size_4 : decode c_G_size 4 = .ok (.ireturn, 1) := by decide +kernel
theorem d_G_blockAt_0 : decode c_G_blockAt 0 = .ok (.aload_n 0, 1) := by decide +kernel
theorem d_G_blockAt_1 : decode c_G_blockAt 1 = .ok (.getfield 9, 3) := by decide +kernel
theorem d_G_blockAt_4 : decode c_G_blockAt 4 = .ok (.iload_n 1, 1) := by decide +kernel
theorem d_G_blockAt_5 : decode c_G_blockAt 5 = .ok (.iaload, 1) := by decide +kernel
theorem d_G_blockAt_6 : decode c_G_blockAt 6 = .ok (.ireturn, 1) := by decide +kernel
theorem d_G_rowAt_0 : decode c_G_rowAt 0 = .ok (.aload_n 0, 1) := by decide +kernel
theorem d_G_rowAt_1 : decode c_G_rowAt 1 = .ok (.getfield 15, 3) := by decide +kernel
theorem d_G_rowAt_4 : decode c_G_rowAt 4 = .ok (.iload_n 1, 1) := by decide +kernel
theorem d_G_rowAt_5 : decode c_G_rowAt 5 = .ok (.iaload, 1) := by decide +kernel
theorem d_G_rowAt_6 : decode c_G_rowAt 6 = .ok (.ireturn, 1) := by decide +kernel
theorem d_G_byteAt_0 : decode c_G_byteAt 0 = .ok (.aload_n 0, 1) := by decide +kernel
theorem d_G_byteAt_1 : decode c_G_byteAt 1 = .ok (.getfield 18, 3) := by decide +kernel
theorem d_G_byteAt_4 : decode c_G_byteAt 4 = .ok (.iload_n 1, 1) := by decide +kernel
theorem d_G_byteAt_5 : decode c_G_byteAt 5 = .ok (.bipush 64, 2) := by decide +kernel
theorem d_G_byteAt_7 : decode c_G_byteAt 7 = .ok (.imul, 1) := by decide +kernel
theorem d_G_byteAt_8 : decode c_G_byteAt 8 = .ok (.iload_n 2, 1) := by decide +kernel
theorem d_G_byteAt_9 : decode c_G_byteAt 9 = .ok (.iadd, 1) := by decide +kernel
theorem d_G_byteAt_10 : decode c_G_byteAt 10 = .ok (.baload, 1) := by decide +kernel
theorem d_G_byteAt_11 : decode c_G_byteAt 11 = .ok (.sipush 255, 3) := by decide +kernel
theorem d_G_byteAt_14 : decode c_G_byteAt 14 = .ok (.iand, 1) := by decide +kernel
theorem d_G_byteAt_15 : decode c_G_byteAt 15 = .ok (.ireturn, 1) := by decide +kernel
theorem d_G_use_0 : decode c_G_use 0 = .ok (.aload_n 0, 1) := by decide +kernel
theorem d_G_use_1 : decode c_G_use 1 = .ok (.getfield 22, 3) := by decide +kernel
theorem d_G_use_4 : decode c_G_use 4 = .ok (.ifCond .ne 7, 3) := by decide +kernel
theorem d_G_use_7 : decode c_G_use 7 = .ok (.iconst 0, 1) := by decide +kernel
theorem d_G_use_8 : decode c_G_use 8 = .ok (.goto 16, 3) := by decide +kernel
theorem d_G_use_11 : decode c_G_use 11 = .ok (.iconst 1, 1) := by decide +kernel
theorem d_G_use_12 : decode c_G_use 12 = .ok (.aload_n 0, 1) := by decide +kernel
theorem d_G_use_13 : decode c_G_use 13 = .ok (.getfield 22, 3) := by decide +kernel
theorem d_G_use_16 : decode c_G_use 16 = .ok (.iadd, 1) := by decide +kernel
theorem d_G_use_17 : decode c_G_use 17 = .ok (.iconst 2, 1) := by decide +kernel
theorem d_G_use_18 : decode c_G_use 18 = .ok (.aload_n 0, 1) := by decide +kernel
theorem d_G_use_19 : decode c_G_use 19 = .ok (.getfield 26, 3) := by decide +kernel
theorem d_G_use_22 : decode c_G_use 22 = .ok (.imul, 1) := by decide +kernel
theorem d_G_use_23 : decode c_G_use 23 = .ok (.iadd, 1) := by decide +kernel
theorem d_G_use_24 : decode c_G_use 24 = .ok (.ireturn, 1) := by decide +kernel
theorem d_G_useWithOneMore_0 : decode c_G_useWithOneMore 0 = .ok (.aload_n 0, 1) := by decide +kernel
theorem d_G_useWithOneMore_1 : decode c_G_useWithOneMore 1 = .ok (.iload_n 1, 1) := by decide +kernel
theorem d_G_useWithOneMore_2 : decode c_G_useWithOneMore 2 = .ok (.invokevirtual 29, 3) := by decide +kernel
theorem d_G_useWithOneMore_5 : decode c_G_useWithOneMore 5 = .ok (.ifCond .ge 12, 3) := by decide +kernel
theorem d_G_useWithOneMore_8 : decode c_G_useWithOneMore 8 = .ok (.aload_n 0, 1) := by decide +kernel
theorem d_G_useWithOneMore_9 : decode c_G_useWithOneMore 9 = .ok (.getfield 26, 3) := by decide +kernel
theorem d_G_useWithOneMore_12 : decode c_G_useWithOneMore 12 = .ok (.iconst 1, 1) := by decide +kernel
theorem d_G_useWithOneMore_13 : decode c_G_useWithOneMore 13 = .ok (.iadd, 1) := by decide +kernel
theorem d_G_useWithOneMore_14 : decode c_G_useWithOneMore 14 = .ok (.goto 7, 3) := by decide +kernel
theorem d_G_useWithOneMore_17 : decode c_G_useWithOneMore 17 = .ok (.aload_n 0, 1) := by decide +kernel
theorem d_G_useWithOneMore_18 : decode c_G_useWithOneMore 18 = .ok (.getfield 26, 3) := by decide +kernel
theorem d_G_useWithOneMore_21 : decode c_G_useWithOneMore 21 = .ok (.istore_n 2, 1) := by decide +kernel
theorem d_G_useWithOneMore_22 : decode c_G_useWithOneMore 22 = .ok (.iconst 1, 1) := by decide +kernel
theorem d_G_useWithOneMore_23 : decode c_G_useWithOneMore 23 = .ok (.aload_n 0, 1) := by decide +kernel
theorem d_G_useWithOneMore_24 : decode c_G_useWithOneMore 24 = .ok (.getfield 22, 3) := by decide +kernel
theorem d_G_useWithOneMore_27 : decode c_G_useWithOneMore 27 = .ok (.iadd, 1) := by decide +kernel
theorem d_G_useWithOneMore_28 : decode c_G_useWithOneMore 28 = .ok (.iconst 1, 1) := by decide +kernel
theorem d_G_useWithOneMore_29 : decode c_G_useWithOneMore 29 = .ok (.iadd, 1) := by decide +kernel
theorem d_G_useWithOneMore_30 : decode c_G_useWithOneMore 30 = .ok (.iconst 2, 1) := by decide +kernel
theorem d_G_useWithOneMore_31 : decode c_G_useWithOneMore 31 = .ok (.iload_n 2, 1) := by decide +kernel
theorem d_G_useWithOneMore_32 : decode c_G_useWithOneMore 32 = .ok (.imul, 1) := by decide +kernel
theorem d_G_useWithOneMore_33 : decode c_G_useWithOneMore 33 = .ok (.iadd, 1) := by decide +kernel
theorem d_G_useWithOneMore_34 : decode c_G_useWithOneMore 34 = .ok (.ireturn, 1) := by decide +kernel
theorem d_G_placeOf_0 : decode c_G_placeOf 0 = .ok (.iconst 0, 1) := by decide +kernel
theorem d_G_placeOf_1 : decode c_G_placeOf 1 = .ok (.istore_n 2, 1) := by decide +kernel
theorem d_G_placeOf_2 : decode c_G_placeOf 2 = .ok (.iload_n 2, 1) := by decide +kernel
theorem d_G_placeOf_3 : decode c_G_placeOf 3 = .ok (.aload_n 0, 1) := by decide +kernel
theorem d_G_placeOf_4 : decode c_G_placeOf 4 = .ok (.getfield 22, 3) := by decide +kernel
theorem d_G_placeOf_7 : decode c_G_placeOf 7 = .ok (.if_icmp .ge 21, 3) := by decide +kernel
theorem d_G_placeOf_10 : decode c_G_placeOf 10 = .ok (.aload_n 0, 1) := by decide +kernel
theorem d_G_placeOf_11 : decode c_G_placeOf 11 = .ok (.getfield 9, 3) := by decide +kernel
theorem d_G_placeOf_14 : decode c_G_placeOf 14 = .ok (.iload_n 2, 1) := by decide +kernel
theorem d_G_placeOf_15 : decode c_G_placeOf 15 = .ok (.iaload, 1) := by decide +kernel
theorem d_G_placeOf_16 : decode c_G_placeOf 16 = .ok (.iload_n 1, 1) := by decide +kernel
theorem d_G_placeOf_17 : decode c_G_placeOf 17 = .ok (.if_icmp .ne 5, 3) := by decide +kernel
theorem d_G_placeOf_20 : decode c_G_placeOf 20 = .ok (.iload_n 2, 1) := by decide +kernel
theorem d_G_placeOf_21 : decode c_G_placeOf 21 = .ok (.ireturn, 1) := by decide +kernel
theorem d_G_placeOf_22 : decode c_G_placeOf 22 = .ok (.iinc 2 1, 3) := by decide +kernel
theorem d_G_placeOf_25 : decode c_G_placeOf 25 = .ok (.goto (-23), 3) := by decide +kernel
theorem d_G_placeOf_28 : decode c_G_placeOf 28 = .ok (.iconst (-1), 1) := by decide +kernel
theorem d_G_placeOf_29 : decode c_G_placeOf 29 = .ok (.ireturn, 1) := by decide +kernel
theorem d_G_isFirstOfRow_0 : decode c_G_isFirstOfRow 0 = .ok (.aload_n 0, 1) := by decide +kernel
theorem d_G_isFirstOfRow_1 : decode c_G_isFirstOfRow 1 = .ok (.aload_n 0, 1) := by decide +kernel
theorem d_G_isFirstOfRow_2 : decode c_G_isFirstOfRow 2 = .ok (.getfield 15, 3) := by decide +kernel
theorem d_G_isFirstOfRow_5 : decode c_G_isFirstOfRow 5 = .ok (.iload_n 1, 1) := by decide +kernel
theorem d_G_isFirstOfRow_6 : decode c_G_isFirstOfRow 6 = .ok (.iaload, 1) := by decide +kernel
theorem d_G_isFirstOfRow_7 : decode c_G_isFirstOfRow 7 = .ok (.invokevirtual 29, 3) := by decide +kernel
theorem d_G_isFirstOfRow_10 : decode c_G_isFirstOfRow 10 = .ok (.iload_n 1, 1) := by decide +kernel
theorem d_G_isFirstOfRow_11 : decode c_G_isFirstOfRow 11 = .ok (.if_icmp .ne 7, 3) := by decide +kernel
theorem d_G_isFirstOfRow_14 : decode c_G_isFirstOfRow 14 = .ok (.iconst 1, 1) := by decide +kernel
theorem d_G_isFirstOfRow_15 : decode c_G_isFirstOfRow 15 = .ok (.goto 4, 3) := by decide +kernel
theorem d_G_isFirstOfRow_18 : decode c_G_isFirstOfRow 18 = .ok (.iconst 0, 1) := by decide +kernel
theorem d_G_isFirstOfRow_19 : decode c_G_isFirstOfRow 19 = .ok (.ireturn, 1) := by decide +kernel
theorem d_G_take_0 : decode c_G_take 0 = .ok (.aload_n 0, 1) := by decide +kernel
theorem d_G_take_1 : decode c_G_take 1 = .ok (.iload_n 2, 1) := by decide +kernel
theorem d_G_take_2 : decode c_G_take 2 = .ok (.invokevirtual 29, 3) := by decide +kernel
theorem d_G_take_5 : decode c_G_take 5 = .ok (.ifCond .ge 13, 3) := by decide +kernel
theorem d_G_take_8 : decode c_G_take 8 = .ok (.aload_n 0, 1) := by decide +kernel
theorem d_G_take_9 : decode c_G_take 9 = .ok (.dup, 1) := by decide +kernel
theorem d_G_take_10 : decode c_G_take 10 = .ok (.getfield 26, 3) := by decide +kernel
theorem d_G_take_13 : decode c_G_take 13 = .ok (.iconst 1, 1) := by decide +kernel
theorem d_G_take_14 : decode c_G_take 14 = .ok (.iadd, 1) := by decide +kernel
theorem d_G_take_15 : decode c_G_take 15 = .ok (.putfield 26, 3) := by decide +kernel
theorem d_G_take_18 : decode c_G_take 18 = .ok (.aload_n 0, 1) := by decide +kernel
theorem d_G_take_19 : decode c_G_take 19 = .ok (.getfield 22, 3) := by decide +kernel
theorem d_G_take_22 : decode c_G_take 22 = .ok (.istore 4, 2) := by decide +kernel
theorem d_G_take_24 : decode c_G_take 24 = .ok (.aload_n 0, 1) := by decide +kernel
theorem d_G_take_25 : decode c_G_take 25 = .ok (.getfield 9, 3) := by decide +kernel
theorem d_G_take_28 : decode c_G_take 28 = .ok (.iload 4, 2) := by decide +kernel
theorem d_G_take_30 : decode c_G_take 30 = .ok (.iload_n 1, 1) := by decide +kernel
theorem d_G_take_31 : decode c_G_take 31 = .ok (.iastore, 1) := by decide +kernel
theorem d_G_take_32 : decode c_G_take 32 = .ok (.aload_n 0, 1) := by decide +kernel
theorem d_G_take_33 : decode c_G_take 33 = .ok (.getfield 15, 3) := by decide +kernel
theorem d_G_take_36 : decode c_G_take 36 = .ok (.iload 4, 2) := by decide +kernel
theorem d_G_take_38 : decode c_G_take 38 = .ok (.iload_n 2, 1) := by decide +kernel
theorem d_G_take_39 : decode c_G_take 39 = .ok (.iastore, 1) := by decide +kernel
theorem d_G_take_40 : decode c_G_take 40 = .ok (.aload_n 3, 1) := by decide +kernel
theorem d_G_take_41 : decode c_G_take 41 = .ok (.iload_n 1, 1) := by decide +kernel
theorem d_G_take_42 : decode c_G_take 42 = .ok (.bipush 64, 2) := by decide +kernel
theorem d_G_take_44 : decode c_G_take 44 = .ok (.imul, 1) := by decide +kernel
theorem d_G_take_45 : decode c_G_take 45 = .ok (.aload_n 0, 1) := by decide +kernel
theorem d_G_take_46 : decode c_G_take 46 = .ok (.getfield 18, 3) := by decide +kernel
theorem d_G_take_49 : decode c_G_take 49 = .ok (.iload 4, 2) := by decide +kernel
theorem d_G_take_51 : decode c_G_take 51 = .ok (.bipush 64, 2) := by decide +kernel
theorem d_G_take_53 : decode c_G_take 53 = .ok (.imul, 1) := by decide +kernel
theorem d_G_take_54 : decode c_G_take 54 = .ok (.bipush 64, 2) := by decide +kernel
theorem d_G_take_56 : decode c_G_take 56 = .ok (.invokestatic 33, 3) := by decide +kernel
theorem d_G_take_59 : decode c_G_take 59 = .ok (.aload_n 0, 1) := by decide +kernel
theorem d_G_take_60 : decode c_G_take 60 = .ok (.dup, 1) := by decide +kernel
theorem d_G_take_61 : decode c_G_take 61 = .ok (.getfield 22, 3) := by decide +kernel
theorem d_G_take_64 : decode c_G_take 64 = .ok (.iconst 1, 1) := by decide +kernel
theorem d_G_take_65 : decode c_G_take 65 = .ok (.iadd, 1) := by decide +kernel
theorem d_G_take_66 : decode c_G_take 66 = .ok (.putfield 22, 3) := by decide +kernel
theorem d_G_take_69 : decode c_G_take 69 = .ok (.iload 4, 2) := by decide +kernel
theorem d_G_take_71 : decode c_G_take 71 = .ok (.ireturn, 1) := by decide +kernel
theorem d_G_set_0 : decode c_G_set 0 = .ok (.iload_n 1, 1) := by decide +kernel
theorem d_G_set_1 : decode c_G_set 1 = .ok (.bipush 64, 2) := by decide +kernel
theorem d_G_set_3 : decode c_G_set 3 = .ok (.imul, 1) := by decide +kernel
theorem d_G_set_4 : decode c_G_set 4 = .ok (.iload_n 2, 1) := by decide +kernel
theorem d_G_set_5 : decode c_G_set 5 = .ok (.iadd, 1) := by decide +kernel
theorem d_G_set_6 : decode c_G_set 6 = .ok (.istore 5, 2) := by decide +kernel
theorem d_G_set_8 : decode c_G_set 8 = .ok (.aload_n 0, 1) := by decide +kernel
theorem d_G_set_9 : decode c_G_set 9 = .ok (.getfield 18, 3) := by decide +kernel
theorem d_G_set_12 : decode c_G_set 12 = .ok (.iload 5, 2) := by decide +kernel
theorem d_G_set_14 : decode c_G_set 14 = .ok (.iload 5, 2) := by decide +kernel
theorem d_G_set_16 : decode c_G_set 16 = .ok (.iload_n 3, 1) := by decide +kernel
theorem d_G_set_17 : decode c_G_set 17 = .ok (.iadd, 1) := by decide +kernel
theorem d_G_set_18 : decode c_G_set 18 = .ok (.iload 4, 2) := by decide +kernel
theorem d_G_set_20 : decode c_G_set 20 = .ok (.i2b, 1) := by decide +kernel
theorem d_G_set_21 : decode c_G_set 21 = .ok (.invokestatic 39, 3) := by decide +kernel
theorem d_G_set_24 : decode c_G_set 24 = .ok (.return_, 1) := by decide +kernel
theorem d_G_become_0 : decode c_G_become 0 = .ok (.aload_n 1, 1) := by decide +kernel
theorem d_G_become_1 : decode c_G_become 1 = .ok (.getfield 9, 3) := by decide +kernel
theorem d_G_become_4 : decode c_G_become 4 = .ok (.iconst 0, 1) := by decide +kernel
theorem d_G_become_5 : decode c_G_become 5 = .ok (.aload_n 0, 1) := by decide +kernel
theorem d_G_become_6 : decode c_G_become 6 = .ok (.getfield 9, 3) := by decide +kernel
theorem d_G_become_9 : decode c_G_become 9 = .ok (.iconst 0, 1) := by decide +kernel
theorem d_G_become_10 : decode c_G_become 10 = .ok (.aload_n 1, 1) := by decide +kernel
theorem d_G_become_11 : decode c_G_become 11 = .ok (.getfield 22, 3) := by decide +kernel
theorem d_G_become_14 : decode c_G_become 14 = .ok (.invokestatic 33, 3) := by decide +kernel
theorem d_G_become_17 : decode c_G_become 17 = .ok (.aload_n 1, 1) := by decide +kernel
theorem d_G_become_18 : decode c_G_become 18 = .ok (.getfield 15, 3) := by decide +kernel
theorem d_G_become_21 : decode c_G_become 21 = .ok (.iconst 0, 1) := by decide +kernel
theorem d_G_become_22 : decode c_G_become 22 = .ok (.aload_n 0, 1) := by decide +kernel
theorem d_G_become_23 : decode c_G_become 23 = .ok (.getfield 15, 3) := by decide +kernel
theorem d_G_become_26 : decode c_G_become 26 = .ok (.iconst 0, 1) := by decide +kernel
theorem d_G_become_27 : decode c_G_become 27 = .ok (.aload_n 1, 1) := by decide +kernel
theorem d_G_become_28 : decode c_G_become 28 = .ok (.getfield 22, 3) := by decide +kernel
theorem d_G_become_31 : decode c_G_become 31 = .ok (.invokestatic 33, 3) := by decide +kernel
theorem d_G_become_34 : decode c_G_become 34 = .ok (.aload_n 1, 1) := by decide +kernel
theorem d_G_become_35 : decode c_G_become 35 = .ok (.getfield 18, 3) := by decide +kernel
theorem d_G_become_38 : decode c_G_become 38 = .ok (.iconst 0, 1) := by decide +kernel
theorem d_G_become_39 : decode c_G_become 39 = .ok (.aload_n 0, 1) := by decide +kernel
theorem d_G_become_40 : decode c_G_become 40 = .ok (.getfield 18, 3) := by decide +kernel
theorem d_G_become_43 : decode c_G_become 43 = .ok (.iconst 0, 1) := by decide +kernel
theorem d_G_become_44 : decode c_G_become 44 = .ok (.aload_n 1, 1) := by decide +kernel
theorem d_G_become_45 : decode c_G_become 45 = .ok (.getfield 22, 3) := by decide +kernel
theorem d_G_become_48 : decode c_G_become 48 = .ok (.bipush 64, 2) := by decide +kernel
theorem d_G_become_50 : decode c_G_become 50 = .ok (.imul, 1) := by decide +kernel
theorem d_G_become_51 : decode c_G_become 51 = .ok (.invokestatic 33, 3) := by decide +kernel
theorem d_G_become_54 : decode c_G_become 54 = .ok (.aload_n 0, 1) := by decide +kernel
theorem d_G_become_55 : decode c_G_become 55 = .ok (.aload_n 1, 1) := by decide +kernel
theorem d_G_become_56 : decode c_G_become 56 = .ok (.getfield 22, 3) := by decide +kernel
theorem d_G_become_59 : decode c_G_become 59 = .ok (.putfield 22, 3) := by decide +kernel
theorem d_G_become_62 : decode c_G_become 62 = .ok (.aload_n 0, 1) := by decide +kernel
theorem d_G_become_63 : decode c_G_become 63 = .ok (.aload_n 1, 1) := by decide +kernel
theorem d_G_become_64 : decode c_G_become 64 = .ok (.getfield 26, 3) := by decide +kernel
theorem d_G_become_67 : decode c_G_become 67 = .ok (.putfield 26, 3) := by decide +kernel
theorem d_G_become_70 : decode c_G_become 70 = .ok (.return_, 1) := by decide +kernel
theorem d_G_keepIn_0 : decode c_G_keepIn 0 = .ok (.iconst 0, 1) := by decide +kernel
theorem d_G_keepIn_1 : decode c_G_keepIn 1 = .ok (.istore_n 2, 1) := by decide +kernel
theorem d_G_keepIn_2 : decode c_G_keepIn 2 = .ok (.iload_n 2, 1) := by decide +kernel
theorem d_G_keepIn_3 : decode c_G_keepIn 3 = .ok (.aload_n 0, 1) := by decide +kernel
theorem d_G_keepIn_4 : decode c_G_keepIn 4 = .ok (.getfield 22, 3) := by decide +kernel
theorem d_G_keepIn_7 : decode c_G_keepIn 7 = .ok (.if_icmp .ge 32, 3) := by decide +kernel
theorem d_G_keepIn_10 : decode c_G_keepIn 10 = .ok (.aload_n 0, 1) := by decide +kernel
theorem d_G_keepIn_11 : decode c_G_keepIn 11 = .ok (.getfield 18, 3) := by decide +kernel
theorem d_G_keepIn_14 : decode c_G_keepIn 14 = .ok (.iload_n 2, 1) := by decide +kernel
theorem d_G_keepIn_15 : decode c_G_keepIn 15 = .ok (.bipush 64, 2) := by decide +kernel
theorem d_G_keepIn_17 : decode c_G_keepIn 17 = .ok (.imul, 1) := by decide +kernel
theorem d_G_keepIn_18 : decode c_G_keepIn 18 = .ok (.aload_n 1, 1) := by decide +kernel
theorem d_G_keepIn_19 : decode c_G_keepIn 19 = .ok (.aload_n 0, 1) := by decide +kernel
theorem d_G_keepIn_20 : decode c_G_keepIn 20 = .ok (.getfield 9, 3) := by decide +kernel
theorem d_G_keepIn_23 : decode c_G_keepIn 23 = .ok (.iload_n 2, 1) := by decide +kernel
theorem d_G_keepIn_24 : decode c_G_keepIn 24 = .ok (.iaload, 1) := by decide +kernel
theorem d_G_keepIn_25 : decode c_G_keepIn 25 = .ok (.bipush 64, 2) := by decide +kernel
theorem d_G_keepIn_27 : decode c_G_keepIn 27 = .ok (.imul, 1) := by decide +kernel
theorem d_G_keepIn_28 : decode c_G_keepIn 28 = .ok (.bipush 64, 2) := by decide +kernel
theorem d_G_keepIn_30 : decode c_G_keepIn 30 = .ok (.invokestatic 33, 3) := by decide +kernel
theorem d_G_keepIn_33 : decode c_G_keepIn 33 = .ok (.iinc 2 1, 3) := by decide +kernel
theorem d_G_keepIn_36 : decode c_G_keepIn 36 = .ok (.goto (-34), 3) := by decide +kernel
theorem d_G_keepIn_39 : decode c_G_keepIn 39 = .ok (.return_, 1) := by decide +kernel
theorem d_G_firstOf_0 : decode c_G_firstOf 0 = .ok (.iconst 0, 1) := by decide +kernel
theorem d_G_firstOf_1 : decode c_G_firstOf 1 = .ok (.istore_n 2, 1) := by decide +kernel
theorem d_G_firstOf_2 : decode c_G_firstOf 2 = .ok (.iload_n 2, 1) := by decide +kernel
theorem d_G_firstOf_3 : decode c_G_firstOf 3 = .ok (.aload_n 0, 1) := by decide +kernel
theorem d_G_firstOf_4 : decode c_G_firstOf 4 = .ok (.getfield 22, 3) := by decide +kernel
theorem d_G_firstOf_7 : decode c_G_firstOf 7 = .ok (.if_icmp .ge 21, 3) := by decide +kernel
theorem d_G_firstOf_10 : decode c_G_firstOf 10 = .ok (.aload_n 0, 1) := by decide +kernel
theorem d_G_firstOf_11 : decode c_G_firstOf 11 = .ok (.getfield 15, 3) := by decide +kernel
theorem d_G_firstOf_14 : decode c_G_firstOf 14 = .ok (.iload_n 2, 1) := by decide +kernel
theorem d_G_firstOf_15 : decode c_G_firstOf 15 = .ok (.iaload, 1) := by decide +kernel
theorem d_G_firstOf_16 : decode c_G_firstOf 16 = .ok (.iload_n 1, 1) := by decide +kernel
theorem d_G_firstOf_17 : decode c_G_firstOf 17 = .ok (.if_icmp .ne 5, 3) := by decide +kernel
theorem d_G_firstOf_20 : decode c_G_firstOf 20 = .ok (.iload_n 2, 1) := by decide +kernel
theorem d_G_firstOf_21 : decode c_G_firstOf 21 = .ok (.ireturn, 1) := by decide +kernel
theorem d_G_firstOf_22 : decode c_G_firstOf 22 = .ok (.iinc 2 1, 3) := by decide +kernel
theorem d_G_firstOf_25 : decode c_G_firstOf 25 = .ok (.goto (-23), 3) := by decide +kernel
theorem d_G_firstOf_28 : decode c_G_firstOf 28 = .ok (.iconst (-1), 1) := by decide +kernel
theorem d_G_firstOf_29 : decode c_G_firstOf 29 = .ok (.ireturn, 1) := by decide +kernel
theorem d_L_init_0 : decode c_L_init 0 = .ok (.aload_n 0, 1) := by decide +kernel
theorem d_L_init_1 : decode c_L_init 1 = .ok (.invokespecial 3, 3) := by decide +kernel
theorem d_L_init_4 : decode c_L_init 4 = .ok (.aload_n 0, 1) := by decide +kernel
theorem d_L_init_5 : decode c_L_init 5 = .ok (.iconst 2, 1) := by decide +kernel
theorem d_L_init_6 : decode c_L_init 6 = .ok (.bipush 8, 2) := by decide +kernel
theorem d_L_init_8 : decode c_L_init 8 = .ok (.multianewarray 9 2, 4) := by decide +kernel
theorem d_L_init_12 : decode c_L_init 12 = .ok (.putfield 11, 3) := by decide +kernel
theorem d_L_init_15 : decode c_L_init 15 = .ok (.aload_n 0, 1) := by decide +kernel
theorem d_L_init_16 : decode c_L_init 16 = .ok (.iconst 2, 1) := by decide +kernel
theorem d_L_init_17 : decode c_L_init 17 = .ok (.bipush 8, 2) := by decide +kernel
theorem d_L_init_19 : decode c_L_init 19 = .ok (.multianewarray 9 2, 4) := by decide +kernel
theorem d_L_init_23 : decode c_L_init 23 = .ok (.putfield 16, 3) := by decide +kernel
theorem d_L_init_26 : decode c_L_init 26 = .ok (.aload_n 0, 1) := by decide +kernel
theorem d_L_init_27 : decode c_L_init 27 = .ok (.iconst 2, 1) := by decide +kernel
theorem d_L_init_28 : decode c_L_init 28 = .ok (.bipush 8, 2) := by decide +kernel
theorem d_L_init_30 : decode c_L_init 30 = .ok (.multianewarray 9 2, 4) := by decide +kernel
theorem d_L_init_34 : decode c_L_init 34 = .ok (.putfield 19, 3) := by decide +kernel
theorem d_L_init_37 : decode c_L_init 37 = .ok (.aload_n 0, 1) := by decide +kernel
theorem d_L_init_38 : decode c_L_init 38 = .ok (.iconst 2, 1) := by decide +kernel
theorem d_L_init_39 : decode c_L_init 39 = .ok (.newarray .int, 2) := by decide +kernel
theorem d_L_init_41 : decode c_L_init 41 = .ok (.putfield 22, 3) := by decide +kernel
theorem d_L_init_44 : decode c_L_init 44 = .ok (.aload_n 0, 1) := by decide +kernel
theorem d_L_init_45 : decode c_L_init 45 = .ok (.iconst 2, 1) := by decide +kernel
theorem d_L_init_46 : decode c_L_init 46 = .ok (.newarray .boolean, 2) := by decide +kernel
theorem d_L_init_48 : decode c_L_init 48 = .ok (.putfield 26, 3) := by decide +kernel
theorem d_L_init_51 : decode c_L_init 51 = .ok (.return_, 1) := by decide +kernel
theorem d_L_draft_0 : decode c_L_draft 0 = .ok (.iconst 1, 1) := by decide +kernel
theorem d_L_draft_1 : decode c_L_draft 1 = .ok (.aload_n 0, 1) := by decide +kernel
theorem d_L_draft_2 : decode c_L_draft 2 = .ok (.getfield 30, 3) := by decide +kernel
theorem d_L_draft_5 : decode c_L_draft 5 = .ok (.isub, 1) := by decide +kernel
theorem d_L_draft_6 : decode c_L_draft 6 = .ok (.istore_n 3, 1) := by decide +kernel
theorem d_L_draft_7 : decode c_L_draft 7 = .ok (.aload_n 0, 1) := by decide +kernel
theorem d_L_draft_8 : decode c_L_draft 8 = .ok (.dup, 1) := by decide +kernel
theorem d_L_draft_9 : decode c_L_draft 9 = .ok (.getfield 34, 3) := by decide +kernel
theorem d_L_draft_12 : decode c_L_draft 12 = .ok (.iconst 1, 1) := by decide +kernel
theorem d_L_draft_13 : decode c_L_draft 13 = .ok (.iadd, 1) := by decide +kernel
theorem d_L_draft_14 : decode c_L_draft 14 = .ok (.putfield 34, 3) := by decide +kernel
theorem d_L_draft_17 : decode c_L_draft 17 = .ok (.aload_n 0, 1) := by decide +kernel
theorem d_L_draft_18 : decode c_L_draft 18 = .ok (.getfield 22, 3) := by decide +kernel
theorem d_L_draft_21 : decode c_L_draft 21 = .ok (.iload_n 3, 1) := by decide +kernel
theorem d_L_draft_22 : decode c_L_draft 22 = .ok (.aload_n 0, 1) := by decide +kernel
theorem d_L_draft_23 : decode c_L_draft 23 = .ok (.getfield 34, 3) := by decide +kernel
theorem d_L_draft_26 : decode c_L_draft 26 = .ok (.iastore, 1) := by decide +kernel
theorem d_L_draft_27 : decode c_L_draft 27 = .ok (.aload_n 0, 1) := by decide +kernel
theorem d_L_draft_28 : decode c_L_draft 28 = .ok (.getfield 26, 3) := by decide +kernel
theorem d_L_draft_31 : decode c_L_draft 31 = .ok (.iload_n 3, 1) := by decide +kernel
theorem d_L_draft_32 : decode c_L_draft 32 = .ok (.iload_n 1, 1) := by decide +kernel
theorem d_L_draft_33 : decode c_L_draft 33 = .ok (.bastore, 1) := by decide +kernel
theorem d_L_draft_34 : decode c_L_draft 34 = .ok (.aload_n 2, 1) := by decide +kernel
theorem d_L_draft_35 : decode c_L_draft 35 = .ok (.iconst 0, 1) := by decide +kernel
theorem d_L_draft_36 : decode c_L_draft 36 = .ok (.aload_n 0, 1) := by decide +kernel
theorem d_L_draft_37 : decode c_L_draft 37 = .ok (.getfield 19, 3) := by decide +kernel
theorem d_L_draft_40 : decode c_L_draft 40 = .ok (.iload_n 3, 1) := by decide +kernel
theorem d_L_draft_41 : decode c_L_draft 41 = .ok (.aaload, 1) := by decide +kernel
theorem d_L_draft_42 : decode c_L_draft 42 = .ok (.iconst 0, 1) := by decide +kernel
theorem d_L_draft_43 : decode c_L_draft 43 = .ok (.bipush 8, 2) := by decide +kernel
theorem d_L_draft_45 : decode c_L_draft 45 = .ok (.invokestatic 37, 3) := by decide +kernel
theorem d_L_draft_48 : decode c_L_draft 48 = .ok (.return_, 1) := by decide +kernel
theorem d_L_tell_0 : decode c_L_tell 0 = .ok (.aload_n 0, 1) := by decide +kernel
theorem d_L_tell_1 : decode c_L_tell 1 = .ok (.getfield 19, 3) := by decide +kernel
theorem d_L_tell_4 : decode c_L_tell 4 = .ok (.iconst 1, 1) := by decide +kernel
theorem d_L_tell_5 : decode c_L_tell 5 = .ok (.aload_n 0, 1) := by decide +kernel
theorem d_L_tell_6 : decode c_L_tell 6 = .ok (.getfield 30, 3) := by decide +kernel
theorem d_L_tell_9 : decode c_L_tell 9 = .ok (.isub, 1) := by decide +kernel
theorem d_L_tell_10 : decode c_L_tell 10 = .ok (.aaload, 1) := by decide +kernel
theorem d_L_tell_11 : decode c_L_tell 11 = .ok (.iload_n 1, 1) := by decide +kernel
theorem d_L_tell_12 : decode c_L_tell 12 = .ok (.iload_n 2, 1) := by decide +kernel
theorem d_L_tell_13 : decode c_L_tell 13 = .ok (.iastore, 1) := by decide +kernel
theorem d_L_tell_14 : decode c_L_tell 14 = .ok (.return_, 1) := by decide +kernel
theorem d_L_draftCounts_0 : decode c_L_draftCounts 0 = .ok (.aload_n 0, 1) := by decide +kernel
theorem d_L_draftCounts_1 : decode c_L_draftCounts 1 = .ok (.iconst 1, 1) := by decide +kernel
theorem d_L_draftCounts_2 : decode c_L_draftCounts 2 = .ok (.aload_n 0, 1) := by decide +kernel
theorem d_L_draftCounts_3 : decode c_L_draftCounts 3 = .ok (.getfield 30, 3) := by decide +kernel
theorem d_L_draftCounts_6 : decode c_L_draftCounts 6 = .ok (.isub, 1) := by decide +kernel
theorem d_L_draftCounts_7 : decode c_L_draftCounts 7 = .ok (.putfield 30, 3) := by decide +kernel
theorem d_L_draftCounts_10 : decode c_L_draftCounts 10 = .ok (.return_, 1) := by decide +kernel
theorem d_L_putDraft_0 : decode c_L_putDraft 0 = .ok (.aload_n 0, 1) := by decide +kernel
theorem d_L_putDraft_1 : decode c_L_putDraft 1 = .ok (.iconst 1, 1) := by decide +kernel
theorem d_L_putDraft_2 : decode c_L_putDraft 2 = .ok (.aload_n 0, 1) := by decide +kernel
theorem d_L_putDraft_3 : decode c_L_putDraft 3 = .ok (.getfield 30, 3) := by decide +kernel
theorem d_L_putDraft_6 : decode c_L_putDraft 6 = .ok (.isub, 1) := by decide +kernel
theorem d_L_putDraft_7 : decode c_L_putDraft 7 = .ok (.iload_n 1, 1) := by decide +kernel
theorem d_L_putDraft_8 : decode c_L_putDraft 8 = .ok (.iload_n 2, 1) := by decide +kernel
theorem d_L_putDraft_9 : decode c_L_putDraft 9 = .ok (.invokevirtual 43, 3) := by decide +kernel
theorem d_L_putDraft_12 : decode c_L_putDraft 12 = .ok (.return_, 1) := by decide +kernel
theorem d_L_putCounting_0 : decode c_L_putCounting 0 = .ok (.aload_n 0, 1) := by decide +kernel
theorem d_L_putCounting_1 : decode c_L_putCounting 1 = .ok (.aload_n 0, 1) := by decide +kernel
theorem d_L_putCounting_2 : decode c_L_putCounting 2 = .ok (.getfield 30, 3) := by decide +kernel
theorem d_L_putCounting_5 : decode c_L_putCounting 5 = .ok (.iload_n 1, 1) := by decide +kernel
theorem d_L_putCounting_6 : decode c_L_putCounting 6 = .ok (.iload_n 2, 1) := by decide +kernel
theorem d_L_putCounting_7 : decode c_L_putCounting 7 = .ok (.invokevirtual 43, 3) := by decide +kernel
theorem d_L_putCounting_10 : decode c_L_putCounting 10 = .ok (.return_, 1) := by decide +kernel
theorem d_L_wipe_0 : decode c_L_wipe 0 = .ok (.iconst 0, 1) := by decide +kernel
theorem d_L_wipe_1 : decode c_L_wipe 1 = .ok (.istore_n 2, 1) := by decide +kernel
theorem d_L_wipe_2 : decode c_L_wipe 2 = .ok (.iload_n 2, 1) := by decide +kernel
theorem d_L_wipe_3 : decode c_L_wipe 3 = .ok (.iconst 2, 1) := by decide +kernel
theorem d_L_wipe_4 : decode c_L_wipe 4 = .ok (.if_icmp .ge 27, 3) := by decide +kernel
theorem d_L_wipe_7 : decode c_L_wipe 7 = .ok (.aload_n 0, 1) := by decide +kernel
theorem d_L_wipe_8 : decode c_L_wipe 8 = .ok (.getfield 11, 3) := by decide +kernel
theorem d_L_wipe_11 : decode c_L_wipe 11 = .ok (.iload_n 2, 1) := by decide +kernel
theorem d_L_wipe_12 : decode c_L_wipe 12 = .ok (.aaload, 1) := by decide +kernel
theorem d_L_wipe_13 : decode c_L_wipe 13 = .ok (.iload_n 1, 1) := by decide +kernel
theorem d_L_wipe_14 : decode c_L_wipe 14 = .ok (.iconst 0, 1) := by decide +kernel
theorem d_L_wipe_15 : decode c_L_wipe 15 = .ok (.iastore, 1) := by decide +kernel
theorem d_L_wipe_16 : decode c_L_wipe 16 = .ok (.aload_n 0, 1) := by decide +kernel
theorem d_L_wipe_17 : decode c_L_wipe 17 = .ok (.getfield 16, 3) := by decide +kernel
theorem d_L_wipe_20 : decode c_L_wipe 20 = .ok (.iload_n 2, 1) := by decide +kernel
theorem d_L_wipe_21 : decode c_L_wipe 21 = .ok (.aaload, 1) := by decide +kernel
theorem d_L_wipe_22 : decode c_L_wipe 22 = .ok (.iload_n 1, 1) := by decide +kernel
theorem d_L_wipe_23 : decode c_L_wipe 23 = .ok (.iconst 0, 1) := by decide +kernel
theorem d_L_wipe_24 : decode c_L_wipe 24 = .ok (.iastore, 1) := by decide +kernel
theorem d_L_wipe_25 : decode c_L_wipe 25 = .ok (.iinc 2 1, 3) := by decide +kernel
theorem d_L_wipe_28 : decode c_L_wipe 28 = .ok (.goto (-26), 3) := by decide +kernel
theorem d_L_wipe_31 : decode c_L_wipe 31 = .ok (.return_, 1) := by decide +kernel
theorem d_L_hasSome_0 : decode c_L_hasSome 0 = .ok (.aload_n 0, 1) := by decide +kernel
theorem d_L_hasSome_1 : decode c_L_hasSome 1 = .ok (.iconst 0, 1) := by decide +kernel
theorem d_L_hasSome_2 : decode c_L_hasSome 2 = .ok (.iload_n 1, 1) := by decide +kernel
theorem d_L_hasSome_3 : decode c_L_hasSome 3 = .ok (.invokevirtual 47, 3) := by decide +kernel
theorem d_L_hasSome_6 : decode c_L_hasSome 6 = .ok (.ifCond .ne 12, 3) := by decide +kernel
theorem d_L_hasSome_9 : decode c_L_hasSome 9 = .ok (.aload_n 0, 1) := by decide +kernel
theorem d_L_hasSome_10 : decode c_L_hasSome 10 = .ok (.iconst 1, 1) := by decide +kernel
theorem d_L_hasSome_11 : decode c_L_hasSome 11 = .ok (.iload_n 1, 1) := by decide +kernel
theorem d_L_hasSome_12 : decode c_L_hasSome 12 = .ok (.invokevirtual 47, 3) := by decide +kernel
theorem d_L_hasSome_15 : decode c_L_hasSome 15 = .ok (.ifCond .eq 7, 3) := by decide +kernel
theorem d_L_hasSome_18 : decode c_L_hasSome 18 = .ok (.iconst 1, 1) := by decide +kernel
theorem d_L_hasSome_19 : decode c_L_hasSome 19 = .ok (.goto 4, 3) := by decide +kernel
theorem d_L_hasSome_22 : decode c_L_hasSome 22 = .ok (.iconst 0, 1) := by decide +kernel
theorem d_L_hasSome_23 : decode c_L_hasSome 23 = .ok (.ireturn, 1) := by decide +kernel
theorem d_L_tellsOfGroup_0 : decode c_L_tellsOfGroup 0 = .ok (.aload_n 0, 1) := by decide +kernel
theorem d_L_tellsOfGroup_1 : decode c_L_tellsOfGroup 1 = .ok (.getfield 26, 3) := by decide +kernel
theorem d_L_tellsOfGroup_4 : decode c_L_tellsOfGroup 4 = .ok (.aload_n 0, 1) := by decide +kernel
theorem d_L_tellsOfGroup_5 : decode c_L_tellsOfGroup 5 = .ok (.getfield 30, 3) := by decide +kernel
theorem d_L_tellsOfGroup_8 : decode c_L_tellsOfGroup 8 = .ok (.baload, 1) := by decide +kernel
theorem d_L_tellsOfGroup_9 : decode c_L_tellsOfGroup 9 = .ok (.ireturn, 1) := by decide +kernel
theorem d_L_toldMark_0 : decode c_L_toldMark 0 = .ok (.aload_n 0, 1) := by decide +kernel
theorem d_L_toldMark_1 : decode c_L_toldMark 1 = .ok (.getfield 19, 3) := by decide +kernel
theorem d_L_toldMark_4 : decode c_L_toldMark 4 = .ok (.aload_n 0, 1) := by decide +kernel
theorem d_L_toldMark_5 : decode c_L_toldMark 5 = .ok (.getfield 30, 3) := by decide +kernel
theorem d_L_toldMark_8 : decode c_L_toldMark 8 = .ok (.aaload, 1) := by decide +kernel
theorem d_L_toldMark_9 : decode c_L_toldMark 9 = .ok (.iload_n 1, 1) := by decide +kernel
theorem d_L_toldMark_10 : decode c_L_toldMark 10 = .ok (.iaload, 1) := by decide +kernel
theorem d_L_toldMark_11 : decode c_L_toldMark 11 = .ok (.ireturn, 1) := by decide +kernel
theorem d_L_findCounting_0 : decode c_L_findCounting 0 = .ok (.iconst 0, 1) := by decide +kernel
theorem d_L_findCounting_1 : decode c_L_findCounting 1 = .ok (.istore_n 1, 1) := by decide +kernel
theorem d_L_findCounting_2 : decode c_L_findCounting 2 = .ok (.iconst 0, 1) := by decide +kernel
theorem d_L_findCounting_3 : decode c_L_findCounting 3 = .ok (.istore_n 2, 1) := by decide +kernel
theorem d_L_findCounting_4 : decode c_L_findCounting 4 = .ok (.iload_n 2, 1) := by decide +kernel
theorem d_L_findCounting_5 : decode c_L_findCounting 5 = .ok (.iconst 2, 1) := by decide +kernel
theorem d_L_findCounting_6 : decode c_L_findCounting 6 = .ok (.if_icmp .ge 58, 3) := by decide +kernel
theorem d_L_findCounting_9 : decode c_L_findCounting 9 = .ok (.iconst 0, 1) := by decide +kernel
theorem d_L_findCounting_10 : decode c_L_findCounting 10 = .ok (.istore_n 3, 1) := by decide +kernel
theorem d_L_findCounting_11 : decode c_L_findCounting 11 = .ok (.iload_n 3, 1) := by decide +kernel
theorem d_L_findCounting_12 : decode c_L_findCounting 12 = .ok (.bipush 8, 2) := by decide +kernel
theorem d_L_findCounting_14 : decode c_L_findCounting 14 = .ok (.if_icmp .ge 44, 3) := by decide +kernel
theorem d_L_findCounting_17 : decode c_L_findCounting 17 = .ok (.aload_n 0, 1) := by decide +kernel
theorem d_L_findCounting_18 : decode c_L_findCounting 18 = .ok (.iload_n 2, 1) := by decide +kernel
theorem d_L_findCounting_19 : decode c_L_findCounting 19 = .ok (.iload_n 3, 1) := by decide +kernel
theorem d_L_findCounting_20 : decode c_L_findCounting 20 = .ok (.invokevirtual 47, 3) := by decide +kernel
theorem d_L_findCounting_23 : decode c_L_findCounting 23 = .ok (.ifCond .eq 29, 3) := by decide +kernel
theorem d_L_findCounting_26 : decode c_L_findCounting 26 = .ok (.aload_n 0, 1) := by decide +kernel
theorem d_L_findCounting_27 : decode c_L_findCounting 27 = .ok (.getfield 11, 3) := by decide +kernel
theorem d_L_findCounting_30 : decode c_L_findCounting 30 = .ok (.iload_n 2, 1) := by decide +kernel
theorem d_L_findCounting_31 : decode c_L_findCounting 31 = .ok (.aaload, 1) := by decide +kernel
theorem d_L_findCounting_32 : decode c_L_findCounting 32 = .ok (.iload_n 3, 1) := by decide +kernel
theorem d_L_findCounting_33 : decode c_L_findCounting 33 = .ok (.iaload, 1) := by decide +kernel
theorem d_L_findCounting_34 : decode c_L_findCounting 34 = .ok (.iload_n 1, 1) := by decide +kernel
theorem d_L_findCounting_35 : decode c_L_findCounting 35 = .ok (.if_icmp .le 17, 3) := by decide +kernel
theorem d_L_findCounting_38 : decode c_L_findCounting 38 = .ok (.aload_n 0, 1) := by decide +kernel
theorem d_L_findCounting_39 : decode c_L_findCounting 39 = .ok (.getfield 11, 3) := by decide +kernel
theorem d_L_findCounting_42 : decode c_L_findCounting 42 = .ok (.iload_n 2, 1) := by decide +kernel
theorem d_L_findCounting_43 : decode c_L_findCounting 43 = .ok (.aaload, 1) := by decide +kernel
theorem d_L_findCounting_44 : decode c_L_findCounting 44 = .ok (.iload_n 3, 1) := by decide +kernel
theorem d_L_findCounting_45 : decode c_L_findCounting 45 = .ok (.iaload, 1) := by decide +kernel
theorem d_L_findCounting_46 : decode c_L_findCounting 46 = .ok (.istore_n 1, 1) := by decide +kernel
theorem d_L_findCounting_47 : decode c_L_findCounting 47 = .ok (.aload_n 0, 1) := by decide +kernel
theorem d_L_findCounting_48 : decode c_L_findCounting 48 = .ok (.iload_n 2, 1) := by decide +kernel
theorem d_L_findCounting_49 : decode c_L_findCounting 49 = .ok (.putfield 30, 3) := by decide +kernel
theorem d_L_findCounting_52 : decode c_L_findCounting 52 = .ok (.iinc 3 1, 3) := by decide +kernel
theorem d_L_findCounting_55 : decode c_L_findCounting 55 = .ok (.goto (-44), 3) := by decide +kernel
theorem d_L_findCounting_58 : decode c_L_findCounting 58 = .ok (.iinc 2 1, 3) := by decide +kernel
theorem d_L_findCounting_61 : decode c_L_findCounting 61 = .ok (.goto (-57), 3) := by decide +kernel
theorem d_L_findCounting_64 : decode c_L_findCounting 64 = .ok (.return_, 1) := by decide +kernel
theorem d_L_has_0 : decode c_L_has 0 = .ok (.aload_n 0, 1) := by decide +kernel
theorem d_L_has_1 : decode c_L_has 1 = .ok (.getfield 11, 3) := by decide +kernel
theorem d_L_has_4 : decode c_L_has 4 = .ok (.iload_n 1, 1) := by decide +kernel
theorem d_L_has_5 : decode c_L_has 5 = .ok (.aaload, 1) := by decide +kernel
theorem d_L_has_6 : decode c_L_has 6 = .ok (.iload_n 2, 1) := by decide +kernel
theorem d_L_has_7 : decode c_L_has 7 = .ok (.iaload, 1) := by decide +kernel
theorem d_L_has_8 : decode c_L_has 8 = .ok (.ifCond .eq 26, 3) := by decide +kernel
theorem d_L_has_11 : decode c_L_has 11 = .ok (.aload_n 0, 1) := by decide +kernel
theorem d_L_has_12 : decode c_L_has 12 = .ok (.getfield 11, 3) := by decide +kernel
theorem d_L_has_15 : decode c_L_has 15 = .ok (.iload_n 1, 1) := by decide +kernel
theorem d_L_has_16 : decode c_L_has 16 = .ok (.aaload, 1) := by decide +kernel
theorem d_L_has_17 : decode c_L_has 17 = .ok (.iload_n 2, 1) := by decide +kernel
theorem d_L_has_18 : decode c_L_has 18 = .ok (.iaload, 1) := by decide +kernel
theorem d_L_has_19 : decode c_L_has 19 = .ok (.aload_n 0, 1) := by decide +kernel
theorem d_L_has_20 : decode c_L_has 20 = .ok (.getfield 16, 3) := by decide +kernel
theorem d_L_has_23 : decode c_L_has 23 = .ok (.iload_n 1, 1) := by decide +kernel
theorem d_L_has_24 : decode c_L_has 24 = .ok (.aaload, 1) := by decide +kernel
theorem d_L_has_25 : decode c_L_has 25 = .ok (.iload_n 2, 1) := by decide +kernel
theorem d_L_has_26 : decode c_L_has 26 = .ok (.iaload, 1) := by decide +kernel
theorem d_L_has_27 : decode c_L_has 27 = .ok (.if_icmp .ne 7, 3) := by decide +kernel
theorem d_L_has_30 : decode c_L_has 30 = .ok (.iconst 1, 1) := by decide +kernel
theorem d_L_has_31 : decode c_L_has 31 = .ok (.goto 4, 3) := by decide +kernel
theorem d_L_has_34 : decode c_L_has 34 = .ok (.iconst 0, 1) := by decide +kernel
theorem d_L_has_35 : decode c_L_has 35 = .ok (.ireturn, 1) := by decide +kernel
theorem d_L_put_0 : decode c_L_put 0 = .ok (.iload_n 3, 1) := by decide +kernel
theorem d_L_put_1 : decode c_L_put 1 = .ok (.iconst 1, 1) := by decide +kernel
theorem d_L_put_2 : decode c_L_put 2 = .ok (.if_icmp .eq 8, 3) := by decide +kernel
theorem d_L_put_5 : decode c_L_put 5 = .ok (.iload_n 3, 1) := by decide +kernel
theorem d_L_put_6 : decode c_L_put 6 = .ok (.iconst 2, 1) := by decide +kernel
theorem d_L_put_7 : decode c_L_put 7 = .ok (.if_icmp .ne 17, 3) := by decide +kernel
theorem d_L_put_10 : decode c_L_put 10 = .ok (.aload_n 0, 1) := by decide +kernel
theorem d_L_put_11 : decode c_L_put 11 = .ok (.getfield 11, 3) := by decide +kernel
theorem d_L_put_14 : decode c_L_put 14 = .ok (.iload_n 1, 1) := by decide +kernel
theorem d_L_put_15 : decode c_L_put 15 = .ok (.aaload, 1) := by decide +kernel
theorem d_L_put_16 : decode c_L_put 16 = .ok (.iload_n 2, 1) := by decide +kernel
theorem d_L_put_17 : decode c_L_put 17 = .ok (.aload_n 0, 1) := by decide +kernel
theorem d_L_put_18 : decode c_L_put 18 = .ok (.getfield 22, 3) := by decide +kernel
theorem d_L_put_21 : decode c_L_put 21 = .ok (.iload_n 1, 1) := by decide +kernel
theorem d_L_put_22 : decode c_L_put 22 = .ok (.iaload, 1) := by decide +kernel
theorem d_L_put_23 : decode c_L_put 23 = .ok (.iastore, 1) := by decide +kernel
theorem d_L_put_24 : decode c_L_put 24 = .ok (.iload_n 3, 1) := by decide +kernel
theorem d_L_put_25 : decode c_L_put 25 = .ok (.iconst 1, 1) := by decide +kernel
theorem d_L_put_26 : decode c_L_put 26 = .ok (.if_icmp .eq 8, 3) := by decide +kernel
theorem d_L_put_29 : decode c_L_put 29 = .ok (.iload_n 3, 1) := by decide +kernel
theorem d_L_put_30 : decode c_L_put 30 = .ok (.iconst 3, 1) := by decide +kernel
theorem d_L_put_31 : decode c_L_put 31 = .ok (.if_icmp .ne 17, 3) := by decide +kernel
theorem d_L_put_34 : decode c_L_put 34 = .ok (.aload_n 0, 1) := by decide +kernel
theorem d_L_put_35 : decode c_L_put 35 = .ok (.getfield 16, 3) := by decide +kernel
theorem d_L_put_38 : decode c_L_put 38 = .ok (.iload_n 1, 1) := by decide +kernel
theorem d_L_put_39 : decode c_L_put 39 = .ok (.aaload, 1) := by decide +kernel
theorem d_L_put_40 : decode c_L_put 40 = .ok (.iload_n 2, 1) := by decide +kernel
theorem d_L_put_41 : decode c_L_put 41 = .ok (.aload_n 0, 1) := by decide +kernel
theorem d_L_put_42 : decode c_L_put 42 = .ok (.getfield 22, 3) := by decide +kernel
theorem d_L_put_45 : decode c_L_put 45 = .ok (.iload_n 1, 1) := by decide +kernel
theorem d_L_put_46 : decode c_L_put 46 = .ok (.iaload, 1) := by decide +kernel
theorem d_L_put_47 : decode c_L_put 47 = .ok (.iastore, 1) := by decide +kernel
theorem d_L_put_48 : decode c_L_put 48 = .ok (.return_, 1) := by decide +kernel
theorem d_J_rangeCheck_0 : decode c_J_rangeCheck 0 = .ok (.iload_n 1, 1) := by decide +kernel
theorem d_J_rangeCheck_1 : decode c_J_rangeCheck 1 = .ok (.iload_n 2, 1) := by decide +kernel
theorem d_J_rangeCheck_2 : decode c_J_rangeCheck 2 = .ok (.if_icmp .le 44, 3) := by decide +kernel
theorem d_J_rangeCheck_5 : decode c_J_rangeCheck 5 = .ok (.new 43, 3) := by decide +kernel
theorem d_J_rangeCheck_8 : decode c_J_rangeCheck 8 = .ok (.dup, 1) := by decide +kernel
theorem d_J_rangeCheck_9 : decode c_J_rangeCheck 9 = .ok (.new 45, 3) := by decide +kernel
theorem d_J_rangeCheck_12 : decode c_J_rangeCheck 12 = .ok (.dup, 1) := by decide +kernel
theorem d_J_rangeCheck_13 : decode c_J_rangeCheck 13 = .ok (.invokespecial 47, 3) := by decide +kernel
theorem d_J_rangeCheck_16 : decode c_J_rangeCheck 16 = .ok (.ldc 48, 2) := by decide +kernel
theorem d_J_rangeCheck_18 : decode c_J_rangeCheck 18 = .ok (.invokevirtual 50, 3) := by decide +kernel
theorem d_J_rangeCheck_21 : decode c_J_rangeCheck 21 = .ok (.iload_n 1, 1) := by decide +kernel
theorem d_J_rangeCheck_22 : decode c_J_rangeCheck 22 = .ok (.invokevirtual 54, 3) := by decide +kernel
theorem d_J_rangeCheck_25 : decode c_J_rangeCheck 25 = .ok (.ldc 57, 2) := by decide +kernel
theorem d_J_rangeCheck_27 : decode c_J_rangeCheck 27 = .ok (.invokevirtual 50, 3) := by decide +kernel
theorem d_J_rangeCheck_30 : decode c_J_rangeCheck 30 = .ok (.iload_n 2, 1) := by decide +kernel
theorem d_J_rangeCheck_31 : decode c_J_rangeCheck 31 = .ok (.invokevirtual 54, 3) := by decide +kernel
theorem d_J_rangeCheck_34 : decode c_J_rangeCheck 34 = .ok (.ldc 59, 2) := by decide +kernel
theorem d_J_rangeCheck_36 : decode c_J_rangeCheck 36 = .ok (.invokevirtual 50, 3) := by decide +kernel
theorem d_J_rangeCheck_39 : decode c_J_rangeCheck 39 = .ok (.invokevirtual 61, 3) := by decide +kernel
theorem d_J_rangeCheck_42 : decode c_J_rangeCheck 42 = .ok (.invokespecial 65, 3) := by decide +kernel
theorem d_J_rangeCheck_45 : decode c_J_rangeCheck 45 = .ok (.athrow, 1) := by decide +kernel
theorem d_J_rangeCheck_46 : decode c_J_rangeCheck 46 = .ok (.iload_n 1, 1) := by decide +kernel
theorem d_J_rangeCheck_47 : decode c_J_rangeCheck 47 = .ok (.ifCond .ge 12, 3) := by decide +kernel
theorem d_J_rangeCheck_50 : decode c_J_rangeCheck 50 = .ok (.new 68, 3) := by decide +kernel
theorem d_J_rangeCheck_53 : decode c_J_rangeCheck 53 = .ok (.dup, 1) := by decide +kernel
theorem d_J_rangeCheck_54 : decode c_J_rangeCheck 54 = .ok (.iload_n 1, 1) := by decide +kernel
theorem d_J_rangeCheck_55 : decode c_J_rangeCheck 55 = .ok (.invokespecial 70, 3) := by decide +kernel
theorem d_J_rangeCheck_58 : decode c_J_rangeCheck 58 = .ok (.athrow, 1) := by decide +kernel
theorem d_J_rangeCheck_59 : decode c_J_rangeCheck 59 = .ok (.iload_n 2, 1) := by decide +kernel
theorem d_J_rangeCheck_60 : decode c_J_rangeCheck 60 = .ok (.iload_n 0, 1) := by decide +kernel
theorem d_J_rangeCheck_61 : decode c_J_rangeCheck 61 = .ok (.if_icmp .le 12, 3) := by decide +kernel
theorem d_J_rangeCheck_64 : decode c_J_rangeCheck 64 = .ok (.new 68, 3) := by decide +kernel
theorem d_J_rangeCheck_67 : decode c_J_rangeCheck 67 = .ok (.dup, 1) := by decide +kernel
theorem d_J_rangeCheck_68 : decode c_J_rangeCheck 68 = .ok (.iload_n 2, 1) := by decide +kernel
theorem d_J_rangeCheck_69 : decode c_J_rangeCheck 69 = .ok (.invokespecial 70, 3) := by decide +kernel
theorem d_J_rangeCheck_72 : decode c_J_rangeCheck 72 = .ok (.athrow, 1) := by decide +kernel
theorem d_J_rangeCheck_73 : decode c_J_rangeCheck 73 = .ok (.return_, 1) := by decide +kernel
theorem d_J_fillJ_0 : decode c_J_fillJ 0 = .ok (.iconst 0, 1) := by decide +kernel
theorem d_J_fillJ_1 : decode c_J_fillJ 1 = .ok (.istore_n 3, 1) := by decide +kernel
theorem d_J_fillJ_2 : decode c_J_fillJ 2 = .ok (.aload_n 0, 1) := by decide +kernel
theorem d_J_fillJ_3 : decode c_J_fillJ 3 = .ok (.arraylength, 1) := by decide +kernel
theorem d_J_fillJ_4 : decode c_J_fillJ 4 = .ok (.istore 4, 2) := by decide +kernel
theorem d_J_fillJ_6 : decode c_J_fillJ 6 = .ok (.iload_n 3, 1) := by decide +kernel
theorem d_J_fillJ_7 : decode c_J_fillJ 7 = .ok (.iload 4, 2) := by decide +kernel
theorem d_J_fillJ_9 : decode c_J_fillJ 9 = .ok (.if_icmp .ge 13, 3) := by decide +kernel
theorem d_J_fillJ_12 : decode c_J_fillJ 12 = .ok (.aload_n 0, 1) := by decide +kernel
theorem d_J_fillJ_13 : decode c_J_fillJ 13 = .ok (.iload_n 3, 1) := by decide +kernel
theorem d_J_fillJ_14 : decode c_J_fillJ 14 = .ok (.lload_n 1, 1) := by decide +kernel
theorem d_J_fillJ_15 : decode c_J_fillJ 15 = .ok (.lastore, 1) := by decide +kernel
theorem d_J_fillJ_16 : decode c_J_fillJ 16 = .ok (.iinc 3 1, 3) := by decide +kernel
theorem d_J_fillJ_19 : decode c_J_fillJ 19 = .ok (.goto (-13), 3) := by decide +kernel
theorem d_J_fillJ_22 : decode c_J_fillJ 22 = .ok (.return_, 1) := by decide +kernel
theorem d_J_fillI_0 : decode c_J_fillI 0 = .ok (.iconst 0, 1) := by decide +kernel
theorem d_J_fillI_1 : decode c_J_fillI 1 = .ok (.istore_n 2, 1) := by decide +kernel
theorem d_J_fillI_2 : decode c_J_fillI 2 = .ok (.aload_n 0, 1) := by decide +kernel
theorem d_J_fillI_3 : decode c_J_fillI 3 = .ok (.arraylength, 1) := by decide +kernel
theorem d_J_fillI_4 : decode c_J_fillI 4 = .ok (.istore_n 3, 1) := by decide +kernel
theorem d_J_fillI_5 : decode c_J_fillI 5 = .ok (.iload_n 2, 1) := by decide +kernel
theorem d_J_fillI_6 : decode c_J_fillI 6 = .ok (.iload_n 3, 1) := by decide +kernel
theorem d_J_fillI_7 : decode c_J_fillI 7 = .ok (.if_icmp .ge 13, 3) := by decide +kernel
theorem d_J_fillI_10 : decode c_J_fillI 10 = .ok (.aload_n 0, 1) := by decide +kernel
theorem d_J_fillI_11 : decode c_J_fillI 11 = .ok (.iload_n 2, 1) := by decide +kernel
theorem d_J_fillI_12 : decode c_J_fillI 12 = .ok (.iload_n 1, 1) := by decide +kernel
theorem d_J_fillI_13 : decode c_J_fillI 13 = .ok (.iastore, 1) := by decide +kernel
theorem d_J_fillI_14 : decode c_J_fillI 14 = .ok (.iinc 2 1, 3) := by decide +kernel
theorem d_J_fillI_17 : decode c_J_fillI 17 = .ok (.goto (-12), 3) := by decide +kernel
theorem d_J_fillI_20 : decode c_J_fillI 20 = .ok (.return_, 1) := by decide +kernel
theorem d_J_fillB_0 : decode c_J_fillB 0 = .ok (.iconst 0, 1) := by decide +kernel
theorem d_J_fillB_1 : decode c_J_fillB 1 = .ok (.istore_n 2, 1) := by decide +kernel
theorem d_J_fillB_2 : decode c_J_fillB 2 = .ok (.aload_n 0, 1) := by decide +kernel
theorem d_J_fillB_3 : decode c_J_fillB 3 = .ok (.arraylength, 1) := by decide +kernel
theorem d_J_fillB_4 : decode c_J_fillB 4 = .ok (.istore_n 3, 1) := by decide +kernel
theorem d_J_fillB_5 : decode c_J_fillB 5 = .ok (.iload_n 2, 1) := by decide +kernel
theorem d_J_fillB_6 : decode c_J_fillB 6 = .ok (.iload_n 3, 1) := by decide +kernel
theorem d_J_fillB_7 : decode c_J_fillB 7 = .ok (.if_icmp .ge 13, 3) := by decide +kernel
theorem d_J_fillB_10 : decode c_J_fillB 10 = .ok (.aload_n 0, 1) := by decide +kernel
theorem d_J_fillB_11 : decode c_J_fillB 11 = .ok (.iload_n 2, 1) := by decide +kernel
theorem d_J_fillB_12 : decode c_J_fillB 12 = .ok (.iload_n 1, 1) := by decide +kernel
theorem d_J_fillB_13 : decode c_J_fillB 13 = .ok (.bastore, 1) := by decide +kernel
theorem d_J_fillB_14 : decode c_J_fillB 14 = .ok (.iinc 2 1, 3) := by decide +kernel
theorem d_J_fillB_17 : decode c_J_fillB 17 = .ok (.goto (-12), 3) := by decide +kernel
theorem d_J_fillB_20 : decode c_J_fillB 20 = .ok (.return_, 1) := by decide +kernel
theorem d_J_fillR_0 : decode c_J_fillR 0 = .ok (.aload_n 0, 1) := by decide +kernel
theorem d_J_fillR_1 : decode c_J_fillR 1 = .ok (.arraylength, 1) := by decide +kernel
theorem d_J_fillR_2 : decode c_J_fillR 2 = .ok (.iload_n 1, 1) := by decide +kernel
theorem d_J_fillR_3 : decode c_J_fillR 3 = .ok (.iload_n 2, 1) := by decide +kernel
theorem d_J_fillR_4 : decode c_J_fillR 4 = .ok (.invokestatic 13, 3) := by decide +kernel
theorem d_J_fillR_7 : decode c_J_fillR 7 = .ok (.iload_n 1, 1) := by decide +kernel
theorem d_J_fillR_8 : decode c_J_fillR 8 = .ok (.istore 4, 2) := by decide +kernel
theorem d_J_fillR_10 : decode c_J_fillR 10 = .ok (.iload 4, 2) := by decide +kernel
theorem d_J_fillR_12 : decode c_J_fillR 12 = .ok (.iload_n 2, 1) := by decide +kernel
theorem d_J_fillR_13 : decode c_J_fillR 13 = .ok (.if_icmp .ge 14, 3) := by decide +kernel
theorem d_J_fillR_16 : decode c_J_fillR 16 = .ok (.aload_n 0, 1) := by decide +kernel
theorem d_J_fillR_17 : decode c_J_fillR 17 = .ok (.iload 4, 2) := by decide +kernel
theorem d_J_fillR_19 : decode c_J_fillR 19 = .ok (.iload_n 3, 1) := by decide +kernel
theorem d_J_fillR_20 : decode c_J_fillR 20 = .ok (.bastore, 1) := by decide +kernel
theorem d_J_fillR_21 : decode c_J_fillR 21 = .ok (.iinc 4 1, 3) := by decide +kernel
theorem d_J_fillR_24 : decode c_J_fillR 24 = .ok (.goto (-14), 3) := by decide +kernel
theorem d_J_fillR_27 : decode c_J_fillR 27 = .ok (.return_, 1) := by decide +kernel
