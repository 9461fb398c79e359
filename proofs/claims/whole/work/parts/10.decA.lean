theorem dX0_init_0 : decode cX0_init 0 = .ok (.aload_n 0, 1) := by decide +kernel
theorem dX0_init_1 : decode cX0_init 1 = .ok (.invokespecial 3, 3) := by decide +kernel
theorem dX0_init_4 : decode cX0_init 4 = .ok (.aload_n 0, 1) := by decide +kernel
theorem dX0_init_5 : decode cX0_init 5 = .ok (.iconst 0, 1) := by decide +kernel
theorem dX0_init_6 : decode cX0_init 6 = .ok (.putfield 9, 3) := by decide +kernel
theorem dX0_init_9 : decode cX0_init 9 = .ok (.aload_n 0, 1) := by decide +kernel
theorem dX0_init_10 : decode cX0_init 10 = .ok (.iconst (-1), 1) := by decide +kernel
theorem dX0_init_11 : decode cX0_init 11 = .ok (.putfield 15, 3) := by decide +kernel
theorem dX0_init_14 : decode cX0_init 14 = .ok (.aload_n 0, 1) := by decide +kernel
theorem dX0_init_15 : decode cX0_init 15 = .ok (.iconst 0, 1) := by decide +kernel
theorem dX0_init_16 : decode cX0_init 16 = .ok (.putfield 19, 3) := by decide +kernel
theorem dX0_init_19 : decode cX0_init 19 = .ok (.aload_n 0, 1) := by decide +kernel
theorem dX0_init_20 : decode cX0_init 20 = .ok (.iconst 0, 1) := by decide +kernel
theorem dX0_init_21 : decode cX0_init 21 = .ok (.putfield 22, 3) := by decide +kernel
theorem dX0_init_24 : decode cX0_init 24 = .ok (.aload_n 0, 1) := by decide +kernel
theorem dX0_init_25 : decode cX0_init 25 = .ok (.iconst 0, 1) := by decide +kernel
theorem dX0_init_26 : decode cX0_init 26 = .ok (.putfield 25, 3) := by decide +kernel
theorem dX0_init_29 : decode cX0_init 29 = .ok (.aload_n 0, 1) := by decide +kernel
theorem dX0_init_30 : decode cX0_init 30 = .ok (.iconst 0, 1) := by decide +kernel
theorem dX0_init_31 : decode cX0_init 31 = .ok (.putfield 28, 3) := by decide +kernel
theorem dX0_init_34 : decode cX0_init 34 = .ok (.return_, 1) := by decide +kernel
theorem dX0_isDown_0 : decode cX0_isDown 0 = .ok (.aload_n 0, 1) := by decide +kernel
theorem dX0_isDown_1 : decode cX0_isDown 1 = .ok (.getfield 9, 3) := by decide +kernel
theorem dX0_isDown_4 : decode cX0_isDown 4 = .ok (.ireturn, 1) := by decide +kernel
theorem dX0_setLoss_0 : decode cX0_setLoss 0 = .ok (.aload_n 0, 1) := by decide +kernel
theorem dX0_setLoss_1 : decode cX0_setLoss 1 = .ok (.iload_n 1, 1) := by decide +kernel
theorem dX0_setLoss_2 : decode cX0_setLoss 2 = .ok (.putfield 15, 3) := by decide +kernel
theorem dX0_setLoss_5 : decode cX0_setLoss 5 = .ok (.return_, 1) := by decide +kernel
theorem dX0_powerUp_0 : decode cX0_powerUp 0 = .ok (.aload_n 0, 1) := by decide +kernel
theorem dX0_powerUp_1 : decode cX0_powerUp 1 = .ok (.iconst 0, 1) := by decide +kernel
theorem dX0_powerUp_2 : decode cX0_powerUp 2 = .ok (.putfield 9, 3) := by decide +kernel
theorem dX0_powerUp_5 : decode cX0_powerUp 5 = .ok (.aload_n 0, 1) := by decide +kernel
theorem dX0_powerUp_6 : decode cX0_powerUp 6 = .ok (.iconst (-1), 1) := by decide +kernel
theorem dX0_powerUp_7 : decode cX0_powerUp 7 = .ok (.putfield 15, 3) := by decide +kernel
theorem dX0_powerUp_10 : decode cX0_powerUp 10 = .ok (.return_, 1) := by decide +kernel
theorem dX0_put_0 : decode cX0_put 0 = .ok (.iconst 0, 1) := by decide +kernel
theorem dX0_put_1 : decode cX0_put 1 = .ok (.istore_n 2, 1) := by decide +kernel
theorem dX0_put_2 : decode cX0_put 2 = .ok (.iload_n 2, 1) := by decide +kernel
theorem dX0_put_3 : decode cX0_put 3 = .ok (.iload_n 1, 1) := by decide +kernel
theorem dX0_put_4 : decode cX0_put 4 = .ok (.if_icmp .ge 50, 3) := by decide +kernel
theorem dX0_put_7 : decode cX0_put 7 = .ok (.aload_n 0, 1) := by decide +kernel
theorem dX0_put_8 : decode cX0_put 8 = .ok (.dup, 1) := by decide +kernel
theorem dX0_put_9 : decode cX0_put 9 = .ok (.getfield 19, 3) := by decide +kernel
theorem dX0_put_12 : decode cX0_put 12 = .ok (.iconst 1, 1) := by decide +kernel
theorem dX0_put_13 : decode cX0_put 13 = .ok (.iadd, 1) := by decide +kernel
theorem dX0_put_14 : decode cX0_put 14 = .ok (.putfield 19, 3) := by decide +kernel
theorem dX0_put_17 : decode cX0_put 17 = .ok (.aload_n 0, 1) := by decide +kernel
theorem dX0_put_18 : decode cX0_put 18 = .ok (.getfield 15, 3) := by decide +kernel
theorem dX0_put_21 : decode cX0_put 21 = .ok (.ifCond .ne 10, 3) := by decide +kernel
theorem dX0_put_24 : decode cX0_put 24 = .ok (.aload_n 0, 1) := by decide +kernel
theorem dX0_put_25 : decode cX0_put 25 = .ok (.iconst 1, 1) := by decide +kernel
theorem dX0_put_26 : decode cX0_put 26 = .ok (.putfield 9, 3) := by decide +kernel
theorem dX0_put_29 : decode cX0_put 29 = .ok (.iconst 0, 1) := by decide +kernel
theorem dX0_put_30 : decode cX0_put 30 = .ok (.ireturn, 1) := by decide +kernel
theorem dX0_put_31 : decode cX0_put 31 = .ok (.aload_n 0, 1) := by decide +kernel
theorem dX0_put_32 : decode cX0_put 32 = .ok (.getfield 15, 3) := by decide +kernel
theorem dX0_put_35 : decode cX0_put 35 = .ok (.ifCond .le 13, 3) := by decide +kernel
theorem dX0_put_38 : decode cX0_put 38 = .ok (.aload_n 0, 1) := by decide +kernel
theorem dX0_put_39 : decode cX0_put 39 = .ok (.dup, 1) := by decide +kernel
theorem dX0_put_40 : decode cX0_put 40 = .ok (.getfield 15, 3) := by decide +kernel
theorem dX0_put_43 : decode cX0_put 43 = .ok (.iconst 1, 1) := by decide +kernel
theorem dX0_put_44 : decode cX0_put 44 = .ok (.isub, 1) := by decide +kernel
theorem dX0_put_45 : decode cX0_put 45 = .ok (.putfield 15, 3) := by decide +kernel
theorem dX0_put_48 : decode cX0_put 48 = .ok (.iinc 2 1, 3) := by decide +kernel
theorem dX0_put_51 : decode cX0_put 51 = .ok (.goto (-49), 3) := by decide +kernel
theorem dX0_put_54 : decode cX0_put 54 = .ok (.iconst 1, 1) := by decide +kernel
theorem dX0_put_55 : decode cX0_put 55 = .ok (.ireturn, 1) := by decide +kernel
theorem dX0_noteWrite_0 : decode cX0_noteWrite 0 = .ok (.aload_n 0, 1) := by decide +kernel
theorem dX0_noteWrite_1 : decode cX0_noteWrite 1 = .ok (.dup, 1) := by decide +kernel
theorem dX0_noteWrite_2 : decode cX0_noteWrite 2 = .ok (.getfield 28, 3) := by decide +kernel
theorem dX0_noteWrite_5 : decode cX0_noteWrite 5 = .ok (.iconst 1, 1) := by decide +kernel
theorem dX0_noteWrite_6 : decode cX0_noteWrite 6 = .ok (.iadd, 1) := by decide +kernel
theorem dX0_noteWrite_7 : decode cX0_noteWrite 7 = .ok (.putfield 28, 3) := by decide +kernel
theorem dX0_noteWrite_10 : decode cX0_noteWrite 10 = .ok (.return_, 1) := by decide +kernel
theorem dX0_noteCheckpoint_0 : decode cX0_noteCheckpoint 0 = .ok (.aload_n 0, 1) := by decide +kernel
theorem dX0_noteCheckpoint_1 : decode cX0_noteCheckpoint 1 = .ok (.dup, 1) := by decide +kernel
theorem dX0_noteCheckpoint_2 : decode cX0_noteCheckpoint 2 = .ok (.getfield 22, 3) := by decide +kernel
theorem dX0_noteCheckpoint_5 : decode cX0_noteCheckpoint 5 = .ok (.iload_n 1, 1) := by decide +kernel
theorem dX0_noteCheckpoint_6 : decode cX0_noteCheckpoint 6 = .ok (.iadd, 1) := by decide +kernel
theorem dX0_noteCheckpoint_7 : decode cX0_noteCheckpoint 7 = .ok (.putfield 22, 3) := by decide +kernel
theorem dX0_noteCheckpoint_10 : decode cX0_noteCheckpoint 10 = .ok (.aload_n 0, 1) := by decide +kernel
theorem dX0_noteCheckpoint_11 : decode cX0_noteCheckpoint 11 = .ok (.dup, 1) := by decide +kernel
theorem dX0_noteCheckpoint_12 : decode cX0_noteCheckpoint 12 = .ok (.getfield 25, 3) := by decide +kernel
theorem dX0_noteCheckpoint_15 : decode cX0_noteCheckpoint 15 = .ok (.iconst 1, 1) := by decide +kernel
theorem dX0_noteCheckpoint_16 : decode cX0_noteCheckpoint 16 = .ok (.iadd, 1) := by decide +kernel
theorem dX0_noteCheckpoint_17 : decode cX0_noteCheckpoint 17 = .ok (.putfield 25, 3) := by decide +kernel
theorem dX0_noteCheckpoint_20 : decode cX0_noteCheckpoint 20 = .ok (.aload_n 0, 1) := by decide +kernel
theorem dX0_noteCheckpoint_21 : decode cX0_noteCheckpoint 21 = .ok (.iconst 0, 1) := by decide +kernel
theorem dX0_noteCheckpoint_22 : decode cX0_noteCheckpoint 22 = .ok (.putfield 28, 3) := by decide +kernel
theorem dX0_noteCheckpoint_25 : decode cX0_noteCheckpoint 25 = .ok (.return_, 1) := by decide +kernel
theorem dX0_writesSinceCheckpoint_0 : decode cX0_writesSinceCheckpoint 0 = .ok (.aload_n 0, 1) := by decide +kernel
theorem dX0_writesSinceCheckpoint_1 : decode cX0_writesSinceCheckpoint 1 = .ok (.getfield 28, 3) := by decide +kernel
theorem dX0_writesSinceCheckpoint_4 : decode cX0_writesSinceCheckpoint 4 = .ok (.ireturn, 1) := by decide +kernel
theorem dX0_countOf_0 : decode cX0_countOf 0 = .ok (.iload_n 1, 1) := by decide +kernel
theorem dX0_countOf_1 : decode cX0_countOf 1 = .ok (.tableswitch 42 0 2 #[27, 32, 37], 27) := by decide +kernel
theorem dX0_countOf_28 : decode cX0_countOf 28 = .ok (.aload_n 0, 1) := by decide +kernel
theorem dX0_countOf_29 : decode cX0_countOf 29 = .ok (.getfield 19, 3) := by decide +kernel
theorem dX0_countOf_32 : decode cX0_countOf 32 = .ok (.ireturn, 1) := by decide +kernel
theorem dX0_countOf_33 : decode cX0_countOf 33 = .ok (.aload_n 0, 1) := by decide +kernel
theorem dX0_countOf_34 : decode cX0_countOf 34 = .ok (.getfield 22, 3) := by decide +kernel
theorem dX0_countOf_37 : decode cX0_countOf 37 = .ok (.ireturn, 1) := by decide +kernel
theorem dX0_countOf_38 : decode cX0_countOf 38 = .ok (.aload_n 0, 1) := by decide +kernel
theorem dX0_countOf_39 : decode cX0_countOf 39 = .ok (.getfield 25, 3) := by decide +kernel
theorem dX0_countOf_42 : decode cX0_countOf 42 = .ok (.ireturn, 1) := by decide +kernel
theorem dX0_countOf_43 : decode cX0_countOf 43 = .ok (.aload_n 0, 1) := by decide +kernel
theorem dX0_countOf_44 : decode cX0_countOf 44 = .ok (.getfield 28, 3) := by decide +kernel
theorem dX0_countOf_47 : decode cX0_countOf 47 = .ok (.ireturn, 1) := by decide +kernel
theorem dX1_init_0 : decode cX1_init 0 = .ok (.aload_n 0, 1) := by decide +kernel
theorem dX1_init_1 : decode cX1_init 1 = .ok (.invokespecial 3, 3) := by decide +kernel
theorem dX1_init_4 : decode cX1_init 4 = .ok (.aload_n 0, 1) := by decide +kernel
theorem dX1_init_5 : decode cX1_init 5 = .ok (.iconst 1, 1) := by decide +kernel
theorem dX1_init_6 : decode cX1_init 6 = .ok (.putfield 9, 3) := by decide +kernel
theorem dX1_init_9 : decode cX1_init 9 = .ok (.aload_n 0, 1) := by decide +kernel
theorem dX1_init_10 : decode cX1_init 10 = .ok (.iconst 0, 1) := by decide +kernel
theorem dX1_init_11 : decode cX1_init 11 = .ok (.putfield 15, 3) := by decide +kernel
theorem dX1_init_14 : decode cX1_init 14 = .ok (.aload_n 0, 1) := by decide +kernel
theorem dX1_init_15 : decode cX1_init 15 = .ok (.iconst 0, 1) := by decide +kernel
theorem dX1_init_16 : decode cX1_init 16 = .ok (.putfield 19, 3) := by decide +kernel
theorem dX1_init_19 : decode cX1_init 19 = .ok (.aload_n 0, 1) := by decide +kernel
theorem dX1_init_20 : decode cX1_init 20 = .ok (.iconst 0, 1) := by decide +kernel
theorem dX1_init_21 : decode cX1_init 21 = .ok (.putfield 22, 3) := by decide +kernel
theorem dX1_init_24 : decode cX1_init 24 = .ok (.return_, 1) := by decide +kernel
theorem dX1_begin_0 : decode cX1_begin 0 = .ok (.aload_n 0, 1) := by decide +kernel
theorem dX1_begin_1 : decode cX1_begin 1 = .ok (.iconst 1, 1) := by decide +kernel
theorem dX1_begin_2 : decode cX1_begin 2 = .ok (.putfield 9, 3) := by decide +kernel
theorem dX1_begin_5 : decode cX1_begin 5 = .ok (.aload_n 0, 1) := by decide +kernel
theorem dX1_begin_6 : decode cX1_begin 6 = .ok (.iconst 0, 1) := by decide +kernel
theorem dX1_begin_7 : decode cX1_begin 7 = .ok (.putfield 15, 3) := by decide +kernel
theorem dX1_begin_10 : decode cX1_begin 10 = .ok (.aload_n 0, 1) := by decide +kernel
theorem dX1_begin_11 : decode cX1_begin 11 = .ok (.iload_n 1, 1) := by decide +kernel
theorem dX1_begin_12 : decode cX1_begin 12 = .ok (.putfield 19, 3) := by decide +kernel
theorem dX1_begin_15 : decode cX1_begin 15 = .ok (.aload_n 0, 1) := by decide +kernel
theorem dX1_begin_16 : decode cX1_begin 16 = .ok (.iconst 0, 1) := by decide +kernel
theorem dX1_begin_17 : decode cX1_begin 17 = .ok (.putfield 22, 3) := by decide +kernel
theorem dX1_begin_20 : decode cX1_begin 20 = .ok (.return_, 1) := by decide +kernel
theorem dX1_makeNode_0 : decode cX1_makeNode 0 = .ok (.aload_n 1, 1) := by decide +kernel
theorem dX1_makeNode_1 : decode cX1_makeNode 1 = .ok (.aload_n 0, 1) := by decide +kernel
theorem dX1_makeNode_2 : decode cX1_makeNode 2 = .ok (.getfield 9, 3) := by decide +kernel
theorem dX1_makeNode_5 : decode cX1_makeNode 5 = .ok (.ifCond .ne 7, 3) := by decide +kernel
theorem dX1_makeNode_8 : decode cX1_makeNode 8 = .ok (.iconst 1, 1) := by decide +kernel
theorem dX1_makeNode_9 : decode cX1_makeNode 9 = .ok (.goto 4, 3) := by decide +kernel
theorem dX1_makeNode_12 : decode cX1_makeNode 12 = .ok (.iconst 0, 1) := by decide +kernel
theorem dX1_makeNode_13 : decode cX1_makeNode 13 = .ok (.invokevirtual 25, 3) := by decide +kernel
theorem dX1_makeNode_16 : decode cX1_makeNode 16 = .ok (.istore_n 3, 1) := by decide +kernel
theorem dX1_makeNode_17 : decode cX1_makeNode 17 = .ok (.iload_n 3, 1) := by decide +kernel
theorem dX1_makeNode_18 : decode cX1_makeNode 18 = .ok (.iconst (-1), 1) := by decide +kernel
theorem dX1_makeNode_19 : decode cX1_makeNode 19 = .ok (.if_icmp .ne 5, 3) := by decide +kernel
theorem dX1_makeNode_22 : decode cX1_makeNode 22 = .ok (.iconst 0, 1) := by decide +kernel
theorem dX1_makeNode_23 : decode cX1_makeNode 23 = .ok (.ireturn, 1) := by decide +kernel
theorem dX1_makeNode_24 : decode cX1_makeNode 24 = .ok (.iconst 0, 1) := by decide +kernel
theorem dX1_makeNode_25 : decode cX1_makeNode 25 = .ok (.istore 4, 2) := by decide +kernel
theorem dX1_makeNode_27 : decode cX1_makeNode 27 = .ok (.iload 4, 2) := by decide +kernel
theorem dX1_makeNode_29 : decode cX1_makeNode 29 = .ok (.bipush 6, 2) := by decide +kernel
theorem dX1_makeNode_31 : decode cX1_makeNode 31 = .ok (.if_icmp .ge 58, 3) := by decide +kernel
theorem dX1_makeNode_34 : decode cX1_makeNode 34 = .ok (.aload_n 0, 1) := by decide +kernel
theorem dX1_makeNode_35 : decode cX1_makeNode 35 = .ok (.getfield 15, 3) := by decide +kernel
theorem dX1_makeNode_38 : decode cX1_makeNode 38 = .ok (.aload_n 0, 1) := by decide +kernel
theorem dX1_makeNode_39 : decode cX1_makeNode 39 = .ok (.getfield 19, 3) := by decide +kernel
theorem dX1_makeNode_42 : decode cX1_makeNode 42 = .ok (.if_icmp .ge 47, 3) := by decide +kernel
theorem dX1_makeNode_45 : decode cX1_makeNode 45 = .ok (.aload_n 1, 1) := by decide +kernel
theorem dX1_makeNode_46 : decode cX1_makeNode 46 = .ok (.iload_n 3, 1) := by decide +kernel
theorem dX1_makeNode_47 : decode cX1_makeNode 47 = .ok (.aload_n 0, 1) := by decide +kernel
theorem dX1_makeNode_48 : decode cX1_makeNode 48 = .ok (.getfield 9, 3) := by decide +kernel
theorem dX1_makeNode_51 : decode cX1_makeNode 51 = .ok (.ifCond .eq 14, 3) := by decide +kernel
theorem dX1_makeNode_54 : decode cX1_makeNode 54 = .ok (.aload_n 2, 1) := by decide +kernel
theorem dX1_makeNode_55 : decode cX1_makeNode 55 = .ok (.aload_n 0, 1) := by decide +kernel
theorem dX1_makeNode_56 : decode cX1_makeNode 56 = .ok (.getfield 15, 3) := by decide +kernel
theorem dX1_makeNode_59 : decode cX1_makeNode 59 = .ok (.invokevirtual 31, 3) := by decide +kernel
theorem dX1_makeNode_62 : decode cX1_makeNode 62 = .ok (.goto 8, 3) := by decide +kernel
theorem dX1_makeNode_65 : decode cX1_makeNode 65 = .ok (.aload_n 0, 1) := by decide +kernel
theorem dX1_makeNode_66 : decode cX1_makeNode 66 = .ok (.getfield 15, 3) := by decide +kernel
theorem dX1_makeNode_69 : decode cX1_makeNode 69 = .ok (.i2l, 1) := by decide +kernel
theorem dX1_makeNode_70 : decode cX1_makeNode 70 = .ok (.invokevirtual 37, 3) := by decide +kernel
theorem dX1_makeNode_73 : decode cX1_makeNode 73 = .ok (.aload_n 0, 1) := by decide +kernel
theorem dX1_makeNode_74 : decode cX1_makeNode 74 = .ok (.dup, 1) := by decide +kernel
theorem dX1_makeNode_75 : decode cX1_makeNode 75 = .ok (.getfield 15, 3) := by decide +kernel
theorem dX1_makeNode_78 : decode cX1_makeNode 78 = .ok (.iconst 1, 1) := by decide +kernel
theorem dX1_makeNode_79 : decode cX1_makeNode 79 = .ok (.iadd, 1) := by decide +kernel
theorem dX1_makeNode_80 : decode cX1_makeNode 80 = .ok (.putfield 15, 3) := by decide +kernel
theorem dX1_makeNode_83 : decode cX1_makeNode 83 = .ok (.iinc 4 1, 3) := by decide +kernel
theorem dX1_makeNode_86 : decode cX1_makeNode 86 = .ok (.goto (-59), 3) := by decide +kernel
theorem dX1_makeNode_89 : decode cX1_makeNode 89 = .ok (.aload_n 0, 1) := by decide +kernel
theorem dX1_makeNode_90 : decode cX1_makeNode 90 = .ok (.getfield 15, 3) := by decide +kernel
theorem dX1_makeNode_93 : decode cX1_makeNode 93 = .ok (.aload_n 0, 1) := by decide +kernel
theorem dX1_makeNode_94 : decode cX1_makeNode 94 = .ok (.getfield 19, 3) := by decide +kernel
theorem dX1_makeNode_97 : decode cX1_makeNode 97 = .ok (.if_icmp .ge 5, 3) := by decide +kernel
theorem dX1_makeNode_100 : decode cX1_makeNode 100 = .ok (.iconst 0, 1) := by decide +kernel
theorem dX1_makeNode_101 : decode cX1_makeNode 101 = .ok (.ireturn, 1) := by decide +kernel
theorem dX1_makeNode_102 : decode cX1_makeNode 102 = .ok (.iload_n 3, 1) := by decide +kernel
theorem dX1_makeNode_103 : decode cX1_makeNode 103 = .ok (.aload_n 0, 1) := by decide +kernel
theorem dX1_makeNode_104 : decode cX1_makeNode 104 = .ok (.getfield 22, 3) := by decide +kernel
theorem dX1_makeNode_107 : decode cX1_makeNode 107 = .ok (.if_icmp .ne 14, 3) := by decide +kernel
theorem dX1_makeNode_110 : decode cX1_makeNode 110 = .ok (.aload_n 1, 1) := by decide +kernel
theorem dX1_makeNode_111 : decode cX1_makeNode 111 = .ok (.iload_n 3, 1) := by decide +kernel
theorem dX1_makeNode_112 : decode cX1_makeNode 112 = .ok (.aload_n 2, 1) := by decide +kernel
theorem dX1_makeNode_113 : decode cX1_makeNode 113 = .ok (.invokevirtual 41, 3) := by decide +kernel
theorem dX1_makeNode_116 : decode cX1_makeNode 116 = .ok (.invokevirtual 45, 3) := by decide +kernel
theorem dX1_makeNode_119 : decode cX1_makeNode 119 = .ok (.iconst 1, 1) := by decide +kernel
theorem dX1_makeNode_120 : decode cX1_makeNode 120 = .ok (.ireturn, 1) := by decide +kernel
theorem dX1_makeNode_121 : decode cX1_makeNode 121 = .ok (.aload_n 0, 1) := by decide +kernel
theorem dX1_makeNode_122 : decode cX1_makeNode 122 = .ok (.iconst 0, 1) := by decide +kernel
theorem dX1_makeNode_123 : decode cX1_makeNode 123 = .ok (.putfield 9, 3) := by decide +kernel
theorem dX1_makeNode_126 : decode cX1_makeNode 126 = .ok (.aload_n 0, 1) := by decide +kernel
theorem dX1_makeNode_127 : decode cX1_makeNode 127 = .ok (.aload_n 0, 1) := by decide +kernel
theorem dX1_makeNode_128 : decode cX1_makeNode 128 = .ok (.getfield 22, 3) := by decide +kernel
theorem dX1_makeNode_131 : decode cX1_makeNode 131 = .ok (.putfield 15, 3) := by decide +kernel
theorem dX1_makeNode_134 : decode cX1_makeNode 134 = .ok (.aload_n 0, 1) := by decide +kernel
theorem dX1_makeNode_135 : decode cX1_makeNode 135 = .ok (.iload_n 3, 1) := by decide +kernel
theorem dX1_makeNode_136 : decode cX1_makeNode 136 = .ok (.iconst 1, 1) := by decide +kernel
theorem dX1_makeNode_137 : decode cX1_makeNode 137 = .ok (.iadd, 1) := by decide +kernel
theorem dX1_makeNode_138 : decode cX1_makeNode 138 = .ok (.putfield 19, 3) := by decide +kernel
theorem dX1_makeNode_141 : decode cX1_makeNode 141 = .ok (.aload_n 0, 1) := by decide +kernel
theorem dX1_makeNode_142 : decode cX1_makeNode 142 = .ok (.aload_n 0, 1) := by decide +kernel
theorem dX1_makeNode_143 : decode cX1_makeNode 143 = .ok (.getfield 19, 3) := by decide +kernel
theorem dX1_makeNode_146 : decode cX1_makeNode 146 = .ok (.putfield 22, 3) := by decide +kernel
theorem dX1_makeNode_149 : decode cX1_makeNode 149 = .ok (.iconst 0, 1) := by decide +kernel
theorem dX1_makeNode_150 : decode cX1_makeNode 150 = .ok (.ireturn, 1) := by decide +kernel
theorem dX2_init_0 : decode cX2_init 0 = .ok (.aload_n 0, 1) := by decide +kernel
theorem dX2_init_1 : decode cX2_init 1 = .ok (.invokespecial 3, 3) := by decide +kernel
theorem dX2_init_4 : decode cX2_init 4 = .ok (.aload_n 0, 1) := by decide +kernel
theorem dX2_init_5 : decode cX2_init 5 = .ok (.bipush 40, 2) := by decide +kernel
theorem dX2_init_7 : decode cX2_init 7 = .ok (.newarray .long, 2) := by decide +kernel
theorem dX2_init_9 : decode cX2_init 9 = .ok (.putfield 9, 3) := by decide +kernel
theorem dX2_init_12 : decode cX2_init 12 = .ok (.aload_n 0, 1) := by decide +kernel
theorem dX2_init_13 : decode cX2_init 13 = .ok (.bipush 40, 2) := by decide +kernel
theorem dX2_init_15 : decode cX2_init 15 = .ok (.newarray .boolean, 2) := by decide +kernel
theorem dX2_init_17 : decode cX2_init 17 = .ok (.putfield 15, 3) := by decide +kernel
theorem dX2_init_20 : decode cX2_init 20 = .ok (.aload_n 0, 1) := by decide +kernel
theorem dX2_init_21 : decode cX2_init 21 = .ok (.iconst 0, 1) := by decide +kernel
theorem dX2_init_22 : decode cX2_init 22 = .ok (.putfield 19, 3) := by decide +kernel
theorem dX2_init_25 : decode cX2_init 25 = .ok (.aload_n 0, 1) := by decide +kernel
theorem dX2_init_26 : decode cX2_init 26 = .ok (.iconst 0, 1) := by decide +kernel
theorem dX2_init_27 : decode cX2_init 27 = .ok (.putfield 23, 3) := by decide +kernel
theorem dX2_init_30 : decode cX2_init 30 = .ok (.return_, 1) := by decide +kernel
theorem dX2_clear_0 : decode cX2_clear 0 = .ok (.aload_n 0, 1) := by decide +kernel
theorem dX2_clear_1 : decode cX2_clear 1 = .ok (.iconst 0, 1) := by decide +kernel
theorem dX2_clear_2 : decode cX2_clear 2 = .ok (.putfield 19, 3) := by decide +kernel
theorem dX2_clear_5 : decode cX2_clear 5 = .ok (.aload_n 0, 1) := by decide +kernel
theorem dX2_clear_6 : decode cX2_clear 6 = .ok (.iconst 0, 1) := by decide +kernel
theorem dX2_clear_7 : decode cX2_clear 7 = .ok (.putfield 23, 3) := by decide +kernel
theorem dX2_clear_10 : decode cX2_clear 10 = .ok (.return_, 1) := by decide +kernel
theorem dX2_count_0 : decode cX2_count 0 = .ok (.aload_n 0, 1) := by decide +kernel
theorem dX2_count_1 : decode cX2_count 1 = .ok (.getfield 23, 3) := by decide +kernel
theorem dX2_count_4 : decode cX2_count 4 = .ok (.ireturn, 1) := by decide +kernel
theorem dX2_append_0 : decode cX2_append 0 = .ok (.aload_n 0, 1) := by decide +kernel
theorem dX2_append_1 : decode cX2_append 1 = .ok (.getfield 23, 3) := by decide +kernel
theorem dX2_append_4 : decode cX2_append 4 = .ok (.bipush 40, 2) := by decide +kernel
theorem dX2_append_6 : decode cX2_append 6 = .ok (.if_icmp .lt 5, 3) := by decide +kernel
theorem dX2_append_9 : decode cX2_append 9 = .ok (.iconst 0, 1) := by decide +kernel
theorem dX2_append_10 : decode cX2_append 10 = .ok (.ireturn, 1) := by decide +kernel
theorem dX2_append_11 : decode cX2_append 11 = .ok (.aload_n 0, 1) := by decide +kernel
theorem dX2_append_12 : decode cX2_append 12 = .ok (.getfield 19, 3) := by decide +kernel
theorem dX2_append_15 : decode cX2_append 15 = .ok (.aload_n 0, 1) := by decide +kernel
theorem dX2_append_16 : decode cX2_append 16 = .ok (.getfield 23, 3) := by decide +kernel
theorem dX2_append_19 : decode cX2_append 19 = .ok (.iadd, 1) := by decide +kernel
theorem dX2_append_20 : decode cX2_append 20 = .ok (.bipush 40, 2) := by decide +kernel
theorem dX2_append_22 : decode cX2_append 22 = .ok (.irem, 1) := by decide +kernel
theorem dX2_append_23 : decode cX2_append 23 = .ok (.istore 4, 2) := by decide +kernel
theorem dX2_append_25 : decode cX2_append 25 = .ok (.aload_n 0, 1) := by decide +kernel
theorem dX2_append_26 : decode cX2_append 26 = .ok (.getfield 9, 3) := by decide +kernel
theorem dX2_append_29 : decode cX2_append 29 = .ok (.iload 4, 2) := by decide +kernel
theorem dX2_append_31 : decode cX2_append 31 = .ok (.lload_n 1, 1) := by decide +kernel
theorem dX2_append_32 : decode cX2_append 32 = .ok (.lastore, 1) := by decide +kernel
theorem dX2_append_33 : decode cX2_append 33 = .ok (.aload_n 0, 1) := by decide +kernel
theorem dX2_append_34 : decode cX2_append 34 = .ok (.getfield 15, 3) := by decide +kernel
theorem dX2_append_37 : decode cX2_append 37 = .ok (.iload 4, 2) := by decide +kernel
theorem dX2_append_39 : decode cX2_append 39 = .ok (.iload_n 3, 1) := by decide +kernel
theorem dX2_append_40 : decode cX2_append 40 = .ok (.bastore, 1) := by decide +kernel
theorem dX2_append_41 : decode cX2_append 41 = .ok (.aload_n 0, 1) := by decide +kernel
theorem dX2_append_42 : decode cX2_append 42 = .ok (.dup, 1) := by decide +kernel
theorem dX2_append_43 : decode cX2_append 43 = .ok (.getfield 23, 3) := by decide +kernel
theorem dX2_append_46 : decode cX2_append 46 = .ok (.iconst 1, 1) := by decide +kernel
theorem dX2_append_47 : decode cX2_append 47 = .ok (.iadd, 1) := by decide +kernel
theorem dX2_append_48 : decode cX2_append 48 = .ok (.putfield 23, 3) := by decide +kernel
theorem dX2_append_51 : decode cX2_append 51 = .ok (.iconst 1, 1) := by decide +kernel
theorem dX2_append_52 : decode cX2_append 52 = .ok (.ireturn, 1) := by decide +kernel
theorem dX2_firstEntry_0 : decode cX2_firstEntry 0 = .ok (.aload_n 0, 1) := by decide +kernel
theorem dX2_firstEntry_1 : decode cX2_firstEntry 1 = .ok (.getfield 9, 3) := by decide +kernel
theorem dX2_firstEntry_4 : decode cX2_firstEntry 4 = .ok (.aload_n 0, 1) := by decide +kernel
theorem dX2_firstEntry_5 : decode cX2_firstEntry 5 = .ok (.getfield 19, 3) := by decide +kernel
theorem dX2_firstEntry_8 : decode cX2_firstEntry 8 = .ok (.laload, 1) := by decide +kernel
theorem dX2_firstEntry_9 : decode cX2_firstEntry 9 = .ok (.lreturn, 1) := by decide +kernel
theorem dX2_firstComes_0 : decode cX2_firstComes 0 = .ok (.aload_n 0, 1) := by decide +kernel
theorem dX2_firstComes_1 : decode cX2_firstComes 1 = .ok (.getfield 15, 3) := by decide +kernel
theorem dX2_firstComes_4 : decode cX2_firstComes 4 = .ok (.aload_n 0, 1) := by decide +kernel
theorem dX2_firstComes_5 : decode cX2_firstComes 5 = .ok (.getfield 19, 3) := by decide +kernel
theorem dX2_firstComes_8 : decode cX2_firstComes 8 = .ok (.baload, 1) := by decide +kernel
theorem dX2_firstComes_9 : decode cX2_firstComes 9 = .ok (.ireturn, 1) := by decide +kernel
theorem dX2_takeFirst_0 : decode cX2_takeFirst 0 = .ok (.aload_n 0, 1) := by decide +kernel
theorem dX2_takeFirst_1 : decode cX2_takeFirst 1 = .ok (.getfield 23, 3) := by decide +kernel
theorem dX2_takeFirst_4 : decode cX2_takeFirst 4 = .ok (.ifCond .le 26, 3) := by decide +kernel
theorem dX2_takeFirst_7 : decode cX2_takeFirst 7 = .ok (.aload_n 0, 1) := by decide +kernel
theorem dX2_takeFirst_8 : decode cX2_takeFirst 8 = .ok (.aload_n 0, 1) := by decide +kernel
theorem dX2_takeFirst_9 : decode cX2_takeFirst 9 = .ok (.getfield 19, 3) := by decide +kernel
theorem dX2_takeFirst_12 : decode cX2_takeFirst 12 = .ok (.iconst 1, 1) := by decide +kernel
theorem dX2_takeFirst_13 : decode cX2_takeFirst 13 = .ok (.iadd, 1) := by decide +kernel
theorem dX2_takeFirst_14 : decode cX2_takeFirst 14 = .ok (.bipush 40, 2) := by decide +kernel
theorem dX2_takeFirst_16 : decode cX2_takeFirst 16 = .ok (.irem, 1) := by decide +kernel
theorem dX2_takeFirst_17 : decode cX2_takeFirst 17 = .ok (.putfield 19, 3) := by decide +kernel
theorem dX2_takeFirst_20 : decode cX2_takeFirst 20 = .ok (.aload_n 0, 1) := by decide +kernel
theorem dX2_takeFirst_21 : decode cX2_takeFirst 21 = .ok (.dup, 1) := by decide +kernel
theorem dX2_takeFirst_22 : decode cX2_takeFirst 22 = .ok (.getfield 23, 3) := by decide +kernel
theorem dX2_takeFirst_25 : decode cX2_takeFirst 25 = .ok (.iconst 1, 1) := by decide +kernel
theorem dX2_takeFirst_26 : decode cX2_takeFirst 26 = .ok (.isub, 1) := by decide +kernel
theorem dX2_takeFirst_27 : decode cX2_takeFirst 27 = .ok (.putfield 23, 3) := by decide +kernel
theorem dX2_takeFirst_30 : decode cX2_takeFirst 30 = .ok (.return_, 1) := by decide +kernel
theorem dX3_init_0 : decode cX3_init 0 = .ok (.aload_n 0, 1) := by decide +kernel
theorem dX3_init_1 : decode cX3_init 1 = .ok (.invokespecial 3, 3) := by decide +kernel
theorem dX3_init_4 : decode cX3_init 4 = .ok (.aload_n 0, 1) := by decide +kernel
theorem dX3_init_5 : decode cX3_init 5 = .ok (.bipush 36, 2) := by decide +kernel
theorem dX3_init_7 : decode cX3_init 7 = .ok (.newarray .long, 2) := by decide +kernel
theorem dX3_init_9 : decode cX3_init 9 = .ok (.putfield 9, 3) := by decide +kernel
theorem dX3_init_12 : decode cX3_init 12 = .ok (.aload_n 0, 1) := by decide +kernel
theorem dX3_init_13 : decode cX3_init 13 = .ok (.iconst 0, 1) := by decide +kernel
theorem dX3_init_14 : decode cX3_init 14 = .ok (.putfield 15, 3) := by decide +kernel
theorem dX3_init_17 : decode cX3_init 17 = .ok (.aload_n 0, 1) := by decide +kernel
theorem dX3_init_18 : decode cX3_init 18 = .ok (.sipush 240, 3) := by decide +kernel
theorem dX3_init_21 : decode cX3_init 21 = .ok (.newarray .long, 2) := by decide +kernel
theorem dX3_init_23 : decode cX3_init 23 = .ok (.putfield 19, 3) := by decide +kernel
theorem dX3_init_26 : decode cX3_init 26 = .ok (.aload_n 0, 1) := by decide +kernel
theorem dX3_init_27 : decode cX3_init 27 = .ok (.sipush 240, 3) := by decide +kernel
theorem dX3_init_30 : decode cX3_init 30 = .ok (.newarray .long, 2) := by decide +kernel
theorem dX3_init_32 : decode cX3_init 32 = .ok (.putfield 22, 3) := by decide +kernel
theorem dX3_init_35 : decode cX3_init 35 = .ok (.aload_n 0, 1) := by decide +kernel
theorem dX3_init_36 : decode cX3_init 36 = .ok (.iconst 0, 1) := by decide +kernel
theorem dX3_init_37 : decode cX3_init 37 = .ok (.putfield 25, 3) := by decide +kernel
theorem dX3_init_40 : decode cX3_init 40 = .ok (.aload_n 0, 1) := by decide +kernel
theorem dX3_init_41 : decode cX3_init 41 = .ok (.bipush 11, 2) := by decide +kernel
theorem dX3_init_43 : decode cX3_init 43 = .ok (.newarray .int, 2) := by decide +kernel
theorem dX3_init_45 : decode cX3_init 45 = .ok (.putfield 28, 3) := by decide +kernel
theorem dX3_init_48 : decode cX3_init 48 = .ok (.aload_n 0, 1) := by decide +kernel
theorem dX3_init_49 : decode cX3_init 49 = .ok (.iconst 0, 1) := by decide +kernel
theorem dX3_init_50 : decode cX3_init 50 = .ok (.putfield 32, 3) := by decide +kernel
theorem dX3_init_53 : decode cX3_init 53 = .ok (.return_, 1) := by decide +kernel
theorem dX3_clear_0 : decode cX3_clear 0 = .ok (.aload_n 0, 1) := by decide +kernel
theorem dX3_clear_1 : decode cX3_clear 1 = .ok (.iconst 0, 1) := by decide +kernel
theorem dX3_clear_2 : decode cX3_clear 2 = .ok (.putfield 15, 3) := by decide +kernel
theorem dX3_clear_5 : decode cX3_clear 5 = .ok (.aload_n 0, 1) := by decide +kernel
theorem dX3_clear_6 : decode cX3_clear 6 = .ok (.iconst 0, 1) := by decide +kernel
theorem dX3_clear_7 : decode cX3_clear 7 = .ok (.putfield 25, 3) := by decide +kernel
theorem dX3_clear_10 : decode cX3_clear 10 = .ok (.aload_n 0, 1) := by decide +kernel
theorem dX3_clear_11 : decode cX3_clear 11 = .ok (.iconst 0, 1) := by decide +kernel
theorem dX3_clear_12 : decode cX3_clear 12 = .ok (.putfield 32, 3) := by decide +kernel
theorem dX3_clear_15 : decode cX3_clear 15 = .ok (.return_, 1) := by decide +kernel
theorem dX3_count_0 : decode cX3_count 0 = .ok (.aload_n 0, 1) := by decide +kernel
theorem dX3_count_1 : decode cX3_count 1 = .ok (.getfield 32, 3) := by decide +kernel
theorem dX3_count_4 : decode cX3_count 4 = .ok (.ireturn, 1) := by decide +kernel
theorem dX3_pickedCount_0 : decode cX3_pickedCount 0 = .ok (.aload_n 0, 1) := by decide +kernel
theorem dX3_pickedCount_1 : decode cX3_pickedCount 1 = .ok (.getfield 15, 3) := by decide +kernel
theorem dX3_pickedCount_4 : decode cX3_pickedCount 4 = .ok (.ireturn, 1) := by decide +kernel
theorem dX3_total_0 : decode cX3_total 0 = .ok (.aload_n 0, 1) := by decide +kernel
theorem dX3_total_1 : decode cX3_total 1 = .ok (.getfield 25, 3) := by decide +kernel
theorem dX3_total_4 : decode cX3_total 4 = .ok (.ireturn, 1) := by decide +kernel
theorem dX3_entryAt_0 : decode cX3_entryAt 0 = .ok (.iload_n 1, 1) := by decide +kernel
theorem dX3_entryAt_1 : decode cX3_entryAt 1 = .ok (.ifCond .lt 20, 3) := by decide +kernel
theorem dX3_entryAt_4 : decode cX3_entryAt 4 = .ok (.iload_n 1, 1) := by decide +kernel
theorem dX3_entryAt_5 : decode cX3_entryAt 5 = .ok (.aload_n 0, 1) := by decide +kernel
theorem dX3_entryAt_6 : decode cX3_entryAt 6 = .ok (.getfield 25, 3) := by decide +kernel
theorem dX3_entryAt_9 : decode cX3_entryAt 9 = .ok (.if_icmp .ge 12, 3) := by decide +kernel
theorem dX3_entryAt_12 : decode cX3_entryAt 12 = .ok (.aload_n 0, 1) := by decide +kernel
theorem dX3_entryAt_13 : decode cX3_entryAt 13 = .ok (.getfield 19, 3) := by decide +kernel
theorem dX3_entryAt_16 : decode cX3_entryAt 16 = .ok (.iload_n 1, 1) := by decide +kernel
theorem dX3_entryAt_17 : decode cX3_entryAt 17 = .ok (.laload, 1) := by decide +kernel
theorem dX3_entryAt_18 : decode cX3_entryAt 18 = .ok (.goto 4, 3) := by decide +kernel
theorem dX3_entryAt_21 : decode cX3_entryAt 21 = .ok (.lconst 0, 1) := by decide +kernel
theorem dX3_entryAt_22 : decode cX3_entryAt 22 = .ok (.lreturn, 1) := by decide +kernel
theorem dX3_pick_0 : decode cX3_pick 0 = .ok (.aload_n 0, 1) := by decide +kernel
theorem dX3_pick_1 : decode cX3_pick 1 = .ok (.getfield 15, 3) := by decide +kernel
theorem dX3_pick_4 : decode cX3_pick 4 = .ok (.aload_n 0, 1) := by decide +kernel
theorem dX3_pick_5 : decode cX3_pick 5 = .ok (.getfield 9, 3) := by decide +kernel
theorem dX3_pick_8 : decode cX3_pick 8 = .ok (.arraylength, 1) := by decide +kernel
theorem dX3_pick_9 : decode cX3_pick 9 = .ok (.if_icmp .lt 4, 3) := by decide +kernel
theorem dX3_pick_12 : decode cX3_pick 12 = .ok (.return_, 1) := by decide +kernel
theorem dX3_pick_13 : decode cX3_pick 13 = .ok (.aload_n 0, 1) := by decide +kernel
theorem dX3_pick_14 : decode cX3_pick 14 = .ok (.getfield 15, 3) := by decide +kernel
theorem dX3_pick_17 : decode cX3_pick 17 = .ok (.istore_n 3, 1) := by decide +kernel
theorem dX3_pick_18 : decode cX3_pick 18 = .ok (.iload_n 3, 1) := by decide +kernel
theorem dX3_pick_19 : decode cX3_pick 19 = .ok (.ifCond .le 36, 3) := by decide +kernel
theorem dX3_pick_22 : decode cX3_pick 22 = .ok (.aload_n 0, 1) := by decide +kernel
theorem dX3_pick_23 : decode cX3_pick 23 = .ok (.getfield 9, 3) := by decide +kernel
theorem dX3_pick_26 : decode cX3_pick 26 = .ok (.iload_n 3, 1) := by decide +kernel
theorem dX3_pick_27 : decode cX3_pick 27 = .ok (.iconst 1, 1) := by decide +kernel
theorem dX3_pick_28 : decode cX3_pick 28 = .ok (.isub, 1) := by decide +kernel
theorem dX3_pick_29 : decode cX3_pick 29 = .ok (.laload, 1) := by decide +kernel
theorem dX3_pick_30 : decode cX3_pick 30 = .ok (.lload_n 1, 1) := by decide +kernel
theorem dX3_pick_31 : decode cX3_pick 31 = .ok (.lcmp, 1) := by decide +kernel
theorem dX3_pick_32 : decode cX3_pick 32 = .ok (.ifCond .le 23, 3) := by decide +kernel
theorem dX3_pick_35 : decode cX3_pick 35 = .ok (.aload_n 0, 1) := by decide +kernel
theorem dX3_pick_36 : decode cX3_pick 36 = .ok (.getfield 9, 3) := by decide +kernel
theorem dX3_pick_39 : decode cX3_pick 39 = .ok (.iload_n 3, 1) := by decide +kernel
theorem dX3_pick_40 : decode cX3_pick 40 = .ok (.aload_n 0, 1) := by decide +kernel
theorem dX3_pick_41 : decode cX3_pick 41 = .ok (.getfield 9, 3) := by decide +kernel
theorem dX3_pick_44 : decode cX3_pick 44 = .ok (.iload_n 3, 1) := by decide +kernel
theorem dX3_pick_45 : decode cX3_pick 45 = .ok (.iconst 1, 1) := by decide +kernel
theorem dX3_pick_46 : decode cX3_pick 46 = .ok (.isub, 1) := by decide +kernel
theorem dX3_pick_47 : decode cX3_pick 47 = .ok (.laload, 1) := by decide +kernel
theorem dX3_pick_48 : decode cX3_pick 48 = .ok (.lastore, 1) := by decide +kernel
theorem dX3_pick_49 : decode cX3_pick 49 = .ok (.iinc 3 (-1), 3) := by decide +kernel
theorem dX3_pick_52 : decode cX3_pick 52 = .ok (.goto (-34), 3) := by decide +kernel
theorem dX3_pick_55 : decode cX3_pick 55 = .ok (.aload_n 0, 1) := by decide +kernel
theorem dX3_pick_56 : decode cX3_pick 56 = .ok (.getfield 9, 3) := by decide +kernel
theorem dX3_pick_59 : decode cX3_pick 59 = .ok (.iload_n 3, 1) := by decide +kernel
theorem dX3_pick_60 : decode cX3_pick 60 = .ok (.lload_n 1, 1) := by decide +kernel
theorem dX3_pick_61 : decode cX3_pick 61 = .ok (.lastore, 1) := by decide +kernel
theorem dX3_pick_62 : decode cX3_pick 62 = .ok (.aload_n 0, 1) := by decide +kernel
theorem dX3_pick_63 : decode cX3_pick 63 = .ok (.dup, 1) := by decide +kernel
theorem dX3_pick_64 : decode cX3_pick 64 = .ok (.getfield 15, 3) := by decide +kernel
theorem dX3_pick_67 : decode cX3_pick 67 = .ok (.iconst 1, 1) := by decide +kernel
theorem dX3_pick_68 : decode cX3_pick 68 = .ok (.iadd, 1) := by decide +kernel
theorem dX3_pick_69 : decode cX3_pick 69 = .ok (.putfield 15, 3) := by decide +kernel
theorem dX3_pick_72 : decode cX3_pick 72 = .ok (.return_, 1) := by decide +kernel
theorem dX3_closeRun_0 : decode cX3_closeRun 0 = .ok (.aload_n 0, 1) := by decide +kernel
theorem dX3_closeRun_1 : decode cX3_closeRun 1 = .ok (.getfield 32, 3) := by decide +kernel
theorem dX3_closeRun_4 : decode cX3_closeRun 4 = .ok (.aload_n 0, 1) := by decide +kernel
theorem dX3_closeRun_5 : decode cX3_closeRun 5 = .ok (.getfield 28, 3) := by decide +kernel
theorem dX3_closeRun_8 : decode cX3_closeRun 8 = .ok (.arraylength, 1) := by decide +kernel
theorem dX3_closeRun_9 : decode cX3_closeRun 9 = .ok (.if_icmp .ge 20, 3) := by decide +kernel
theorem dX3_closeRun_12 : decode cX3_closeRun 12 = .ok (.aload_n 0, 1) := by decide +kernel
theorem dX3_closeRun_13 : decode cX3_closeRun 13 = .ok (.getfield 25, 3) := by decide +kernel
theorem dX3_closeRun_16 : decode cX3_closeRun 16 = .ok (.aload_n 0, 1) := by decide +kernel
theorem dX3_closeRun_17 : decode cX3_closeRun 17 = .ok (.getfield 15, 3) := by decide +kernel
theorem dX3_closeRun_20 : decode cX3_closeRun 20 = .ok (.iadd, 1) := by decide +kernel
theorem dX3_closeRun_21 : decode cX3_closeRun 21 = .ok (.aload_n 0, 1) := by decide +kernel
theorem dX3_closeRun_22 : decode cX3_closeRun 22 = .ok (.getfield 19, 3) := by decide +kernel
theorem dX3_closeRun_25 : decode cX3_closeRun 25 = .ok (.arraylength, 1) := by decide +kernel
theorem dX3_closeRun_26 : decode cX3_closeRun 26 = .ok (.if_icmp .le 4, 3) := by decide +kernel
theorem dX3_closeRun_29 : decode cX3_closeRun 29 = .ok (.return_, 1) := by decide +kernel
theorem dX3_closeRun_30 : decode cX3_closeRun 30 = .ok (.aload_n 0, 1) := by decide +kernel
theorem dX3_closeRun_31 : decode cX3_closeRun 31 = .ok (.getfield 9, 3) := by decide +kernel
theorem dX3_closeRun_34 : decode cX3_closeRun 34 = .ok (.iconst 0, 1) := by decide +kernel
theorem dX3_closeRun_35 : decode cX3_closeRun 35 = .ok (.aload_n 0, 1) := by decide +kernel
theorem dX3_closeRun_36 : decode cX3_closeRun 36 = .ok (.getfield 19, 3) := by decide +kernel
theorem dX3_closeRun_39 : decode cX3_closeRun 39 = .ok (.aload_n 0, 1) := by decide +kernel
theorem dX3_closeRun_40 : decode cX3_closeRun 40 = .ok (.getfield 25, 3) := by decide +kernel
theorem dX3_closeRun_43 : decode cX3_closeRun 43 = .ok (.aload_n 0, 1) := by decide +kernel
theorem dX3_closeRun_44 : decode cX3_closeRun 44 = .ok (.getfield 15, 3) := by decide +kernel
theorem dX3_closeRun_47 : decode cX3_closeRun 47 = .ok (.invokestatic 35, 3) := by decide +kernel
theorem dX3_closeRun_50 : decode cX3_closeRun 50 = .ok (.aload_n 0, 1) := by decide +kernel
theorem dX3_closeRun_51 : decode cX3_closeRun 51 = .ok (.dup, 1) := by decide +kernel
theorem dX3_closeRun_52 : decode cX3_closeRun 52 = .ok (.getfield 25, 3) := by decide +kernel
theorem dX3_closeRun_55 : decode cX3_closeRun 55 = .ok (.aload_n 0, 1) := by decide +kernel
theorem dX3_closeRun_56 : decode cX3_closeRun 56 = .ok (.getfield 15, 3) := by decide +kernel
theorem dX3_closeRun_59 : decode cX3_closeRun 59 = .ok (.iadd, 1) := by decide +kernel
theorem dX3_closeRun_60 : decode cX3_closeRun 60 = .ok (.putfield 25, 3) := by decide +kernel
theorem dX3_closeRun_63 : decode cX3_closeRun 63 = .ok (.aload_n 0, 1) := by decide +kernel
theorem dX3_closeRun_64 : decode cX3_closeRun 64 = .ok (.getfield 28, 3) := by decide +kernel
theorem dX3_closeRun_67 : decode cX3_closeRun 67 = .ok (.aload_n 0, 1) := by decide +kernel
theorem dX3_closeRun_68 : decode cX3_closeRun 68 = .ok (.getfield 32, 3) := by decide +kernel
theorem dX3_closeRun_71 : decode cX3_closeRun 71 = .ok (.aload_n 0, 1) := by decide +kernel
theorem dX3_closeRun_72 : decode cX3_closeRun 72 = .ok (.getfield 15, 3) := by decide +kernel
theorem dX3_closeRun_75 : decode cX3_closeRun 75 = .ok (.iastore, 1) := by decide +kernel
theorem dX3_closeRun_76 : decode cX3_closeRun 76 = .ok (.aload_n 0, 1) := by decide +kernel
theorem dX3_closeRun_77 : decode cX3_closeRun 77 = .ok (.dup, 1) := by decide +kernel
theorem dX3_closeRun_78 : decode cX3_closeRun 78 = .ok (.getfield 32, 3) := by decide +kernel
theorem dX3_closeRun_81 : decode cX3_closeRun 81 = .ok (.iconst 1, 1) := by decide +kernel
theorem dX3_closeRun_82 : decode cX3_closeRun 82 = .ok (.iadd, 1) := by decide +kernel
theorem dX3_closeRun_83 : decode cX3_closeRun 83 = .ok (.putfield 32, 3) := by decide +kernel
theorem dX3_closeRun_86 : decode cX3_closeRun 86 = .ok (.aload_n 0, 1) := by decide +kernel
theorem dX3_closeRun_87 : decode cX3_closeRun 87 = .ok (.iconst 0, 1) := by decide +kernel
theorem dX3_closeRun_88 : decode cX3_closeRun 88 = .ok (.putfield 15, 3) := by decide +kernel
theorem dX3_closeRun_91 : decode cX3_closeRun 91 = .ok (.return_, 1) := by decide +kernel
theorem dX3_mergeFirstTwo_0 : decode cX3_mergeFirstTwo 0 = .ok (.aload_n 0, 1) := by decide +kernel
theorem dX3_mergeFirstTwo_1 : decode cX3_mergeFirstTwo 1 = .ok (.getfield 32, 3) := by decide +kernel
theorem dX3_mergeFirstTwo_4 : decode cX3_mergeFirstTwo 4 = .ok (.iconst 2, 1) := by decide +kernel
theorem dX3_mergeFirstTwo_5 : decode cX3_mergeFirstTwo 5 = .ok (.if_icmp .ge 5, 3) := by decide +kernel
theorem dX3_mergeFirstTwo_8 : decode cX3_mergeFirstTwo 8 = .ok (.iconst 0, 1) := by decide +kernel
theorem dX3_mergeFirstTwo_9 : decode cX3_mergeFirstTwo 9 = .ok (.ireturn, 1) := by decide +kernel
theorem dX3_mergeFirstTwo_10 : decode cX3_mergeFirstTwo 10 = .ok (.aload_n 0, 1) := by decide +kernel
theorem dX3_mergeFirstTwo_11 : decode cX3_mergeFirstTwo 11 = .ok (.getfield 28, 3) := by decide +kernel
theorem dX3_mergeFirstTwo_14 : decode cX3_mergeFirstTwo 14 = .ok (.iconst 0, 1) := by decide +kernel
theorem dX3_mergeFirstTwo_15 : decode cX3_mergeFirstTwo 15 = .ok (.iaload, 1) := by decide +kernel
theorem dX3_mergeFirstTwo_16 : decode cX3_mergeFirstTwo 16 = .ok (.aload_n 0, 1) := by decide +kernel
theorem dX3_mergeFirstTwo_17 : decode cX3_mergeFirstTwo 17 = .ok (.getfield 28, 3) := by decide +kernel
theorem dX3_mergeFirstTwo_20 : decode cX3_mergeFirstTwo 20 = .ok (.iconst 1, 1) := by decide +kernel
theorem dX3_mergeFirstTwo_21 : decode cX3_mergeFirstTwo 21 = .ok (.iaload, 1) := by decide +kernel
theorem dX3_mergeFirstTwo_22 : decode cX3_mergeFirstTwo 22 = .ok (.iadd, 1) := by decide +kernel
theorem dX3_mergeFirstTwo_23 : decode cX3_mergeFirstTwo 23 = .ok (.istore_n 1, 1) := by decide +kernel
theorem dX3_mergeFirstTwo_24 : decode cX3_mergeFirstTwo 24 = .ok (.aload_n 0, 1) := by decide +kernel
theorem dX3_mergeFirstTwo_25 : decode cX3_mergeFirstTwo 25 = .ok (.aload_n 0, 1) := by decide +kernel
theorem dX3_mergeFirstTwo_26 : decode cX3_mergeFirstTwo 26 = .ok (.getfield 28, 3) := by decide +kernel
theorem dX3_mergeFirstTwo_29 : decode cX3_mergeFirstTwo 29 = .ok (.iconst 0, 1) := by decide +kernel
theorem dX3_mergeFirstTwo_30 : decode cX3_mergeFirstTwo 30 = .ok (.iaload, 1) := by decide +kernel
theorem dX3_mergeFirstTwo_31 : decode cX3_mergeFirstTwo 31 = .ok (.iload_n 1, 1) := by decide +kernel
theorem dX3_mergeFirstTwo_32 : decode cX3_mergeFirstTwo 32 = .ok (.invokevirtual 41, 3) := by decide +kernel
theorem dX3_mergeFirstTwo_35 : decode cX3_mergeFirstTwo 35 = .ok (.aload_n 0, 1) := by decide +kernel
theorem dX3_mergeFirstTwo_36 : decode cX3_mergeFirstTwo 36 = .ok (.getfield 19, 3) := by decide +kernel
theorem dX3_mergeFirstTwo_39 : decode cX3_mergeFirstTwo 39 = .ok (.iload_n 1, 1) := by decide +kernel
theorem dX3_mergeFirstTwo_40 : decode cX3_mergeFirstTwo 40 = .ok (.aload_n 0, 1) := by decide +kernel
theorem dX3_mergeFirstTwo_41 : decode cX3_mergeFirstTwo 41 = .ok (.getfield 19, 3) := by decide +kernel
theorem dX3_mergeFirstTwo_44 : decode cX3_mergeFirstTwo 44 = .ok (.iconst 0, 1) := by decide +kernel
theorem dX3_mergeFirstTwo_45 : decode cX3_mergeFirstTwo 45 = .ok (.aload_n 0, 1) := by decide +kernel
theorem dX3_mergeFirstTwo_46 : decode cX3_mergeFirstTwo 46 = .ok (.getfield 25, 3) := by decide +kernel
theorem dX3_mergeFirstTwo_49 : decode cX3_mergeFirstTwo 49 = .ok (.iload_n 1, 1) := by decide +kernel
theorem dX3_mergeFirstTwo_50 : decode cX3_mergeFirstTwo 50 = .ok (.isub, 1) := by decide +kernel
theorem dX3_mergeFirstTwo_51 : decode cX3_mergeFirstTwo 51 = .ok (.invokestatic 35, 3) := by decide +kernel
theorem dX3_mergeFirstTwo_54 : decode cX3_mergeFirstTwo 54 = .ok (.aload_n 0, 1) := by decide +kernel
theorem dX3_mergeFirstTwo_55 : decode cX3_mergeFirstTwo 55 = .ok (.getfield 22, 3) := by decide +kernel
theorem dX3_mergeFirstTwo_58 : decode cX3_mergeFirstTwo 58 = .ok (.iconst 0, 1) := by decide +kernel
theorem dX3_mergeFirstTwo_59 : decode cX3_mergeFirstTwo 59 = .ok (.aload_n 0, 1) := by decide +kernel
theorem dX3_mergeFirstTwo_60 : decode cX3_mergeFirstTwo 60 = .ok (.getfield 19, 3) := by decide +kernel
theorem dX3_mergeFirstTwo_63 : decode cX3_mergeFirstTwo 63 = .ok (.aload_n 0, 1) := by decide +kernel
theorem dX3_mergeFirstTwo_64 : decode cX3_mergeFirstTwo 64 = .ok (.getfield 25, 3) := by decide +kernel
theorem dX3_mergeFirstTwo_67 : decode cX3_mergeFirstTwo 67 = .ok (.iload_n 1, 1) := by decide +kernel
theorem dX3_mergeFirstTwo_68 : decode cX3_mergeFirstTwo 68 = .ok (.isub, 1) := by decide +kernel
theorem dX3_mergeFirstTwo_69 : decode cX3_mergeFirstTwo 69 = .ok (.iload_n 1, 1) := by decide +kernel
theorem dX3_mergeFirstTwo_70 : decode cX3_mergeFirstTwo 70 = .ok (.invokestatic 35, 3) := by decide +kernel
theorem dX3_mergeFirstTwo_73 : decode cX3_mergeFirstTwo 73 = .ok (.iconst 2, 1) := by decide +kernel
theorem dX3_mergeFirstTwo_74 : decode cX3_mergeFirstTwo 74 = .ok (.istore_n 2, 1) := by decide +kernel
theorem dX3_mergeFirstTwo_75 : decode cX3_mergeFirstTwo 75 = .ok (.iload_n 2, 1) := by decide +kernel
theorem dX3_mergeFirstTwo_76 : decode cX3_mergeFirstTwo 76 = .ok (.aload_n 0, 1) := by decide +kernel
theorem dX3_mergeFirstTwo_77 : decode cX3_mergeFirstTwo 77 = .ok (.getfield 32, 3) := by decide +kernel
theorem dX3_mergeFirstTwo_80 : decode cX3_mergeFirstTwo 80 = .ok (.if_icmp .ge 23, 3) := by decide +kernel
theorem dX3_mergeFirstTwo_83 : decode cX3_mergeFirstTwo 83 = .ok (.aload_n 0, 1) := by decide +kernel
theorem dX3_mergeFirstTwo_84 : decode cX3_mergeFirstTwo 84 = .ok (.getfield 28, 3) := by decide +kernel
theorem dX3_mergeFirstTwo_87 : decode cX3_mergeFirstTwo 87 = .ok (.iload_n 2, 1) := by decide +kernel
theorem dX3_mergeFirstTwo_88 : decode cX3_mergeFirstTwo 88 = .ok (.iconst 2, 1) := by decide +kernel
theorem dX3_mergeFirstTwo_89 : decode cX3_mergeFirstTwo 89 = .ok (.isub, 1) := by decide +kernel
theorem dX3_mergeFirstTwo_90 : decode cX3_mergeFirstTwo 90 = .ok (.aload_n 0, 1) := by decide +kernel
theorem dX3_mergeFirstTwo_91 : decode cX3_mergeFirstTwo 91 = .ok (.getfield 28, 3) := by decide +kernel
theorem dX3_mergeFirstTwo_94 : decode cX3_mergeFirstTwo 94 = .ok (.iload_n 2, 1) := by decide +kernel
theorem dX3_mergeFirstTwo_95 : decode cX3_mergeFirstTwo 95 = .ok (.iaload, 1) := by decide +kernel
theorem dX3_mergeFirstTwo_96 : decode cX3_mergeFirstTwo 96 = .ok (.iastore, 1) := by decide +kernel
theorem dX3_mergeFirstTwo_97 : decode cX3_mergeFirstTwo 97 = .ok (.iinc 2 1, 3) := by decide +kernel
theorem dX3_mergeFirstTwo_100 : decode cX3_mergeFirstTwo 100 = .ok (.goto (-25), 3) := by decide +kernel
theorem dX3_mergeFirstTwo_103 : decode cX3_mergeFirstTwo 103 = .ok (.aload_n 0, 1) := by decide +kernel
theorem dX3_mergeFirstTwo_104 : decode cX3_mergeFirstTwo 104 = .ok (.getfield 28, 3) := by decide +kernel
theorem dX3_mergeFirstTwo_107 : decode cX3_mergeFirstTwo 107 = .ok (.aload_n 0, 1) := by decide +kernel
theorem dX3_mergeFirstTwo_108 : decode cX3_mergeFirstTwo 108 = .ok (.getfield 32, 3) := by decide +kernel
theorem dX3_mergeFirstTwo_111 : decode cX3_mergeFirstTwo 111 = .ok (.iconst 2, 1) := by decide +kernel
theorem dX3_mergeFirstTwo_112 : decode cX3_mergeFirstTwo 112 = .ok (.isub, 1) := by decide +kernel
theorem dX3_mergeFirstTwo_113 : decode cX3_mergeFirstTwo 113 = .ok (.iload_n 1, 1) := by decide +kernel
theorem dX3_mergeFirstTwo_114 : decode cX3_mergeFirstTwo 114 = .ok (.iastore, 1) := by decide +kernel
theorem dX3_mergeFirstTwo_115 : decode cX3_mergeFirstTwo 115 = .ok (.aload_n 0, 1) := by decide +kernel
theorem dX3_mergeFirstTwo_116 : decode cX3_mergeFirstTwo 116 = .ok (.dup, 1) := by decide +kernel
theorem dX3_mergeFirstTwo_117 : decode cX3_mergeFirstTwo 117 = .ok (.getfield 32, 3) := by decide +kernel
theorem dX3_mergeFirstTwo_120 : decode cX3_mergeFirstTwo 120 = .ok (.iconst 1, 1) := by decide +kernel
theorem dX3_mergeFirstTwo_121 : decode cX3_mergeFirstTwo 121 = .ok (.isub, 1) := by decide +kernel
theorem dX3_mergeFirstTwo_122 : decode cX3_mergeFirstTwo 122 = .ok (.putfield 32, 3) := by decide +kernel
theorem dX3_mergeFirstTwo_125 : decode cX3_mergeFirstTwo 125 = .ok (.iload_n 1, 1) := by decide +kernel
theorem dX3_mergeFirstTwo_126 : decode cX3_mergeFirstTwo 126 = .ok (.ireturn, 1) := by decide +kernel
theorem dX3_mergeInto_0 : decode cX3_mergeInto 0 = .ok (.iconst 0, 1) := by decide +kernel
theorem dX3_mergeInto_1 : decode cX3_mergeInto 1 = .ok (.istore_n 3, 1) := by decide +kernel
theorem dX3_mergeInto_2 : decode cX3_mergeInto 2 = .ok (.iload_n 1, 1) := by decide +kernel
theorem dX3_mergeInto_3 : decode cX3_mergeInto 3 = .ok (.istore 4, 2) := by decide +kernel
theorem dX3_mergeInto_5 : decode cX3_mergeInto 5 = .ok (.iconst 0, 1) := by decide +kernel
theorem dX3_mergeInto_6 : decode cX3_mergeInto 6 = .ok (.istore 5, 2) := by decide +kernel
theorem dX3_mergeInto_8 : decode cX3_mergeInto 8 = .ok (.iload 5, 2) := by decide +kernel
theorem dX3_mergeInto_10 : decode cX3_mergeInto 10 = .ok (.iload_n 2, 1) := by decide +kernel
theorem dX3_mergeInto_11 : decode cX3_mergeInto 11 = .ok (.if_icmp .ge 73, 3) := by decide +kernel
theorem dX3_mergeInto_14 : decode cX3_mergeInto 14 = .ok (.iload 4, 2) := by decide +kernel
theorem dX3_mergeInto_16 : decode cX3_mergeInto 16 = .ok (.iload_n 2, 1) := by decide +kernel
theorem dX3_mergeInto_17 : decode cX3_mergeInto 17 = .ok (.if_icmp .ge 25, 3) := by decide +kernel
theorem dX3_mergeInto_20 : decode cX3_mergeInto 20 = .ok (.iload_n 3, 1) := by decide +kernel
theorem dX3_mergeInto_21 : decode cX3_mergeInto 21 = .ok (.iload_n 1, 1) := by decide +kernel
theorem dX3_mergeInto_22 : decode cX3_mergeInto 22 = .ok (.if_icmp .ge 39, 3) := by decide +kernel
theorem dX3_mergeInto_25 : decode cX3_mergeInto 25 = .ok (.aload_n 0, 1) := by decide +kernel
theorem dX3_mergeInto_26 : decode cX3_mergeInto 26 = .ok (.getfield 19, 3) := by decide +kernel
theorem dX3_mergeInto_29 : decode cX3_mergeInto 29 = .ok (.iload_n 3, 1) := by decide +kernel
theorem dX3_mergeInto_30 : decode cX3_mergeInto 30 = .ok (.laload, 1) := by decide +kernel
theorem dX3_mergeInto_31 : decode cX3_mergeInto 31 = .ok (.aload_n 0, 1) := by decide +kernel
theorem dX3_mergeInto_32 : decode cX3_mergeInto 32 = .ok (.getfield 19, 3) := by decide +kernel
theorem dX3_mergeInto_35 : decode cX3_mergeInto 35 = .ok (.iload 4, 2) := by decide +kernel
theorem dX3_mergeInto_37 : decode cX3_mergeInto 37 = .ok (.laload, 1) := by decide +kernel
theorem dX3_mergeInto_38 : decode cX3_mergeInto 38 = .ok (.lcmp, 1) := by decide +kernel
theorem dX3_mergeInto_39 : decode cX3_mergeInto 39 = .ok (.ifCond .ge 22, 3) := by decide +kernel
theorem dX3_mergeInto_42 : decode cX3_mergeInto 42 = .ok (.aload_n 0, 1) := by decide +kernel
theorem dX3_mergeInto_43 : decode cX3_mergeInto 43 = .ok (.getfield 22, 3) := by decide +kernel
theorem dX3_mergeInto_46 : decode cX3_mergeInto 46 = .ok (.iload 5, 2) := by decide +kernel
theorem dX3_mergeInto_48 : decode cX3_mergeInto 48 = .ok (.aload_n 0, 1) := by decide +kernel
theorem dX3_mergeInto_49 : decode cX3_mergeInto 49 = .ok (.getfield 19, 3) := by decide +kernel
theorem dX3_mergeInto_52 : decode cX3_mergeInto 52 = .ok (.iload_n 3, 1) := by decide +kernel
theorem dX3_mergeInto_53 : decode cX3_mergeInto 53 = .ok (.laload, 1) := by decide +kernel
theorem dX3_mergeInto_54 : decode cX3_mergeInto 54 = .ok (.lastore, 1) := by decide +kernel
theorem dX3_mergeInto_55 : decode cX3_mergeInto 55 = .ok (.iinc 3 1, 3) := by decide +kernel
theorem dX3_mergeInto_58 : decode cX3_mergeInto 58 = .ok (.goto 20, 3) := by decide +kernel
theorem dX3_mergeInto_61 : decode cX3_mergeInto 61 = .ok (.aload_n 0, 1) := by decide +kernel
theorem dX3_mergeInto_62 : decode cX3_mergeInto 62 = .ok (.getfield 22, 3) := by decide +kernel
theorem dX3_mergeInto_65 : decode cX3_mergeInto 65 = .ok (.iload 5, 2) := by decide +kernel
theorem dX3_mergeInto_67 : decode cX3_mergeInto 67 = .ok (.aload_n 0, 1) := by decide +kernel
theorem dX3_mergeInto_68 : decode cX3_mergeInto 68 = .ok (.getfield 19, 3) := by decide +kernel
theorem dX3_mergeInto_71 : decode cX3_mergeInto 71 = .ok (.iload 4, 2) := by decide +kernel
theorem dX3_mergeInto_73 : decode cX3_mergeInto 73 = .ok (.laload, 1) := by decide +kernel
theorem dX3_mergeInto_74 : decode cX3_mergeInto 74 = .ok (.lastore, 1) := by decide +kernel
theorem dX3_mergeInto_75 : decode cX3_mergeInto 75 = .ok (.iinc 4 1, 3) := by decide +kernel
theorem dX3_mergeInto_78 : decode cX3_mergeInto 78 = .ok (.iinc 5 1, 3) := by decide +kernel
theorem dX3_mergeInto_81 : decode cX3_mergeInto 81 = .ok (.goto (-73), 3) := by decide +kernel
theorem dX3_mergeInto_84 : decode cX3_mergeInto 84 = .ok (.return_, 1) := by decide +kernel
theorem dX4_init_0 : decode cX4_init 0 = .ok (.aload_n 0, 1) := by decide +kernel
theorem dX4_init_1 : decode cX4_init 1 = .ok (.invokespecial 3, 3) := by decide +kernel
theorem dX4_init_4 : decode cX4_init 4 = .ok (.aload_n 0, 1) := by decide +kernel
theorem dX4_init_5 : decode cX4_init 5 = .ok (.sipush 240, 3) := by decide +kernel
theorem dX4_init_8 : decode cX4_init 8 = .ok (.newarray .int, 2) := by decide +kernel
theorem dX4_init_10 : decode cX4_init 10 = .ok (.putfield 9, 3) := by decide +kernel
theorem dX4_init_13 : decode cX4_init 13 = .ok (.aload_n 0, 1) := by decide +kernel
theorem dX4_init_14 : decode cX4_init 14 = .ok (.sipush 240, 3) := by decide +kernel
theorem dX4_init_17 : decode cX4_init 17 = .ok (.newarray .int, 2) := by decide +kernel
theorem dX4_init_19 : decode cX4_init 19 = .ok (.putfield 15, 3) := by decide +kernel
theorem dX4_init_22 : decode cX4_init 22 = .ok (.aload_n 0, 1) := by decide +kernel
theorem dX4_init_23 : decode cX4_init 23 = .ok (.sipush 240, 3) := by decide +kernel
theorem dX4_init_26 : decode cX4_init 26 = .ok (.newarray .boolean, 2) := by decide +kernel
theorem dX4_init_28 : decode cX4_init 28 = .ok (.putfield 18, 3) := by decide +kernel
theorem dX4_init_31 : decode cX4_init 31 = .ok (.aload_n 0, 1) := by decide +kernel
theorem dX4_init_32 : decode cX4_init 32 = .ok (.bipush 20, 2) := by decide +kernel
theorem dX4_init_34 : decode cX4_init 34 = .ok (.newarray .boolean, 2) := by decide +kernel
theorem dX4_init_36 : decode cX4_init 36 = .ok (.putfield 22, 3) := by decide +kernel
theorem dX4_init_39 : decode cX4_init 39 = .ok (.aload_n 0, 1) := by decide +kernel
theorem dX4_init_40 : decode cX4_init 40 = .ok (.iconst 0, 1) := by decide +kernel
theorem dX4_init_41 : decode cX4_init 41 = .ok (.putfield 25, 3) := by decide +kernel
theorem dX4_init_44 : decode cX4_init 44 = .ok (.return_, 1) := by decide +kernel
theorem dX4_count_0 : decode cX4_count 0 = .ok (.aload_n 0, 1) := by decide +kernel
theorem dX4_count_1 : decode cX4_count 1 = .ok (.getfield 25, 3) := by decide +kernel
theorem dX4_count_4 : decode cX4_count 4 = .ok (.ireturn, 1) := by decide +kernel
theorem dX4_has_0 : decode cX4_has 0 = .ok (.iload_n 1, 1) := by decide +kernel
theorem dX4_has_1 : decode cX4_has 1 = .ok (.ifCond .lt 23, 3) := by decide +kernel
theorem dX4_has_4 : decode cX4_has 4 = .ok (.iload_n 1, 1) := by decide +kernel
theorem dX4_has_5 : decode cX4_has 5 = .ok (.sipush 240, 3) := by decide +kernel
theorem dX4_has_8 : decode cX4_has 8 = .ok (.if_icmp .ge 16, 3) := by decide +kernel
theorem dX4_has_11 : decode cX4_has 11 = .ok (.aload_n 0, 1) := by decide +kernel
theorem dX4_has_12 : decode cX4_has 12 = .ok (.getfield 18, 3) := by decide +kernel
theorem dX4_has_15 : decode cX4_has 15 = .ok (.iload_n 1, 1) := by decide +kernel
theorem dX4_has_16 : decode cX4_has 16 = .ok (.baload, 1) := by decide +kernel
theorem dX4_has_17 : decode cX4_has 17 = .ok (.ifCond .eq 7, 3) := by decide +kernel
theorem dX4_has_20 : decode cX4_has 20 = .ok (.iconst 1, 1) := by decide +kernel
theorem dX4_has_21 : decode cX4_has 21 = .ok (.goto 4, 3) := by decide +kernel
theorem dX4_has_24 : decode cX4_has 24 = .ok (.iconst 0, 1) := by decide +kernel
theorem dX4_has_25 : decode cX4_has 25 = .ok (.ireturn, 1) := by decide +kernel
theorem dX4_keyAt_0 : decode cX4_keyAt 0 = .ok (.aload_n 0, 1) := by decide +kernel
theorem dX4_keyAt_1 : decode cX4_keyAt 1 = .ok (.iload_n 1, 1) := by decide +kernel
theorem dX4_keyAt_2 : decode cX4_keyAt 2 = .ok (.invokevirtual 29, 3) := by decide +kernel
theorem dX4_keyAt_5 : decode cX4_keyAt 5 = .ok (.ifCond .eq 12, 3) := by decide +kernel
theorem dX4_keyAt_8 : decode cX4_keyAt 8 = .ok (.aload_n 0, 1) := by decide +kernel
theorem dX4_keyAt_9 : decode cX4_keyAt 9 = .ok (.getfield 9, 3) := by decide +kernel
theorem dX4_keyAt_12 : decode cX4_keyAt 12 = .ok (.iload_n 1, 1) := by decide +kernel
theorem dX4_keyAt_13 : decode cX4_keyAt 13 = .ok (.iaload, 1) := by decide +kernel
theorem dX4_keyAt_14 : decode cX4_keyAt 14 = .ok (.goto 4, 3) := by decide +kernel
theorem dX4_keyAt_17 : decode cX4_keyAt 17 = .ok (.iconst 0, 1) := by decide +kernel
theorem dX4_keyAt_18 : decode cX4_keyAt 18 = .ok (.ireturn, 1) := by decide +kernel
theorem dX4_valueAt_0 : decode cX4_valueAt 0 = .ok (.aload_n 0, 1) := by decide +kernel
theorem dX4_valueAt_1 : decode cX4_valueAt 1 = .ok (.iload_n 1, 1) := by decide +kernel
theorem dX4_valueAt_2 : decode cX4_valueAt 2 = .ok (.invokevirtual 29, 3) := by decide +kernel
theorem dX4_valueAt_5 : decode cX4_valueAt 5 = .ok (.ifCond .eq 12, 3) := by decide +kernel
theorem dX4_valueAt_8 : decode cX4_valueAt 8 = .ok (.aload_n 0, 1) := by decide +kernel
theorem dX4_valueAt_9 : decode cX4_valueAt 9 = .ok (.getfield 15, 3) := by decide +kernel
theorem dX4_valueAt_12 : decode cX4_valueAt 12 = .ok (.iload_n 1, 1) := by decide +kernel
theorem dX4_valueAt_13 : decode cX4_valueAt 13 = .ok (.iaload, 1) := by decide +kernel
theorem dX4_valueAt_14 : decode cX4_valueAt 14 = .ok (.goto 4, 3) := by decide +kernel
theorem dX4_valueAt_17 : decode cX4_valueAt 17 = .ok (.iconst 0, 1) := by decide +kernel
theorem dX4_valueAt_18 : decode cX4_valueAt 18 = .ok (.ireturn, 1) := by decide +kernel
theorem dX4_firstFree_0 : decode cX4_firstFree 0 = .ok (.iconst 0, 1) := by decide +kernel
theorem dX4_firstFree_1 : decode cX4_firstFree 1 = .ok (.istore_n 1, 1) := by decide +kernel
theorem dX4_firstFree_2 : decode cX4_firstFree 2 = .ok (.iload_n 1, 1) := by decide +kernel
theorem dX4_firstFree_3 : decode cX4_firstFree 3 = .ok (.sipush 240, 3) := by decide +kernel
theorem dX4_firstFree_6 : decode cX4_firstFree 6 = .ok (.if_icmp .ge 20, 3) := by decide +kernel
theorem dX4_firstFree_9 : decode cX4_firstFree 9 = .ok (.aload_n 0, 1) := by decide +kernel
theorem dX4_firstFree_10 : decode cX4_firstFree 10 = .ok (.getfield 18, 3) := by decide +kernel
theorem dX4_firstFree_13 : decode cX4_firstFree 13 = .ok (.iload_n 1, 1) := by decide +kernel
theorem dX4_firstFree_14 : decode cX4_firstFree 14 = .ok (.baload, 1) := by decide +kernel
theorem dX4_firstFree_15 : decode cX4_firstFree 15 = .ok (.ifCond .ne 5, 3) := by decide +kernel
theorem dX4_firstFree_18 : decode cX4_firstFree 18 = .ok (.iload_n 1, 1) := by decide +kernel
theorem dX4_firstFree_19 : decode cX4_firstFree 19 = .ok (.ireturn, 1) := by decide +kernel
theorem dX4_firstFree_20 : decode cX4_firstFree 20 = .ok (.iinc 1 1, 3) := by decide +kernel
theorem dX4_firstFree_23 : decode cX4_firstFree 23 = .ok (.goto (-21), 3) := by decide +kernel
theorem dX4_firstFree_26 : decode cX4_firstFree 26 = .ok (.iconst (-1), 1) := by decide +kernel
theorem dX4_firstFree_27 : decode cX4_firstFree 27 = .ok (.ireturn, 1) := by decide +kernel
theorem dX4_hasKeyBeside_0 : decode cX4_hasKeyBeside 0 = .ok (.iconst 0, 1) := by decide +kernel
theorem dX4_hasKeyBeside_1 : decode cX4_hasKeyBeside 1 = .ok (.istore_n 3, 1) := by decide +kernel
theorem dX4_hasKeyBeside_2 : decode cX4_hasKeyBeside 2 = .ok (.iload_n 3, 1) := by decide +kernel
theorem dX4_hasKeyBeside_3 : decode cX4_hasKeyBeside 3 = .ok (.sipush 240, 3) := by decide +kernel
theorem dX4_hasKeyBeside_6 : decode cX4_hasKeyBeside 6 = .ok (.if_icmp .ge 35, 3) := by decide +kernel
theorem dX4_hasKeyBeside_9 : decode cX4_hasKeyBeside 9 = .ok (.iload_n 3, 1) := by decide +kernel
theorem dX4_hasKeyBeside_10 : decode cX4_hasKeyBeside 10 = .ok (.iload_n 2, 1) := by decide +kernel
theorem dX4_hasKeyBeside_11 : decode cX4_hasKeyBeside 11 = .ok (.if_icmp .eq 24, 3) := by decide +kernel
theorem dX4_hasKeyBeside_14 : decode cX4_hasKeyBeside 14 = .ok (.aload_n 0, 1) := by decide +kernel
theorem dX4_hasKeyBeside_15 : decode cX4_hasKeyBeside 15 = .ok (.getfield 18, 3) := by decide +kernel
theorem dX4_hasKeyBeside_18 : decode cX4_hasKeyBeside 18 = .ok (.iload_n 3, 1) := by decide +kernel
theorem dX4_hasKeyBeside_19 : decode cX4_hasKeyBeside 19 = .ok (.baload, 1) := by decide +kernel
theorem dX4_hasKeyBeside_20 : decode cX4_hasKeyBeside 20 = .ok (.ifCond .eq 15, 3) := by decide +kernel
theorem dX4_hasKeyBeside_23 : decode cX4_hasKeyBeside 23 = .ok (.aload_n 0, 1) := by decide +kernel
theorem dX4_hasKeyBeside_24 : decode cX4_hasKeyBeside 24 = .ok (.getfield 9, 3) := by decide +kernel
theorem dX4_hasKeyBeside_27 : decode cX4_hasKeyBeside 27 = .ok (.iload_n 3, 1) := by decide +kernel
theorem dX4_hasKeyBeside_28 : decode cX4_hasKeyBeside 28 = .ok (.iaload, 1) := by decide +kernel
theorem dX4_hasKeyBeside_29 : decode cX4_hasKeyBeside 29 = .ok (.iload_n 1, 1) := by decide +kernel
theorem dX4_hasKeyBeside_30 : decode cX4_hasKeyBeside 30 = .ok (.if_icmp .ne 5, 3) := by decide +kernel
theorem dX4_hasKeyBeside_33 : decode cX4_hasKeyBeside 33 = .ok (.iconst 1, 1) := by decide +kernel
theorem dX4_hasKeyBeside_34 : decode cX4_hasKeyBeside 34 = .ok (.ireturn, 1) := by decide +kernel
theorem dX4_hasKeyBeside_35 : decode cX4_hasKeyBeside 35 = .ok (.iinc 3 1, 3) := by decide +kernel
theorem dX4_hasKeyBeside_38 : decode cX4_hasKeyBeside 38 = .ok (.goto (-36), 3) := by decide +kernel
theorem dX4_hasKeyBeside_41 : decode cX4_hasKeyBeside 41 = .ok (.iconst 0, 1) := by decide +kernel
theorem dX4_hasKeyBeside_42 : decode cX4_hasKeyBeside 42 = .ok (.ireturn, 1) := by decide +kernel
theorem dX4_put_0 : decode cX4_put 0 = .ok (.iload_n 1, 1) := by decide +kernel
theorem dX4_put_1 : decode cX4_put 1 = .ok (.ifCond .lt 10, 3) := by decide +kernel
theorem dX4_put_4 : decode cX4_put 4 = .ok (.iload_n 1, 1) := by decide +kernel
theorem dX4_put_5 : decode cX4_put 5 = .ok (.sipush 240, 3) := by decide +kernel
theorem dX4_put_8 : decode cX4_put 8 = .ok (.if_icmp .lt 4, 3) := by decide +kernel
theorem dX4_put_11 : decode cX4_put 11 = .ok (.return_, 1) := by decide +kernel
theorem dX4_put_12 : decode cX4_put 12 = .ok (.aload_n 0, 1) := by decide +kernel
theorem dX4_put_13 : decode cX4_put 13 = .ok (.getfield 18, 3) := by decide +kernel
theorem dX4_put_16 : decode cX4_put 16 = .ok (.iload_n 1, 1) := by decide +kernel
theorem dX4_put_17 : decode cX4_put 17 = .ok (.baload, 1) := by decide +kernel
theorem dX4_put_18 : decode cX4_put 18 = .ok (.ifCond .ne 20, 3) := by decide +kernel
theorem dX4_put_21 : decode cX4_put 21 = .ok (.aload_n 0, 1) := by decide +kernel
theorem dX4_put_22 : decode cX4_put 22 = .ok (.getfield 18, 3) := by decide +kernel
theorem dX4_put_25 : decode cX4_put 25 = .ok (.iload_n 1, 1) := by decide +kernel
theorem dX4_put_26 : decode cX4_put 26 = .ok (.iconst 1, 1) := by decide +kernel
theorem dX4_put_27 : decode cX4_put 27 = .ok (.bastore, 1) := by decide +kernel
theorem dX4_put_28 : decode cX4_put 28 = .ok (.aload_n 0, 1) := by decide +kernel
theorem dX4_put_29 : decode cX4_put 29 = .ok (.dup, 1) := by decide +kernel
theorem dX4_put_30 : decode cX4_put 30 = .ok (.getfield 25, 3) := by decide +kernel
theorem dX4_put_33 : decode cX4_put 33 = .ok (.iconst 1, 1) := by decide +kernel
theorem dX4_put_34 : decode cX4_put 34 = .ok (.iadd, 1) := by decide +kernel
theorem dX4_put_35 : decode cX4_put 35 = .ok (.putfield 25, 3) := by decide +kernel
theorem dX4_put_38 : decode cX4_put 38 = .ok (.aload_n 0, 1) := by decide +kernel
theorem dX4_put_39 : decode cX4_put 39 = .ok (.getfield 9, 3) := by decide +kernel
theorem dX4_put_42 : decode cX4_put 42 = .ok (.iload_n 1, 1) := by decide +kernel
theorem dX4_put_43 : decode cX4_put 43 = .ok (.iload_n 2, 1) := by decide +kernel
theorem dX4_put_44 : decode cX4_put 44 = .ok (.iastore, 1) := by decide +kernel
theorem dX4_put_45 : decode cX4_put 45 = .ok (.aload_n 0, 1) := by decide +kernel
theorem dX4_put_46 : decode cX4_put 46 = .ok (.getfield 15, 3) := by decide +kernel
theorem dX4_put_49 : decode cX4_put 49 = .ok (.iload_n 1, 1) := by decide +kernel
theorem dX4_put_50 : decode cX4_put 50 = .ok (.iload_n 3, 1) := by decide +kernel
theorem dX4_put_51 : decode cX4_put 51 = .ok (.iastore, 1) := by decide +kernel
theorem dX4_put_52 : decode cX4_put 52 = .ok (.aload_n 0, 1) := by decide +kernel
theorem dX4_put_53 : decode cX4_put 53 = .ok (.getfield 22, 3) := by decide +kernel
theorem dX4_put_56 : decode cX4_put 56 = .ok (.iload_n 1, 1) := by decide +kernel
theorem dX4_put_57 : decode cX4_put 57 = .ok (.bipush 12, 2) := by decide +kernel
theorem dX4_put_59 : decode cX4_put 59 = .ok (.idiv, 1) := by decide +kernel
theorem dX4_put_60 : decode cX4_put 60 = .ok (.iconst 1, 1) := by decide +kernel
theorem dX4_put_61 : decode cX4_put 61 = .ok (.bastore, 1) := by decide +kernel
theorem dX4_put_62 : decode cX4_put 62 = .ok (.return_, 1) := by decide +kernel
theorem dX4_clearPlace_0 : decode cX4_clearPlace 0 = .ok (.aload_n 0, 1) := by decide +kernel
theorem dX4_clearPlace_1 : decode cX4_clearPlace 1 = .ok (.iload_n 1, 1) := by decide +kernel
theorem dX4_clearPlace_2 : decode cX4_clearPlace 2 = .ok (.invokevirtual 29, 3) := by decide +kernel
theorem dX4_clearPlace_5 : decode cX4_clearPlace 5 = .ok (.ifCond .eq 30, 3) := by decide +kernel
theorem dX4_clearPlace_8 : decode cX4_clearPlace 8 = .ok (.aload_n 0, 1) := by decide +kernel
theorem dX4_clearPlace_9 : decode cX4_clearPlace 9 = .ok (.getfield 18, 3) := by decide +kernel
theorem dX4_clearPlace_12 : decode cX4_clearPlace 12 = .ok (.iload_n 1, 1) := by decide +kernel
theorem dX4_clearPlace_13 : decode cX4_clearPlace 13 = .ok (.iconst 0, 1) := by decide +kernel
theorem dX4_clearPlace_14 : decode cX4_clearPlace 14 = .ok (.bastore, 1) := by decide +kernel
theorem dX4_clearPlace_15 : decode cX4_clearPlace 15 = .ok (.aload_n 0, 1) := by decide +kernel
theorem dX4_clearPlace_16 : decode cX4_clearPlace 16 = .ok (.dup, 1) := by decide +kernel
theorem dX4_clearPlace_17 : decode cX4_clearPlace 17 = .ok (.getfield 25, 3) := by decide +kernel
theorem dX4_clearPlace_20 : decode cX4_clearPlace 20 = .ok (.iconst 1, 1) := by decide +kernel
theorem dX4_clearPlace_21 : decode cX4_clearPlace 21 = .ok (.isub, 1) := by decide +kernel
theorem dX4_clearPlace_22 : decode cX4_clearPlace 22 = .ok (.putfield 25, 3) := by decide +kernel
theorem dX4_clearPlace_25 : decode cX4_clearPlace 25 = .ok (.aload_n 0, 1) := by decide +kernel
theorem dX4_clearPlace_26 : decode cX4_clearPlace 26 = .ok (.getfield 22, 3) := by decide +kernel
theorem dX4_clearPlace_29 : decode cX4_clearPlace 29 = .ok (.iload_n 1, 1) := by decide +kernel
theorem dX4_clearPlace_30 : decode cX4_clearPlace 30 = .ok (.bipush 12, 2) := by decide +kernel
theorem dX4_clearPlace_32 : decode cX4_clearPlace 32 = .ok (.idiv, 1) := by decide +kernel
theorem dX4_clearPlace_33 : decode cX4_clearPlace 33 = .ok (.iconst 1, 1) := by decide +kernel
theorem dX4_clearPlace_34 : decode cX4_clearPlace 34 = .ok (.bastore, 1) := by decide +kernel
theorem dX4_clearPlace_35 : decode cX4_clearPlace 35 = .ok (.return_, 1) := by decide +kernel
theorem dX4_tell_0 : decode cX4_tell 0 = .ok (.iconst 0, 1) := by decide +kernel
theorem dX4_tell_1 : decode cX4_tell 1 = .ok (.istore 4, 2) := by decide +kernel
theorem dX4_tell_3 : decode cX4_tell 3 = .ok (.iconst 0, 1) := by decide +kernel
theorem dX4_tell_4 : decode cX4_tell 4 = .ok (.istore 5, 2) := by decide +kernel
theorem dX4_tell_6 : decode cX4_tell 6 = .ok (.iload 5, 2) := by decide +kernel
theorem dX4_tell_8 : decode cX4_tell 8 = .ok (.sipush 240, 3) := by decide +kernel
theorem dX4_tell_11 : decode cX4_tell 11 = .ok (.if_icmp .ge 57, 3) := by decide +kernel
theorem dX4_tell_14 : decode cX4_tell 14 = .ok (.iload 4, 2) := by decide +kernel
theorem dX4_tell_16 : decode cX4_tell 16 = .ok (.aload_n 3, 1) := by decide +kernel
theorem dX4_tell_17 : decode cX4_tell 17 = .ok (.arraylength, 1) := by decide +kernel
theorem dX4_tell_18 : decode cX4_tell 18 = .ok (.if_icmp .ge 50, 3) := by decide +kernel
theorem dX4_tell_21 : decode cX4_tell 21 = .ok (.aload_n 0, 1) := by decide +kernel
theorem dX4_tell_22 : decode cX4_tell 22 = .ok (.getfield 18, 3) := by decide +kernel
theorem dX4_tell_25 : decode cX4_tell 25 = .ok (.iload 5, 2) := by decide +kernel
theorem dX4_tell_27 : decode cX4_tell 27 = .ok (.baload, 1) := by decide +kernel
theorem dX4_tell_28 : decode cX4_tell 28 = .ok (.ifCond .eq 34, 3) := by decide +kernel
theorem dX4_tell_31 : decode cX4_tell 31 = .ok (.aload_n 0, 1) := by decide +kernel
theorem dX4_tell_32 : decode cX4_tell 32 = .ok (.getfield 9, 3) := by decide +kernel
theorem dX4_tell_35 : decode cX4_tell 35 = .ok (.iload 5, 2) := by decide +kernel
theorem dX4_tell_37 : decode cX4_tell 37 = .ok (.iaload, 1) := by decide +kernel
theorem dX4_tell_38 : decode cX4_tell 38 = .ok (.iload_n 1, 1) := by decide +kernel
theorem dX4_tell_39 : decode cX4_tell 39 = .ok (.if_icmp .lt 23, 3) := by decide +kernel
theorem dX4_tell_42 : decode cX4_tell 42 = .ok (.aload_n 0, 1) := by decide +kernel
theorem dX4_tell_43 : decode cX4_tell 43 = .ok (.getfield 9, 3) := by decide +kernel
theorem dX4_tell_46 : decode cX4_tell 46 = .ok (.iload 5, 2) := by decide +kernel
theorem dX4_tell_48 : decode cX4_tell 48 = .ok (.iaload, 1) := by decide +kernel
theorem dX4_tell_49 : decode cX4_tell 49 = .ok (.iload_n 2, 1) := by decide +kernel
theorem dX4_tell_50 : decode cX4_tell 50 = .ok (.if_icmp .gt 12, 3) := by decide +kernel
theorem dX4_tell_53 : decode cX4_tell 53 = .ok (.aload_n 3, 1) := by decide +kernel
theorem dX4_tell_54 : decode cX4_tell 54 = .ok (.iload 4, 2) := by decide +kernel
theorem dX4_tell_56 : decode cX4_tell 56 = .ok (.iload 5, 2) := by decide +kernel
theorem dX4_tell_58 : decode cX4_tell 58 = .ok (.iastore, 1) := by decide +kernel
theorem dX4_tell_59 : decode cX4_tell 59 = .ok (.iinc 4 1, 3) := by decide +kernel
theorem dX4_tell_62 : decode cX4_tell 62 = .ok (.iinc 5 1, 3) := by decide +kernel
theorem dX4_tell_65 : decode cX4_tell 65 = .ok (.goto (-59), 3) := by decide +kernel
theorem dX4_tell_68 : decode cX4_tell 68 = .ok (.iload 4, 2) := by decide +kernel
theorem dX4_tell_70 : decode cX4_tell 70 = .ok (.ireturn, 1) := by decide +kernel
theorem dX4_touchedPages_0 : decode cX4_touchedPages 0 = .ok (.iconst 0, 1) := by decide +kernel
theorem dX4_touchedPages_1 : decode cX4_touchedPages 1 = .ok (.istore_n 1, 1) := by decide +kernel
theorem dX4_touchedPages_2 : decode cX4_touchedPages 2 = .ok (.iconst 0, 1) := by decide +kernel
theorem dX4_touchedPages_3 : decode cX4_touchedPages 3 = .ok (.istore_n 2, 1) := by decide +kernel
theorem dX4_touchedPages_4 : decode cX4_touchedPages 4 = .ok (.iload_n 2, 1) := by decide +kernel
theorem dX4_touchedPages_5 : decode cX4_touchedPages 5 = .ok (.bipush 20, 2) := by decide +kernel
theorem dX4_touchedPages_7 : decode cX4_touchedPages 7 = .ok (.if_icmp .ge 21, 3) := by decide +kernel
theorem dX4_touchedPages_10 : decode cX4_touchedPages 10 = .ok (.aload_n 0, 1) := by decide +kernel
theorem dX4_touchedPages_11 : decode cX4_touchedPages 11 = .ok (.getfield 22, 3) := by decide +kernel
theorem dX4_touchedPages_14 : decode cX4_touchedPages 14 = .ok (.iload_n 2, 1) := by decide +kernel
theorem dX4_touchedPages_15 : decode cX4_touchedPages 15 = .ok (.baload, 1) := by decide +kernel
theorem dX4_touchedPages_16 : decode cX4_touchedPages 16 = .ok (.ifCond .eq 6, 3) := by decide +kernel
theorem dX4_touchedPages_19 : decode cX4_touchedPages 19 = .ok (.iinc 1 1, 3) := by decide +kernel
theorem dX4_touchedPages_22 : decode cX4_touchedPages 22 = .ok (.iinc 2 1, 3) := by decide +kernel
theorem dX4_touchedPages_25 : decode cX4_touchedPages 25 = .ok (.goto (-21), 3) := by decide +kernel
theorem dX4_touchedPages_28 : decode cX4_touchedPages 28 = .ok (.iload_n 1, 1) := by decide +kernel
theorem dX4_touchedPages_29 : decode cX4_touchedPages 29 = .ok (.ireturn, 1) := by decide +kernel
theorem dX4_untouch_0 : decode cX4_untouch 0 = .ok (.iconst 0, 1) := by decide +kernel
theorem dX4_untouch_1 : decode cX4_untouch 1 = .ok (.istore_n 1, 1) := by decide +kernel
theorem dX4_untouch_2 : decode cX4_untouch 2 = .ok (.iload_n 1, 1) := by decide +kernel
theorem dX4_untouch_3 : decode cX4_untouch 3 = .ok (.bipush 20, 2) := by decide +kernel
theorem dX4_untouch_5 : decode cX4_untouch 5 = .ok (.if_icmp .ge 16, 3) := by decide +kernel
theorem dX4_untouch_8 : decode cX4_untouch 8 = .ok (.aload_n 0, 1) := by decide +kernel
theorem dX4_untouch_9 : decode cX4_untouch 9 = .ok (.getfield 22, 3) := by decide +kernel
theorem dX4_untouch_12 : decode cX4_untouch 12 = .ok (.iload_n 1, 1) := by decide +kernel
theorem dX4_untouch_13 : decode cX4_untouch 13 = .ok (.iconst 0, 1) := by decide +kernel
theorem dX4_untouch_14 : decode cX4_untouch 14 = .ok (.bastore, 1) := by decide +kernel
theorem dX4_untouch_15 : decode cX4_untouch 15 = .ok (.iinc 1 1, 3) := by decide +kernel
theorem dX4_untouch_18 : decode cX4_untouch 18 = .ok (.goto (-16), 3) := by decide +kernel
theorem dX4_untouch_21 : decode cX4_untouch 21 = .ok (.return_, 1) := by decide +kernel
theorem dX5_init_0 : decode cX5_init 0 = .ok (.aload_n 0, 1) := by decide +kernel
theorem dX5_init_1 : decode cX5_init 1 = .ok (.invokespecial 3, 3) := by decide +kernel
theorem dX5_init_4 : decode cX5_init 4 = .ok (.aload_n 0, 1) := by decide +kernel
theorem dX5_init_5 : decode cX5_init 5 = .ok (.bipush 64, 2) := by decide +kernel
theorem dX5_init_7 : decode cX5_init 7 = .ok (.bipush 9, 2) := by decide +kernel
theorem dX5_init_9 : decode cX5_init 9 = .ok (.multianewarray 9 2, 4) := by decide +kernel
theorem dX5_init_13 : decode cX5_init 13 = .ok (.putfield 11, 3) := by decide +kernel
theorem dX5_init_16 : decode cX5_init 16 = .ok (.aload_n 0, 1) := by decide +kernel
theorem dX5_init_17 : decode cX5_init 17 = .ok (.bipush 64, 2) := by decide +kernel
theorem dX5_init_19 : decode cX5_init 19 = .ok (.newarray .int, 2) := by decide +kernel
theorem dX5_init_21 : decode cX5_init 21 = .ok (.putfield 16, 3) := by decide +kernel
theorem dX5_init_24 : decode cX5_init 24 = .ok (.aload_n 0, 1) := by decide +kernel
theorem dX5_init_25 : decode cX5_init 25 = .ok (.bipush 64, 2) := by decide +kernel
theorem dX5_init_27 : decode cX5_init 27 = .ok (.newarray .boolean, 2) := by decide +kernel
theorem dX5_init_29 : decode cX5_init 29 = .ok (.putfield 20, 3) := by decide +kernel
theorem dX5_init_32 : decode cX5_init 32 = .ok (.aload_n 0, 1) := by decide +kernel
theorem dX5_init_33 : decode cX5_init 33 = .ok (.bipush 64, 2) := by decide +kernel
theorem dX5_init_35 : decode cX5_init 35 = .ok (.newarray .boolean, 2) := by decide +kernel
theorem dX5_init_37 : decode cX5_init 37 = .ok (.putfield 24, 3) := by decide +kernel
theorem dX5_init_40 : decode cX5_init 40 = .ok (.aload_n 0, 1) := by decide +kernel
theorem dX5_init_41 : decode cX5_init 41 = .ok (.bipush 64, 2) := by decide +kernel
theorem dX5_init_43 : decode cX5_init 43 = .ok (.newarray .boolean, 2) := by decide +kernel
theorem dX5_init_45 : decode cX5_init 45 = .ok (.putfield 27, 3) := by decide +kernel
theorem dX5_init_48 : decode cX5_init 48 = .ok (.aload_n 0, 1) := by decide +kernel
theorem dX5_init_49 : decode cX5_init 49 = .ok (.iconst 0, 1) := by decide +kernel
theorem dX5_init_50 : decode cX5_init 50 = .ok (.putfield 30, 3) := by decide +kernel
theorem dX5_init_53 : decode cX5_init 53 = .ok (.aload_n 0, 1) := by decide +kernel
theorem dX5_init_54 : decode cX5_init 54 = .ok (.iconst 0, 1) := by decide +kernel
theorem dX5_init_55 : decode cX5_init 55 = .ok (.putfield 34, 3) := by decide +kernel
theorem dX5_init_58 : decode cX5_init 58 = .ok (.aload_n 0, 1) := by decide +kernel
theorem dX5_init_59 : decode cX5_init 59 = .ok (.iconst 0, 1) := by decide +kernel
theorem dX5_init_60 : decode cX5_init 60 = .ok (.putfield 37, 3) := by decide +kernel
theorem dX5_init_63 : decode cX5_init 63 = .ok (.aload_n 0, 1) := by decide +kernel
theorem dX5_init_64 : decode cX5_init 64 = .ok (.bipush 64, 2) := by decide +kernel
theorem dX5_init_66 : decode cX5_init 66 = .ok (.newarray .int, 2) := by decide +kernel
theorem dX5_init_68 : decode cX5_init 68 = .ok (.putfield 40, 3) := by decide +kernel
theorem dX5_init_71 : decode cX5_init 71 = .ok (.aload_n 0, 1) := by decide +kernel
theorem dX5_init_72 : decode cX5_init 72 = .ok (.bipush 64, 2) := by decide +kernel
theorem dX5_init_74 : decode cX5_init 74 = .ok (.newarray .int, 2) := by decide +kernel
theorem dX5_init_76 : decode cX5_init 76 = .ok (.putfield 43, 3) := by decide +kernel
theorem dX5_init_79 : decode cX5_init 79 = .ok (.aload_n 0, 1) := by decide +kernel
theorem dX5_init_80 : decode cX5_init 80 = .ok (.iconst 0, 1) := by decide +kernel
theorem dX5_init_81 : decode cX5_init 81 = .ok (.putfield 46, 3) := by decide +kernel
theorem dX5_init_84 : decode cX5_init 84 = .ok (.aload_n 0, 1) := by decide +kernel
theorem dX5_init_85 : decode cX5_init 85 = .ok (.bipush 64, 2) := by decide +kernel
theorem dX5_init_87 : decode cX5_init 87 = .ok (.newarray .int, 2) := by decide +kernel
theorem dX5_init_89 : decode cX5_init 89 = .ok (.putfield 49, 3) := by decide +kernel
theorem dX5_init_92 : decode cX5_init 92 = .ok (.aload_n 0, 1) := by decide +kernel
theorem dX5_init_93 : decode cX5_init 93 = .ok (.bipush 64, 2) := by decide +kernel
theorem dX5_init_95 : decode cX5_init 95 = .ok (.newarray .int, 2) := by decide +kernel
theorem dX5_init_97 : decode cX5_init 97 = .ok (.putfield 52, 3) := by decide +kernel
theorem dX5_init_100 : decode cX5_init 100 = .ok (.return_, 1) := by decide +kernel
theorem dX5_clear_0 : decode cX5_clear 0 = .ok (.iconst 0, 1) := by decide +kernel
theorem dX5_clear_1 : decode cX5_clear 1 = .ok (.istore_n 1, 1) := by decide +kernel
theorem dX5_clear_2 : decode cX5_clear 2 = .ok (.iload_n 1, 1) := by decide +kernel
theorem dX5_clear_3 : decode cX5_clear 3 = .ok (.bipush 64, 2) := by decide +kernel
theorem dX5_clear_5 : decode cX5_clear 5 = .ok (.if_icmp .ge 30, 3) := by decide +kernel
theorem dX5_clear_8 : decode cX5_clear 8 = .ok (.aload_n 0, 1) := by decide +kernel
theorem dX5_clear_9 : decode cX5_clear 9 = .ok (.getfield 24, 3) := by decide +kernel
theorem dX5_clear_12 : decode cX5_clear 12 = .ok (.iload_n 1, 1) := by decide +kernel
theorem dX5_clear_13 : decode cX5_clear 13 = .ok (.iconst 0, 1) := by decide +kernel
theorem dX5_clear_14 : decode cX5_clear 14 = .ok (.bastore, 1) := by decide +kernel
theorem dX5_clear_15 : decode cX5_clear 15 = .ok (.aload_n 0, 1) := by decide +kernel
theorem dX5_clear_16 : decode cX5_clear 16 = .ok (.getfield 20, 3) := by decide +kernel
theorem dX5_clear_19 : decode cX5_clear 19 = .ok (.iload_n 1, 1) := by decide +kernel
theorem dX5_clear_20 : decode cX5_clear 20 = .ok (.iconst 0, 1) := by decide +kernel
theorem dX5_clear_21 : decode cX5_clear 21 = .ok (.bastore, 1) := by decide +kernel
theorem dX5_clear_22 : decode cX5_clear 22 = .ok (.aload_n 0, 1) := by decide +kernel
theorem dX5_clear_23 : decode cX5_clear 23 = .ok (.getfield 16, 3) := by decide +kernel
theorem dX5_clear_26 : decode cX5_clear 26 = .ok (.iload_n 1, 1) := by decide +kernel
theorem dX5_clear_27 : decode cX5_clear 27 = .ok (.iconst 0, 1) := by decide +kernel
theorem dX5_clear_28 : decode cX5_clear 28 = .ok (.iastore, 1) := by decide +kernel
theorem dX5_clear_29 : decode cX5_clear 29 = .ok (.iinc 1 1, 3) := by decide +kernel
theorem dX5_clear_32 : decode cX5_clear 32 = .ok (.goto (-30), 3) := by decide +kernel
theorem dX5_clear_35 : decode cX5_clear 35 = .ok (.aload_n 0, 1) := by decide +kernel
theorem dX5_clear_36 : decode cX5_clear 36 = .ok (.iconst 0, 1) := by decide +kernel
theorem dX5_clear_37 : decode cX5_clear 37 = .ok (.putfield 30, 3) := by decide +kernel
theorem dX5_clear_40 : decode cX5_clear 40 = .ok (.aload_n 0, 1) := by decide +kernel
theorem dX5_clear_41 : decode cX5_clear 41 = .ok (.iconst 0, 1) := by decide +kernel
theorem dX5_clear_42 : decode cX5_clear 42 = .ok (.putfield 34, 3) := by decide +kernel
theorem dX5_clear_45 : decode cX5_clear 45 = .ok (.aload_n 0, 1) := by decide +kernel
theorem dX5_clear_46 : decode cX5_clear 46 = .ok (.iconst 0, 1) := by decide +kernel
theorem dX5_clear_47 : decode cX5_clear 47 = .ok (.putfield 37, 3) := by decide +kernel
theorem dX5_clear_50 : decode cX5_clear 50 = .ok (.return_, 1) := by decide +kernel
theorem dX5_nodeCount_0 : decode cX5_nodeCount 0 = .ok (.aload_n 0, 1) := by decide +kernel
theorem dX5_nodeCount_1 : decode cX5_nodeCount 1 = .ok (.getfield 30, 3) := by decide +kernel
theorem dX5_nodeCount_4 : decode cX5_nodeCount 4 = .ok (.ireturn, 1) := by decide +kernel
theorem dX5_entryCount_0 : decode cX5_entryCount 0 = .ok (.aload_n 0, 1) := by decide +kernel
theorem dX5_entryCount_1 : decode cX5_entryCount 1 = .ok (.getfield 34, 3) := by decide +kernel
theorem dX5_entryCount_4 : decode cX5_entryCount 4 = .ok (.ireturn, 1) := by decide +kernel
theorem dX5_touchedCount_0 : decode cX5_touchedCount 0 = .ok (.iconst 0, 1) := by decide +kernel
theorem dX5_touchedCount_1 : decode cX5_touchedCount 1 = .ok (.istore_n 1, 1) := by decide +kernel
theorem dX5_touchedCount_2 : decode cX5_touchedCount 2 = .ok (.iconst 0, 1) := by decide +kernel
theorem dX5_touchedCount_3 : decode cX5_touchedCount 3 = .ok (.istore_n 2, 1) := by decide +kernel
theorem dX5_touchedCount_4 : decode cX5_touchedCount 4 = .ok (.iload_n 2, 1) := by decide +kernel
theorem dX5_touchedCount_5 : decode cX5_touchedCount 5 = .ok (.bipush 64, 2) := by decide +kernel
theorem dX5_touchedCount_7 : decode cX5_touchedCount 7 = .ok (.if_icmp .ge 30, 3) := by decide +kernel
theorem dX5_touchedCount_10 : decode cX5_touchedCount 10 = .ok (.aload_n 0, 1) := by decide +kernel
theorem dX5_touchedCount_11 : decode cX5_touchedCount 11 = .ok (.getfield 24, 3) := by decide +kernel
theorem dX5_touchedCount_14 : decode cX5_touchedCount 14 = .ok (.iload_n 2, 1) := by decide +kernel
theorem dX5_touchedCount_15 : decode cX5_touchedCount 15 = .ok (.baload, 1) := by decide +kernel
theorem dX5_touchedCount_16 : decode cX5_touchedCount 16 = .ok (.ifCond .eq 15, 3) := by decide +kernel
theorem dX5_touchedCount_19 : decode cX5_touchedCount 19 = .ok (.aload_n 0, 1) := by decide +kernel
theorem dX5_touchedCount_20 : decode cX5_touchedCount 20 = .ok (.getfield 27, 3) := by decide +kernel
theorem dX5_touchedCount_23 : decode cX5_touchedCount 23 = .ok (.iload_n 2, 1) := by decide +kernel
theorem dX5_touchedCount_24 : decode cX5_touchedCount 24 = .ok (.baload, 1) := by decide +kernel
theorem dX5_touchedCount_25 : decode cX5_touchedCount 25 = .ok (.ifCond .eq 6, 3) := by decide +kernel
theorem dX5_touchedCount_28 : decode cX5_touchedCount 28 = .ok (.iinc 1 1, 3) := by decide +kernel
theorem dX5_touchedCount_31 : decode cX5_touchedCount 31 = .ok (.iinc 2 1, 3) := by decide +kernel
theorem dX5_touchedCount_34 : decode cX5_touchedCount 34 = .ok (.goto (-30), 3) := by decide +kernel
theorem dX5_touchedCount_37 : decode cX5_touchedCount 37 = .ok (.iload_n 1, 1) := by decide +kernel
theorem dX5_touchedCount_38 : decode cX5_touchedCount 38 = .ok (.ireturn, 1) := by decide +kernel
theorem dX5_untouch_0 : decode cX5_untouch 0 = .ok (.iconst 0, 1) := by decide +kernel
theorem dX5_untouch_1 : decode cX5_untouch 1 = .ok (.istore_n 1, 1) := by decide +kernel
theorem dX5_untouch_2 : decode cX5_untouch 2 = .ok (.iload_n 1, 1) := by decide +kernel
theorem dX5_untouch_3 : decode cX5_untouch 3 = .ok (.bipush 64, 2) := by decide +kernel
theorem dX5_untouch_5 : decode cX5_untouch 5 = .ok (.if_icmp .ge 16, 3) := by decide +kernel
theorem dX5_untouch_8 : decode cX5_untouch 8 = .ok (.aload_n 0, 1) := by decide +kernel
theorem dX5_untouch_9 : decode cX5_untouch 9 = .ok (.getfield 27, 3) := by decide +kernel
theorem dX5_untouch_12 : decode cX5_untouch 12 = .ok (.iload_n 1, 1) := by decide +kernel
theorem dX5_untouch_13 : decode cX5_untouch 13 = .ok (.iconst 0, 1) := by decide +kernel
theorem dX5_untouch_14 : decode cX5_untouch 14 = .ok (.bastore, 1) := by decide +kernel
theorem dX5_untouch_15 : decode cX5_untouch 15 = .ok (.iinc 1 1, 3) := by decide +kernel
theorem dX5_untouch_18 : decode cX5_untouch 18 = .ok (.goto (-16), 3) := by decide +kernel
theorem dX5_untouch_21 : decode cX5_untouch 21 = .ok (.return_, 1) := by decide +kernel
theorem dX5_newNode_0 : decode cX5_newNode 0 = .ok (.iconst 0, 1) := by decide +kernel
theorem dX5_newNode_1 : decode cX5_newNode 1 = .ok (.istore_n 2, 1) := by decide +kernel
theorem dX5_newNode_2 : decode cX5_newNode 2 = .ok (.iload_n 2, 1) := by decide +kernel
theorem dX5_newNode_3 : decode cX5_newNode 3 = .ok (.bipush 64, 2) := by decide +kernel
theorem dX5_newNode_5 : decode cX5_newNode 5 = .ok (.if_icmp .ge 58, 3) := by decide +kernel
theorem dX5_newNode_8 : decode cX5_newNode 8 = .ok (.aload_n 0, 1) := by decide +kernel
theorem dX5_newNode_9 : decode cX5_newNode 9 = .ok (.getfield 24, 3) := by decide +kernel
theorem dX5_newNode_12 : decode cX5_newNode 12 = .ok (.iload_n 2, 1) := by decide +kernel
theorem dX5_newNode_13 : decode cX5_newNode 13 = .ok (.baload, 1) := by decide +kernel
theorem dX5_newNode_14 : decode cX5_newNode 14 = .ok (.ifCond .ne 43, 3) := by decide +kernel
theorem dX5_newNode_17 : decode cX5_newNode 17 = .ok (.aload_n 0, 1) := by decide +kernel
theorem dX5_newNode_18 : decode cX5_newNode 18 = .ok (.getfield 24, 3) := by decide +kernel
theorem dX5_newNode_21 : decode cX5_newNode 21 = .ok (.iload_n 2, 1) := by decide +kernel
theorem dX5_newNode_22 : decode cX5_newNode 22 = .ok (.iconst 1, 1) := by decide +kernel
theorem dX5_newNode_23 : decode cX5_newNode 23 = .ok (.bastore, 1) := by decide +kernel
theorem dX5_newNode_24 : decode cX5_newNode 24 = .ok (.aload_n 0, 1) := by decide +kernel
theorem dX5_newNode_25 : decode cX5_newNode 25 = .ok (.getfield 20, 3) := by decide +kernel
theorem dX5_newNode_28 : decode cX5_newNode 28 = .ok (.iload_n 2, 1) := by decide +kernel
theorem dX5_newNode_29 : decode cX5_newNode 29 = .ok (.iload_n 1, 1) := by decide +kernel
theorem dX5_newNode_30 : decode cX5_newNode 30 = .ok (.bastore, 1) := by decide +kernel
theorem dX5_newNode_31 : decode cX5_newNode 31 = .ok (.aload_n 0, 1) := by decide +kernel
theorem dX5_newNode_32 : decode cX5_newNode 32 = .ok (.getfield 27, 3) := by decide +kernel
theorem dX5_newNode_35 : decode cX5_newNode 35 = .ok (.iload_n 2, 1) := by decide +kernel
theorem dX5_newNode_36 : decode cX5_newNode 36 = .ok (.iconst 1, 1) := by decide +kernel
theorem dX5_newNode_37 : decode cX5_newNode 37 = .ok (.bastore, 1) := by decide +kernel
theorem dX5_newNode_38 : decode cX5_newNode 38 = .ok (.aload_n 0, 1) := by decide +kernel
theorem dX5_newNode_39 : decode cX5_newNode 39 = .ok (.getfield 16, 3) := by decide +kernel
theorem dX5_newNode_42 : decode cX5_newNode 42 = .ok (.iload_n 2, 1) := by decide +kernel
theorem dX5_newNode_43 : decode cX5_newNode 43 = .ok (.iconst 0, 1) := by decide +kernel
theorem dX5_newNode_44 : decode cX5_newNode 44 = .ok (.iastore, 1) := by decide +kernel
theorem dX5_newNode_45 : decode cX5_newNode 45 = .ok (.aload_n 0, 1) := by decide +kernel
theorem dX5_newNode_46 : decode cX5_newNode 46 = .ok (.dup, 1) := by decide +kernel
theorem dX5_newNode_47 : decode cX5_newNode 47 = .ok (.getfield 30, 3) := by decide +kernel
theorem dX5_newNode_50 : decode cX5_newNode 50 = .ok (.iconst 1, 1) := by decide +kernel
theorem dX5_newNode_51 : decode cX5_newNode 51 = .ok (.iadd, 1) := by decide +kernel
theorem dX5_newNode_52 : decode cX5_newNode 52 = .ok (.putfield 30, 3) := by decide +kernel
theorem dX5_newNode_55 : decode cX5_newNode 55 = .ok (.iload_n 2, 1) := by decide +kernel
theorem dX5_newNode_56 : decode cX5_newNode 56 = .ok (.ireturn, 1) := by decide +kernel
theorem dX5_newNode_57 : decode cX5_newNode 57 = .ok (.iinc 2 1, 3) := by decide +kernel
theorem dX5_newNode_60 : decode cX5_newNode 60 = .ok (.goto (-58), 3) := by decide +kernel
theorem dX5_newNode_63 : decode cX5_newNode 63 = .ok (.iconst (-1), 1) := by decide +kernel
theorem dX5_newNode_64 : decode cX5_newNode 64 = .ok (.ireturn, 1) := by decide +kernel
theorem dX5_freeNode_0 : decode cX5_freeNode 0 = .ok (.aload_n 0, 1) := by decide +kernel
theorem dX5_freeNode_1 : decode cX5_freeNode 1 = .ok (.getfield 24, 3) := by decide +kernel
theorem dX5_freeNode_4 : decode cX5_freeNode 4 = .ok (.iload_n 1, 1) := by decide +kernel
theorem dX5_freeNode_5 : decode cX5_freeNode 5 = .ok (.iconst 0, 1) := by decide +kernel
theorem dX5_freeNode_6 : decode cX5_freeNode 6 = .ok (.bastore, 1) := by decide +kernel
theorem dX5_freeNode_7 : decode cX5_freeNode 7 = .ok (.aload_n 0, 1) := by decide +kernel
theorem dX5_freeNode_8 : decode cX5_freeNode 8 = .ok (.getfield 20, 3) := by decide +kernel
theorem dX5_freeNode_11 : decode cX5_freeNode 11 = .ok (.iload_n 1, 1) := by decide +kernel
theorem dX5_freeNode_12 : decode cX5_freeNode 12 = .ok (.iconst 0, 1) := by decide +kernel
theorem dX5_freeNode_13 : decode cX5_freeNode 13 = .ok (.bastore, 1) := by decide +kernel
theorem dX5_freeNode_14 : decode cX5_freeNode 14 = .ok (.aload_n 0, 1) := by decide +kernel
theorem dX5_freeNode_15 : decode cX5_freeNode 15 = .ok (.getfield 16, 3) := by decide +kernel
theorem dX5_freeNode_18 : decode cX5_freeNode 18 = .ok (.iload_n 1, 1) := by decide +kernel
theorem dX5_freeNode_19 : decode cX5_freeNode 19 = .ok (.iconst 0, 1) := by decide +kernel
theorem dX5_freeNode_20 : decode cX5_freeNode 20 = .ok (.iastore, 1) := by decide +kernel
theorem dX5_freeNode_21 : decode cX5_freeNode 21 = .ok (.aload_n 0, 1) := by decide +kernel
theorem dX5_freeNode_22 : decode cX5_freeNode 22 = .ok (.dup, 1) := by decide +kernel
theorem dX5_freeNode_23 : decode cX5_freeNode 23 = .ok (.getfield 30, 3) := by decide +kernel
theorem dX5_freeNode_26 : decode cX5_freeNode 26 = .ok (.iconst 1, 1) := by decide +kernel
theorem dX5_freeNode_27 : decode cX5_freeNode 27 = .ok (.isub, 1) := by decide +kernel
theorem dX5_freeNode_28 : decode cX5_freeNode 28 = .ok (.putfield 30, 3) := by decide +kernel
theorem dX5_freeNode_31 : decode cX5_freeNode 31 = .ok (.return_, 1) := by decide +kernel
theorem dX5_append_0 : decode cX5_append 0 = .ok (.iload_n 1, 1) := by decide +kernel
theorem dX5_append_1 : decode cX5_append 1 = .ok (.ifCond .lt 21, 3) := by decide +kernel
theorem dX5_append_4 : decode cX5_append 4 = .ok (.iload_n 1, 1) := by decide +kernel
theorem dX5_append_5 : decode cX5_append 5 = .ok (.bipush 64, 2) := by decide +kernel
theorem dX5_append_7 : decode cX5_append 7 = .ok (.if_icmp .ge 15, 3) := by decide +kernel
theorem dX5_append_10 : decode cX5_append 10 = .ok (.aload_n 0, 1) := by decide +kernel
theorem dX5_append_11 : decode cX5_append 11 = .ok (.iload_n 1, 1) := by decide +kernel
theorem dX5_append_12 : decode cX5_append 12 = .ok (.aload_n 0, 1) := by decide +kernel
theorem dX5_append_13 : decode cX5_append 13 = .ok (.getfield 16, 3) := by decide +kernel
theorem dX5_append_16 : decode cX5_append 16 = .ok (.iload_n 1, 1) := by decide +kernel
theorem dX5_append_17 : decode cX5_append 17 = .ok (.iaload, 1) := by decide +kernel
theorem dX5_append_18 : decode cX5_append 18 = .ok (.lload_n 2, 1) := by decide +kernel
theorem dX5_append_19 : decode cX5_append 19 = .ok (.invokevirtual 55, 3) := by decide +kernel
theorem dX5_append_22 : decode cX5_append 22 = .ok (.return_, 1) := by decide +kernel
theorem dX5_finishLoad_0 : decode cX5_finishLoad 0 = .ok (.aload_n 0, 1) := by decide +kernel
theorem dX5_finishLoad_1 : decode cX5_finishLoad 1 = .ok (.iload_n 1, 1) := by decide +kernel
theorem dX5_finishLoad_2 : decode cX5_finishLoad 2 = .ok (.putfield 37, 3) := by decide +kernel
theorem dX5_finishLoad_5 : decode cX5_finishLoad 5 = .ok (.aload_n 0, 1) := by decide +kernel
theorem dX5_finishLoad_6 : decode cX5_finishLoad 6 = .ok (.iload_n 2, 1) := by decide +kernel
theorem dX5_finishLoad_7 : decode cX5_finishLoad 7 = .ok (.putfield 34, 3) := by decide +kernel
theorem dX5_finishLoad_10 : decode cX5_finishLoad 10 = .ok (.return_, 1) := by decide +kernel
theorem dX5_putIn_0 : decode cX5_putIn 0 = .ok (.iload_n 2, 1) := by decide +kernel
theorem dX5_putIn_1 : decode cX5_putIn 1 = .ok (.ifCond .lt 24, 3) := by decide +kernel
theorem dX5_putIn_4 : decode cX5_putIn 4 = .ok (.iload_n 2, 1) := by decide +kernel
theorem dX5_putIn_5 : decode cX5_putIn 5 = .ok (.aload_n 0, 1) := by decide +kernel
theorem dX5_putIn_6 : decode cX5_putIn 6 = .ok (.getfield 16, 3) := by decide +kernel
theorem dX5_putIn_9 : decode cX5_putIn 9 = .ok (.iload_n 1, 1) := by decide +kernel
theorem dX5_putIn_10 : decode cX5_putIn 10 = .ok (.iaload, 1) := by decide +kernel
theorem dX5_putIn_11 : decode cX5_putIn 11 = .ok (.if_icmp .gt 14, 3) := by decide +kernel
theorem dX5_putIn_14 : decode cX5_putIn 14 = .ok (.aload_n 0, 1) := by decide +kernel
theorem dX5_putIn_15 : decode cX5_putIn 15 = .ok (.getfield 16, 3) := by decide +kernel
theorem dX5_putIn_18 : decode cX5_putIn 18 = .ok (.iload_n 1, 1) := by decide +kernel
theorem dX5_putIn_19 : decode cX5_putIn 19 = .ok (.iaload, 1) := by decide +kernel
theorem dX5_putIn_20 : decode cX5_putIn 20 = .ok (.bipush 8, 2) := by decide +kernel
theorem dX5_putIn_22 : decode cX5_putIn 22 = .ok (.if_icmp .le 4, 3) := by decide +kernel
theorem dX5_putIn_25 : decode cX5_putIn 25 = .ok (.return_, 1) := by decide +kernel
theorem dX5_putIn_26 : decode cX5_putIn 26 = .ok (.aload_n 0, 1) := by decide +kernel
theorem dX5_putIn_27 : decode cX5_putIn 27 = .ok (.getfield 16, 3) := by decide +kernel
theorem dX5_putIn_30 : decode cX5_putIn 30 = .ok (.iload_n 1, 1) := by decide +kernel
theorem dX5_putIn_31 : decode cX5_putIn 31 = .ok (.iaload, 1) := by decide +kernel
theorem dX5_putIn_32 : decode cX5_putIn 32 = .ok (.istore 5, 2) := by decide +kernel
theorem dX5_putIn_34 : decode cX5_putIn 34 = .ok (.iload 5, 2) := by decide +kernel
theorem dX5_putIn_36 : decode cX5_putIn 36 = .ok (.iload_n 2, 1) := by decide +kernel
theorem dX5_putIn_37 : decode cX5_putIn 37 = .ok (.if_icmp .le 29, 3) := by decide +kernel
theorem dX5_putIn_40 : decode cX5_putIn 40 = .ok (.aload_n 0, 1) := by decide +kernel
theorem dX5_putIn_41 : decode cX5_putIn 41 = .ok (.getfield 11, 3) := by decide +kernel
theorem dX5_putIn_44 : decode cX5_putIn 44 = .ok (.iload_n 1, 1) := by decide +kernel
theorem dX5_putIn_45 : decode cX5_putIn 45 = .ok (.aaload, 1) := by decide +kernel
theorem dX5_putIn_46 : decode cX5_putIn 46 = .ok (.iload 5, 2) := by decide +kernel
theorem dX5_putIn_48 : decode cX5_putIn 48 = .ok (.aload_n 0, 1) := by decide +kernel
theorem dX5_putIn_49 : decode cX5_putIn 49 = .ok (.getfield 11, 3) := by decide +kernel
theorem dX5_putIn_52 : decode cX5_putIn 52 = .ok (.iload_n 1, 1) := by decide +kernel
theorem dX5_putIn_53 : decode cX5_putIn 53 = .ok (.aaload, 1) := by decide +kernel
theorem dX5_putIn_54 : decode cX5_putIn 54 = .ok (.iload 5, 2) := by decide +kernel
theorem dX5_putIn_56 : decode cX5_putIn 56 = .ok (.iconst 1, 1) := by decide +kernel
theorem dX5_putIn_57 : decode cX5_putIn 57 = .ok (.isub, 1) := by decide +kernel
theorem dX5_putIn_58 : decode cX5_putIn 58 = .ok (.laload, 1) := by decide +kernel
theorem dX5_putIn_59 : decode cX5_putIn 59 = .ok (.lastore, 1) := by decide +kernel
theorem dX5_putIn_60 : decode cX5_putIn 60 = .ok (.iinc 5 (-1), 3) := by decide +kernel
theorem dX5_putIn_63 : decode cX5_putIn 63 = .ok (.goto (-29), 3) := by decide +kernel
theorem dX5_putIn_66 : decode cX5_putIn 66 = .ok (.aload_n 0, 1) := by decide +kernel
theorem dX5_putIn_67 : decode cX5_putIn 67 = .ok (.getfield 11, 3) := by decide +kernel
theorem dX5_putIn_70 : decode cX5_putIn 70 = .ok (.iload_n 1, 1) := by decide +kernel
theorem dX5_putIn_71 : decode cX5_putIn 71 = .ok (.aaload, 1) := by decide +kernel
theorem dX5_putIn_72 : decode cX5_putIn 72 = .ok (.iload_n 2, 1) := by decide +kernel
theorem dX5_putIn_73 : decode cX5_putIn 73 = .ok (.lload_n 3, 1) := by decide +kernel
theorem dX5_putIn_74 : decode cX5_putIn 74 = .ok (.lastore, 1) := by decide +kernel
theorem dX5_putIn_75 : decode cX5_putIn 75 = .ok (.aload_n 0, 1) := by decide +kernel
theorem dX5_putIn_76 : decode cX5_putIn 76 = .ok (.getfield 16, 3) := by decide +kernel
theorem dX5_putIn_79 : decode cX5_putIn 79 = .ok (.iload_n 1, 1) := by decide +kernel
theorem dX5_putIn_80 : decode cX5_putIn 80 = .ok (.dup2, 1) := by decide +kernel
theorem dX5_putIn_81 : decode cX5_putIn 81 = .ok (.iaload, 1) := by decide +kernel
theorem dX5_putIn_82 : decode cX5_putIn 82 = .ok (.iconst 1, 1) := by decide +kernel
theorem dX5_putIn_83 : decode cX5_putIn 83 = .ok (.iadd, 1) := by decide +kernel
theorem dX5_putIn_84 : decode cX5_putIn 84 = .ok (.iastore, 1) := by decide +kernel
theorem dX5_putIn_85 : decode cX5_putIn 85 = .ok (.aload_n 0, 1) := by decide +kernel
theorem dX5_putIn_86 : decode cX5_putIn 86 = .ok (.getfield 27, 3) := by decide +kernel
theorem dX5_putIn_89 : decode cX5_putIn 89 = .ok (.iload_n 1, 1) := by decide +kernel
theorem dX5_putIn_90 : decode cX5_putIn 90 = .ok (.iconst 1, 1) := by decide +kernel
theorem dX5_putIn_91 : decode cX5_putIn 91 = .ok (.bastore, 1) := by decide +kernel
theorem dX5_putIn_92 : decode cX5_putIn 92 = .ok (.return_, 1) := by decide +kernel
theorem dX5_takeOut_0 : decode cX5_takeOut 0 = .ok (.iload_n 2, 1) := by decide +kernel
theorem dX5_takeOut_1 : decode cX5_takeOut 1 = .ok (.ifCond .lt 13, 3) := by decide +kernel
theorem dX5_takeOut_4 : decode cX5_takeOut 4 = .ok (.iload_n 2, 1) := by decide +kernel
theorem dX5_takeOut_5 : decode cX5_takeOut 5 = .ok (.aload_n 0, 1) := by decide +kernel
theorem dX5_takeOut_6 : decode cX5_takeOut 6 = .ok (.getfield 16, 3) := by decide +kernel
theorem dX5_takeOut_9 : decode cX5_takeOut 9 = .ok (.iload_n 1, 1) := by decide +kernel
theorem dX5_takeOut_10 : decode cX5_takeOut 10 = .ok (.iaload, 1) := by decide +kernel
theorem dX5_takeOut_11 : decode cX5_takeOut 11 = .ok (.if_icmp .lt 4, 3) := by decide +kernel
theorem dX5_takeOut_14 : decode cX5_takeOut 14 = .ok (.return_, 1) := by decide +kernel
theorem dX5_takeOut_15 : decode cX5_takeOut 15 = .ok (.iload_n 2, 1) := by decide +kernel
theorem dX5_takeOut_16 : decode cX5_takeOut 16 = .ok (.istore_n 3, 1) := by decide +kernel
theorem dX5_takeOut_17 : decode cX5_takeOut 17 = .ok (.iload_n 3, 1) := by decide +kernel
theorem dX5_takeOut_18 : decode cX5_takeOut 18 = .ok (.aload_n 0, 1) := by decide +kernel
theorem dX5_takeOut_19 : decode cX5_takeOut 19 = .ok (.getfield 16, 3) := by decide +kernel
theorem dX5_takeOut_22 : decode cX5_takeOut 22 = .ok (.iload_n 1, 1) := by decide +kernel
theorem dX5_takeOut_23 : decode cX5_takeOut 23 = .ok (.iaload, 1) := by decide +kernel
theorem dX5_takeOut_24 : decode cX5_takeOut 24 = .ok (.iconst 1, 1) := by decide +kernel
theorem dX5_takeOut_25 : decode cX5_takeOut 25 = .ok (.isub, 1) := by decide +kernel
theorem dX5_takeOut_26 : decode cX5_takeOut 26 = .ok (.if_icmp .ge 27, 3) := by decide +kernel
theorem dX5_takeOut_29 : decode cX5_takeOut 29 = .ok (.aload_n 0, 1) := by decide +kernel
theorem dX5_takeOut_30 : decode cX5_takeOut 30 = .ok (.getfield 11, 3) := by decide +kernel
theorem dX5_takeOut_33 : decode cX5_takeOut 33 = .ok (.iload_n 1, 1) := by decide +kernel
theorem dX5_takeOut_34 : decode cX5_takeOut 34 = .ok (.aaload, 1) := by decide +kernel
theorem dX5_takeOut_35 : decode cX5_takeOut 35 = .ok (.iload_n 3, 1) := by decide +kernel
theorem dX5_takeOut_36 : decode cX5_takeOut 36 = .ok (.aload_n 0, 1) := by decide +kernel
theorem dX5_takeOut_37 : decode cX5_takeOut 37 = .ok (.getfield 11, 3) := by decide +kernel
theorem dX5_takeOut_40 : decode cX5_takeOut 40 = .ok (.iload_n 1, 1) := by decide +kernel
theorem dX5_takeOut_41 : decode cX5_takeOut 41 = .ok (.aaload, 1) := by decide +kernel
theorem dX5_takeOut_42 : decode cX5_takeOut 42 = .ok (.iload_n 3, 1) := by decide +kernel
theorem dX5_takeOut_43 : decode cX5_takeOut 43 = .ok (.iconst 1, 1) := by decide +kernel
theorem dX5_takeOut_44 : decode cX5_takeOut 44 = .ok (.iadd, 1) := by decide +kernel
theorem dX5_takeOut_45 : decode cX5_takeOut 45 = .ok (.laload, 1) := by decide +kernel
theorem dX5_takeOut_46 : decode cX5_takeOut 46 = .ok (.lastore, 1) := by decide +kernel
theorem dX5_takeOut_47 : decode cX5_takeOut 47 = .ok (.iinc 3 1, 3) := by decide +kernel
theorem dX5_takeOut_50 : decode cX5_takeOut 50 = .ok (.goto (-33), 3) := by decide +kernel
theorem dX5_takeOut_53 : decode cX5_takeOut 53 = .ok (.aload_n 0, 1) := by decide +kernel
theorem dX5_takeOut_54 : decode cX5_takeOut 54 = .ok (.getfield 16, 3) := by decide +kernel
theorem dX5_takeOut_57 : decode cX5_takeOut 57 = .ok (.iload_n 1, 1) := by decide +kernel
theorem dX5_takeOut_58 : decode cX5_takeOut 58 = .ok (.dup2, 1) := by decide +kernel
theorem dX5_takeOut_59 : decode cX5_takeOut 59 = .ok (.iaload, 1) := by decide +kernel
theorem dX5_takeOut_60 : decode cX5_takeOut 60 = .ok (.iconst 1, 1) := by decide +kernel
theorem dX5_takeOut_61 : decode cX5_takeOut 61 = .ok (.isub, 1) := by decide +kernel
theorem dX5_takeOut_62 : decode cX5_takeOut 62 = .ok (.iastore, 1) := by decide +kernel
theorem dX5_takeOut_63 : decode cX5_takeOut 63 = .ok (.aload_n 0, 1) := by decide +kernel
theorem dX5_takeOut_64 : decode cX5_takeOut 64 = .ok (.getfield 27, 3) := by decide +kernel
theorem dX5_takeOut_67 : decode cX5_takeOut 67 = .ok (.iload_n 1, 1) := by decide +kernel
theorem dX5_takeOut_68 : decode cX5_takeOut 68 = .ok (.iconst 1, 1) := by decide +kernel
theorem dX5_takeOut_69 : decode cX5_takeOut 69 = .ok (.bastore, 1) := by decide +kernel
theorem dX5_takeOut_70 : decode cX5_takeOut 70 = .ok (.return_, 1) := by decide +kernel
theorem dX5_kidOf_0 : decode cX5_kidOf 0 = .ok (.iload_n 2, 1) := by decide +kernel
theorem dX5_kidOf_1 : decode cX5_kidOf 1 = .ok (.ifCond .lt 24, 3) := by decide +kernel
theorem dX5_kidOf_4 : decode cX5_kidOf 4 = .ok (.iload_n 2, 1) := by decide +kernel
theorem dX5_kidOf_5 : decode cX5_kidOf 5 = .ok (.aload_n 0, 1) := by decide +kernel
theorem dX5_kidOf_6 : decode cX5_kidOf 6 = .ok (.getfield 16, 3) := by decide +kernel
theorem dX5_kidOf_9 : decode cX5_kidOf 9 = .ok (.iload_n 1, 1) := by decide +kernel
theorem dX5_kidOf_10 : decode cX5_kidOf 10 = .ok (.iaload, 1) := by decide +kernel
theorem dX5_kidOf_11 : decode cX5_kidOf 11 = .ok (.if_icmp .ge 14, 3) := by decide +kernel
theorem dX5_kidOf_14 : decode cX5_kidOf 14 = .ok (.aload_n 0, 1) := by decide +kernel
theorem dX5_kidOf_15 : decode cX5_kidOf 15 = .ok (.getfield 11, 3) := by decide +kernel
theorem dX5_kidOf_18 : decode cX5_kidOf 18 = .ok (.iload_n 1, 1) := by decide +kernel
theorem dX5_kidOf_19 : decode cX5_kidOf 19 = .ok (.aaload, 1) := by decide +kernel
theorem dX5_kidOf_20 : decode cX5_kidOf 20 = .ok (.iload_n 2, 1) := by decide +kernel
theorem dX5_kidOf_21 : decode cX5_kidOf 21 = .ok (.laload, 1) := by decide +kernel
theorem dX5_kidOf_22 : decode cX5_kidOf 22 = .ok (.goto 4, 3) := by decide +kernel
theorem dX5_kidOf_25 : decode cX5_kidOf 25 = .ok (.lconst 0, 1) := by decide +kernel
theorem dX5_kidOf_26 : decode cX5_kidOf 26 = .ok (.lstore_n 3, 1) := by decide +kernel
theorem dX5_kidOf_27 : decode cX5_kidOf 27 = .ok (.lload_n 3, 1) := by decide +kernel
theorem dX5_kidOf_28 : decode cX5_kidOf 28 = .ok (.lconst 0, 1) := by decide +kernel
theorem dX5_kidOf_29 : decode cX5_kidOf 29 = .ok (.lcmp, 1) := by decide +kernel
theorem dX5_kidOf_30 : decode cX5_kidOf 30 = .ok (.ifCond .lt 16, 3) := by decide +kernel
theorem dX5_kidOf_33 : decode cX5_kidOf 33 = .ok (.lload_n 3, 1) := by decide +kernel
theorem dX5_kidOf_34 : decode cX5_kidOf 34 = .ok (.ldc2_w 59, 3) := by decide +kernel
theorem dX5_kidOf_37 : decode cX5_kidOf 37 = .ok (.lcmp, 1) := by decide +kernel
theorem dX5_kidOf_38 : decode cX5_kidOf 38 = .ok (.ifCond .ge 8, 3) := by decide +kernel
theorem dX5_kidOf_41 : decode cX5_kidOf 41 = .ok (.lload_n 3, 1) := by decide +kernel
theorem dX5_kidOf_42 : decode cX5_kidOf 42 = .ok (.l2i, 1) := by decide +kernel
theorem dX5_kidOf_43 : decode cX5_kidOf 43 = .ok (.goto 4, 3) := by decide +kernel
theorem dX5_kidOf_46 : decode cX5_kidOf 46 = .ok (.iconst 0, 1) := by decide +kernel
theorem dX5_kidOf_47 : decode cX5_kidOf 47 = .ok (.ireturn, 1) := by decide +kernel
theorem dX5_leastOf_0 : decode cX5_leastOf 0 = .ok (.iload_n 1, 1) := by decide +kernel
theorem dX5_leastOf_1 : decode cX5_leastOf 1 = .ok (.istore_n 2, 1) := by decide +kernel
theorem dX5_leastOf_2 : decode cX5_leastOf 2 = .ok (.iconst 0, 1) := by decide +kernel
theorem dX5_leastOf_3 : decode cX5_leastOf 3 = .ok (.istore_n 3, 1) := by decide +kernel
theorem dX5_leastOf_4 : decode cX5_leastOf 4 = .ok (.iload_n 3, 1) := by decide +kernel
theorem dX5_leastOf_5 : decode cX5_leastOf 5 = .ok (.bipush 64, 2) := by decide +kernel
theorem dX5_leastOf_7 : decode cX5_leastOf 7 = .ok (.if_icmp .ge 25, 3) := by decide +kernel
theorem dX5_leastOf_10 : decode cX5_leastOf 10 = .ok (.aload_n 0, 1) := by decide +kernel
theorem dX5_leastOf_11 : decode cX5_leastOf 11 = .ok (.getfield 20, 3) := by decide +kernel
theorem dX5_leastOf_14 : decode cX5_leastOf 14 = .ok (.iload_n 2, 1) := by decide +kernel
theorem dX5_leastOf_15 : decode cX5_leastOf 15 = .ok (.baload, 1) := by decide +kernel
theorem dX5_leastOf_16 : decode cX5_leastOf 16 = .ok (.ifCond .eq 16, 3) := by decide +kernel
theorem dX5_leastOf_19 : decode cX5_leastOf 19 = .ok (.aload_n 0, 1) := by decide +kernel
theorem dX5_leastOf_20 : decode cX5_leastOf 20 = .ok (.iload_n 2, 1) := by decide +kernel
theorem dX5_leastOf_21 : decode cX5_leastOf 21 = .ok (.iconst 0, 1) := by decide +kernel
theorem dX5_leastOf_22 : decode cX5_leastOf 22 = .ok (.invokevirtual 61, 3) := by decide +kernel
theorem dX5_leastOf_25 : decode cX5_leastOf 25 = .ok (.istore_n 2, 1) := by decide +kernel
theorem dX5_leastOf_26 : decode cX5_leastOf 26 = .ok (.iinc 3 1, 3) := by decide +kernel
theorem dX5_leastOf_29 : decode cX5_leastOf 29 = .ok (.goto (-25), 3) := by decide +kernel
theorem dX5_leastOf_32 : decode cX5_leastOf 32 = .ok (.aload_n 0, 1) := by decide +kernel
theorem dX5_leastOf_33 : decode cX5_leastOf 33 = .ok (.getfield 11, 3) := by decide +kernel
theorem dX5_leastOf_36 : decode cX5_leastOf 36 = .ok (.iload_n 2, 1) := by decide +kernel
theorem dX5_leastOf_37 : decode cX5_leastOf 37 = .ok (.aaload, 1) := by decide +kernel
theorem dX5_leastOf_38 : decode cX5_leastOf 38 = .ok (.iconst 0, 1) := by decide +kernel
theorem dX5_leastOf_39 : decode cX5_leastOf 39 = .ok (.laload, 1) := by decide +kernel
theorem dX5_leastOf_40 : decode cX5_leastOf 40 = .ok (.lreturn, 1) := by decide +kernel
theorem dX5_goDown_0 : decode cX5_goDown 0 = .ok (.aload_n 0, 1) := by decide +kernel
theorem dX5_goDown_1 : decode cX5_goDown 1 = .ok (.getfield 37, 3) := by decide +kernel
theorem dX5_goDown_4 : decode cX5_goDown 4 = .ok (.istore_n 3, 1) := by decide +kernel
theorem dX5_goDown_5 : decode cX5_goDown 5 = .ok (.aload_n 0, 1) := by decide +kernel
theorem dX5_goDown_6 : decode cX5_goDown 6 = .ok (.iconst 0, 1) := by decide +kernel
theorem dX5_goDown_7 : decode cX5_goDown 7 = .ok (.putfield 46, 3) := by decide +kernel
theorem dX5_goDown_10 : decode cX5_goDown 10 = .ok (.aload_n 0, 1) := by decide +kernel
theorem dX5_goDown_11 : decode cX5_goDown 11 = .ok (.getfield 40, 3) := by decide +kernel
theorem dX5_goDown_14 : decode cX5_goDown 14 = .ok (.iconst 0, 1) := by decide +kernel
theorem dX5_goDown_15 : decode cX5_goDown 15 = .ok (.aload_n 0, 1) := by decide +kernel
theorem dX5_goDown_16 : decode cX5_goDown 16 = .ok (.getfield 37, 3) := by decide +kernel
theorem dX5_goDown_19 : decode cX5_goDown 19 = .ok (.iastore, 1) := by decide +kernel
theorem dX5_goDown_20 : decode cX5_goDown 20 = .ok (.aload_n 0, 1) := by decide +kernel
theorem dX5_goDown_21 : decode cX5_goDown 21 = .ok (.getfield 43, 3) := by decide +kernel
theorem dX5_goDown_24 : decode cX5_goDown 24 = .ok (.iconst 0, 1) := by decide +kernel
theorem dX5_goDown_25 : decode cX5_goDown 25 = .ok (.iconst 0, 1) := by decide +kernel
theorem dX5_goDown_26 : decode cX5_goDown 26 = .ok (.iastore, 1) := by decide +kernel
theorem dX5_goDown_27 : decode cX5_goDown 27 = .ok (.aload_n 0, 1) := by decide +kernel
theorem dX5_goDown_28 : decode cX5_goDown 28 = .ok (.getfield 20, 3) := by decide +kernel
theorem dX5_goDown_31 : decode cX5_goDown 31 = .ok (.iload_n 3, 1) := by decide +kernel
theorem dX5_goDown_32 : decode cX5_goDown 32 = .ok (.baload, 1) := by decide +kernel
theorem dX5_goDown_33 : decode cX5_goDown 33 = .ok (.ifCond .eq 91, 3) := by decide +kernel
theorem dX5_goDown_36 : decode cX5_goDown 36 = .ok (.aload_n 0, 1) := by decide +kernel
theorem dX5_goDown_37 : decode cX5_goDown 37 = .ok (.getfield 46, 3) := by decide +kernel
theorem dX5_goDown_40 : decode cX5_goDown 40 = .ok (.bipush 63, 2) := by decide +kernel
theorem dX5_goDown_42 : decode cX5_goDown 42 = .ok (.if_icmp .ge 82, 3) := by decide +kernel
theorem dX5_goDown_45 : decode cX5_goDown 45 = .ok (.aload_n 0, 1) := by decide +kernel
theorem dX5_goDown_46 : decode cX5_goDown 46 = .ok (.getfield 16, 3) := by decide +kernel
theorem dX5_goDown_49 : decode cX5_goDown 49 = .ok (.iload_n 3, 1) := by decide +kernel
theorem dX5_goDown_50 : decode cX5_goDown 50 = .ok (.iaload, 1) := by decide +kernel
theorem dX5_goDown_51 : decode cX5_goDown 51 = .ok (.iconst 1, 1) := by decide +kernel
theorem dX5_goDown_52 : decode cX5_goDown 52 = .ok (.isub, 1) := by decide +kernel
theorem dX5_goDown_53 : decode cX5_goDown 53 = .ok (.istore 4, 2) := by decide +kernel
theorem dX5_goDown_55 : decode cX5_goDown 55 = .ok (.iload 4, 2) := by decide +kernel
theorem dX5_goDown_57 : decode cX5_goDown 57 = .ok (.ifCond .le 25, 3) := by decide +kernel
theorem dX5_goDown_60 : decode cX5_goDown 60 = .ok (.aload_n 0, 1) := by decide +kernel
theorem dX5_goDown_61 : decode cX5_goDown 61 = .ok (.aload_n 0, 1) := by decide +kernel
theorem dX5_goDown_62 : decode cX5_goDown 62 = .ok (.iload_n 3, 1) := by decide +kernel
theorem dX5_goDown_63 : decode cX5_goDown 63 = .ok (.iload 4, 2) := by decide +kernel
theorem dX5_goDown_65 : decode cX5_goDown 65 = .ok (.invokevirtual 61, 3) := by decide +kernel
theorem dX5_goDown_68 : decode cX5_goDown 68 = .ok (.invokevirtual 65, 3) := by decide +kernel
theorem dX5_goDown_71 : decode cX5_goDown 71 = .ok (.lload_n 1, 1) := by decide +kernel
theorem dX5_goDown_72 : decode cX5_goDown 72 = .ok (.lcmp, 1) := by decide +kernel
theorem dX5_goDown_73 : decode cX5_goDown 73 = .ok (.ifCond .le 9, 3) := by decide +kernel
theorem dX5_goDown_76 : decode cX5_goDown 76 = .ok (.iinc 4 (-1), 3) := by decide +kernel
theorem dX5_goDown_79 : decode cX5_goDown 79 = .ok (.goto (-24), 3) := by decide +kernel
theorem dX5_goDown_82 : decode cX5_goDown 82 = .ok (.aload_n 0, 1) := by decide +kernel
theorem dX5_goDown_83 : decode cX5_goDown 83 = .ok (.iload_n 3, 1) := by decide +kernel
theorem dX5_goDown_84 : decode cX5_goDown 84 = .ok (.iload 4, 2) := by decide +kernel
theorem dX5_goDown_86 : decode cX5_goDown 86 = .ok (.invokevirtual 61, 3) := by decide +kernel
theorem dX5_goDown_89 : decode cX5_goDown 89 = .ok (.istore_n 3, 1) := by decide +kernel
theorem dX5_goDown_90 : decode cX5_goDown 90 = .ok (.aload_n 0, 1) := by decide +kernel
theorem dX5_goDown_91 : decode cX5_goDown 91 = .ok (.dup, 1) := by decide +kernel
theorem dX5_goDown_92 : decode cX5_goDown 92 = .ok (.getfield 46, 3) := by decide +kernel
theorem dX5_goDown_95 : decode cX5_goDown 95 = .ok (.iconst 1, 1) := by decide +kernel
theorem dX5_goDown_96 : decode cX5_goDown 96 = .ok (.iadd, 1) := by decide +kernel
theorem dX5_goDown_97 : decode cX5_goDown 97 = .ok (.putfield 46, 3) := by decide +kernel
theorem dX5_goDown_100 : decode cX5_goDown 100 = .ok (.aload_n 0, 1) := by decide +kernel
theorem dX5_goDown_101 : decode cX5_goDown 101 = .ok (.getfield 40, 3) := by decide +kernel
theorem dX5_goDown_104 : decode cX5_goDown 104 = .ok (.aload_n 0, 1) := by decide +kernel
theorem dX5_goDown_105 : decode cX5_goDown 105 = .ok (.getfield 46, 3) := by decide +kernel
theorem dX5_goDown_108 : decode cX5_goDown 108 = .ok (.iload_n 3, 1) := by decide +kernel
theorem dX5_goDown_109 : decode cX5_goDown 109 = .ok (.iastore, 1) := by decide +kernel
theorem dX5_goDown_110 : decode cX5_goDown 110 = .ok (.aload_n 0, 1) := by decide +kernel
theorem dX5_goDown_111 : decode cX5_goDown 111 = .ok (.getfield 43, 3) := by decide +kernel
theorem dX5_goDown_114 : decode cX5_goDown 114 = .ok (.aload_n 0, 1) := by decide +kernel
theorem dX5_goDown_115 : decode cX5_goDown 115 = .ok (.getfield 46, 3) := by decide +kernel
theorem dX5_goDown_118 : decode cX5_goDown 118 = .ok (.iload 4, 2) := by decide +kernel
theorem dX5_goDown_120 : decode cX5_goDown 120 = .ok (.iastore, 1) := by decide +kernel
theorem dX5_goDown_121 : decode cX5_goDown 121 = .ok (.goto (-94), 3) := by decide +kernel
theorem dX5_goDown_124 : decode cX5_goDown 124 = .ok (.return_, 1) := by decide +kernel
theorem dX5_letCome_0 : decode cX5_letCome 0 = .ok (.aload_n 0, 1) := by decide +kernel
theorem dX5_letCome_1 : decode cX5_letCome 1 = .ok (.lload_n 1, 1) := by decide +kernel
theorem dX5_letCome_2 : decode cX5_letCome 2 = .ok (.invokevirtual 69, 3) := by decide +kernel
theorem dX5_letCome_5 : decode cX5_letCome 5 = .ok (.aload_n 0, 1) := by decide +kernel
theorem dX5_letCome_6 : decode cX5_letCome 6 = .ok (.getfield 30, 3) := by decide +kernel
theorem dX5_letCome_9 : decode cX5_letCome 9 = .ok (.aload_n 0, 1) := by decide +kernel
theorem dX5_letCome_10 : decode cX5_letCome 10 = .ok (.invokevirtual 73, 3) := by decide +kernel
theorem dX5_letCome_13 : decode cX5_letCome 13 = .ok (.iadd, 1) := by decide +kernel
theorem dX5_letCome_14 : decode cX5_letCome 14 = .ok (.bipush 64, 2) := by decide +kernel
theorem dX5_letCome_16 : decode cX5_letCome 16 = .ok (.if_icmp .le 5, 3) := by decide +kernel
theorem dX5_letCome_19 : decode cX5_letCome 19 = .ok (.iconst 0, 1) := by decide +kernel
theorem dX5_letCome_20 : decode cX5_letCome 20 = .ok (.ireturn, 1) := by decide +kernel
theorem dX5_letCome_21 : decode cX5_letCome 21 = .ok (.aload_n 0, 1) := by decide +kernel
theorem dX5_letCome_22 : decode cX5_letCome 22 = .ok (.getfield 40, 3) := by decide +kernel
theorem dX5_letCome_25 : decode cX5_letCome 25 = .ok (.aload_n 0, 1) := by decide +kernel
theorem dX5_letCome_26 : decode cX5_letCome 26 = .ok (.getfield 46, 3) := by decide +kernel
theorem dX5_letCome_29 : decode cX5_letCome 29 = .ok (.iaload, 1) := by decide +kernel
theorem dX5_letCome_30 : decode cX5_letCome 30 = .ok (.istore_n 3, 1) := by decide +kernel
theorem dX5_letCome_31 : decode cX5_letCome 31 = .ok (.aload_n 0, 1) := by decide +kernel
theorem dX5_letCome_32 : decode cX5_letCome 32 = .ok (.getfield 16, 3) := by decide +kernel
theorem dX5_letCome_35 : decode cX5_letCome 35 = .ok (.iload_n 3, 1) := by decide +kernel
theorem dX5_letCome_36 : decode cX5_letCome 36 = .ok (.iaload, 1) := by decide +kernel
theorem dX5_letCome_37 : decode cX5_letCome 37 = .ok (.istore 4, 2) := by decide +kernel
theorem dX5_letCome_39 : decode cX5_letCome 39 = .ok (.iload 4, 2) := by decide +kernel
theorem dX5_letCome_41 : decode cX5_letCome 41 = .ok (.ifCond .le 25, 3) := by decide +kernel
theorem dX5_letCome_44 : decode cX5_letCome 44 = .ok (.aload_n 0, 1) := by decide +kernel
theorem dX5_letCome_45 : decode cX5_letCome 45 = .ok (.getfield 11, 3) := by decide +kernel
theorem dX5_letCome_48 : decode cX5_letCome 48 = .ok (.iload_n 3, 1) := by decide +kernel
theorem dX5_letCome_49 : decode cX5_letCome 49 = .ok (.aaload, 1) := by decide +kernel
theorem dX5_letCome_50 : decode cX5_letCome 50 = .ok (.iload 4, 2) := by decide +kernel
theorem dX5_letCome_52 : decode cX5_letCome 52 = .ok (.iconst 1, 1) := by decide +kernel
theorem dX5_letCome_53 : decode cX5_letCome 53 = .ok (.isub, 1) := by decide +kernel
theorem dX5_letCome_54 : decode cX5_letCome 54 = .ok (.laload, 1) := by decide +kernel
theorem dX5_letCome_55 : decode cX5_letCome 55 = .ok (.lload_n 1, 1) := by decide +kernel
theorem dX5_letCome_56 : decode cX5_letCome 56 = .ok (.lcmp, 1) := by decide +kernel
theorem dX5_letCome_57 : decode cX5_letCome 57 = .ok (.ifCond .le 9, 3) := by decide +kernel
theorem dX5_letCome_60 : decode cX5_letCome 60 = .ok (.iinc 4 (-1), 3) := by decide +kernel
theorem dX5_letCome_63 : decode cX5_letCome 63 = .ok (.goto (-24), 3) := by decide +kernel
theorem dX5_letCome_66 : decode cX5_letCome 66 = .ok (.aload_n 0, 1) := by decide +kernel
theorem dX5_letCome_67 : decode cX5_letCome 67 = .ok (.iload_n 3, 1) := by decide +kernel
theorem dX5_letCome_68 : decode cX5_letCome 68 = .ok (.iload 4, 2) := by decide +kernel
theorem dX5_letCome_70 : decode cX5_letCome 70 = .ok (.lload_n 1, 1) := by decide +kernel
theorem dX5_letCome_71 : decode cX5_letCome 71 = .ok (.invokevirtual 55, 3) := by decide +kernel
theorem dX5_letCome_74 : decode cX5_letCome 74 = .ok (.aload_n 0, 1) := by decide +kernel
theorem dX5_letCome_75 : decode cX5_letCome 75 = .ok (.dup, 1) := by decide +kernel
theorem dX5_letCome_76 : decode cX5_letCome 76 = .ok (.getfield 34, 3) := by decide +kernel
theorem dX5_letCome_79 : decode cX5_letCome 79 = .ok (.iconst 1, 1) := by decide +kernel
theorem dX5_letCome_80 : decode cX5_letCome 80 = .ok (.iadd, 1) := by decide +kernel
theorem dX5_letCome_81 : decode cX5_letCome 81 = .ok (.putfield 34, 3) := by decide +kernel
theorem dX5_letCome_84 : decode cX5_letCome 84 = .ok (.aload_n 0, 1) := by decide +kernel
theorem dX5_letCome_85 : decode cX5_letCome 85 = .ok (.getfield 46, 3) := by decide +kernel
theorem dX5_letCome_88 : decode cX5_letCome 88 = .ok (.istore 5, 2) := by decide +kernel
theorem dX5_letCome_90 : decode cX5_letCome 90 = .ok (.iload 5, 2) := by decide +kernel
theorem dX5_letCome_92 : decode cX5_letCome 92 = .ok (.ifCond .lt 32, 3) := by decide +kernel
theorem dX5_letCome_95 : decode cX5_letCome 95 = .ok (.aload_n 0, 1) := by decide +kernel
theorem dX5_letCome_96 : decode cX5_letCome 96 = .ok (.getfield 16, 3) := by decide +kernel
theorem dX5_letCome_99 : decode cX5_letCome 99 = .ok (.aload_n 0, 1) := by decide +kernel
theorem dX5_letCome_100 : decode cX5_letCome 100 = .ok (.getfield 40, 3) := by decide +kernel
theorem dX5_letCome_103 : decode cX5_letCome 103 = .ok (.iload 5, 2) := by decide +kernel
theorem dX5_letCome_105 : decode cX5_letCome 105 = .ok (.iaload, 1) := by decide +kernel
theorem dX5_letCome_106 : decode cX5_letCome 106 = .ok (.iaload, 1) := by decide +kernel
theorem dX5_letCome_107 : decode cX5_letCome 107 = .ok (.bipush 8, 2) := by decide +kernel
theorem dX5_letCome_109 : decode cX5_letCome 109 = .ok (.if_icmp .le 15, 3) := by decide +kernel
theorem dX5_letCome_112 : decode cX5_letCome 112 = .ok (.aload_n 0, 1) := by decide +kernel
theorem dX5_letCome_113 : decode cX5_letCome 113 = .ok (.iload 5, 2) := by decide +kernel
theorem dX5_letCome_115 : decode cX5_letCome 115 = .ok (.invokevirtual 77, 3) := by decide +kernel
theorem dX5_letCome_118 : decode cX5_letCome 118 = .ok (.iinc 5 (-1), 3) := by decide +kernel
theorem dX5_letCome_121 : decode cX5_letCome 121 = .ok (.goto (-31), 3) := by decide +kernel
theorem dX5_letCome_124 : decode cX5_letCome 124 = .ok (.iconst 1, 1) := by decide +kernel
theorem dX5_letCome_125 : decode cX5_letCome 125 = .ok (.ireturn, 1) := by decide +kernel
theorem dX5_newNodesOnWay_0 : decode cX5_newNodesOnWay 0 = .ok (.iconst 0, 1) := by decide +kernel
theorem dX5_newNodesOnWay_1 : decode cX5_newNodesOnWay 1 = .ok (.istore_n 1, 1) := by decide +kernel
theorem dX5_newNodesOnWay_2 : decode cX5_newNodesOnWay 2 = .ok (.aload_n 0, 1) := by decide +kernel
theorem dX5_newNodesOnWay_3 : decode cX5_newNodesOnWay 3 = .ok (.getfield 46, 3) := by decide +kernel
theorem dX5_newNodesOnWay_6 : decode cX5_newNodesOnWay 6 = .ok (.istore_n 2, 1) := by decide +kernel
theorem dX5_newNodesOnWay_7 : decode cX5_newNodesOnWay 7 = .ok (.iload_n 2, 1) := by decide +kernel
theorem dX5_newNodesOnWay_8 : decode cX5_newNodesOnWay 8 = .ok (.ifCond .lt 30, 3) := by decide +kernel
theorem dX5_newNodesOnWay_11 : decode cX5_newNodesOnWay 11 = .ok (.aload_n 0, 1) := by decide +kernel
theorem dX5_newNodesOnWay_12 : decode cX5_newNodesOnWay 12 = .ok (.getfield 16, 3) := by decide +kernel
theorem dX5_newNodesOnWay_15 : decode cX5_newNodesOnWay 15 = .ok (.aload_n 0, 1) := by decide +kernel
theorem dX5_newNodesOnWay_16 : decode cX5_newNodesOnWay 16 = .ok (.getfield 40, 3) := by decide +kernel
theorem dX5_newNodesOnWay_19 : decode cX5_newNodesOnWay 19 = .ok (.iload_n 2, 1) := by decide +kernel
theorem dX5_newNodesOnWay_20 : decode cX5_newNodesOnWay 20 = .ok (.iaload, 1) := by decide +kernel
theorem dX5_newNodesOnWay_21 : decode cX5_newNodesOnWay 21 = .ok (.iaload, 1) := by decide +kernel
theorem dX5_newNodesOnWay_22 : decode cX5_newNodesOnWay 22 = .ok (.bipush 8, 2) := by decide +kernel
theorem dX5_newNodesOnWay_24 : decode cX5_newNodesOnWay 24 = .ok (.if_icmp .ge 5, 3) := by decide +kernel
theorem dX5_newNodesOnWay_27 : decode cX5_newNodesOnWay 27 = .ok (.iload_n 1, 1) := by decide +kernel
theorem dX5_newNodesOnWay_28 : decode cX5_newNodesOnWay 28 = .ok (.ireturn, 1) := by decide +kernel
theorem dX5_newNodesOnWay_29 : decode cX5_newNodesOnWay 29 = .ok (.iinc 1 1, 3) := by decide +kernel
theorem dX5_newNodesOnWay_32 : decode cX5_newNodesOnWay 32 = .ok (.iinc 2 (-1), 3) := by decide +kernel
theorem dX5_newNodesOnWay_35 : decode cX5_newNodesOnWay 35 = .ok (.goto (-28), 3) := by decide +kernel
theorem dX5_newNodesOnWay_38 : decode cX5_newNodesOnWay 38 = .ok (.iload_n 1, 1) := by decide +kernel
theorem dX5_newNodesOnWay_39 : decode cX5_newNodesOnWay 39 = .ok (.iconst 1, 1) := by decide +kernel
theorem dX5_newNodesOnWay_40 : decode cX5_newNodesOnWay 40 = .ok (.iadd, 1) := by decide +kernel
theorem dX5_newNodesOnWay_41 : decode cX5_newNodesOnWay 41 = .ok (.ireturn, 1) := by decide +kernel
theorem dX5_divide_0 : decode cX5_divide 0 = .ok (.aload_n 0, 1) := by decide +kernel
theorem dX5_divide_1 : decode cX5_divide 1 = .ok (.getfield 40, 3) := by decide +kernel
theorem dX5_divide_4 : decode cX5_divide 4 = .ok (.iload_n 1, 1) := by decide +kernel
theorem dX5_divide_5 : decode cX5_divide 5 = .ok (.iaload, 1) := by decide +kernel
theorem dX5_divide_6 : decode cX5_divide 6 = .ok (.istore_n 2, 1) := by decide +kernel
theorem dX5_divide_7 : decode cX5_divide 7 = .ok (.aload_n 0, 1) := by decide +kernel
theorem dX5_divide_8 : decode cX5_divide 8 = .ok (.aload_n 0, 1) := by decide +kernel
theorem dX5_divide_9 : decode cX5_divide 9 = .ok (.getfield 20, 3) := by decide +kernel
theorem dX5_divide_12 : decode cX5_divide 12 = .ok (.iload_n 2, 1) := by decide +kernel
theorem dX5_divide_13 : decode cX5_divide 13 = .ok (.baload, 1) := by decide +kernel
theorem dX5_divide_14 : decode cX5_divide 14 = .ok (.invokevirtual 81, 3) := by decide +kernel
theorem dX5_divide_17 : decode cX5_divide 17 = .ok (.istore_n 3, 1) := by decide +kernel
theorem dX5_divide_18 : decode cX5_divide 18 = .ok (.iload_n 3, 1) := by decide +kernel
theorem dX5_divide_19 : decode cX5_divide 19 = .ok (.iconst (-1), 1) := by decide +kernel
theorem dX5_divide_20 : decode cX5_divide 20 = .ok (.if_icmp .ne 4, 3) := by decide +kernel
theorem dX5_divide_23 : decode cX5_divide 23 = .ok (.return_, 1) := by decide +kernel
theorem dX5_divide_24 : decode cX5_divide 24 = .ok (.iconst 4, 1) := by decide +kernel
theorem dX5_divide_25 : decode cX5_divide 25 = .ok (.istore 4, 2) := by decide +kernel
theorem dX5_divide_27 : decode cX5_divide 27 = .ok (.iload 4, 2) := by decide +kernel
theorem dX5_divide_29 : decode cX5_divide 29 = .ok (.aload_n 0, 1) := by decide +kernel
theorem dX5_divide_30 : decode cX5_divide 30 = .ok (.getfield 16, 3) := by decide +kernel
theorem dX5_divide_33 : decode cX5_divide 33 = .ok (.iload_n 2, 1) := by decide +kernel
theorem dX5_divide_34 : decode cX5_divide 34 = .ok (.iaload, 1) := by decide +kernel
theorem dX5_divide_35 : decode cX5_divide 35 = .ok (.if_icmp .ge 27, 3) := by decide +kernel
theorem dX5_divide_38 : decode cX5_divide 38 = .ok (.aload_n 0, 1) := by decide +kernel
theorem dX5_divide_39 : decode cX5_divide 39 = .ok (.iload_n 3, 1) := by decide +kernel
theorem dX5_divide_40 : decode cX5_divide 40 = .ok (.iload 4, 2) := by decide +kernel
theorem dX5_divide_42 : decode cX5_divide 42 = .ok (.iconst 4, 1) := by decide +kernel
theorem dX5_divide_43 : decode cX5_divide 43 = .ok (.isub, 1) := by decide +kernel
theorem dX5_divide_44 : decode cX5_divide 44 = .ok (.aload_n 0, 1) := by decide +kernel
theorem dX5_divide_45 : decode cX5_divide 45 = .ok (.getfield 11, 3) := by decide +kernel
theorem dX5_divide_48 : decode cX5_divide 48 = .ok (.iload_n 2, 1) := by decide +kernel
theorem dX5_divide_49 : decode cX5_divide 49 = .ok (.aaload, 1) := by decide +kernel
theorem dX5_divide_50 : decode cX5_divide 50 = .ok (.iload 4, 2) := by decide +kernel
theorem dX5_divide_52 : decode cX5_divide 52 = .ok (.laload, 1) := by decide +kernel
theorem dX5_divide_53 : decode cX5_divide 53 = .ok (.invokevirtual 55, 3) := by decide +kernel
theorem dX5_divide_56 : decode cX5_divide 56 = .ok (.iinc 4 1, 3) := by decide +kernel
theorem dX5_divide_59 : decode cX5_divide 59 = .ok (.goto (-32), 3) := by decide +kernel
theorem dX5_divide_62 : decode cX5_divide 62 = .ok (.aload_n 0, 1) := by decide +kernel
theorem dX5_divide_63 : decode cX5_divide 63 = .ok (.getfield 16, 3) := by decide +kernel
theorem dX5_divide_66 : decode cX5_divide 66 = .ok (.iload_n 2, 1) := by decide +kernel
theorem dX5_divide_67 : decode cX5_divide 67 = .ok (.iconst 4, 1) := by decide +kernel
theorem dX5_divide_68 : decode cX5_divide 68 = .ok (.iastore, 1) := by decide +kernel
theorem dX5_divide_69 : decode cX5_divide 69 = .ok (.aload_n 0, 1) := by decide +kernel
theorem dX5_divide_70 : decode cX5_divide 70 = .ok (.getfield 27, 3) := by decide +kernel
theorem dX5_divide_73 : decode cX5_divide 73 = .ok (.iload_n 2, 1) := by decide +kernel
theorem dX5_divide_74 : decode cX5_divide 74 = .ok (.iconst 1, 1) := by decide +kernel
theorem dX5_divide_75 : decode cX5_divide 75 = .ok (.bastore, 1) := by decide +kernel
theorem dX5_divide_76 : decode cX5_divide 76 = .ok (.iload_n 1, 1) := by decide +kernel
theorem dX5_divide_77 : decode cX5_divide 77 = .ok (.ifCond .le 28, 3) := by decide +kernel
theorem dX5_divide_80 : decode cX5_divide 80 = .ok (.aload_n 0, 1) := by decide +kernel
theorem dX5_divide_81 : decode cX5_divide 81 = .ok (.aload_n 0, 1) := by decide +kernel
theorem dX5_divide_82 : decode cX5_divide 82 = .ok (.getfield 40, 3) := by decide +kernel
theorem dX5_divide_85 : decode cX5_divide 85 = .ok (.iload_n 1, 1) := by decide +kernel
theorem dX5_divide_86 : decode cX5_divide 86 = .ok (.iconst 1, 1) := by decide +kernel
theorem dX5_divide_87 : decode cX5_divide 87 = .ok (.isub, 1) := by decide +kernel
theorem dX5_divide_88 : decode cX5_divide 88 = .ok (.iaload, 1) := by decide +kernel
theorem dX5_divide_89 : decode cX5_divide 89 = .ok (.aload_n 0, 1) := by decide +kernel
theorem dX5_divide_90 : decode cX5_divide 90 = .ok (.getfield 43, 3) := by decide +kernel
theorem dX5_divide_93 : decode cX5_divide 93 = .ok (.iload_n 1, 1) := by decide +kernel
theorem dX5_divide_94 : decode cX5_divide 94 = .ok (.iaload, 1) := by decide +kernel
theorem dX5_divide_95 : decode cX5_divide 95 = .ok (.iconst 1, 1) := by decide +kernel
theorem dX5_divide_96 : decode cX5_divide 96 = .ok (.iadd, 1) := by decide +kernel
theorem dX5_divide_97 : decode cX5_divide 97 = .ok (.iload_n 3, 1) := by decide +kernel
theorem dX5_divide_98 : decode cX5_divide 98 = .ok (.i2l, 1) := by decide +kernel
theorem dX5_divide_99 : decode cX5_divide 99 = .ok (.invokevirtual 55, 3) := by decide +kernel
theorem dX5_divide_102 : decode cX5_divide 102 = .ok (.goto 9, 3) := by decide +kernel
theorem dX5_divide_105 : decode cX5_divide 105 = .ok (.aload_n 0, 1) := by decide +kernel
theorem dX5_divide_106 : decode cX5_divide 106 = .ok (.iload_n 2, 1) := by decide +kernel
theorem dX5_divide_107 : decode cX5_divide 107 = .ok (.iload_n 3, 1) := by decide +kernel
theorem dX5_divide_108 : decode cX5_divide 108 = .ok (.invokevirtual 85, 3) := by decide +kernel
theorem dX5_divide_111 : decode cX5_divide 111 = .ok (.return_, 1) := by decide +kernel
theorem dX5_putRootOver_0 : decode cX5_putRootOver 0 = .ok (.aload_n 0, 1) := by decide +kernel
theorem dX5_putRootOver_1 : decode cX5_putRootOver 1 = .ok (.iconst 1, 1) := by decide +kernel
theorem dX5_putRootOver_2 : decode cX5_putRootOver 2 = .ok (.invokevirtual 81, 3) := by decide +kernel
theorem dX5_putRootOver_5 : decode cX5_putRootOver 5 = .ok (.istore_n 3, 1) := by decide +kernel
theorem dX5_putRootOver_6 : decode cX5_putRootOver 6 = .ok (.iload_n 3, 1) := by decide +kernel
theorem dX5_putRootOver_7 : decode cX5_putRootOver 7 = .ok (.iconst (-1), 1) := by decide +kernel
theorem dX5_putRootOver_8 : decode cX5_putRootOver 8 = .ok (.if_icmp .ne 4, 3) := by decide +kernel
theorem dX5_putRootOver_11 : decode cX5_putRootOver 11 = .ok (.return_, 1) := by decide +kernel
theorem dX5_putRootOver_12 : decode cX5_putRootOver 12 = .ok (.aload_n 0, 1) := by decide +kernel
theorem dX5_putRootOver_13 : decode cX5_putRootOver 13 = .ok (.iload_n 3, 1) := by decide +kernel
theorem dX5_putRootOver_14 : decode cX5_putRootOver 14 = .ok (.iconst 0, 1) := by decide +kernel
theorem dX5_putRootOver_15 : decode cX5_putRootOver 15 = .ok (.iload_n 1, 1) := by decide +kernel
theorem dX5_putRootOver_16 : decode cX5_putRootOver 16 = .ok (.i2l, 1) := by decide +kernel
theorem dX5_putRootOver_17 : decode cX5_putRootOver 17 = .ok (.invokevirtual 55, 3) := by decide +kernel
theorem dX5_putRootOver_20 : decode cX5_putRootOver 20 = .ok (.aload_n 0, 1) := by decide +kernel
theorem dX5_putRootOver_21 : decode cX5_putRootOver 21 = .ok (.iload_n 3, 1) := by decide +kernel
theorem dX5_putRootOver_22 : decode cX5_putRootOver 22 = .ok (.iconst 1, 1) := by decide +kernel
theorem dX5_putRootOver_23 : decode cX5_putRootOver 23 = .ok (.iload_n 2, 1) := by decide +kernel
theorem dX5_putRootOver_24 : decode cX5_putRootOver 24 = .ok (.i2l, 1) := by decide +kernel
theorem dX5_putRootOver_25 : decode cX5_putRootOver 25 = .ok (.invokevirtual 55, 3) := by decide +kernel
theorem dX5_putRootOver_28 : decode cX5_putRootOver 28 = .ok (.aload_n 0, 1) := by decide +kernel
theorem dX5_putRootOver_29 : decode cX5_putRootOver 29 = .ok (.iload_n 3, 1) := by decide +kernel
theorem dX5_putRootOver_30 : decode cX5_putRootOver 30 = .ok (.putfield 37, 3) := by decide +kernel
theorem dX5_putRootOver_33 : decode cX5_putRootOver 33 = .ok (.return_, 1) := by decide +kernel
theorem dX5_letGo_0 : decode cX5_letGo 0 = .ok (.aload_n 0, 1) := by decide +kernel
theorem dX5_letGo_1 : decode cX5_letGo 1 = .ok (.lload_n 1, 1) := by decide +kernel
theorem dX5_letGo_2 : decode cX5_letGo 2 = .ok (.invokevirtual 69, 3) := by decide +kernel
theorem dX5_letGo_5 : decode cX5_letGo 5 = .ok (.aload_n 0, 1) := by decide +kernel
theorem dX5_letGo_6 : decode cX5_letGo 6 = .ok (.getfield 40, 3) := by decide +kernel
theorem dX5_letGo_9 : decode cX5_letGo 9 = .ok (.aload_n 0, 1) := by decide +kernel
theorem dX5_letGo_10 : decode cX5_letGo 10 = .ok (.getfield 46, 3) := by decide +kernel
theorem dX5_letGo_13 : decode cX5_letGo 13 = .ok (.iaload, 1) := by decide +kernel
theorem dX5_letGo_14 : decode cX5_letGo 14 = .ok (.istore_n 3, 1) := by decide +kernel
theorem dX5_letGo_15 : decode cX5_letGo 15 = .ok (.iconst 0, 1) := by decide +kernel
theorem dX5_letGo_16 : decode cX5_letGo 16 = .ok (.istore 4, 2) := by decide +kernel
theorem dX5_letGo_18 : decode cX5_letGo 18 = .ok (.iload 4, 2) := by decide +kernel
theorem dX5_letGo_20 : decode cX5_letGo 20 = .ok (.aload_n 0, 1) := by decide +kernel
theorem dX5_letGo_21 : decode cX5_letGo 21 = .ok (.getfield 16, 3) := by decide +kernel
theorem dX5_letGo_24 : decode cX5_letGo 24 = .ok (.iload_n 3, 1) := by decide +kernel
theorem dX5_letGo_25 : decode cX5_letGo 25 = .ok (.iaload, 1) := by decide +kernel
theorem dX5_letGo_26 : decode cX5_letGo 26 = .ok (.if_icmp .ge 23, 3) := by decide +kernel
theorem dX5_letGo_29 : decode cX5_letGo 29 = .ok (.aload_n 0, 1) := by decide +kernel
theorem dX5_letGo_30 : decode cX5_letGo 30 = .ok (.getfield 11, 3) := by decide +kernel
theorem dX5_letGo_33 : decode cX5_letGo 33 = .ok (.iload_n 3, 1) := by decide +kernel
theorem dX5_letGo_34 : decode cX5_letGo 34 = .ok (.aaload, 1) := by decide +kernel
theorem dX5_letGo_35 : decode cX5_letGo 35 = .ok (.iload 4, 2) := by decide +kernel
theorem dX5_letGo_37 : decode cX5_letGo 37 = .ok (.laload, 1) := by decide +kernel
theorem dX5_letGo_38 : decode cX5_letGo 38 = .ok (.lload_n 1, 1) := by decide +kernel
theorem dX5_letGo_39 : decode cX5_letGo 39 = .ok (.lcmp, 1) := by decide +kernel
theorem dX5_letGo_40 : decode cX5_letGo 40 = .ok (.ifCond .eq 9, 3) := by decide +kernel
theorem dX5_letGo_43 : decode cX5_letGo 43 = .ok (.iinc 4 1, 3) := by decide +kernel
theorem dX5_letGo_46 : decode cX5_letGo 46 = .ok (.goto (-28), 3) := by decide +kernel
theorem dX5_letGo_49 : decode cX5_letGo 49 = .ok (.iload 4, 2) := by decide +kernel
theorem dX5_letGo_51 : decode cX5_letGo 51 = .ok (.aload_n 0, 1) := by decide +kernel
theorem dX5_letGo_52 : decode cX5_letGo 52 = .ok (.getfield 16, 3) := by decide +kernel
theorem dX5_letGo_55 : decode cX5_letGo 55 = .ok (.iload_n 3, 1) := by decide +kernel
theorem dX5_letGo_56 : decode cX5_letGo 56 = .ok (.iaload, 1) := by decide +kernel
theorem dX5_letGo_57 : decode cX5_letGo 57 = .ok (.if_icmp .lt 4, 3) := by decide +kernel
theorem dX5_letGo_60 : decode cX5_letGo 60 = .ok (.return_, 1) := by decide +kernel
theorem dX5_letGo_61 : decode cX5_letGo 61 = .ok (.aload_n 0, 1) := by decide +kernel
theorem dX5_letGo_62 : decode cX5_letGo 62 = .ok (.iload_n 3, 1) := by decide +kernel
theorem dX5_letGo_63 : decode cX5_letGo 63 = .ok (.iload 4, 2) := by decide +kernel
theorem dX5_letGo_65 : decode cX5_letGo 65 = .ok (.invokevirtual 89, 3) := by decide +kernel
theorem dX5_letGo_68 : decode cX5_letGo 68 = .ok (.aload_n 0, 1) := by decide +kernel
theorem dX5_letGo_69 : decode cX5_letGo 69 = .ok (.dup, 1) := by decide +kernel
theorem dX5_letGo_70 : decode cX5_letGo 70 = .ok (.getfield 34, 3) := by decide +kernel
theorem dX5_letGo_73 : decode cX5_letGo 73 = .ok (.iconst 1, 1) := by decide +kernel
theorem dX5_letGo_74 : decode cX5_letGo 74 = .ok (.isub, 1) := by decide +kernel
theorem dX5_letGo_75 : decode cX5_letGo 75 = .ok (.putfield 34, 3) := by decide +kernel
theorem dX5_letGo_78 : decode cX5_letGo 78 = .ok (.aload_n 0, 1) := by decide +kernel
theorem dX5_letGo_79 : decode cX5_letGo 79 = .ok (.getfield 46, 3) := by decide +kernel
theorem dX5_letGo_82 : decode cX5_letGo 82 = .ok (.istore 5, 2) := by decide +kernel
theorem dX5_letGo_84 : decode cX5_letGo 84 = .ok (.iload 5, 2) := by decide +kernel
theorem dX5_letGo_86 : decode cX5_letGo 86 = .ok (.ifCond .le 55, 3) := by decide +kernel
theorem dX5_letGo_89 : decode cX5_letGo 89 = .ok (.aload_n 0, 1) := by decide +kernel
theorem dX5_letGo_90 : decode cX5_letGo 90 = .ok (.getfield 16, 3) := by decide +kernel
theorem dX5_letGo_93 : decode cX5_letGo 93 = .ok (.aload_n 0, 1) := by decide +kernel
theorem dX5_letGo_94 : decode cX5_letGo 94 = .ok (.getfield 40, 3) := by decide +kernel
theorem dX5_letGo_97 : decode cX5_letGo 97 = .ok (.iload 5, 2) := by decide +kernel
theorem dX5_letGo_99 : decode cX5_letGo 99 = .ok (.iaload, 1) := by decide +kernel
theorem dX5_letGo_100 : decode cX5_letGo 100 = .ok (.iaload, 1) := by decide +kernel
theorem dX5_letGo_101 : decode cX5_letGo 101 = .ok (.ifCond .ne 40, 3) := by decide +kernel
theorem dX5_letGo_104 : decode cX5_letGo 104 = .ok (.aload_n 0, 1) := by decide +kernel
theorem dX5_letGo_105 : decode cX5_letGo 105 = .ok (.aload_n 0, 1) := by decide +kernel
theorem dX5_letGo_106 : decode cX5_letGo 106 = .ok (.getfield 40, 3) := by decide +kernel
theorem dX5_letGo_109 : decode cX5_letGo 109 = .ok (.iload 5, 2) := by decide +kernel
theorem dX5_letGo_111 : decode cX5_letGo 111 = .ok (.iaload, 1) := by decide +kernel
theorem dX5_letGo_112 : decode cX5_letGo 112 = .ok (.invokevirtual 92, 3) := by decide +kernel
theorem dX5_letGo_115 : decode cX5_letGo 115 = .ok (.aload_n 0, 1) := by decide +kernel
theorem dX5_letGo_116 : decode cX5_letGo 116 = .ok (.aload_n 0, 1) := by decide +kernel
theorem dX5_letGo_117 : decode cX5_letGo 117 = .ok (.getfield 40, 3) := by decide +kernel
theorem dX5_letGo_120 : decode cX5_letGo 120 = .ok (.iload 5, 2) := by decide +kernel
theorem dX5_letGo_122 : decode cX5_letGo 122 = .ok (.iconst 1, 1) := by decide +kernel
theorem dX5_letGo_123 : decode cX5_letGo 123 = .ok (.isub, 1) := by decide +kernel
theorem dX5_letGo_124 : decode cX5_letGo 124 = .ok (.iaload, 1) := by decide +kernel
theorem dX5_letGo_125 : decode cX5_letGo 125 = .ok (.aload_n 0, 1) := by decide +kernel
theorem dX5_letGo_126 : decode cX5_letGo 126 = .ok (.getfield 43, 3) := by decide +kernel
theorem dX5_letGo_129 : decode cX5_letGo 129 = .ok (.iload 5, 2) := by decide +kernel
theorem dX5_letGo_131 : decode cX5_letGo 131 = .ok (.iaload, 1) := by decide +kernel
theorem dX5_letGo_132 : decode cX5_letGo 132 = .ok (.invokevirtual 89, 3) := by decide +kernel
theorem dX5_letGo_135 : decode cX5_letGo 135 = .ok (.iinc 5 (-1), 3) := by decide +kernel
theorem dX5_letGo_138 : decode cX5_letGo 138 = .ok (.goto (-54), 3) := by decide +kernel
theorem dX5_letGo_141 : decode cX5_letGo 141 = .ok (.iconst 0, 1) := by decide +kernel
theorem dX5_letGo_142 : decode cX5_letGo 142 = .ok (.istore 5, 2) := by decide +kernel
theorem dX5_letGo_144 : decode cX5_letGo 144 = .ok (.iload 5, 2) := by decide +kernel
theorem dX5_letGo_146 : decode cX5_letGo 146 = .ok (.bipush 64, 2) := by decide +kernel
theorem dX5_letGo_148 : decode cX5_letGo 148 = .ok (.if_icmp .ge 57, 3) := by decide +kernel
theorem dX5_letGo_151 : decode cX5_letGo 151 = .ok (.aload_n 0, 1) := by decide +kernel
theorem dX5_letGo_152 : decode cX5_letGo 152 = .ok (.getfield 20, 3) := by decide +kernel
theorem dX5_letGo_155 : decode cX5_letGo 155 = .ok (.aload_n 0, 1) := by decide +kernel
theorem dX5_letGo_156 : decode cX5_letGo 156 = .ok (.getfield 37, 3) := by decide +kernel
theorem dX5_letGo_159 : decode cX5_letGo 159 = .ok (.baload, 1) := by decide +kernel
theorem dX5_letGo_160 : decode cX5_letGo 160 = .ok (.ifCond .eq 45, 3) := by decide +kernel
theorem dX5_letGo_163 : decode cX5_letGo 163 = .ok (.aload_n 0, 1) := by decide +kernel
theorem dX5_letGo_164 : decode cX5_letGo 164 = .ok (.getfield 16, 3) := by decide +kernel
theorem dX5_letGo_167 : decode cX5_letGo 167 = .ok (.aload_n 0, 1) := by decide +kernel
theorem dX5_letGo_168 : decode cX5_letGo 168 = .ok (.getfield 37, 3) := by decide +kernel
theorem dX5_letGo_171 : decode cX5_letGo 171 = .ok (.iaload, 1) := by decide +kernel
theorem dX5_letGo_172 : decode cX5_letGo 172 = .ok (.iconst 1, 1) := by decide +kernel
theorem dX5_letGo_173 : decode cX5_letGo 173 = .ok (.if_icmp .ne 32, 3) := by decide +kernel
theorem dX5_letGo_176 : decode cX5_letGo 176 = .ok (.aload_n 0, 1) := by decide +kernel
theorem dX5_letGo_177 : decode cX5_letGo 177 = .ok (.getfield 37, 3) := by decide +kernel
theorem dX5_letGo_180 : decode cX5_letGo 180 = .ok (.istore 6, 2) := by decide +kernel
theorem dX5_letGo_182 : decode cX5_letGo 182 = .ok (.aload_n 0, 1) := by decide +kernel
theorem dX5_letGo_183 : decode cX5_letGo 183 = .ok (.aload_n 0, 1) := by decide +kernel
theorem dX5_letGo_184 : decode cX5_letGo 184 = .ok (.iload 6, 2) := by decide +kernel
theorem dX5_letGo_186 : decode cX5_letGo 186 = .ok (.iconst 0, 1) := by decide +kernel
theorem dX5_letGo_187 : decode cX5_letGo 187 = .ok (.invokevirtual 61, 3) := by decide +kernel
theorem dX5_letGo_190 : decode cX5_letGo 190 = .ok (.putfield 37, 3) := by decide +kernel
theorem dX5_letGo_193 : decode cX5_letGo 193 = .ok (.aload_n 0, 1) := by decide +kernel
theorem dX5_letGo_194 : decode cX5_letGo 194 = .ok (.iload 6, 2) := by decide +kernel
theorem dX5_letGo_196 : decode cX5_letGo 196 = .ok (.invokevirtual 92, 3) := by decide +kernel
theorem dX5_letGo_199 : decode cX5_letGo 199 = .ok (.iinc 5 1, 3) := by decide +kernel
theorem dX5_letGo_202 : decode cX5_letGo 202 = .ok (.goto (-58), 3) := by decide +kernel
theorem dX5_letGo_205 : decode cX5_letGo 205 = .ok (.return_, 1) := by decide +kernel
theorem dX5_levels_0 : decode cX5_levels 0 = .ok (.aload_n 0, 1) := by decide +kernel
theorem dX5_levels_1 : decode cX5_levels 1 = .ok (.getfield 37, 3) := by decide +kernel
theorem dX5_levels_4 : decode cX5_levels 4 = .ok (.istore_n 1, 1) := by decide +kernel
theorem dX5_levels_5 : decode cX5_levels 5 = .ok (.iconst 1, 1) := by decide +kernel
theorem dX5_levels_6 : decode cX5_levels 6 = .ok (.istore_n 2, 1) := by decide +kernel
theorem dX5_levels_7 : decode cX5_levels 7 = .ok (.aload_n 0, 1) := by decide +kernel
theorem dX5_levels_8 : decode cX5_levels 8 = .ok (.getfield 20, 3) := by decide +kernel
theorem dX5_levels_11 : decode cX5_levels 11 = .ok (.iload_n 1, 1) := by decide +kernel
theorem dX5_levels_12 : decode cX5_levels 12 = .ok (.baload, 1) := by decide +kernel
theorem dX5_levels_13 : decode cX5_levels 13 = .ok (.ifCond .eq 22, 3) := by decide +kernel
theorem dX5_levels_16 : decode cX5_levels 16 = .ok (.iload_n 2, 1) := by decide +kernel
theorem dX5_levels_17 : decode cX5_levels 17 = .ok (.bipush 64, 2) := by decide +kernel
theorem dX5_levels_19 : decode cX5_levels 19 = .ok (.if_icmp .ge 16, 3) := by decide +kernel
theorem dX5_levels_22 : decode cX5_levels 22 = .ok (.aload_n 0, 1) := by decide +kernel
theorem dX5_levels_23 : decode cX5_levels 23 = .ok (.iload_n 1, 1) := by decide +kernel
theorem dX5_levels_24 : decode cX5_levels 24 = .ok (.iconst 0, 1) := by decide +kernel
theorem dX5_levels_25 : decode cX5_levels 25 = .ok (.invokevirtual 61, 3) := by decide +kernel
theorem dX5_levels_28 : decode cX5_levels 28 = .ok (.istore_n 1, 1) := by decide +kernel
theorem dX5_levels_29 : decode cX5_levels 29 = .ok (.iinc 2 1, 3) := by decide +kernel
theorem dX5_levels_32 : decode cX5_levels 32 = .ok (.goto (-25), 3) := by decide +kernel
theorem dX5_levels_35 : decode cX5_levels 35 = .ok (.iload_n 2, 1) := by decide +kernel
theorem dX5_levels_36 : decode cX5_levels 36 = .ok (.ireturn, 1) := by decide +kernel
theorem dX5_listLeaves_0 : decode cX5_listLeaves 0 = .ok (.aload_n 0, 1) := by decide +kernel
theorem dX5_listLeaves_1 : decode cX5_listLeaves 1 = .ok (.getfield 49, 3) := by decide +kernel
theorem dX5_listLeaves_4 : decode cX5_listLeaves 4 = .ok (.iconst 0, 1) := by decide +kernel
theorem dX5_listLeaves_5 : decode cX5_listLeaves 5 = .ok (.aload_n 0, 1) := by decide +kernel
theorem dX5_listLeaves_6 : decode cX5_listLeaves 6 = .ok (.getfield 37, 3) := by decide +kernel
theorem dX5_listLeaves_9 : decode cX5_listLeaves 9 = .ok (.iastore, 1) := by decide +kernel
theorem dX5_listLeaves_10 : decode cX5_listLeaves 10 = .ok (.iconst 1, 1) := by decide +kernel
theorem dX5_listLeaves_11 : decode cX5_listLeaves 11 = .ok (.istore_n 1, 1) := by decide +kernel
theorem dX5_listLeaves_12 : decode cX5_listLeaves 12 = .ok (.iconst 0, 1) := by decide +kernel
theorem dX5_listLeaves_13 : decode cX5_listLeaves 13 = .ok (.istore_n 2, 1) := by decide +kernel
theorem dX5_listLeaves_14 : decode cX5_listLeaves 14 = .ok (.iload_n 2, 1) := by decide +kernel
theorem dX5_listLeaves_15 : decode cX5_listLeaves 15 = .ok (.bipush 64, 2) := by decide +kernel
theorem dX5_listLeaves_17 : decode cX5_listLeaves 17 = .ok (.if_icmp .ge 29, 3) := by decide +kernel
theorem dX5_listLeaves_20 : decode cX5_listLeaves 20 = .ok (.aload_n 0, 1) := by decide +kernel
theorem dX5_listLeaves_21 : decode cX5_listLeaves 21 = .ok (.getfield 20, 3) := by decide +kernel
theorem dX5_listLeaves_24 : decode cX5_listLeaves 24 = .ok (.aload_n 0, 1) := by decide +kernel
theorem dX5_listLeaves_25 : decode cX5_listLeaves 25 = .ok (.getfield 49, 3) := by decide +kernel
theorem dX5_listLeaves_28 : decode cX5_listLeaves 28 = .ok (.iconst 0, 1) := by decide +kernel
theorem dX5_listLeaves_29 : decode cX5_listLeaves 29 = .ok (.iaload, 1) := by decide +kernel
theorem dX5_listLeaves_30 : decode cX5_listLeaves 30 = .ok (.baload, 1) := by decide +kernel
theorem dX5_listLeaves_31 : decode cX5_listLeaves 31 = .ok (.ifCond .eq 15, 3) := by decide +kernel
theorem dX5_listLeaves_34 : decode cX5_listLeaves 34 = .ok (.aload_n 0, 1) := by decide +kernel
theorem dX5_listLeaves_35 : decode cX5_listLeaves 35 = .ok (.iload_n 1, 1) := by decide +kernel
theorem dX5_listLeaves_36 : decode cX5_listLeaves 36 = .ok (.invokevirtual 95, 3) := by decide +kernel
theorem dX5_listLeaves_39 : decode cX5_listLeaves 39 = .ok (.istore_n 1, 1) := by decide +kernel
theorem dX5_listLeaves_40 : decode cX5_listLeaves 40 = .ok (.iinc 2 1, 3) := by decide +kernel
theorem dX5_listLeaves_43 : decode cX5_listLeaves 43 = .ok (.goto (-29), 3) := by decide +kernel
theorem dX5_listLeaves_46 : decode cX5_listLeaves 46 = .ok (.iload_n 1, 1) := by decide +kernel
theorem dX5_listLeaves_47 : decode cX5_listLeaves 47 = .ok (.ireturn, 1) := by decide +kernel
theorem dX5_listRowBelow_0 : decode cX5_listRowBelow 0 = .ok (.iconst 0, 1) := by decide +kernel
theorem dX5_listRowBelow_1 : decode cX5_listRowBelow 1 = .ok (.istore_n 2, 1) := by decide +kernel
theorem dX5_listRowBelow_2 : decode cX5_listRowBelow 2 = .ok (.iconst 0, 1) := by decide +kernel
theorem dX5_listRowBelow_3 : decode cX5_listRowBelow 3 = .ok (.istore_n 3, 1) := by decide +kernel
theorem dX5_listRowBelow_4 : decode cX5_listRowBelow 4 = .ok (.iload_n 3, 1) := by decide +kernel
theorem dX5_listRowBelow_5 : decode cX5_listRowBelow 5 = .ok (.iload_n 1, 1) := by decide +kernel
theorem dX5_listRowBelow_6 : decode cX5_listRowBelow 6 = .ok (.if_icmp .ge 61, 3) := by decide +kernel
theorem dX5_listRowBelow_9 : decode cX5_listRowBelow 9 = .ok (.aload_n 0, 1) := by decide +kernel
theorem dX5_listRowBelow_10 : decode cX5_listRowBelow 10 = .ok (.getfield 49, 3) := by decide +kernel
theorem dX5_listRowBelow_13 : decode cX5_listRowBelow 13 = .ok (.iload_n 3, 1) := by decide +kernel
theorem dX5_listRowBelow_14 : decode cX5_listRowBelow 14 = .ok (.iaload, 1) := by decide +kernel
theorem dX5_listRowBelow_15 : decode cX5_listRowBelow 15 = .ok (.istore 4, 2) := by decide +kernel
theorem dX5_listRowBelow_17 : decode cX5_listRowBelow 17 = .ok (.iconst 0, 1) := by decide +kernel
theorem dX5_listRowBelow_18 : decode cX5_listRowBelow 18 = .ok (.istore 5, 2) := by decide +kernel
theorem dX5_listRowBelow_20 : decode cX5_listRowBelow 20 = .ok (.iload 5, 2) := by decide +kernel
theorem dX5_listRowBelow_22 : decode cX5_listRowBelow 22 = .ok (.aload_n 0, 1) := by decide +kernel
theorem dX5_listRowBelow_23 : decode cX5_listRowBelow 23 = .ok (.getfield 16, 3) := by decide +kernel
theorem dX5_listRowBelow_26 : decode cX5_listRowBelow 26 = .ok (.iload 4, 2) := by decide +kernel
theorem dX5_listRowBelow_28 : decode cX5_listRowBelow 28 = .ok (.iaload, 1) := by decide +kernel
theorem dX5_listRowBelow_29 : decode cX5_listRowBelow 29 = .ok (.if_icmp .ge 32, 3) := by decide +kernel
theorem dX5_listRowBelow_32 : decode cX5_listRowBelow 32 = .ok (.iload_n 2, 1) := by decide +kernel
theorem dX5_listRowBelow_33 : decode cX5_listRowBelow 33 = .ok (.bipush 64, 2) := by decide +kernel
theorem dX5_listRowBelow_35 : decode cX5_listRowBelow 35 = .ok (.if_icmp .ge 26, 3) := by decide +kernel
theorem dX5_listRowBelow_38 : decode cX5_listRowBelow 38 = .ok (.aload_n 0, 1) := by decide +kernel
theorem dX5_listRowBelow_39 : decode cX5_listRowBelow 39 = .ok (.getfield 52, 3) := by decide +kernel
theorem dX5_listRowBelow_42 : decode cX5_listRowBelow 42 = .ok (.iload_n 2, 1) := by decide +kernel
theorem dX5_listRowBelow_43 : decode cX5_listRowBelow 43 = .ok (.aload_n 0, 1) := by decide +kernel
theorem dX5_listRowBelow_44 : decode cX5_listRowBelow 44 = .ok (.iload 4, 2) := by decide +kernel
theorem dX5_listRowBelow_46 : decode cX5_listRowBelow 46 = .ok (.iload 5, 2) := by decide +kernel
theorem dX5_listRowBelow_48 : decode cX5_listRowBelow 48 = .ok (.invokevirtual 61, 3) := by decide +kernel
theorem dX5_listRowBelow_51 : decode cX5_listRowBelow 51 = .ok (.iastore, 1) := by decide +kernel
theorem dX5_listRowBelow_52 : decode cX5_listRowBelow 52 = .ok (.iinc 2 1, 3) := by decide +kernel
theorem dX5_listRowBelow_55 : decode cX5_listRowBelow 55 = .ok (.iinc 5 1, 3) := by decide +kernel
theorem dX5_listRowBelow_58 : decode cX5_listRowBelow 58 = .ok (.goto (-38), 3) := by decide +kernel
theorem dX5_listRowBelow_61 : decode cX5_listRowBelow 61 = .ok (.iinc 3 1, 3) := by decide +kernel
theorem dX5_listRowBelow_64 : decode cX5_listRowBelow 64 = .ok (.goto (-60), 3) := by decide +kernel
theorem dX5_listRowBelow_67 : decode cX5_listRowBelow 67 = .ok (.aload_n 0, 1) := by decide +kernel
theorem dX5_listRowBelow_68 : decode cX5_listRowBelow 68 = .ok (.getfield 52, 3) := by decide +kernel
theorem dX5_listRowBelow_71 : decode cX5_listRowBelow 71 = .ok (.iconst 0, 1) := by decide +kernel
theorem dX5_listRowBelow_72 : decode cX5_listRowBelow 72 = .ok (.aload_n 0, 1) := by decide +kernel
theorem dX5_listRowBelow_73 : decode cX5_listRowBelow 73 = .ok (.getfield 49, 3) := by decide +kernel
theorem dX5_listRowBelow_76 : decode cX5_listRowBelow 76 = .ok (.iconst 0, 1) := by decide +kernel
theorem dX5_listRowBelow_77 : decode cX5_listRowBelow 77 = .ok (.iload_n 2, 1) := by decide +kernel
theorem dX5_listRowBelow_78 : decode cX5_listRowBelow 78 = .ok (.invokestatic 99, 3) := by decide +kernel
theorem dX5_listRowBelow_81 : decode cX5_listRowBelow 81 = .ok (.iload_n 2, 1) := by decide +kernel
theorem dX5_listRowBelow_82 : decode cX5_listRowBelow 82 = .ok (.ireturn, 1) := by decide +kernel
theorem dX5_entryAt_0 : decode cX5_entryAt 0 = .ok (.iload_n 1, 1) := by decide +kernel
theorem dX5_entryAt_1 : decode cX5_entryAt 1 = .ok (.istore_n 2, 1) := by decide +kernel
theorem dX5_entryAt_2 : decode cX5_entryAt 2 = .ok (.aload_n 0, 1) := by decide +kernel
theorem dX5_entryAt_3 : decode cX5_entryAt 3 = .ok (.invokevirtual 105, 3) := by decide +kernel
theorem dX5_entryAt_6 : decode cX5_entryAt 6 = .ok (.istore_n 3, 1) := by decide +kernel
theorem dX5_entryAt_7 : decode cX5_entryAt 7 = .ok (.iconst 0, 1) := by decide +kernel
theorem dX5_entryAt_8 : decode cX5_entryAt 8 = .ok (.istore 4, 2) := by decide +kernel
theorem dX5_entryAt_10 : decode cX5_entryAt 10 = .ok (.iload 4, 2) := by decide +kernel
theorem dX5_entryAt_12 : decode cX5_entryAt 12 = .ok (.iload_n 3, 1) := by decide +kernel
theorem dX5_entryAt_13 : decode cX5_entryAt 13 = .ok (.if_icmp .ge 53, 3) := by decide +kernel
theorem dX5_entryAt_16 : decode cX5_entryAt 16 = .ok (.aload_n 0, 1) := by decide +kernel
theorem dX5_entryAt_17 : decode cX5_entryAt 17 = .ok (.getfield 49, 3) := by decide +kernel
theorem dX5_entryAt_20 : decode cX5_entryAt 20 = .ok (.iload 4, 2) := by decide +kernel
theorem dX5_entryAt_22 : decode cX5_entryAt 22 = .ok (.iaload, 1) := by decide +kernel
theorem dX5_entryAt_23 : decode cX5_entryAt 23 = .ok (.istore 5, 2) := by decide +kernel
theorem dX5_entryAt_25 : decode cX5_entryAt 25 = .ok (.iload_n 2, 1) := by decide +kernel
theorem dX5_entryAt_26 : decode cX5_entryAt 26 = .ok (.ifCond .lt 24, 3) := by decide +kernel
theorem dX5_entryAt_29 : decode cX5_entryAt 29 = .ok (.iload_n 2, 1) := by decide +kernel
theorem dX5_entryAt_30 : decode cX5_entryAt 30 = .ok (.aload_n 0, 1) := by decide +kernel
theorem dX5_entryAt_31 : decode cX5_entryAt 31 = .ok (.getfield 16, 3) := by decide +kernel
theorem dX5_entryAt_34 : decode cX5_entryAt 34 = .ok (.iload 5, 2) := by decide +kernel
theorem dX5_entryAt_36 : decode cX5_entryAt 36 = .ok (.iaload, 1) := by decide +kernel
theorem dX5_entryAt_37 : decode cX5_entryAt 37 = .ok (.if_icmp .ge 13, 3) := by decide +kernel
theorem dX5_entryAt_40 : decode cX5_entryAt 40 = .ok (.aload_n 0, 1) := by decide +kernel
theorem dX5_entryAt_41 : decode cX5_entryAt 41 = .ok (.getfield 11, 3) := by decide +kernel
theorem dX5_entryAt_44 : decode cX5_entryAt 44 = .ok (.iload 5, 2) := by decide +kernel
theorem dX5_entryAt_46 : decode cX5_entryAt 46 = .ok (.aaload, 1) := by decide +kernel
theorem dX5_entryAt_47 : decode cX5_entryAt 47 = .ok (.iload_n 2, 1) := by decide +kernel
theorem dX5_entryAt_48 : decode cX5_entryAt 48 = .ok (.laload, 1) := by decide +kernel
theorem dX5_entryAt_49 : decode cX5_entryAt 49 = .ok (.lreturn, 1) := by decide +kernel
theorem dX5_entryAt_50 : decode cX5_entryAt 50 = .ok (.iload_n 2, 1) := by decide +kernel
theorem dX5_entryAt_51 : decode cX5_entryAt 51 = .ok (.aload_n 0, 1) := by decide +kernel
theorem dX5_entryAt_52 : decode cX5_entryAt 52 = .ok (.getfield 16, 3) := by decide +kernel
theorem dX5_entryAt_55 : decode cX5_entryAt 55 = .ok (.iload 5, 2) := by decide +kernel
theorem dX5_entryAt_57 : decode cX5_entryAt 57 = .ok (.iaload, 1) := by decide +kernel
theorem dX5_entryAt_58 : decode cX5_entryAt 58 = .ok (.isub, 1) := by decide +kernel
theorem dX5_entryAt_59 : decode cX5_entryAt 59 = .ok (.istore_n 2, 1) := by decide +kernel
theorem dX5_entryAt_60 : decode cX5_entryAt 60 = .ok (.iinc 4 1, 3) := by decide +kernel
theorem dX5_entryAt_63 : decode cX5_entryAt 63 = .ok (.goto (-53), 3) := by decide +kernel
theorem dX5_entryAt_66 : decode cX5_entryAt 66 = .ok (.aload_n 0, 1) := by decide +kernel
theorem dX5_entryAt_67 : decode cX5_entryAt 67 = .ok (.aload_n 0, 1) := by decide +kernel
theorem dX5_entryAt_68 : decode cX5_entryAt 68 = .ok (.getfield 37, 3) := by decide +kernel
theorem dX5_entryAt_71 : decode cX5_entryAt 71 = .ok (.invokevirtual 65, 3) := by decide +kernel
theorem dX5_entryAt_74 : decode cX5_entryAt 74 = .ok (.lreturn, 1) := by decide +kernel
theorem dX5_sizeOfLeafAt_0 : decode cX5_sizeOfLeafAt 0 = .ok (.iload_n 1, 1) := by decide +kernel
theorem dX5_sizeOfLeafAt_1 : decode cX5_sizeOfLeafAt 1 = .ok (.istore_n 2, 1) := by decide +kernel
theorem dX5_sizeOfLeafAt_2 : decode cX5_sizeOfLeafAt 2 = .ok (.aload_n 0, 1) := by decide +kernel
theorem dX5_sizeOfLeafAt_3 : decode cX5_sizeOfLeafAt 3 = .ok (.invokevirtual 105, 3) := by decide +kernel
theorem dX5_sizeOfLeafAt_6 : decode cX5_sizeOfLeafAt 6 = .ok (.istore_n 3, 1) := by decide +kernel
theorem dX5_sizeOfLeafAt_7 : decode cX5_sizeOfLeafAt 7 = .ok (.iconst 0, 1) := by decide +kernel
theorem dX5_sizeOfLeafAt_8 : decode cX5_sizeOfLeafAt 8 = .ok (.istore 4, 2) := by decide +kernel
theorem dX5_sizeOfLeafAt_10 : decode cX5_sizeOfLeafAt 10 = .ok (.iload 4, 2) := by decide +kernel
theorem dX5_sizeOfLeafAt_12 : decode cX5_sizeOfLeafAt 12 = .ok (.iload_n 3, 1) := by decide +kernel
theorem dX5_sizeOfLeafAt_13 : decode cX5_sizeOfLeafAt 13 = .ok (.if_icmp .ge 47, 3) := by decide +kernel
theorem dX5_sizeOfLeafAt_16 : decode cX5_sizeOfLeafAt 16 = .ok (.aload_n 0, 1) := by decide +kernel
theorem dX5_sizeOfLeafAt_17 : decode cX5_sizeOfLeafAt 17 = .ok (.getfield 49, 3) := by decide +kernel
theorem dX5_sizeOfLeafAt_20 : decode cX5_sizeOfLeafAt 20 = .ok (.iload 4, 2) := by decide +kernel
theorem dX5_sizeOfLeafAt_22 : decode cX5_sizeOfLeafAt 22 = .ok (.iaload, 1) := by decide +kernel
theorem dX5_sizeOfLeafAt_23 : decode cX5_sizeOfLeafAt 23 = .ok (.istore 5, 2) := by decide +kernel
theorem dX5_sizeOfLeafAt_25 : decode cX5_sizeOfLeafAt 25 = .ok (.iload_n 2, 1) := by decide +kernel
theorem dX5_sizeOfLeafAt_26 : decode cX5_sizeOfLeafAt 26 = .ok (.aload_n 0, 1) := by decide +kernel
theorem dX5_sizeOfLeafAt_27 : decode cX5_sizeOfLeafAt 27 = .ok (.getfield 16, 3) := by decide +kernel
theorem dX5_sizeOfLeafAt_30 : decode cX5_sizeOfLeafAt 30 = .ok (.iload 5, 2) := by decide +kernel
theorem dX5_sizeOfLeafAt_32 : decode cX5_sizeOfLeafAt 32 = .ok (.iaload, 1) := by decide +kernel
theorem dX5_sizeOfLeafAt_33 : decode cX5_sizeOfLeafAt 33 = .ok (.if_icmp .ge 11, 3) := by decide +kernel
theorem dX5_sizeOfLeafAt_36 : decode cX5_sizeOfLeafAt 36 = .ok (.aload_n 0, 1) := by decide +kernel
theorem dX5_sizeOfLeafAt_37 : decode cX5_sizeOfLeafAt 37 = .ok (.getfield 16, 3) := by decide +kernel
theorem dX5_sizeOfLeafAt_40 : decode cX5_sizeOfLeafAt 40 = .ok (.iload 5, 2) := by decide +kernel
theorem dX5_sizeOfLeafAt_42 : decode cX5_sizeOfLeafAt 42 = .ok (.iaload, 1) := by decide +kernel
theorem dX5_sizeOfLeafAt_43 : decode cX5_sizeOfLeafAt 43 = .ok (.ireturn, 1) := by decide +kernel
theorem dX5_sizeOfLeafAt_44 : decode cX5_sizeOfLeafAt 44 = .ok (.iload_n 2, 1) := by decide +kernel
theorem dX5_sizeOfLeafAt_45 : decode cX5_sizeOfLeafAt 45 = .ok (.aload_n 0, 1) := by decide +kernel
theorem dX5_sizeOfLeafAt_46 : decode cX5_sizeOfLeafAt 46 = .ok (.getfield 16, 3) := by decide +kernel
theorem dX5_sizeOfLeafAt_49 : decode cX5_sizeOfLeafAt 49 = .ok (.iload 5, 2) := by decide +kernel
theorem dX5_sizeOfLeafAt_51 : decode cX5_sizeOfLeafAt 51 = .ok (.iaload, 1) := by decide +kernel
theorem dX5_sizeOfLeafAt_52 : decode cX5_sizeOfLeafAt 52 = .ok (.isub, 1) := by decide +kernel
theorem dX5_sizeOfLeafAt_53 : decode cX5_sizeOfLeafAt 53 = .ok (.istore_n 2, 1) := by decide +kernel
theorem dX5_sizeOfLeafAt_54 : decode cX5_sizeOfLeafAt 54 = .ok (.iinc 4 1, 3) := by decide +kernel
theorem dX5_sizeOfLeafAt_57 : decode cX5_sizeOfLeafAt 57 = .ok (.goto (-47), 3) := by decide +kernel
theorem dX5_sizeOfLeafAt_60 : decode cX5_sizeOfLeafAt 60 = .ok (.iconst 0, 1) := by decide +kernel
theorem dX5_sizeOfLeafAt_61 : decode cX5_sizeOfLeafAt 61 = .ok (.ireturn, 1) := by decide +kernel
theorem dX5_firstTwin_0 : decode cX5_firstTwin 0 = .ok (.aload_n 0, 1) := by decide +kernel
theorem dX5_firstTwin_1 : decode cX5_firstTwin 1 = .ok (.invokevirtual 105, 3) := by decide +kernel
theorem dX5_firstTwin_4 : decode cX5_firstTwin 4 = .ok (.istore_n 1, 1) := by decide +kernel
theorem dX5_firstTwin_5 : decode cX5_firstTwin 5 = .ok (.iconst 0, 1) := by decide +kernel
theorem dX5_firstTwin_6 : decode cX5_firstTwin 6 = .ok (.istore_n 2, 1) := by decide +kernel
theorem dX5_firstTwin_7 : decode cX5_firstTwin 7 = .ok (.lconst 0, 1) := by decide +kernel
theorem dX5_firstTwin_8 : decode cX5_firstTwin 8 = .ok (.lstore_n 3, 1) := by decide +kernel
theorem dX5_firstTwin_9 : decode cX5_firstTwin 9 = .ok (.iconst 0, 1) := by decide +kernel
theorem dX5_firstTwin_10 : decode cX5_firstTwin 10 = .ok (.istore 5, 2) := by decide +kernel
theorem dX5_firstTwin_12 : decode cX5_firstTwin 12 = .ok (.iload 5, 2) := by decide +kernel
theorem dX5_firstTwin_14 : decode cX5_firstTwin 14 = .ok (.iload_n 1, 1) := by decide +kernel
theorem dX5_firstTwin_15 : decode cX5_firstTwin 15 = .ok (.if_icmp .ge 77, 3) := by decide +kernel
theorem dX5_firstTwin_18 : decode cX5_firstTwin 18 = .ok (.aload_n 0, 1) := by decide +kernel
theorem dX5_firstTwin_19 : decode cX5_firstTwin 19 = .ok (.getfield 49, 3) := by decide +kernel
theorem dX5_firstTwin_22 : decode cX5_firstTwin 22 = .ok (.iload 5, 2) := by decide +kernel
theorem dX5_firstTwin_24 : decode cX5_firstTwin 24 = .ok (.iaload, 1) := by decide +kernel
theorem dX5_firstTwin_25 : decode cX5_firstTwin 25 = .ok (.istore 6, 2) := by decide +kernel
theorem dX5_firstTwin_27 : decode cX5_firstTwin 27 = .ok (.iconst 0, 1) := by decide +kernel
theorem dX5_firstTwin_28 : decode cX5_firstTwin 28 = .ok (.istore 7, 2) := by decide +kernel
theorem dX5_firstTwin_30 : decode cX5_firstTwin 30 = .ok (.iload 7, 2) := by decide +kernel
theorem dX5_firstTwin_32 : decode cX5_firstTwin 32 = .ok (.aload_n 0, 1) := by decide +kernel
theorem dX5_firstTwin_33 : decode cX5_firstTwin 33 = .ok (.getfield 16, 3) := by decide +kernel
theorem dX5_firstTwin_36 : decode cX5_firstTwin 36 = .ok (.iload 6, 2) := by decide +kernel
theorem dX5_firstTwin_38 : decode cX5_firstTwin 38 = .ok (.iaload, 1) := by decide +kernel
theorem dX5_firstTwin_39 : decode cX5_firstTwin 39 = .ok (.if_icmp .ge 47, 3) := by decide +kernel
theorem dX5_firstTwin_42 : decode cX5_firstTwin 42 = .ok (.aload_n 0, 1) := by decide +kernel
theorem dX5_firstTwin_43 : decode cX5_firstTwin 43 = .ok (.getfield 11, 3) := by decide +kernel
theorem dX5_firstTwin_46 : decode cX5_firstTwin 46 = .ok (.iload 6, 2) := by decide +kernel
theorem dX5_firstTwin_48 : decode cX5_firstTwin 48 = .ok (.aaload, 1) := by decide +kernel
theorem dX5_firstTwin_49 : decode cX5_firstTwin 49 = .ok (.iload 7, 2) := by decide +kernel
theorem dX5_firstTwin_51 : decode cX5_firstTwin 51 = .ok (.laload, 1) := by decide +kernel
theorem dX5_firstTwin_52 : decode cX5_firstTwin 52 = .ok (.lstore 8, 2) := by decide +kernel
theorem dX5_firstTwin_54 : decode cX5_firstTwin 54 = .ok (.iload_n 2, 1) := by decide +kernel
theorem dX5_firstTwin_55 : decode cX5_firstTwin 55 = .ok (.ifCond .le 19, 3) := by decide +kernel
theorem dX5_firstTwin_58 : decode cX5_firstTwin 58 = .ok (.lload_n 3, 1) := by decide +kernel
theorem dX5_firstTwin_59 : decode cX5_firstTwin 59 = .ok (.invokestatic 108, 3) := by decide +kernel
theorem dX5_firstTwin_62 : decode cX5_firstTwin 62 = .ok (.lload 8, 2) := by decide +kernel
theorem dX5_firstTwin_64 : decode cX5_firstTwin 64 = .ok (.invokestatic 108, 3) := by decide +kernel
theorem dX5_firstTwin_67 : decode cX5_firstTwin 67 = .ok (.if_icmp .ne 7, 3) := by decide +kernel
theorem dX5_firstTwin_70 : decode cX5_firstTwin 70 = .ok (.iload_n 2, 1) := by decide +kernel
theorem dX5_firstTwin_71 : decode cX5_firstTwin 71 = .ok (.iconst 1, 1) := by decide +kernel
theorem dX5_firstTwin_72 : decode cX5_firstTwin 72 = .ok (.isub, 1) := by decide +kernel
theorem dX5_firstTwin_73 : decode cX5_firstTwin 73 = .ok (.ireturn, 1) := by decide +kernel
theorem dX5_firstTwin_74 : decode cX5_firstTwin 74 = .ok (.lload 8, 2) := by decide +kernel
theorem dX5_firstTwin_76 : decode cX5_firstTwin 76 = .ok (.lstore_n 3, 1) := by decide +kernel
theorem dX5_firstTwin_77 : decode cX5_firstTwin 77 = .ok (.iinc 2 1, 3) := by decide +kernel
theorem dX5_firstTwin_80 : decode cX5_firstTwin 80 = .ok (.iinc 7 1, 3) := by decide +kernel
theorem dX5_firstTwin_83 : decode cX5_firstTwin 83 = .ok (.goto (-53), 3) := by decide +kernel
theorem dX5_firstTwin_86 : decode cX5_firstTwin 86 = .ok (.iinc 5 1, 3) := by decide +kernel
theorem dX5_firstTwin_89 : decode cX5_firstTwin 89 = .ok (.goto (-77), 3) := by decide +kernel
theorem dX5_firstTwin_92 : decode cX5_firstTwin 92 = .ok (.iconst (-1), 1) := by decide +kernel
theorem dX5_firstTwin_93 : decode cX5_firstTwin 93 = .ok (.ireturn, 1) := by decide +kernel
theorem dX5_tell_0 : decode cX5_tell 0 = .ok (.aload_n 0, 1) := by decide +kernel
theorem dX5_tell_1 : decode cX5_tell 1 = .ok (.invokevirtual 105, 3) := by decide +kernel
theorem dX5_tell_4 : decode cX5_tell 4 = .ok (.istore 4, 2) := by decide +kernel
theorem dX5_tell_6 : decode cX5_tell 6 = .ok (.iconst 0, 1) := by decide +kernel
theorem dX5_tell_7 : decode cX5_tell 7 = .ok (.istore 5, 2) := by decide +kernel
theorem dX5_tell_9 : decode cX5_tell 9 = .ok (.iconst 0, 1) := by decide +kernel
theorem dX5_tell_10 : decode cX5_tell 10 = .ok (.istore 6, 2) := by decide +kernel
theorem dX5_tell_12 : decode cX5_tell 12 = .ok (.iload 6, 2) := by decide +kernel
theorem dX5_tell_14 : decode cX5_tell 14 = .ok (.iload 4, 2) := by decide +kernel
theorem dX5_tell_16 : decode cX5_tell 16 = .ok (.if_icmp .ge 93, 3) := by decide +kernel
theorem dX5_tell_19 : decode cX5_tell 19 = .ok (.aload_n 0, 1) := by decide +kernel
theorem dX5_tell_20 : decode cX5_tell 20 = .ok (.getfield 49, 3) := by decide +kernel
theorem dX5_tell_23 : decode cX5_tell 23 = .ok (.iload 6, 2) := by decide +kernel
theorem dX5_tell_25 : decode cX5_tell 25 = .ok (.iaload, 1) := by decide +kernel
theorem dX5_tell_26 : decode cX5_tell 26 = .ok (.istore 7, 2) := by decide +kernel
theorem dX5_tell_28 : decode cX5_tell 28 = .ok (.iconst 0, 1) := by decide +kernel
theorem dX5_tell_29 : decode cX5_tell 29 = .ok (.istore 8, 2) := by decide +kernel
theorem dX5_tell_31 : decode cX5_tell 31 = .ok (.iload 8, 2) := by decide +kernel
theorem dX5_tell_33 : decode cX5_tell 33 = .ok (.aload_n 0, 1) := by decide +kernel
theorem dX5_tell_34 : decode cX5_tell 34 = .ok (.getfield 16, 3) := by decide +kernel
theorem dX5_tell_37 : decode cX5_tell 37 = .ok (.iload 7, 2) := by decide +kernel
theorem dX5_tell_39 : decode cX5_tell 39 = .ok (.iaload, 1) := by decide +kernel
theorem dX5_tell_40 : decode cX5_tell 40 = .ok (.if_icmp .ge 63, 3) := by decide +kernel
theorem dX5_tell_43 : decode cX5_tell 43 = .ok (.iload 5, 2) := by decide +kernel
theorem dX5_tell_45 : decode cX5_tell 45 = .ok (.aload_n 3, 1) := by decide +kernel
theorem dX5_tell_46 : decode cX5_tell 46 = .ok (.arraylength, 1) := by decide +kernel
theorem dX5_tell_47 : decode cX5_tell 47 = .ok (.if_icmp .ge 56, 3) := by decide +kernel
theorem dX5_tell_50 : decode cX5_tell 50 = .ok (.aload_n 0, 1) := by decide +kernel
theorem dX5_tell_51 : decode cX5_tell 51 = .ok (.getfield 11, 3) := by decide +kernel
theorem dX5_tell_54 : decode cX5_tell 54 = .ok (.iload 7, 2) := by decide +kernel
theorem dX5_tell_56 : decode cX5_tell 56 = .ok (.aaload, 1) := by decide +kernel
theorem dX5_tell_57 : decode cX5_tell 57 = .ok (.iload 8, 2) := by decide +kernel
theorem dX5_tell_59 : decode cX5_tell 59 = .ok (.laload, 1) := by decide +kernel
theorem dX5_tell_60 : decode cX5_tell 60 = .ok (.invokestatic 108, 3) := by decide +kernel
theorem dX5_tell_63 : decode cX5_tell 63 = .ok (.istore 9, 2) := by decide +kernel
theorem dX5_tell_65 : decode cX5_tell 65 = .ok (.iload 9, 2) := by decide +kernel
theorem dX5_tell_67 : decode cX5_tell 67 = .ok (.iload_n 1, 1) := by decide +kernel
theorem dX5_tell_68 : decode cX5_tell 68 = .ok (.if_icmp .lt 29, 3) := by decide +kernel
theorem dX5_tell_71 : decode cX5_tell 71 = .ok (.iload 9, 2) := by decide +kernel
theorem dX5_tell_73 : decode cX5_tell 73 = .ok (.iload_n 2, 1) := by decide +kernel
theorem dX5_tell_74 : decode cX5_tell 74 = .ok (.if_icmp .gt 23, 3) := by decide +kernel
theorem dX5_tell_77 : decode cX5_tell 77 = .ok (.aload_n 3, 1) := by decide +kernel
theorem dX5_tell_78 : decode cX5_tell 78 = .ok (.iload 5, 2) := by decide +kernel
theorem dX5_tell_80 : decode cX5_tell 80 = .ok (.aload_n 0, 1) := by decide +kernel
theorem dX5_tell_81 : decode cX5_tell 81 = .ok (.getfield 11, 3) := by decide +kernel
theorem dX5_tell_84 : decode cX5_tell 84 = .ok (.iload 7, 2) := by decide +kernel
theorem dX5_tell_86 : decode cX5_tell 86 = .ok (.aaload, 1) := by decide +kernel
theorem dX5_tell_87 : decode cX5_tell 87 = .ok (.iload 8, 2) := by decide +kernel
theorem dX5_tell_89 : decode cX5_tell 89 = .ok (.laload, 1) := by decide +kernel
theorem dX5_tell_90 : decode cX5_tell 90 = .ok (.invokestatic 112, 3) := by decide +kernel
theorem dX5_tell_93 : decode cX5_tell 93 = .ok (.iastore, 1) := by decide +kernel
theorem dX5_tell_94 : decode cX5_tell 94 = .ok (.iinc 5 1, 3) := by decide +kernel
theorem dX5_tell_97 : decode cX5_tell 97 = .ok (.iinc 8 1, 3) := by decide +kernel
theorem dX5_tell_100 : decode cX5_tell 100 = .ok (.goto (-69), 3) := by decide +kernel
theorem dX5_tell_103 : decode cX5_tell 103 = .ok (.iinc 6 1, 3) := by decide +kernel
theorem dX5_tell_106 : decode cX5_tell 106 = .ok (.goto (-94), 3) := by decide +kernel
theorem dX5_tell_109 : decode cX5_tell 109 = .ok (.iload 5, 2) := by decide +kernel
theorem dX5_tell_111 : decode cX5_tell 111 = .ok (.ireturn, 1) := by decide +kernel
theorem dX5_costOf_0 : decode cX5_costOf 0 = .ok (.aload_n 0, 1) := by decide +kernel
theorem dX5_costOf_1 : decode cX5_costOf 1 = .ok (.iload_n 1, 1) := by decide +kernel
theorem dX5_costOf_2 : decode cX5_costOf 2 = .ok (.iconst 0, 1) := by decide +kernel
theorem dX5_costOf_3 : decode cX5_costOf 3 = .ok (.invokestatic 115, 3) := by decide +kernel
theorem dX5_costOf_6 : decode cX5_costOf 6 = .ok (.invokevirtual 69, 3) := by decide +kernel
theorem dX5_costOf_9 : decode cX5_costOf 9 = .ok (.aload_n 0, 1) := by decide +kernel
theorem dX5_costOf_10 : decode cX5_costOf 10 = .ok (.getfield 40, 3) := by decide +kernel
theorem dX5_costOf_13 : decode cX5_costOf 13 = .ok (.aload_n 0, 1) := by decide +kernel
theorem dX5_costOf_14 : decode cX5_costOf 14 = .ok (.getfield 46, 3) := by decide +kernel
theorem dX5_costOf_17 : decode cX5_costOf 17 = .ok (.iaload, 1) := by decide +kernel
theorem dX5_costOf_18 : decode cX5_costOf 18 = .ok (.istore_n 3, 1) := by decide +kernel
theorem dX5_costOf_19 : decode cX5_costOf 19 = .ok (.aload_n 0, 1) := by decide +kernel
theorem dX5_costOf_20 : decode cX5_costOf 20 = .ok (.getfield 46, 3) := by decide +kernel
theorem dX5_costOf_23 : decode cX5_costOf 23 = .ok (.iconst 1, 1) := by decide +kernel
theorem dX5_costOf_24 : decode cX5_costOf 24 = .ok (.iadd, 1) := by decide +kernel
theorem dX5_costOf_25 : decode cX5_costOf 25 = .ok (.istore 4, 2) := by decide +kernel
theorem dX5_costOf_27 : decode cX5_costOf 27 = .ok (.aload_n 0, 1) := by decide +kernel
theorem dX5_costOf_28 : decode cX5_costOf 28 = .ok (.invokevirtual 105, 3) := by decide +kernel
theorem dX5_costOf_31 : decode cX5_costOf 31 = .ok (.istore 5, 2) := by decide +kernel
theorem dX5_costOf_33 : decode cX5_costOf 33 = .ok (.iconst 0, 1) := by decide +kernel
theorem dX5_costOf_34 : decode cX5_costOf 34 = .ok (.istore 6, 2) := by decide +kernel
theorem dX5_costOf_36 : decode cX5_costOf 36 = .ok (.iconst 0, 1) := by decide +kernel
theorem dX5_costOf_37 : decode cX5_costOf 37 = .ok (.istore 7, 2) := by decide +kernel
theorem dX5_costOf_39 : decode cX5_costOf 39 = .ok (.iload 7, 2) := by decide +kernel
theorem dX5_costOf_41 : decode cX5_costOf 41 = .ok (.iload 5, 2) := by decide +kernel
theorem dX5_costOf_43 : decode cX5_costOf 43 = .ok (.if_icmp .ge 60, 3) := by decide +kernel
theorem dX5_costOf_46 : decode cX5_costOf 46 = .ok (.aload_n 0, 1) := by decide +kernel
theorem dX5_costOf_47 : decode cX5_costOf 47 = .ok (.getfield 49, 3) := by decide +kernel
theorem dX5_costOf_50 : decode cX5_costOf 50 = .ok (.iload 7, 2) := by decide +kernel
theorem dX5_costOf_52 : decode cX5_costOf 52 = .ok (.iaload, 1) := by decide +kernel
theorem dX5_costOf_53 : decode cX5_costOf 53 = .ok (.istore 8, 2) := by decide +kernel
theorem dX5_costOf_55 : decode cX5_costOf 55 = .ok (.iload 6, 2) := by decide +kernel
theorem dX5_costOf_57 : decode cX5_costOf 57 = .ok (.ifCond .eq 22, 3) := by decide +kernel
theorem dX5_costOf_60 : decode cX5_costOf 60 = .ok (.aload_n 0, 1) := by decide +kernel
theorem dX5_costOf_61 : decode cX5_costOf 61 = .ok (.getfield 11, 3) := by decide +kernel
theorem dX5_costOf_64 : decode cX5_costOf 64 = .ok (.iload 8, 2) := by decide +kernel
theorem dX5_costOf_66 : decode cX5_costOf 66 = .ok (.aaload, 1) := by decide +kernel
theorem dX5_costOf_67 : decode cX5_costOf 67 = .ok (.iconst 0, 1) := by decide +kernel
theorem dX5_costOf_68 : decode cX5_costOf 68 = .ok (.laload, 1) := by decide +kernel
theorem dX5_costOf_69 : decode cX5_costOf 69 = .ok (.invokestatic 108, 3) := by decide +kernel
theorem dX5_costOf_72 : decode cX5_costOf 72 = .ok (.iload_n 2, 1) := by decide +kernel
theorem dX5_costOf_73 : decode cX5_costOf 73 = .ok (.if_icmp .gt 6, 3) := by decide +kernel
theorem dX5_costOf_76 : decode cX5_costOf 76 = .ok (.iinc 4 1, 3) := by decide +kernel
theorem dX5_costOf_79 : decode cX5_costOf 79 = .ok (.iload 6, 2) := by decide +kernel
theorem dX5_costOf_81 : decode cX5_costOf 81 = .ok (.ifCond .ne 9, 3) := by decide +kernel
theorem dX5_costOf_84 : decode cX5_costOf 84 = .ok (.iload 8, 2) := by decide +kernel
theorem dX5_costOf_86 : decode cX5_costOf 86 = .ok (.iload_n 3, 1) := by decide +kernel
theorem dX5_costOf_87 : decode cX5_costOf 87 = .ok (.if_icmp .ne 7, 3) := by decide +kernel
theorem dX5_costOf_90 : decode cX5_costOf 90 = .ok (.iconst 1, 1) := by decide +kernel
theorem dX5_costOf_91 : decode cX5_costOf 91 = .ok (.goto 4, 3) := by decide +kernel
theorem dX5_costOf_94 : decode cX5_costOf 94 = .ok (.iconst 0, 1) := by decide +kernel
theorem dX5_costOf_95 : decode cX5_costOf 95 = .ok (.istore 6, 2) := by decide +kernel
theorem dX5_costOf_97 : decode cX5_costOf 97 = .ok (.iinc 7 1, 3) := by decide +kernel
theorem dX5_costOf_100 : decode cX5_costOf 100 = .ok (.goto (-61), 3) := by decide +kernel
theorem dX5_costOf_103 : decode cX5_costOf 103 = .ok (.iload 4, 2) := by decide +kernel
theorem dX5_costOf_105 : decode cX5_costOf 105 = .ok (.ireturn, 1) := by decide +kernel
theorem dX5_hasJustTheRowsOf_0 : decode cX5_hasJustTheRowsOf 0 = .ok (.aload_n 0, 1) := by decide +kernel
theorem dX5_hasJustTheRowsOf_1 : decode cX5_hasJustTheRowsOf 1 = .ok (.invokevirtual 105, 3) := by decide +kernel
theorem dX5_hasJustTheRowsOf_4 : decode cX5_hasJustTheRowsOf 4 = .ok (.istore_n 2, 1) := by decide +kernel
theorem dX5_hasJustTheRowsOf_5 : decode cX5_hasJustTheRowsOf 5 = .ok (.iconst 0, 1) := by decide +kernel
theorem dX5_hasJustTheRowsOf_6 : decode cX5_hasJustTheRowsOf 6 = .ok (.istore_n 3, 1) := by decide +kernel
theorem dX5_hasJustTheRowsOf_7 : decode cX5_hasJustTheRowsOf 7 = .ok (.lconst 0, 1) := by decide +kernel
theorem dX5_hasJustTheRowsOf_8 : decode cX5_hasJustTheRowsOf 8 = .ok (.lstore 4, 2) := by decide +kernel
theorem dX5_hasJustTheRowsOf_10 : decode cX5_hasJustTheRowsOf 10 = .ok (.iconst 0, 1) := by decide +kernel
theorem dX5_hasJustTheRowsOf_11 : decode cX5_hasJustTheRowsOf 11 = .ok (.istore 6, 2) := by decide +kernel
theorem dX5_hasJustTheRowsOf_13 : decode cX5_hasJustTheRowsOf 13 = .ok (.iload 6, 2) := by decide +kernel
theorem dX5_hasJustTheRowsOf_15 : decode cX5_hasJustTheRowsOf 15 = .ok (.iload_n 2, 1) := by decide +kernel
theorem dX5_hasJustTheRowsOf_16 : decode cX5_hasJustTheRowsOf 16 = .ok (.if_icmp .ge 102, 3) := by decide +kernel
theorem dX5_hasJustTheRowsOf_19 : decode cX5_hasJustTheRowsOf 19 = .ok (.aload_n 0, 1) := by decide +kernel
theorem dX5_hasJustTheRowsOf_20 : decode cX5_hasJustTheRowsOf 20 = .ok (.getfield 49, 3) := by decide +kernel
theorem dX5_hasJustTheRowsOf_23 : decode cX5_hasJustTheRowsOf 23 = .ok (.iload 6, 2) := by decide +kernel
theorem dX5_hasJustTheRowsOf_25 : decode cX5_hasJustTheRowsOf 25 = .ok (.iaload, 1) := by decide +kernel
theorem dX5_hasJustTheRowsOf_26 : decode cX5_hasJustTheRowsOf 26 = .ok (.istore 7, 2) := by decide +kernel
theorem dX5_hasJustTheRowsOf_28 : decode cX5_hasJustTheRowsOf 28 = .ok (.iconst 0, 1) := by decide +kernel
theorem dX5_hasJustTheRowsOf_29 : decode cX5_hasJustTheRowsOf 29 = .ok (.istore 8, 2) := by decide +kernel
theorem dX5_hasJustTheRowsOf_31 : decode cX5_hasJustTheRowsOf 31 = .ok (.iload 8, 2) := by decide +kernel
theorem dX5_hasJustTheRowsOf_33 : decode cX5_hasJustTheRowsOf 33 = .ok (.aload_n 0, 1) := by decide +kernel
theorem dX5_hasJustTheRowsOf_34 : decode cX5_hasJustTheRowsOf 34 = .ok (.getfield 16, 3) := by decide +kernel
theorem dX5_hasJustTheRowsOf_37 : decode cX5_hasJustTheRowsOf 37 = .ok (.iload 7, 2) := by decide +kernel
theorem dX5_hasJustTheRowsOf_39 : decode cX5_hasJustTheRowsOf 39 = .ok (.iaload, 1) := by decide +kernel
theorem dX5_hasJustTheRowsOf_40 : decode cX5_hasJustTheRowsOf 40 = .ok (.if_icmp .ge 72, 3) := by decide +kernel
theorem dX5_hasJustTheRowsOf_43 : decode cX5_hasJustTheRowsOf 43 = .ok (.aload_n 0, 1) := by decide +kernel
theorem dX5_hasJustTheRowsOf_44 : decode cX5_hasJustTheRowsOf 44 = .ok (.getfield 11, 3) := by decide +kernel
theorem dX5_hasJustTheRowsOf_47 : decode cX5_hasJustTheRowsOf 47 = .ok (.iload 7, 2) := by decide +kernel
theorem dX5_hasJustTheRowsOf_49 : decode cX5_hasJustTheRowsOf 49 = .ok (.aaload, 1) := by decide +kernel
theorem dX5_hasJustTheRowsOf_50 : decode cX5_hasJustTheRowsOf 50 = .ok (.iload 8, 2) := by decide +kernel
theorem dX5_hasJustTheRowsOf_52 : decode cX5_hasJustTheRowsOf 52 = .ok (.laload, 1) := by decide +kernel
theorem dX5_hasJustTheRowsOf_53 : decode cX5_hasJustTheRowsOf 53 = .ok (.lstore 9, 2) := by decide +kernel
theorem dX5_hasJustTheRowsOf_55 : decode cX5_hasJustTheRowsOf 55 = .ok (.lload 9, 2) := by decide +kernel
theorem dX5_hasJustTheRowsOf_57 : decode cX5_hasJustTheRowsOf 57 = .ok (.invokestatic 112, 3) := by decide +kernel
theorem dX5_hasJustTheRowsOf_60 : decode cX5_hasJustTheRowsOf 60 = .ok (.istore 11, 2) := by decide +kernel
theorem dX5_hasJustTheRowsOf_62 : decode cX5_hasJustTheRowsOf 62 = .ok (.iload_n 3, 1) := by decide +kernel
theorem dX5_hasJustTheRowsOf_63 : decode cX5_hasJustTheRowsOf 63 = .ok (.ifCond .le 11, 3) := by decide +kernel
theorem dX5_hasJustTheRowsOf_66 : decode cX5_hasJustTheRowsOf 66 = .ok (.lload 4, 2) := by decide +kernel
theorem dX5_hasJustTheRowsOf_68 : decode cX5_hasJustTheRowsOf 68 = .ok (.lload 9, 2) := by decide +kernel
theorem dX5_hasJustTheRowsOf_70 : decode cX5_hasJustTheRowsOf 70 = .ok (.lcmp, 1) := by decide +kernel
theorem dX5_hasJustTheRowsOf_71 : decode cX5_hasJustTheRowsOf 71 = .ok (.ifCond .ge 26, 3) := by decide +kernel
theorem dX5_hasJustTheRowsOf_74 : decode cX5_hasJustTheRowsOf 74 = .ok (.aload_n 1, 1) := by decide +kernel
theorem dX5_hasJustTheRowsOf_75 : decode cX5_hasJustTheRowsOf 75 = .ok (.iload 11, 2) := by decide +kernel
theorem dX5_hasJustTheRowsOf_77 : decode cX5_hasJustTheRowsOf 77 = .ok (.invokevirtual 119, 3) := by decide +kernel
theorem dX5_hasJustTheRowsOf_80 : decode cX5_hasJustTheRowsOf 80 = .ok (.ifCond .eq 17, 3) := by decide +kernel
theorem dX5_hasJustTheRowsOf_83 : decode cX5_hasJustTheRowsOf 83 = .ok (.aload_n 1, 1) := by decide +kernel
theorem dX5_hasJustTheRowsOf_84 : decode cX5_hasJustTheRowsOf 84 = .ok (.iload 11, 2) := by decide +kernel
theorem dX5_hasJustTheRowsOf_86 : decode cX5_hasJustTheRowsOf 86 = .ok (.invokevirtual 125, 3) := by decide +kernel
theorem dX5_hasJustTheRowsOf_89 : decode cX5_hasJustTheRowsOf 89 = .ok (.lload 9, 2) := by decide +kernel
theorem dX5_hasJustTheRowsOf_91 : decode cX5_hasJustTheRowsOf 91 = .ok (.invokestatic 108, 3) := by decide +kernel
theorem dX5_hasJustTheRowsOf_94 : decode cX5_hasJustTheRowsOf 94 = .ok (.if_icmp .eq 5, 3) := by decide +kernel
theorem dX5_hasJustTheRowsOf_97 : decode cX5_hasJustTheRowsOf 97 = .ok (.iconst 0, 1) := by decide +kernel
theorem dX5_hasJustTheRowsOf_98 : decode cX5_hasJustTheRowsOf 98 = .ok (.ireturn, 1) := by decide +kernel
theorem dX5_hasJustTheRowsOf_99 : decode cX5_hasJustTheRowsOf 99 = .ok (.lload 9, 2) := by decide +kernel
theorem dX5_hasJustTheRowsOf_101 : decode cX5_hasJustTheRowsOf 101 = .ok (.lstore 4, 2) := by decide +kernel
theorem dX5_hasJustTheRowsOf_103 : decode cX5_hasJustTheRowsOf 103 = .ok (.iinc 3 1, 3) := by decide +kernel
theorem dX5_hasJustTheRowsOf_106 : decode cX5_hasJustTheRowsOf 106 = .ok (.iinc 8 1, 3) := by decide +kernel
theorem dX5_hasJustTheRowsOf_109 : decode cX5_hasJustTheRowsOf 109 = .ok (.goto (-78), 3) := by decide +kernel
theorem dX5_hasJustTheRowsOf_112 : decode cX5_hasJustTheRowsOf 112 = .ok (.iinc 6 1, 3) := by decide +kernel
theorem dX5_hasJustTheRowsOf_115 : decode cX5_hasJustTheRowsOf 115 = .ok (.goto (-102), 3) := by decide +kernel
theorem dX5_hasJustTheRowsOf_118 : decode cX5_hasJustTheRowsOf 118 = .ok (.iload_n 3, 1) := by decide +kernel
theorem dX5_hasJustTheRowsOf_119 : decode cX5_hasJustTheRowsOf 119 = .ok (.aload_n 1, 1) := by decide +kernel
theorem dX5_hasJustTheRowsOf_120 : decode cX5_hasJustTheRowsOf 120 = .ok (.invokevirtual 128, 3) := by decide +kernel
theorem dX5_hasJustTheRowsOf_123 : decode cX5_hasJustTheRowsOf 123 = .ok (.if_icmp .ne 15, 3) := by decide +kernel
theorem dX5_hasJustTheRowsOf_126 : decode cX5_hasJustTheRowsOf 126 = .ok (.iload_n 3, 1) := by decide +kernel
theorem dX5_hasJustTheRowsOf_127 : decode cX5_hasJustTheRowsOf 127 = .ok (.aload_n 0, 1) := by decide +kernel
theorem dX5_hasJustTheRowsOf_128 : decode cX5_hasJustTheRowsOf 128 = .ok (.getfield 34, 3) := by decide +kernel
theorem dX5_hasJustTheRowsOf_131 : decode cX5_hasJustTheRowsOf 131 = .ok (.if_icmp .ne 7, 3) := by decide +kernel
theorem dX5_hasJustTheRowsOf_134 : decode cX5_hasJustTheRowsOf 134 = .ok (.iconst 1, 1) := by decide +kernel
theorem dX5_hasJustTheRowsOf_135 : decode cX5_hasJustTheRowsOf 135 = .ok (.goto 4, 3) := by decide +kernel
theorem dX5_hasJustTheRowsOf_138 : decode cX5_hasJustTheRowsOf 138 = .ok (.iconst 0, 1) := by decide +kernel
theorem dX5_hasJustTheRowsOf_139 : decode cX5_hasJustTheRowsOf 139 = .ok (.ireturn, 1) := by decide +kernel
theorem dX5_sizesAreRight_0 : decode cX5_sizesAreRight 0 = .ok (.iconst 0, 1) := by decide +kernel
theorem dX5_sizesAreRight_1 : decode cX5_sizesAreRight 1 = .ok (.istore_n 1, 1) := by decide +kernel
theorem dX5_sizesAreRight_2 : decode cX5_sizesAreRight 2 = .ok (.iload_n 1, 1) := by decide +kernel
theorem dX5_sizesAreRight_3 : decode cX5_sizesAreRight 3 = .ok (.bipush 64, 2) := by decide +kernel
theorem dX5_sizesAreRight_5 : decode cX5_sizesAreRight 5 = .ok (.if_icmp .ge 64, 3) := by decide +kernel
theorem dX5_sizesAreRight_8 : decode cX5_sizesAreRight 8 = .ok (.iload_n 1, 1) := by decide +kernel
theorem dX5_sizesAreRight_9 : decode cX5_sizesAreRight 9 = .ok (.aload_n 0, 1) := by decide +kernel
theorem dX5_sizesAreRight_10 : decode cX5_sizesAreRight 10 = .ok (.getfield 37, 3) := by decide +kernel
theorem dX5_sizesAreRight_13 : decode cX5_sizesAreRight 13 = .ok (.if_icmp .ne 16, 3) := by decide +kernel
theorem dX5_sizesAreRight_16 : decode cX5_sizesAreRight 16 = .ok (.aload_n 0, 1) := by decide +kernel
theorem dX5_sizesAreRight_17 : decode cX5_sizesAreRight 17 = .ok (.getfield 20, 3) := by decide +kernel
theorem dX5_sizesAreRight_20 : decode cX5_sizesAreRight 20 = .ok (.iload_n 1, 1) := by decide +kernel
theorem dX5_sizesAreRight_21 : decode cX5_sizesAreRight 21 = .ok (.baload, 1) := by decide +kernel
theorem dX5_sizesAreRight_22 : decode cX5_sizesAreRight 22 = .ok (.ifCond .ne 7, 3) := by decide +kernel
theorem dX5_sizesAreRight_25 : decode cX5_sizesAreRight 25 = .ok (.iconst 0, 1) := by decide +kernel
theorem dX5_sizesAreRight_26 : decode cX5_sizesAreRight 26 = .ok (.goto 4, 3) := by decide +kernel
theorem dX5_sizesAreRight_29 : decode cX5_sizesAreRight 29 = .ok (.iconst 1, 1) := by decide +kernel
theorem dX5_sizesAreRight_30 : decode cX5_sizesAreRight 30 = .ok (.istore_n 2, 1) := by decide +kernel
theorem dX5_sizesAreRight_31 : decode cX5_sizesAreRight 31 = .ok (.aload_n 0, 1) := by decide +kernel
theorem dX5_sizesAreRight_32 : decode cX5_sizesAreRight 32 = .ok (.getfield 24, 3) := by decide +kernel
theorem dX5_sizesAreRight_35 : decode cX5_sizesAreRight 35 = .ok (.iload_n 1, 1) := by decide +kernel
theorem dX5_sizesAreRight_36 : decode cX5_sizesAreRight 36 = .ok (.baload, 1) := by decide +kernel
theorem dX5_sizesAreRight_37 : decode cX5_sizesAreRight 37 = .ok (.ifCond .eq 26, 3) := by decide +kernel
theorem dX5_sizesAreRight_40 : decode cX5_sizesAreRight 40 = .ok (.aload_n 0, 1) := by decide +kernel
theorem dX5_sizesAreRight_41 : decode cX5_sizesAreRight 41 = .ok (.getfield 16, 3) := by decide +kernel
theorem dX5_sizesAreRight_44 : decode cX5_sizesAreRight 44 = .ok (.iload_n 1, 1) := by decide +kernel
theorem dX5_sizesAreRight_45 : decode cX5_sizesAreRight 45 = .ok (.iaload, 1) := by decide +kernel
theorem dX5_sizesAreRight_46 : decode cX5_sizesAreRight 46 = .ok (.iload_n 2, 1) := by decide +kernel
theorem dX5_sizesAreRight_47 : decode cX5_sizesAreRight 47 = .ok (.if_icmp .lt 14, 3) := by decide +kernel
theorem dX5_sizesAreRight_50 : decode cX5_sizesAreRight 50 = .ok (.aload_n 0, 1) := by decide +kernel
theorem dX5_sizesAreRight_51 : decode cX5_sizesAreRight 51 = .ok (.getfield 16, 3) := by decide +kernel
theorem dX5_sizesAreRight_54 : decode cX5_sizesAreRight 54 = .ok (.iload_n 1, 1) := by decide +kernel
theorem dX5_sizesAreRight_55 : decode cX5_sizesAreRight 55 = .ok (.iaload, 1) := by decide +kernel
theorem dX5_sizesAreRight_56 : decode cX5_sizesAreRight 56 = .ok (.bipush 8, 2) := by decide +kernel
theorem dX5_sizesAreRight_58 : decode cX5_sizesAreRight 58 = .ok (.if_icmp .le 5, 3) := by decide +kernel
theorem dX5_sizesAreRight_61 : decode cX5_sizesAreRight 61 = .ok (.iconst 0, 1) := by decide +kernel
theorem dX5_sizesAreRight_62 : decode cX5_sizesAreRight 62 = .ok (.ireturn, 1) := by decide +kernel
theorem dX5_sizesAreRight_63 : decode cX5_sizesAreRight 63 = .ok (.iinc 1 1, 3) := by decide +kernel
theorem dX5_sizesAreRight_66 : decode cX5_sizesAreRight 66 = .ok (.goto (-64), 3) := by decide +kernel
theorem dX5_sizesAreRight_69 : decode cX5_sizesAreRight 69 = .ok (.iconst 1, 1) := by decide +kernel
theorem dX5_sizesAreRight_70 : decode cX5_sizesAreRight 70 = .ok (.ireturn, 1) := by decide +kernel
theorem dX5_leavesAreInOneRow_0 : decode cX5_leavesAreInOneRow 0 = .ok (.aload_n 0, 1) := by decide +kernel
theorem dX5_leavesAreInOneRow_1 : decode cX5_leavesAreInOneRow 1 = .ok (.getfield 49, 3) := by decide +kernel
theorem dX5_leavesAreInOneRow_4 : decode cX5_leavesAreInOneRow 4 = .ok (.iconst 0, 1) := by decide +kernel
theorem dX5_leavesAreInOneRow_5 : decode cX5_leavesAreInOneRow 5 = .ok (.aload_n 0, 1) := by decide +kernel
theorem dX5_leavesAreInOneRow_6 : decode cX5_leavesAreInOneRow 6 = .ok (.getfield 37, 3) := by decide +kernel
theorem dX5_leavesAreInOneRow_9 : decode cX5_leavesAreInOneRow 9 = .ok (.iastore, 1) := by decide +kernel
theorem dX5_leavesAreInOneRow_10 : decode cX5_leavesAreInOneRow 10 = .ok (.iconst 1, 1) := by decide +kernel
theorem dX5_leavesAreInOneRow_11 : decode cX5_leavesAreInOneRow 11 = .ok (.istore_n 1, 1) := by decide +kernel
theorem dX5_leavesAreInOneRow_12 : decode cX5_leavesAreInOneRow 12 = .ok (.iconst 0, 1) := by decide +kernel
theorem dX5_leavesAreInOneRow_13 : decode cX5_leavesAreInOneRow 13 = .ok (.istore_n 2, 1) := by decide +kernel
theorem dX5_leavesAreInOneRow_14 : decode cX5_leavesAreInOneRow 14 = .ok (.iload_n 2, 1) := by decide +kernel
theorem dX5_leavesAreInOneRow_15 : decode cX5_leavesAreInOneRow 15 = .ok (.bipush 64, 2) := by decide +kernel
theorem dX5_leavesAreInOneRow_17 : decode cX5_leavesAreInOneRow 17 = .ok (.if_icmp .ge 71, 3) := by decide +kernel
theorem dX5_leavesAreInOneRow_20 : decode cX5_leavesAreInOneRow 20 = .ok (.iconst 1, 1) := by decide +kernel
theorem dX5_leavesAreInOneRow_21 : decode cX5_leavesAreInOneRow 21 = .ok (.istore_n 3, 1) := by decide +kernel
theorem dX5_leavesAreInOneRow_22 : decode cX5_leavesAreInOneRow 22 = .ok (.iload_n 3, 1) := by decide +kernel
theorem dX5_leavesAreInOneRow_23 : decode cX5_leavesAreInOneRow 23 = .ok (.iload_n 1, 1) := by decide +kernel
theorem dX5_leavesAreInOneRow_24 : decode cX5_leavesAreInOneRow 24 = .ok (.if_icmp .ge 36, 3) := by decide +kernel
theorem dX5_leavesAreInOneRow_27 : decode cX5_leavesAreInOneRow 27 = .ok (.aload_n 0, 1) := by decide +kernel
theorem dX5_leavesAreInOneRow_28 : decode cX5_leavesAreInOneRow 28 = .ok (.getfield 20, 3) := by decide +kernel
theorem dX5_leavesAreInOneRow_31 : decode cX5_leavesAreInOneRow 31 = .ok (.aload_n 0, 1) := by decide +kernel
theorem dX5_leavesAreInOneRow_32 : decode cX5_leavesAreInOneRow 32 = .ok (.getfield 49, 3) := by decide +kernel
theorem dX5_leavesAreInOneRow_35 : decode cX5_leavesAreInOneRow 35 = .ok (.iload_n 3, 1) := by decide +kernel
theorem dX5_leavesAreInOneRow_36 : decode cX5_leavesAreInOneRow 36 = .ok (.iaload, 1) := by decide +kernel
theorem dX5_leavesAreInOneRow_37 : decode cX5_leavesAreInOneRow 37 = .ok (.baload, 1) := by decide +kernel
theorem dX5_leavesAreInOneRow_38 : decode cX5_leavesAreInOneRow 38 = .ok (.aload_n 0, 1) := by decide +kernel
theorem dX5_leavesAreInOneRow_39 : decode cX5_leavesAreInOneRow 39 = .ok (.getfield 20, 3) := by decide +kernel
theorem dX5_leavesAreInOneRow_42 : decode cX5_leavesAreInOneRow 42 = .ok (.aload_n 0, 1) := by decide +kernel
theorem dX5_leavesAreInOneRow_43 : decode cX5_leavesAreInOneRow 43 = .ok (.getfield 49, 3) := by decide +kernel
theorem dX5_leavesAreInOneRow_46 : decode cX5_leavesAreInOneRow 46 = .ok (.iconst 0, 1) := by decide +kernel
theorem dX5_leavesAreInOneRow_47 : decode cX5_leavesAreInOneRow 47 = .ok (.iaload, 1) := by decide +kernel
theorem dX5_leavesAreInOneRow_48 : decode cX5_leavesAreInOneRow 48 = .ok (.baload, 1) := by decide +kernel
theorem dX5_leavesAreInOneRow_49 : decode cX5_leavesAreInOneRow 49 = .ok (.if_icmp .eq 5, 3) := by decide +kernel
theorem dX5_leavesAreInOneRow_52 : decode cX5_leavesAreInOneRow 52 = .ok (.iconst 0, 1) := by decide +kernel
theorem dX5_leavesAreInOneRow_53 : decode cX5_leavesAreInOneRow 53 = .ok (.ireturn, 1) := by decide +kernel
theorem dX5_leavesAreInOneRow_54 : decode cX5_leavesAreInOneRow 54 = .ok (.iinc 3 1, 3) := by decide +kernel
theorem dX5_leavesAreInOneRow_57 : decode cX5_leavesAreInOneRow 57 = .ok (.goto (-35), 3) := by decide +kernel
theorem dX5_leavesAreInOneRow_60 : decode cX5_leavesAreInOneRow 60 = .ok (.aload_n 0, 1) := by decide +kernel
theorem dX5_leavesAreInOneRow_61 : decode cX5_leavesAreInOneRow 61 = .ok (.getfield 20, 3) := by decide +kernel
theorem dX5_leavesAreInOneRow_64 : decode cX5_leavesAreInOneRow 64 = .ok (.aload_n 0, 1) := by decide +kernel
theorem dX5_leavesAreInOneRow_65 : decode cX5_leavesAreInOneRow 65 = .ok (.getfield 49, 3) := by decide +kernel
theorem dX5_leavesAreInOneRow_68 : decode cX5_leavesAreInOneRow 68 = .ok (.iconst 0, 1) := by decide +kernel
theorem dX5_leavesAreInOneRow_69 : decode cX5_leavesAreInOneRow 69 = .ok (.iaload, 1) := by decide +kernel
theorem dX5_leavesAreInOneRow_70 : decode cX5_leavesAreInOneRow 70 = .ok (.baload, 1) := by decide +kernel
theorem dX5_leavesAreInOneRow_71 : decode cX5_leavesAreInOneRow 71 = .ok (.ifCond .ne 5, 3) := by decide +kernel
theorem dX5_leavesAreInOneRow_74 : decode cX5_leavesAreInOneRow 74 = .ok (.iconst 1, 1) := by decide +kernel
theorem dX5_leavesAreInOneRow_75 : decode cX5_leavesAreInOneRow 75 = .ok (.ireturn, 1) := by decide +kernel
theorem dX5_leavesAreInOneRow_76 : decode cX5_leavesAreInOneRow 76 = .ok (.aload_n 0, 1) := by decide +kernel
theorem dX5_leavesAreInOneRow_77 : decode cX5_leavesAreInOneRow 77 = .ok (.iload_n 1, 1) := by decide +kernel
theorem dX5_leavesAreInOneRow_78 : decode cX5_leavesAreInOneRow 78 = .ok (.invokevirtual 95, 3) := by decide +kernel
theorem dX5_leavesAreInOneRow_81 : decode cX5_leavesAreInOneRow 81 = .ok (.istore_n 1, 1) := by decide +kernel
theorem dX5_leavesAreInOneRow_82 : decode cX5_leavesAreInOneRow 82 = .ok (.iinc 2 1, 3) := by decide +kernel
theorem dX5_leavesAreInOneRow_85 : decode cX5_leavesAreInOneRow 85 = .ok (.goto (-71), 3) := by decide +kernel
theorem dX5_leavesAreInOneRow_88 : decode cX5_leavesAreInOneRow 88 = .ok (.iconst 0, 1) := by decide +kernel
theorem dX5_leavesAreInOneRow_89 : decode cX5_leavesAreInOneRow 89 = .ok (.ireturn, 1) := by decide +kernel
theorem dX6_init_0 : decode cX6_init 0 = .ok (.aload_n 0, 1) := by decide +kernel
theorem dX6_init_1 : decode cX6_init 1 = .ok (.invokespecial 1, 3) := by decide +kernel
theorem dX6_init_4 : decode cX6_init 4 = .ok (.aload_n 0, 1) := by decide +kernel
theorem dX6_init_5 : decode cX6_init 5 = .ok (.new 7, 3) := by decide +kernel
theorem dX6_init_8 : decode cX6_init 8 = .ok (.dup, 1) := by decide +kernel
theorem dX6_init_9 : decode cX6_init 9 = .ok (.invokespecial 9, 3) := by decide +kernel
theorem dX6_init_12 : decode cX6_init 12 = .ok (.putfield 10, 3) := by decide +kernel
theorem dX6_init_15 : decode cX6_init 15 = .ok (.aload_n 0, 1) := by decide +kernel
theorem dX6_init_16 : decode cX6_init 16 = .ok (.new 16, 3) := by decide +kernel
theorem dX6_init_19 : decode cX6_init 19 = .ok (.dup, 1) := by decide +kernel
theorem dX6_init_20 : decode cX6_init 20 = .ok (.invokespecial 18, 3) := by decide +kernel
theorem dX6_init_23 : decode cX6_init 23 = .ok (.putfield 19, 3) := by decide +kernel
theorem dX6_init_26 : decode cX6_init 26 = .ok (.aload_n 0, 1) := by decide +kernel
theorem dX6_init_27 : decode cX6_init 27 = .ok (.iconst 0, 1) := by decide +kernel
theorem dX6_init_28 : decode cX6_init 28 = .ok (.putfield 23, 3) := by decide +kernel
theorem dX6_init_31 : decode cX6_init 31 = .ok (.aload_n 0, 1) := by decide +kernel
theorem dX6_init_32 : decode cX6_init 32 = .ok (.iconst 0, 1) := by decide +kernel
theorem dX6_init_33 : decode cX6_init 33 = .ok (.putfield 27, 3) := by decide +kernel
theorem dX6_init_36 : decode cX6_init 36 = .ok (.aload_n 0, 1) := by decide +kernel
theorem dX6_init_37 : decode cX6_init 37 = .ok (.iconst 0, 1) := by decide +kernel
theorem dX6_init_38 : decode cX6_init 38 = .ok (.putfield 31, 3) := by decide +kernel
theorem dX6_init_41 : decode cX6_init 41 = .ok (.aload_n 0, 1) := by decide +kernel
theorem dX6_init_42 : decode cX6_init 42 = .ok (.iconst 0, 1) := by decide +kernel
theorem dX6_init_43 : decode cX6_init 43 = .ok (.putfield 34, 3) := by decide +kernel
theorem dX6_init_46 : decode cX6_init 46 = .ok (.aload_n 0, 1) := by decide +kernel
theorem dX6_init_47 : decode cX6_init 47 = .ok (.iconst (-1), 1) := by decide +kernel
theorem dX6_init_48 : decode cX6_init 48 = .ok (.putfield 37, 3) := by decide +kernel
theorem dX6_init_51 : decode cX6_init 51 = .ok (.aload_n 0, 1) := by decide +kernel
theorem dX6_init_52 : decode cX6_init 52 = .ok (.iconst (-1), 1) := by decide +kernel
theorem dX6_init_53 : decode cX6_init 53 = .ok (.putfield 40, 3) := by decide +kernel
theorem dX6_init_56 : decode cX6_init 56 = .ok (.aload_n 0, 1) := by decide +kernel
theorem dX6_init_57 : decode cX6_init 57 = .ok (.new 43, 3) := by decide +kernel
theorem dX6_init_60 : decode cX6_init 60 = .ok (.dup, 1) := by decide +kernel
theorem dX6_init_61 : decode cX6_init 61 = .ok (.invokespecial 45, 3) := by decide +kernel
theorem dX6_init_64 : decode cX6_init 64 = .ok (.putfield 46, 3) := by decide +kernel
theorem dX6_init_67 : decode cX6_init 67 = .ok (.aload_n 0, 1) := by decide +kernel
theorem dX6_init_68 : decode cX6_init 68 = .ok (.new 50, 3) := by decide +kernel
theorem dX6_init_71 : decode cX6_init 71 = .ok (.dup, 1) := by decide +kernel
theorem dX6_init_72 : decode cX6_init 72 = .ok (.invokespecial 52, 3) := by decide +kernel
theorem dX6_init_75 : decode cX6_init 75 = .ok (.putfield 53, 3) := by decide +kernel
theorem dX6_init_78 : decode cX6_init 78 = .ok (.aload_n 0, 1) := by decide +kernel
theorem dX6_init_79 : decode cX6_init 79 = .ok (.new 57, 3) := by decide +kernel
theorem dX6_init_82 : decode cX6_init 82 = .ok (.dup, 1) := by decide +kernel
theorem dX6_init_83 : decode cX6_init 83 = .ok (.invokespecial 59, 3) := by decide +kernel
theorem dX6_init_86 : decode cX6_init 86 = .ok (.putfield 60, 3) := by decide +kernel
theorem dX6_init_89 : decode cX6_init 89 = .ok (.aload_n 0, 1) := by decide +kernel
theorem dX6_init_90 : decode cX6_init 90 = .ok (.new 64, 3) := by decide +kernel
theorem dX6_init_93 : decode cX6_init 93 = .ok (.dup, 1) := by decide +kernel
theorem dX6_init_94 : decode cX6_init 94 = .ok (.invokespecial 66, 3) := by decide +kernel
theorem dX6_init_97 : decode cX6_init 97 = .ok (.putfield 67, 3) := by decide +kernel
theorem dX6_init_100 : decode cX6_init 100 = .ok (.aload_n 0, 1) := by decide +kernel
theorem dX6_init_101 : decode cX6_init 101 = .ok (.sipush 240, 3) := by decide +kernel
theorem dX6_init_104 : decode cX6_init 104 = .ok (.newarray .int, 2) := by decide +kernel
theorem dX6_init_106 : decode cX6_init 106 = .ok (.putfield 71, 3) := by decide +kernel
theorem dX6_init_109 : decode cX6_init 109 = .ok (.aload_n 0, 1) := by decide +kernel
theorem dX6_init_110 : decode cX6_init 110 = .ok (.iconst 0, 1) := by decide +kernel
theorem dX6_init_111 : decode cX6_init 111 = .ok (.putfield 75, 3) := by decide +kernel
theorem dX6_init_114 : decode cX6_init 114 = .ok (.aload_n 0, 1) := by decide +kernel
theorem dX6_init_115 : decode cX6_init 115 = .ok (.iconst 0, 1) := by decide +kernel
theorem dX6_init_116 : decode cX6_init 116 = .ok (.putfield 78, 3) := by decide +kernel
theorem dX6_init_119 : decode cX6_init 119 = .ok (.return_, 1) := by decide +kernel
theorem dX6_add_0 : decode cX6_add 0 = .ok (.aload_n 0, 1) := by decide +kernel
theorem dX6_add_1 : decode cX6_add 1 = .ok (.getfield 19, 3) := by decide +kernel
theorem dX6_add_4 : decode cX6_add 4 = .ok (.invokevirtual 81, 3) := by decide +kernel
theorem dX6_add_7 : decode cX6_add 7 = .ok (.ifCond .eq 6, 3) := by decide +kernel
theorem dX6_add_10 : decode cX6_add 10 = .ok (.bipush (-100), 2) := by decide +kernel
theorem dX6_add_12 : decode cX6_add 12 = .ok (.ireturn, 1) := by decide +kernel
theorem dX6_add_13 : decode cX6_add 13 = .ok (.aload_n 0, 1) := by decide +kernel
theorem dX6_add_14 : decode cX6_add 14 = .ok (.getfield 10, 3) := by decide +kernel
theorem dX6_add_17 : decode cX6_add 17 = .ok (.invokevirtual 85, 3) := by decide +kernel
theorem dX6_add_20 : decode cX6_add 20 = .ok (.istore_n 3, 1) := by decide +kernel
theorem dX6_add_21 : decode cX6_add 21 = .ok (.iload_n 3, 1) := by decide +kernel
theorem dX6_add_22 : decode cX6_add 22 = .ok (.iconst (-1), 1) := by decide +kernel
theorem dX6_add_23 : decode cX6_add 23 = .ok (.if_icmp .ne 6, 3) := by decide +kernel
theorem dX6_add_26 : decode cX6_add 26 = .ok (.bipush (-104), 2) := by decide +kernel
theorem dX6_add_28 : decode cX6_add 28 = .ok (.ireturn, 1) := by decide +kernel
theorem dX6_add_29 : decode cX6_add 29 = .ok (.aload_n 0, 1) := by decide +kernel
theorem dX6_add_30 : decode cX6_add 30 = .ok (.iload_n 1, 1) := by decide +kernel
theorem dX6_add_31 : decode cX6_add 31 = .ok (.iload_n 3, 1) := by decide +kernel
theorem dX6_add_32 : decode cX6_add 32 = .ok (.invokevirtual 89, 3) := by decide +kernel
theorem dX6_add_35 : decode cX6_add 35 = .ok (.ifCond .eq 6, 3) := by decide +kernel
theorem dX6_add_38 : decode cX6_add 38 = .ok (.bipush (-105), 2) := by decide +kernel
theorem dX6_add_40 : decode cX6_add 40 = .ok (.ireturn, 1) := by decide +kernel
theorem dX6_add_41 : decode cX6_add 41 = .ok (.aload_n 0, 1) := by decide +kernel
theorem dX6_add_42 : decode cX6_add 42 = .ok (.invokevirtual 93, 3) := by decide +kernel
theorem dX6_add_45 : decode cX6_add 45 = .ok (.ifCond .ne 6, 3) := by decide +kernel
theorem dX6_add_48 : decode cX6_add 48 = .ok (.bipush (-106), 2) := by decide +kernel
theorem dX6_add_50 : decode cX6_add 50 = .ok (.ireturn, 1) := by decide +kernel
theorem dX6_add_51 : decode cX6_add 51 = .ok (.aload_n 0, 1) := by decide +kernel
theorem dX6_add_52 : decode cX6_add 52 = .ok (.getfield 10, 3) := by decide +kernel
theorem dX6_add_55 : decode cX6_add 55 = .ok (.iload_n 3, 1) := by decide +kernel
theorem dX6_add_56 : decode cX6_add 56 = .ok (.iload_n 1, 1) := by decide +kernel
theorem dX6_add_57 : decode cX6_add 57 = .ok (.iload_n 2, 1) := by decide +kernel
theorem dX6_add_58 : decode cX6_add 58 = .ok (.invokevirtual 96, 3) := by decide +kernel
theorem dX6_add_61 : decode cX6_add 61 = .ok (.aload_n 0, 1) := by decide +kernel
theorem dX6_add_62 : decode cX6_add 62 = .ok (.iload_n 1, 1) := by decide +kernel
theorem dX6_add_63 : decode cX6_add 63 = .ok (.iload_n 3, 1) := by decide +kernel
theorem dX6_add_64 : decode cX6_add 64 = .ok (.invokestatic 100, 3) := by decide +kernel
theorem dX6_add_67 : decode cX6_add 67 = .ok (.iconst 1, 1) := by decide +kernel
theorem dX6_add_68 : decode cX6_add 68 = .ok (.invokevirtual 104, 3) := by decide +kernel
theorem dX6_add_71 : decode cX6_add 71 = .ok (.iload_n 3, 1) := by decide +kernel
theorem dX6_add_72 : decode cX6_add 72 = .ok (.ireturn, 1) := by decide +kernel
theorem dX6_change_0 : decode cX6_change 0 = .ok (.aload_n 0, 1) := by decide +kernel
theorem dX6_change_1 : decode cX6_change 1 = .ok (.getfield 19, 3) := by decide +kernel
theorem dX6_change_4 : decode cX6_change 4 = .ok (.invokevirtual 81, 3) := by decide +kernel
theorem dX6_change_7 : decode cX6_change 7 = .ok (.ifCond .eq 6, 3) := by decide +kernel
theorem dX6_change_10 : decode cX6_change 10 = .ok (.bipush (-100), 2) := by decide +kernel
theorem dX6_change_12 : decode cX6_change 12 = .ok (.ireturn, 1) := by decide +kernel
theorem dX6_change_13 : decode cX6_change 13 = .ok (.aload_n 0, 1) := by decide +kernel
theorem dX6_change_14 : decode cX6_change 14 = .ok (.getfield 10, 3) := by decide +kernel
theorem dX6_change_17 : decode cX6_change 17 = .ok (.iload_n 1, 1) := by decide +kernel
theorem dX6_change_18 : decode cX6_change 18 = .ok (.invokevirtual 108, 3) := by decide +kernel
theorem dX6_change_21 : decode cX6_change 21 = .ok (.ifCond .ne 6, 3) := by decide +kernel
theorem dX6_change_24 : decode cX6_change 24 = .ok (.bipush (-101), 2) := by decide +kernel
theorem dX6_change_26 : decode cX6_change 26 = .ok (.ireturn, 1) := by decide +kernel
theorem dX6_change_27 : decode cX6_change 27 = .ok (.aload_n 0, 1) := by decide +kernel
theorem dX6_change_28 : decode cX6_change 28 = .ok (.iload_n 2, 1) := by decide +kernel
theorem dX6_change_29 : decode cX6_change 29 = .ok (.iload_n 1, 1) := by decide +kernel
theorem dX6_change_30 : decode cX6_change 30 = .ok (.invokevirtual 89, 3) := by decide +kernel
theorem dX6_change_33 : decode cX6_change 33 = .ok (.ifCond .eq 6, 3) := by decide +kernel
theorem dX6_change_36 : decode cX6_change 36 = .ok (.bipush (-105), 2) := by decide +kernel
theorem dX6_change_38 : decode cX6_change 38 = .ok (.ireturn, 1) := by decide +kernel
theorem dX6_change_39 : decode cX6_change 39 = .ok (.aload_n 0, 1) := by decide +kernel
theorem dX6_change_40 : decode cX6_change 40 = .ok (.invokevirtual 93, 3) := by decide +kernel
theorem dX6_change_43 : decode cX6_change 43 = .ok (.ifCond .ne 6, 3) := by decide +kernel
theorem dX6_change_46 : decode cX6_change 46 = .ok (.bipush (-106), 2) := by decide +kernel
theorem dX6_change_48 : decode cX6_change 48 = .ok (.ireturn, 1) := by decide +kernel
theorem dX6_change_49 : decode cX6_change 49 = .ok (.aload_n 0, 1) := by decide +kernel
theorem dX6_change_50 : decode cX6_change 50 = .ok (.getfield 10, 3) := by decide +kernel
theorem dX6_change_53 : decode cX6_change 53 = .ok (.iload_n 1, 1) := by decide +kernel
theorem dX6_change_54 : decode cX6_change 54 = .ok (.invokevirtual 112, 3) := by decide +kernel
theorem dX6_change_57 : decode cX6_change 57 = .ok (.istore 4, 2) := by decide +kernel
theorem dX6_change_59 : decode cX6_change 59 = .ok (.aload_n 0, 1) := by decide +kernel
theorem dX6_change_60 : decode cX6_change 60 = .ok (.getfield 10, 3) := by decide +kernel
theorem dX6_change_63 : decode cX6_change 63 = .ok (.iload_n 1, 1) := by decide +kernel
theorem dX6_change_64 : decode cX6_change 64 = .ok (.iload_n 2, 1) := by decide +kernel
theorem dX6_change_65 : decode cX6_change 65 = .ok (.iload_n 3, 1) := by decide +kernel
theorem dX6_change_66 : decode cX6_change 66 = .ok (.invokevirtual 96, 3) := by decide +kernel
theorem dX6_change_69 : decode cX6_change 69 = .ok (.iload 4, 2) := by decide +kernel
theorem dX6_change_71 : decode cX6_change 71 = .ok (.iload_n 2, 1) := by decide +kernel
theorem dX6_change_72 : decode cX6_change 72 = .ok (.if_icmp .eq 24, 3) := by decide +kernel
theorem dX6_change_75 : decode cX6_change 75 = .ok (.aload_n 0, 1) := by decide +kernel
theorem dX6_change_76 : decode cX6_change 76 = .ok (.iload 4, 2) := by decide +kernel
theorem dX6_change_78 : decode cX6_change 78 = .ok (.iload_n 1, 1) := by decide +kernel
theorem dX6_change_79 : decode cX6_change 79 = .ok (.invokestatic 100, 3) := by decide +kernel
theorem dX6_change_82 : decode cX6_change 82 = .ok (.iconst 0, 1) := by decide +kernel
theorem dX6_change_83 : decode cX6_change 83 = .ok (.invokevirtual 104, 3) := by decide +kernel
theorem dX6_change_86 : decode cX6_change 86 = .ok (.aload_n 0, 1) := by decide +kernel
theorem dX6_change_87 : decode cX6_change 87 = .ok (.iload_n 2, 1) := by decide +kernel
theorem dX6_change_88 : decode cX6_change 88 = .ok (.iload_n 1, 1) := by decide +kernel
theorem dX6_change_89 : decode cX6_change 89 = .ok (.invokestatic 100, 3) := by decide +kernel
theorem dX6_change_92 : decode cX6_change 92 = .ok (.iconst 1, 1) := by decide +kernel
theorem dX6_change_93 : decode cX6_change 93 = .ok (.invokevirtual 104, 3) := by decide +kernel
theorem dX6_change_96 : decode cX6_change 96 = .ok (.iconst 1, 1) := by decide +kernel
theorem dX6_change_97 : decode cX6_change 97 = .ok (.ireturn, 1) := by decide +kernel
theorem dX6_remove_0 : decode cX6_remove 0 = .ok (.aload_n 0, 1) := by decide +kernel
theorem dX6_remove_1 : decode cX6_remove 1 = .ok (.getfield 19, 3) := by decide +kernel
theorem dX6_remove_4 : decode cX6_remove 4 = .ok (.invokevirtual 81, 3) := by decide +kernel
theorem dX6_remove_7 : decode cX6_remove 7 = .ok (.ifCond .eq 6, 3) := by decide +kernel
theorem dX6_remove_10 : decode cX6_remove 10 = .ok (.bipush (-100), 2) := by decide +kernel
theorem dX6_remove_12 : decode cX6_remove 12 = .ok (.ireturn, 1) := by decide +kernel
theorem dX6_remove_13 : decode cX6_remove 13 = .ok (.aload_n 0, 1) := by decide +kernel
theorem dX6_remove_14 : decode cX6_remove 14 = .ok (.getfield 10, 3) := by decide +kernel
theorem dX6_remove_17 : decode cX6_remove 17 = .ok (.iload_n 1, 1) := by decide +kernel
theorem dX6_remove_18 : decode cX6_remove 18 = .ok (.invokevirtual 108, 3) := by decide +kernel
theorem dX6_remove_21 : decode cX6_remove 21 = .ok (.ifCond .ne 6, 3) := by decide +kernel
theorem dX6_remove_24 : decode cX6_remove 24 = .ok (.bipush (-101), 2) := by decide +kernel
theorem dX6_remove_26 : decode cX6_remove 26 = .ok (.ireturn, 1) := by decide +kernel
theorem dX6_remove_27 : decode cX6_remove 27 = .ok (.aload_n 0, 1) := by decide +kernel
theorem dX6_remove_28 : decode cX6_remove 28 = .ok (.invokevirtual 93, 3) := by decide +kernel
theorem dX6_remove_31 : decode cX6_remove 31 = .ok (.ifCond .ne 6, 3) := by decide +kernel
theorem dX6_remove_34 : decode cX6_remove 34 = .ok (.bipush (-106), 2) := by decide +kernel
theorem dX6_remove_36 : decode cX6_remove 36 = .ok (.ireturn, 1) := by decide +kernel
theorem dX6_remove_37 : decode cX6_remove 37 = .ok (.aload_n 0, 1) := by decide +kernel
theorem dX6_remove_38 : decode cX6_remove 38 = .ok (.getfield 10, 3) := by decide +kernel
theorem dX6_remove_41 : decode cX6_remove 41 = .ok (.iload_n 1, 1) := by decide +kernel
theorem dX6_remove_42 : decode cX6_remove 42 = .ok (.invokevirtual 112, 3) := by decide +kernel
theorem dX6_remove_45 : decode cX6_remove 45 = .ok (.istore_n 2, 1) := by decide +kernel
theorem dX6_remove_46 : decode cX6_remove 46 = .ok (.aload_n 0, 1) := by decide +kernel
theorem dX6_remove_47 : decode cX6_remove 47 = .ok (.getfield 10, 3) := by decide +kernel
theorem dX6_remove_50 : decode cX6_remove 50 = .ok (.iload_n 1, 1) := by decide +kernel
theorem dX6_remove_51 : decode cX6_remove 51 = .ok (.invokevirtual 116, 3) := by decide +kernel
theorem dX6_remove_54 : decode cX6_remove 54 = .ok (.aload_n 0, 1) := by decide +kernel
theorem dX6_remove_55 : decode cX6_remove 55 = .ok (.iload_n 2, 1) := by decide +kernel
theorem dX6_remove_56 : decode cX6_remove 56 = .ok (.iload_n 1, 1) := by decide +kernel
theorem dX6_remove_57 : decode cX6_remove 57 = .ok (.invokestatic 100, 3) := by decide +kernel
theorem dX6_remove_60 : decode cX6_remove 60 = .ok (.iconst 0, 1) := by decide +kernel
theorem dX6_remove_61 : decode cX6_remove 61 = .ok (.invokevirtual 104, 3) := by decide +kernel
theorem dX6_remove_64 : decode cX6_remove 64 = .ok (.iconst 1, 1) := by decide +kernel
theorem dX6_remove_65 : decode cX6_remove 65 = .ok (.ireturn, 1) := by decide +kernel
theorem dX6_row_0 : decode cX6_row 0 = .ok (.aload_n 0, 1) := by decide +kernel
theorem dX6_row_1 : decode cX6_row 1 = .ok (.getfield 19, 3) := by decide +kernel
theorem dX6_row_4 : decode cX6_row 4 = .ok (.invokevirtual 81, 3) := by decide +kernel
theorem dX6_row_7 : decode cX6_row 7 = .ok (.ifCond .eq 13, 3) := by decide +kernel
theorem dX6_row_10 : decode cX6_row 10 = .ok (.new 120, 3) := by decide +kernel
theorem dX6_row_13 : decode cX6_row 13 = .ok (.dup, 1) := by decide +kernel
theorem dX6_row_14 : decode cX6_row 14 = .ok (.ldc 122, 2) := by decide +kernel
theorem dX6_row_16 : decode cX6_row 16 = .ok (.invokespecial 124, 3) := by decide +kernel
theorem dX6_row_19 : decode cX6_row 19 = .ok (.athrow, 1) := by decide +kernel
theorem dX6_row_20 : decode cX6_row 20 = .ok (.aload_n 0, 1) := by decide +kernel
theorem dX6_row_21 : decode cX6_row 21 = .ok (.getfield 10, 3) := by decide +kernel
theorem dX6_row_24 : decode cX6_row 24 = .ok (.iload_n 1, 1) := by decide +kernel
theorem dX6_row_25 : decode cX6_row 25 = .ok (.invokevirtual 108, 3) := by decide +kernel
theorem dX6_row_28 : decode cX6_row 28 = .ok (.ifCond .ne 13, 3) := by decide +kernel
theorem dX6_row_31 : decode cX6_row 31 = .ok (.new 127, 3) := by decide +kernel
theorem dX6_row_34 : decode cX6_row 34 = .ok (.dup, 1) := by decide +kernel
theorem dX6_row_35 : decode cX6_row 35 = .ok (.ldc 129, 2) := by decide +kernel
theorem dX6_row_37 : decode cX6_row 37 = .ok (.invokespecial 131, 3) := by decide +kernel
theorem dX6_row_40 : decode cX6_row 40 = .ok (.athrow, 1) := by decide +kernel
theorem dX6_row_41 : decode cX6_row 41 = .ok (.iload_n 2, 1) := by decide +kernel
theorem dX6_row_42 : decode cX6_row 42 = .ok (.ifCond .eq 14, 3) := by decide +kernel
theorem dX6_row_45 : decode cX6_row 45 = .ok (.aload_n 0, 1) := by decide +kernel
theorem dX6_row_46 : decode cX6_row 46 = .ok (.getfield 10, 3) := by decide +kernel
theorem dX6_row_49 : decode cX6_row 49 = .ok (.iload_n 1, 1) := by decide +kernel
theorem dX6_row_50 : decode cX6_row 50 = .ok (.invokevirtual 132, 3) := by decide +kernel
theorem dX6_row_53 : decode cX6_row 53 = .ok (.goto 11, 3) := by decide +kernel
theorem dX6_row_56 : decode cX6_row 56 = .ok (.aload_n 0, 1) := by decide +kernel
theorem dX6_row_57 : decode cX6_row 57 = .ok (.getfield 10, 3) := by decide +kernel
theorem dX6_row_60 : decode cX6_row 60 = .ok (.iload_n 1, 1) := by decide +kernel
theorem dX6_row_61 : decode cX6_row 61 = .ok (.invokevirtual 112, 3) := by decide +kernel
theorem dX6_row_64 : decode cX6_row 64 = .ok (.ireturn, 1) := by decide +kernel
theorem dX6_rows_0 : decode cX6_rows 0 = .ok (.aload_n 0, 1) := by decide +kernel
theorem dX6_rows_1 : decode cX6_rows 1 = .ok (.getfield 19, 3) := by decide +kernel
theorem dX6_rows_4 : decode cX6_rows 4 = .ok (.invokevirtual 81, 3) := by decide +kernel
theorem dX6_rows_7 : decode cX6_rows 7 = .ok (.ifCond .eq 8, 3) := by decide +kernel
theorem dX6_rows_10 : decode cX6_rows 10 = .ok (.bipush (-100), 2) := by decide +kernel
theorem dX6_rows_12 : decode cX6_rows 12 = .ok (.goto 10, 3) := by decide +kernel
theorem dX6_rows_15 : decode cX6_rows 15 = .ok (.aload_n 0, 1) := by decide +kernel
theorem dX6_rows_16 : decode cX6_rows 16 = .ok (.getfield 10, 3) := by decide +kernel
theorem dX6_rows_19 : decode cX6_rows 19 = .ok (.invokevirtual 135, 3) := by decide +kernel
theorem dX6_rows_22 : decode cX6_rows 22 = .ok (.ireturn, 1) := by decide +kernel
theorem dX6_cut_0 : decode cX6_cut 0 = .ok (.aload_n 0, 1) := by decide +kernel
theorem dX6_cut_1 : decode cX6_cut 1 = .ok (.getfield 19, 3) := by decide +kernel
theorem dX6_cut_4 : decode cX6_cut 4 = .ok (.invokevirtual 81, 3) := by decide +kernel
theorem dX6_cut_7 : decode cX6_cut 7 = .ok (.ifCond .eq 6, 3) := by decide +kernel
theorem dX6_cut_10 : decode cX6_cut 10 = .ok (.bipush (-100), 2) := by decide +kernel
theorem dX6_cut_12 : decode cX6_cut 12 = .ok (.ireturn, 1) := by decide +kernel
theorem dX6_cut_13 : decode cX6_cut 13 = .ok (.iload_n 1, 1) := by decide +kernel
theorem dX6_cut_14 : decode cX6_cut 14 = .ok (.iconst (-1), 1) := by decide +kernel
theorem dX6_cut_15 : decode cX6_cut 15 = .ok (.if_icmp .lt 20, 3) := by decide +kernel
theorem dX6_cut_18 : decode cX6_cut 18 = .ok (.iload_n 1, 1) := by decide +kernel
theorem dX6_cut_19 : decode cX6_cut 19 = .ok (.sipush 1000, 3) := by decide +kernel
theorem dX6_cut_22 : decode cX6_cut 22 = .ok (.if_icmp .gt 13, 3) := by decide +kernel
theorem dX6_cut_25 : decode cX6_cut 25 = .ok (.iload_n 2, 1) := by decide +kernel
theorem dX6_cut_26 : decode cX6_cut 26 = .ok (.ifCond .lt 9, 3) := by decide +kernel
theorem dX6_cut_29 : decode cX6_cut 29 = .ok (.iload_n 2, 1) := by decide +kernel
theorem dX6_cut_30 : decode cX6_cut 30 = .ok (.bipush 64, 2) := by decide +kernel
theorem dX6_cut_32 : decode cX6_cut 32 = .ok (.if_icmp .lt 6, 3) := by decide +kernel
theorem dX6_cut_35 : decode cX6_cut 35 = .ok (.bipush (-102), 2) := by decide +kernel
theorem dX6_cut_37 : decode cX6_cut 37 = .ok (.ireturn, 1) := by decide +kernel
theorem dX6_cut_38 : decode cX6_cut 38 = .ok (.aload_n 0, 1) := by decide +kernel
theorem dX6_cut_39 : decode cX6_cut 39 = .ok (.getfield 19, 3) := by decide +kernel
theorem dX6_cut_42 : decode cX6_cut 42 = .ok (.iload_n 1, 1) := by decide +kernel
theorem dX6_cut_43 : decode cX6_cut 43 = .ok (.invokevirtual 138, 3) := by decide +kernel
theorem dX6_cut_46 : decode cX6_cut 46 = .ok (.iconst 1, 1) := by decide +kernel
theorem dX6_cut_47 : decode cX6_cut 47 = .ok (.ireturn, 1) := by decide +kernel
theorem dX6_start_0 : decode cX6_start 0 = .ok (.aload_n 0, 1) := by decide +kernel
theorem dX6_start_1 : decode cX6_start 1 = .ok (.getfield 19, 3) := by decide +kernel
theorem dX6_start_4 : decode cX6_start 4 = .ok (.invokevirtual 81, 3) := by decide +kernel
theorem dX6_start_7 : decode cX6_start 7 = .ok (.ifCond .ne 6, 3) := by decide +kernel
theorem dX6_start_10 : decode cX6_start 10 = .ok (.bipush (-103), 2) := by decide +kernel
theorem dX6_start_12 : decode cX6_start 12 = .ok (.ireturn, 1) := by decide +kernel
theorem dX6_start_13 : decode cX6_start 13 = .ok (.aload_n 0, 1) := by decide +kernel
theorem dX6_start_14 : decode cX6_start 14 = .ok (.getfield 19, 3) := by decide +kernel
theorem dX6_start_17 : decode cX6_start 17 = .ok (.invokevirtual 141, 3) := by decide +kernel
theorem dX6_start_20 : decode cX6_start 20 = .ok (.aload_n 0, 1) := by decide +kernel
theorem dX6_start_21 : decode cX6_start 21 = .ok (.getfield 10, 3) := by decide +kernel
theorem dX6_start_24 : decode cX6_start 24 = .ok (.invokevirtual 135, 3) := by decide +kernel
theorem dX6_start_27 : decode cX6_start 27 = .ok (.ireturn, 1) := by decide +kernel
theorem dX6_blocks_0 : decode cX6_blocks 0 = .ok (.iload_n 1, 1) := by decide +kernel
theorem dX6_blocks_1 : decode cX6_blocks 1 = .ok (.ifCond .lt 8, 3) := by decide +kernel
theorem dX6_blocks_4 : decode cX6_blocks 4 = .ok (.iload_n 1, 1) := by decide +kernel
theorem dX6_blocks_5 : decode cX6_blocks 5 = .ok (.iconst 3, 1) := by decide +kernel
theorem dX6_blocks_6 : decode cX6_blocks 6 = .ok (.if_icmp .le 6, 3) := by decide +kernel
theorem dX6_blocks_9 : decode cX6_blocks 9 = .ok (.bipush (-102), 2) := by decide +kernel
theorem dX6_blocks_11 : decode cX6_blocks 11 = .ok (.ireturn, 1) := by decide +kernel
theorem dX6_blocks_12 : decode cX6_blocks 12 = .ok (.aload_n 0, 1) := by decide +kernel
theorem dX6_blocks_13 : decode cX6_blocks 13 = .ok (.getfield 19, 3) := by decide +kernel
theorem dX6_blocks_16 : decode cX6_blocks 16 = .ok (.iload_n 1, 1) := by decide +kernel
theorem dX6_blocks_17 : decode cX6_blocks 17 = .ok (.invokevirtual 144, 3) := by decide +kernel
theorem dX6_blocks_20 : decode cX6_blocks 20 = .ok (.ireturn, 1) := by decide +kernel
theorem dX6_build_0 : decode cX6_build 0 = .ok (.aload_n 0, 1) := by decide +kernel
theorem dX6_build_1 : decode cX6_build 1 = .ok (.getfield 19, 3) := by decide +kernel
theorem dX6_build_4 : decode cX6_build 4 = .ok (.invokevirtual 81, 3) := by decide +kernel
theorem dX6_build_7 : decode cX6_build 7 = .ok (.ifCond .eq 6, 3) := by decide +kernel
theorem dX6_build_10 : decode cX6_build 10 = .ok (.bipush (-100), 2) := by decide +kernel
theorem dX6_build_12 : decode cX6_build 12 = .ok (.ireturn, 1) := by decide +kernel
theorem dX6_build_13 : decode cX6_build 13 = .ok (.aload_n 0, 1) := by decide +kernel
theorem dX6_build_14 : decode cX6_build 14 = .ok (.getfield 23, 3) := by decide +kernel
theorem dX6_build_17 : decode cX6_build 17 = .ok (.ifCond .eq 15, 3) := by decide +kernel
theorem dX6_build_20 : decode cX6_build 20 = .ok (.aload_n 0, 1) := by decide +kernel
theorem dX6_build_21 : decode cX6_build 21 = .ok (.getfield 23, 3) := by decide +kernel
theorem dX6_build_24 : decode cX6_build 24 = .ok (.bipush 6, 2) := by decide +kernel
theorem dX6_build_26 : decode cX6_build 26 = .ok (.if_icmp .eq 6, 3) := by decide +kernel
theorem dX6_build_29 : decode cX6_build 29 = .ok (.bipush (-103), 2) := by decide +kernel
theorem dX6_build_31 : decode cX6_build 31 = .ok (.ireturn, 1) := by decide +kernel
theorem dX6_build_32 : decode cX6_build 32 = .ok (.aload_n 0, 1) := by decide +kernel
theorem dX6_build_33 : decode cX6_build 33 = .ok (.invokevirtual 147, 3) := by decide +kernel
theorem dX6_build_36 : decode cX6_build 36 = .ok (.aload_n 0, 1) := by decide +kernel
theorem dX6_build_37 : decode cX6_build 37 = .ok (.iload_n 1, 1) := by decide +kernel
theorem dX6_build_38 : decode cX6_build 38 = .ok (.putfield 27, 3) := by decide +kernel
theorem dX6_build_41 : decode cX6_build 41 = .ok (.aload_n 0, 1) := by decide +kernel
theorem dX6_build_42 : decode cX6_build 42 = .ok (.iconst 1, 1) := by decide +kernel
theorem dX6_build_43 : decode cX6_build 43 = .ok (.putfield 23, 3) := by decide +kernel
theorem dX6_build_46 : decode cX6_build 46 = .ok (.iconst 1, 1) := by decide +kernel
theorem dX6_build_47 : decode cX6_build 47 = .ok (.ireturn, 1) := by decide +kernel
theorem dX6_drop_0 : decode cX6_drop 0 = .ok (.aload_n 0, 1) := by decide +kernel
theorem dX6_drop_1 : decode cX6_drop 1 = .ok (.getfield 19, 3) := by decide +kernel
theorem dX6_drop_4 : decode cX6_drop 4 = .ok (.invokevirtual 81, 3) := by decide +kernel
theorem dX6_drop_7 : decode cX6_drop 7 = .ok (.ifCond .eq 6, 3) := by decide +kernel
theorem dX6_drop_10 : decode cX6_drop 10 = .ok (.bipush (-100), 2) := by decide +kernel
theorem dX6_drop_12 : decode cX6_drop 12 = .ok (.ireturn, 1) := by decide +kernel
theorem dX6_drop_13 : decode cX6_drop 13 = .ok (.aload_n 0, 1) := by decide +kernel
theorem dX6_drop_14 : decode cX6_drop 14 = .ok (.getfield 23, 3) := by decide +kernel
theorem dX6_drop_17 : decode cX6_drop 17 = .ok (.istore_n 1, 1) := by decide +kernel
theorem dX6_drop_18 : decode cX6_drop 18 = .ok (.iload_n 1, 1) := by decide +kernel
theorem dX6_drop_19 : decode cX6_drop 19 = .ok (.iconst 5, 1) := by decide +kernel
theorem dX6_drop_20 : decode cX6_drop 20 = .ok (.if_icmp .ne 14, 3) := by decide +kernel
theorem dX6_drop_23 : decode cX6_drop 23 = .ok (.aload_n 0, 1) := by decide +kernel
theorem dX6_drop_24 : decode cX6_drop 24 = .ok (.iconst 0, 1) := by decide +kernel
theorem dX6_drop_25 : decode cX6_drop 25 = .ok (.invokevirtual 150, 3) := by decide +kernel
theorem dX6_drop_28 : decode cX6_drop 28 = .ok (.ifCond .ne 6, 3) := by decide +kernel
theorem dX6_drop_31 : decode cX6_drop 31 = .ok (.bipush (-106), 2) := by decide +kernel
theorem dX6_drop_33 : decode cX6_drop 33 = .ok (.ireturn, 1) := by decide +kernel
theorem dX6_drop_34 : decode cX6_drop 34 = .ok (.aload_n 0, 1) := by decide +kernel
theorem dX6_drop_35 : decode cX6_drop 35 = .ok (.invokevirtual 147, 3) := by decide +kernel
theorem dX6_drop_38 : decode cX6_drop 38 = .ok (.iload_n 1, 1) := by decide +kernel
theorem dX6_drop_39 : decode cX6_drop 39 = .ok (.ireturn, 1) := by decide +kernel
theorem dX6_step_0 : decode cX6_step 0 = .ok (.aload_n 0, 1) := by decide +kernel
theorem dX6_step_1 : decode cX6_step 1 = .ok (.getfield 19, 3) := by decide +kernel
theorem dX6_step_4 : decode cX6_step 4 = .ok (.invokevirtual 81, 3) := by decide +kernel
theorem dX6_step_7 : decode cX6_step 7 = .ok (.ifCond .eq 6, 3) := by decide +kernel
theorem dX6_step_10 : decode cX6_step 10 = .ok (.bipush (-100), 2) := by decide +kernel
theorem dX6_step_12 : decode cX6_step 12 = .ok (.ireturn, 1) := by decide +kernel
theorem dX6_step_13 : decode cX6_step 13 = .ok (.iload_n 1, 1) := by decide +kernel
theorem dX6_step_14 : decode cX6_step 14 = .ok (.iconst 1, 1) := by decide +kernel
theorem dX6_step_15 : decode cX6_step 15 = .ok (.if_icmp .lt 10, 3) := by decide +kernel
theorem dX6_step_18 : decode cX6_step 18 = .ok (.iload_n 1, 1) := by decide +kernel
theorem dX6_step_19 : decode cX6_step 19 = .ok (.sipush 1000, 3) := by decide +kernel
theorem dX6_step_22 : decode cX6_step 22 = .ok (.if_icmp .le 6, 3) := by decide +kernel
theorem dX6_step_25 : decode cX6_step 25 = .ok (.bipush (-102), 2) := by decide +kernel
theorem dX6_step_27 : decode cX6_step 27 = .ok (.ireturn, 1) := by decide +kernel
theorem dX6_step_28 : decode cX6_step 28 = .ok (.iconst 1, 1) := by decide +kernel
theorem dX6_step_29 : decode cX6_step 29 = .ok (.istore_n 2, 1) := by decide +kernel
theorem dX6_step_30 : decode cX6_step 30 = .ok (.iconst 0, 1) := by decide +kernel
theorem dX6_step_31 : decode cX6_step 31 = .ok (.istore_n 3, 1) := by decide +kernel
theorem dX6_step_32 : decode cX6_step 32 = .ok (.iload_n 3, 1) := by decide +kernel
theorem dX6_step_33 : decode cX6_step 33 = .ok (.iload_n 1, 1) := by decide +kernel
theorem dX6_step_34 : decode cX6_step 34 = .ok (.if_icmp .ge 81, 3) := by decide +kernel
theorem dX6_step_37 : decode cX6_step 37 = .ok (.iload_n 2, 1) := by decide +kernel
theorem dX6_step_38 : decode cX6_step 38 = .ok (.ifCond .eq 77, 3) := by decide +kernel
theorem dX6_step_41 : decode cX6_step 41 = .ok (.aload_n 0, 1) := by decide +kernel
theorem dX6_step_42 : decode cX6_step 42 = .ok (.invokevirtual 153, 3) := by decide +kernel
theorem dX6_step_45 : decode cX6_step 45 = .ok (.ifCond .eq 70, 3) := by decide +kernel
theorem dX6_step_48 : decode cX6_step 48 = .ok (.aload_n 0, 1) := by decide +kernel
theorem dX6_step_49 : decode cX6_step 49 = .ok (.getfield 23, 3) := by decide +kernel
theorem dX6_step_52 : decode cX6_step 52 = .ok (.tableswitch 52 1 3 #[28, 36, 44], 28) := by decide +kernel
theorem dX6_step_80 : decode cX6_step 80 = .ok (.aload_n 0, 1) := by decide +kernel
theorem dX6_step_81 : decode cX6_step 81 = .ok (.invokevirtual 156, 3) := by decide +kernel
theorem dX6_step_84 : decode cX6_step 84 = .ok (.istore_n 2, 1) := by decide +kernel
theorem dX6_step_85 : decode cX6_step 85 = .ok (.goto 24, 3) := by decide +kernel
theorem dX6_step_88 : decode cX6_step 88 = .ok (.aload_n 0, 1) := by decide +kernel
theorem dX6_step_89 : decode cX6_step 89 = .ok (.invokevirtual 159, 3) := by decide +kernel
theorem dX6_step_92 : decode cX6_step 92 = .ok (.istore_n 2, 1) := by decide +kernel
theorem dX6_step_93 : decode cX6_step 93 = .ok (.goto 16, 3) := by decide +kernel
theorem dX6_step_96 : decode cX6_step 96 = .ok (.aload_n 0, 1) := by decide +kernel
theorem dX6_step_97 : decode cX6_step 97 = .ok (.invokevirtual 162, 3) := by decide +kernel
theorem dX6_step_100 : decode cX6_step 100 = .ok (.istore_n 2, 1) := by decide +kernel
theorem dX6_step_101 : decode cX6_step 101 = .ok (.goto 8, 3) := by decide +kernel
theorem dX6_step_104 : decode cX6_step 104 = .ok (.aload_n 0, 1) := by decide +kernel
theorem dX6_step_105 : decode cX6_step 105 = .ok (.invokevirtual 165, 3) := by decide +kernel
theorem dX6_step_108 : decode cX6_step 108 = .ok (.istore_n 2, 1) := by decide +kernel
theorem dX6_step_109 : decode cX6_step 109 = .ok (.iinc 3 1, 3) := by decide +kernel
theorem dX6_step_112 : decode cX6_step 112 = .ok (.goto (-80), 3) := by decide +kernel
theorem dX6_step_115 : decode cX6_step 115 = .ok (.iload_n 2, 1) := by decide +kernel
theorem dX6_step_116 : decode cX6_step 116 = .ok (.ifCond .eq 10, 3) := by decide +kernel
theorem dX6_step_119 : decode cX6_step 119 = .ok (.aload_n 0, 1) := by decide +kernel
theorem dX6_step_120 : decode cX6_step 120 = .ok (.getfield 23, 3) := by decide +kernel
theorem dX6_step_123 : decode cX6_step 123 = .ok (.goto 5, 3) := by decide +kernel
theorem dX6_step_126 : decode cX6_step 126 = .ok (.bipush (-106), 2) := by decide +kernel
theorem dX6_step_128 : decode cX6_step 128 = .ok (.ireturn, 1) := by decide +kernel
theorem dX6_info_0 : decode cX6_info 0 = .ok (.aload_n 0, 1) := by decide +kernel
theorem dX6_info_1 : decode cX6_info 1 = .ok (.getfield 19, 3) := by decide +kernel
theorem dX6_info_4 : decode cX6_info 4 = .ok (.invokevirtual 81, 3) := by decide +kernel
theorem dX6_info_7 : decode cX6_info 7 = .ok (.ifCond .eq 6, 3) := by decide +kernel
theorem dX6_info_10 : decode cX6_info 10 = .ok (.bipush (-100), 2) := by decide +kernel
theorem dX6_info_12 : decode cX6_info 12 = .ok (.ireturn, 1) := by decide +kernel
theorem dX6_info_13 : decode cX6_info 13 = .ok (.iload_n 1, 1) := by decide +kernel
theorem dX6_info_14 : decode cX6_info 14 = .ok (.ifCond .lt 9, 3) := by decide +kernel
theorem dX6_info_17 : decode cX6_info 17 = .ok (.iload_n 1, 1) := by decide +kernel
theorem dX6_info_18 : decode cX6_info 18 = .ok (.bipush 11, 2) := by decide +kernel
theorem dX6_info_20 : decode cX6_info 20 = .ok (.if_icmp .le 6, 3) := by decide +kernel
theorem dX6_info_23 : decode cX6_info 23 = .ok (.bipush (-102), 2) := by decide +kernel
theorem dX6_info_25 : decode cX6_info 25 = .ok (.ireturn, 1) := by decide +kernel
theorem dX6_info_26 : decode cX6_info 26 = .ok (.iload_n 1, 1) := by decide +kernel
theorem dX6_info_27 : decode cX6_info 27 = .ok (.tableswitch 160 0 10 #[57, 62, 75, 80, 88, 96, 104, 112, 131, 150, 155], 57) := by decide +kernel
theorem dX6_info_84 : decode cX6_info 84 = .ok (.aload_n 0, 1) := by decide +kernel
theorem dX6_info_85 : decode cX6_info 85 = .ok (.getfield 23, 3) := by decide +kernel
theorem dX6_info_88 : decode cX6_info 88 = .ok (.ireturn, 1) := by decide +kernel
theorem dX6_info_89 : decode cX6_info 89 = .ok (.aload_n 0, 1) := by decide +kernel
theorem dX6_info_90 : decode cX6_info 90 = .ok (.getfield 27, 3) := by decide +kernel
theorem dX6_info_93 : decode cX6_info 93 = .ok (.ifCond .eq 7, 3) := by decide +kernel
theorem dX6_info_96 : decode cX6_info 96 = .ok (.iconst 1, 1) := by decide +kernel
theorem dX6_info_97 : decode cX6_info 97 = .ok (.goto 4, 3) := by decide +kernel
theorem dX6_info_100 : decode cX6_info 100 = .ok (.iconst 0, 1) := by decide +kernel
theorem dX6_info_101 : decode cX6_info 101 = .ok (.ireturn, 1) := by decide +kernel
theorem dX6_info_102 : decode cX6_info 102 = .ok (.aload_n 0, 1) := by decide +kernel
theorem dX6_info_103 : decode cX6_info 103 = .ok (.getfield 31, 3) := by decide +kernel
theorem dX6_info_106 : decode cX6_info 106 = .ok (.ireturn, 1) := by decide +kernel
theorem dX6_info_107 : decode cX6_info 107 = .ok (.aload_n 0, 1) := by decide +kernel
theorem dX6_info_108 : decode cX6_info 108 = .ok (.getfield 46, 3) := by decide +kernel
theorem dX6_info_111 : decode cX6_info 111 = .ok (.invokevirtual 168, 3) := by decide +kernel
theorem dX6_info_114 : decode cX6_info 114 = .ok (.ireturn, 1) := by decide +kernel
theorem dX6_info_115 : decode cX6_info 115 = .ok (.aload_n 0, 1) := by decide +kernel
theorem dX6_info_116 : decode cX6_info 116 = .ok (.getfield 46, 3) := by decide +kernel
theorem dX6_info_119 : decode cX6_info 119 = .ok (.invokevirtual 169, 3) := by decide +kernel
theorem dX6_info_122 : decode cX6_info 122 = .ok (.ireturn, 1) := by decide +kernel
theorem dX6_info_123 : decode cX6_info 123 = .ok (.aload_n 0, 1) := by decide +kernel
theorem dX6_info_124 : decode cX6_info 124 = .ok (.getfield 60, 3) := by decide +kernel
theorem dX6_info_127 : decode cX6_info 127 = .ok (.invokevirtual 172, 3) := by decide +kernel
theorem dX6_info_130 : decode cX6_info 130 = .ok (.ireturn, 1) := by decide +kernel
theorem dX6_info_131 : decode cX6_info 131 = .ok (.aload_n 0, 1) := by decide +kernel
theorem dX6_info_132 : decode cX6_info 132 = .ok (.getfield 67, 3) := by decide +kernel
theorem dX6_info_135 : decode cX6_info 135 = .ok (.invokevirtual 173, 3) := by decide +kernel
theorem dX6_info_138 : decode cX6_info 138 = .ok (.ireturn, 1) := by decide +kernel
theorem dX6_info_139 : decode cX6_info 139 = .ok (.aload_n 0, 1) := by decide +kernel
theorem dX6_info_140 : decode cX6_info 140 = .ok (.invokevirtual 176, 3) := by decide +kernel
theorem dX6_info_143 : decode cX6_info 143 = .ok (.ifCond .eq 13, 3) := by decide +kernel
theorem dX6_info_146 : decode cX6_info 146 = .ok (.aload_n 0, 1) := by decide +kernel
theorem dX6_info_147 : decode cX6_info 147 = .ok (.getfield 67, 3) := by decide +kernel
theorem dX6_info_150 : decode cX6_info 150 = .ok (.invokevirtual 179, 3) := by decide +kernel
theorem dX6_info_153 : decode cX6_info 153 = .ok (.goto 4, 3) := by decide +kernel
theorem dX6_info_156 : decode cX6_info 156 = .ok (.iconst 0, 1) := by decide +kernel
theorem dX6_info_157 : decode cX6_info 157 = .ok (.ireturn, 1) := by decide +kernel
theorem dX6_info_158 : decode cX6_info 158 = .ok (.aload_n 0, 1) := by decide +kernel
theorem dX6_info_159 : decode cX6_info 159 = .ok (.invokevirtual 176, 3) := by decide +kernel
theorem dX6_info_162 : decode cX6_info 162 = .ok (.ifCond .eq 13, 3) := by decide +kernel
theorem dX6_info_165 : decode cX6_info 165 = .ok (.aload_n 0, 1) := by decide +kernel
theorem dX6_info_166 : decode cX6_info 166 = .ok (.getfield 67, 3) := by decide +kernel
theorem dX6_info_169 : decode cX6_info 169 = .ok (.invokevirtual 182, 3) := by decide +kernel
theorem dX6_info_172 : decode cX6_info 172 = .ok (.goto 4, 3) := by decide +kernel
theorem dX6_info_175 : decode cX6_info 175 = .ok (.iconst 0, 1) := by decide +kernel
theorem dX6_info_176 : decode cX6_info 176 = .ok (.ireturn, 1) := by decide +kernel
theorem dX6_info_177 : decode cX6_info 177 = .ok (.aload_n 0, 1) := by decide +kernel
theorem dX6_info_178 : decode cX6_info 178 = .ok (.getfield 34, 3) := by decide +kernel
theorem dX6_info_181 : decode cX6_info 181 = .ok (.ireturn, 1) := by decide +kernel
theorem dX6_info_182 : decode cX6_info 182 = .ok (.aload_n 0, 1) := by decide +kernel
theorem dX6_info_183 : decode cX6_info 183 = .ok (.getfield 37, 3) := by decide +kernel
theorem dX6_info_186 : decode cX6_info 186 = .ok (.ireturn, 1) := by decide +kernel
theorem dX6_info_187 : decode cX6_info 187 = .ok (.aload_n 0, 1) := by decide +kernel
theorem dX6_info_188 : decode cX6_info 188 = .ok (.getfield 40, 3) := by decide +kernel
theorem dX6_info_191 : decode cX6_info 191 = .ok (.ireturn, 1) := by decide +kernel
theorem dX6_entry_0 : decode cX6_entry 0 = .ok (.aload_n 0, 1) := by decide +kernel
theorem dX6_entry_1 : decode cX6_entry 1 = .ok (.getfield 19, 3) := by decide +kernel
theorem dX6_entry_4 : decode cX6_entry 4 = .ok (.invokevirtual 81, 3) := by decide +kernel
theorem dX6_entry_7 : decode cX6_entry 7 = .ok (.ifCond .eq 13, 3) := by decide +kernel
theorem dX6_entry_10 : decode cX6_entry 10 = .ok (.new 120, 3) := by decide +kernel
theorem dX6_entry_13 : decode cX6_entry 13 = .ok (.dup, 1) := by decide +kernel
theorem dX6_entry_14 : decode cX6_entry 14 = .ok (.ldc 122, 2) := by decide +kernel
theorem dX6_entry_16 : decode cX6_entry 16 = .ok (.invokespecial 124, 3) := by decide +kernel
theorem dX6_entry_19 : decode cX6_entry 19 = .ok (.athrow, 1) := by decide +kernel
theorem dX6_entry_20 : decode cX6_entry 20 = .ok (.aload_n 0, 1) := by decide +kernel
theorem dX6_entry_21 : decode cX6_entry 21 = .ok (.iload_n 1, 1) := by decide +kernel
theorem dX6_entry_22 : decode cX6_entry 22 = .ok (.invokevirtual 185, 3) := by decide +kernel
theorem dX6_entry_25 : decode cX6_entry 25 = .ok (.ifCond .ne 13, 3) := by decide +kernel
theorem dX6_entry_28 : decode cX6_entry 28 = .ok (.new 127, 3) := by decide +kernel
theorem dX6_entry_31 : decode cX6_entry 31 = .ok (.dup, 1) := by decide +kernel
theorem dX6_entry_32 : decode cX6_entry 32 = .ok (.ldc 188, 2) := by decide +kernel
theorem dX6_entry_34 : decode cX6_entry 34 = .ok (.invokespecial 131, 3) := by decide +kernel
theorem dX6_entry_37 : decode cX6_entry 37 = .ok (.athrow, 1) := by decide +kernel
theorem dX6_entry_38 : decode cX6_entry 38 = .ok (.aload_n 0, 1) := by decide +kernel
theorem dX6_entry_39 : decode cX6_entry 39 = .ok (.getfield 67, 3) := by decide +kernel
theorem dX6_entry_42 : decode cX6_entry 42 = .ok (.iload_n 1, 1) := by decide +kernel
theorem dX6_entry_43 : decode cX6_entry 43 = .ok (.invokevirtual 190, 3) := by decide +kernel
theorem dX6_entry_46 : decode cX6_entry 46 = .ok (.lstore_n 3, 1) := by decide +kernel
theorem dX6_entry_47 : decode cX6_entry 47 = .ok (.iload_n 2, 1) := by decide +kernel
theorem dX6_entry_48 : decode cX6_entry 48 = .ok (.ifCond .eq 10, 3) := by decide +kernel
theorem dX6_entry_51 : decode cX6_entry 51 = .ok (.lload_n 3, 1) := by decide +kernel
theorem dX6_entry_52 : decode cX6_entry 52 = .ok (.invokestatic 194, 3) := by decide +kernel
theorem dX6_entry_55 : decode cX6_entry 55 = .ok (.goto 7, 3) := by decide +kernel
theorem dX6_entry_58 : decode cX6_entry 58 = .ok (.lload_n 3, 1) := by decide +kernel
theorem dX6_entry_59 : decode cX6_entry 59 = .ok (.invokestatic 198, 3) := by decide +kernel
theorem dX6_entry_62 : decode cX6_entry 62 = .ok (.ireturn, 1) := by decide +kernel
theorem dX6_leaf_0 : decode cX6_leaf 0 = .ok (.aload_n 0, 1) := by decide +kernel
theorem dX6_leaf_1 : decode cX6_leaf 1 = .ok (.getfield 19, 3) := by decide +kernel
theorem dX6_leaf_4 : decode cX6_leaf 4 = .ok (.invokevirtual 81, 3) := by decide +kernel
theorem dX6_leaf_7 : decode cX6_leaf 7 = .ok (.ifCond .eq 6, 3) := by decide +kernel
theorem dX6_leaf_10 : decode cX6_leaf 10 = .ok (.bipush (-100), 2) := by decide +kernel
theorem dX6_leaf_12 : decode cX6_leaf 12 = .ok (.ireturn, 1) := by decide +kernel
theorem dX6_leaf_13 : decode cX6_leaf 13 = .ok (.aload_n 0, 1) := by decide +kernel
theorem dX6_leaf_14 : decode cX6_leaf 14 = .ok (.iload_n 1, 1) := by decide +kernel
theorem dX6_leaf_15 : decode cX6_leaf 15 = .ok (.invokevirtual 185, 3) := by decide +kernel
theorem dX6_leaf_18 : decode cX6_leaf 18 = .ok (.ifCond .eq 14, 3) := by decide +kernel
theorem dX6_leaf_21 : decode cX6_leaf 21 = .ok (.aload_n 0, 1) := by decide +kernel
theorem dX6_leaf_22 : decode cX6_leaf 22 = .ok (.getfield 67, 3) := by decide +kernel
theorem dX6_leaf_25 : decode cX6_leaf 25 = .ok (.iload_n 1, 1) := by decide +kernel
theorem dX6_leaf_26 : decode cX6_leaf 26 = .ok (.invokevirtual 201, 3) := by decide +kernel
theorem dX6_leaf_29 : decode cX6_leaf 29 = .ok (.goto 5, 3) := by decide +kernel
theorem dX6_leaf_32 : decode cX6_leaf 32 = .ok (.bipush (-101), 2) := by decide +kernel
theorem dX6_leaf_34 : decode cX6_leaf 34 = .ok (.ireturn, 1) := by decide +kernel
theorem dX6_audit_0 : decode cX6_audit 0 = .ok (.aload_n 0, 1) := by decide +kernel
theorem dX6_audit_1 : decode cX6_audit 1 = .ok (.getfield 19, 3) := by decide +kernel
theorem dX6_audit_4 : decode cX6_audit 4 = .ok (.invokevirtual 81, 3) := by decide +kernel
theorem dX6_audit_7 : decode cX6_audit 7 = .ok (.ifCond .eq 6, 3) := by decide +kernel
theorem dX6_audit_10 : decode cX6_audit 10 = .ok (.bipush (-100), 2) := by decide +kernel
theorem dX6_audit_12 : decode cX6_audit 12 = .ok (.ireturn, 1) := by decide +kernel
theorem dX6_audit_13 : decode cX6_audit 13 = .ok (.iconst 0, 1) := by decide +kernel
theorem dX6_audit_14 : decode cX6_audit 14 = .ok (.istore_n 1, 1) := by decide +kernel
theorem dX6_audit_15 : decode cX6_audit 15 = .ok (.aload_n 0, 1) := by decide +kernel
theorem dX6_audit_16 : decode cX6_audit 16 = .ok (.getfield 23, 3) := by decide +kernel
theorem dX6_audit_19 : decode cX6_audit 19 = .ok (.iconst 5, 1) := by decide +kernel
theorem dX6_audit_20 : decode cX6_audit 20 = .ok (.if_icmp .ne 20, 3) := by decide +kernel
theorem dX6_audit_23 : decode cX6_audit 23 = .ok (.aload_n 0, 1) := by decide +kernel
theorem dX6_audit_24 : decode cX6_audit 24 = .ok (.getfield 67, 3) := by decide +kernel
theorem dX6_audit_27 : decode cX6_audit 27 = .ok (.aload_n 0, 1) := by decide +kernel
theorem dX6_audit_28 : decode cX6_audit 28 = .ok (.getfield 10, 3) := by decide +kernel
theorem dX6_audit_31 : decode cX6_audit 31 = .ok (.invokevirtual 204, 3) := by decide +kernel
theorem dX6_audit_34 : decode cX6_audit 34 = .ok (.ifCond .ne 6, 3) := by decide +kernel
theorem dX6_audit_37 : decode cX6_audit 37 = .ok (.iinc 1 1, 3) := by decide +kernel
theorem dX6_audit_40 : decode cX6_audit 40 = .ok (.aload_n 0, 1) := by decide +kernel
theorem dX6_audit_41 : decode cX6_audit 41 = .ok (.invokevirtual 176, 3) := by decide +kernel
theorem dX6_audit_44 : decode cX6_audit 44 = .ok (.ifCond .eq 16, 3) := by decide +kernel
theorem dX6_audit_47 : decode cX6_audit 47 = .ok (.aload_n 0, 1) := by decide +kernel
theorem dX6_audit_48 : decode cX6_audit 48 = .ok (.getfield 67, 3) := by decide +kernel
theorem dX6_audit_51 : decode cX6_audit 51 = .ok (.invokevirtual 208, 3) := by decide +kernel
theorem dX6_audit_54 : decode cX6_audit 54 = .ok (.ifCond .ne 6, 3) := by decide +kernel
theorem dX6_audit_57 : decode cX6_audit 57 = .ok (.iinc 1 1, 3) := by decide +kernel
theorem dX6_audit_60 : decode cX6_audit 60 = .ok (.aload_n 0, 1) := by decide +kernel
theorem dX6_audit_61 : decode cX6_audit 61 = .ok (.invokevirtual 176, 3) := by decide +kernel
theorem dX6_audit_64 : decode cX6_audit 64 = .ok (.ifCond .eq 16, 3) := by decide +kernel
theorem dX6_audit_67 : decode cX6_audit 67 = .ok (.aload_n 0, 1) := by decide +kernel
theorem dX6_audit_68 : decode cX6_audit 68 = .ok (.getfield 67, 3) := by decide +kernel
theorem dX6_audit_71 : decode cX6_audit 71 = .ok (.invokevirtual 211, 3) := by decide +kernel
theorem dX6_audit_74 : decode cX6_audit 74 = .ok (.ifCond .ne 6, 3) := by decide +kernel
theorem dX6_audit_77 : decode cX6_audit 77 = .ok (.iinc 1 1, 3) := by decide +kernel
theorem dX6_audit_80 : decode cX6_audit 80 = .ok (.iload_n 1, 1) := by decide +kernel
theorem dX6_audit_81 : decode cX6_audit 81 = .ok (.ireturn, 1) := by decide +kernel
theorem dX6_ask_0 : decode cX6_ask 0 = .ok (.aload_n 0, 1) := by decide +kernel
theorem dX6_ask_1 : decode cX6_ask 1 = .ok (.getfield 19, 3) := by decide +kernel
theorem dX6_ask_4 : decode cX6_ask 4 = .ok (.invokevirtual 81, 3) := by decide +kernel
theorem dX6_ask_7 : decode cX6_ask 7 = .ok (.ifCond .eq 6, 3) := by decide +kernel
theorem dX6_ask_10 : decode cX6_ask 10 = .ok (.bipush (-100), 2) := by decide +kernel
theorem dX6_ask_12 : decode cX6_ask 12 = .ok (.ireturn, 1) := by decide +kernel
theorem dX6_ask_13 : decode cX6_ask 13 = .ok (.aload_n 0, 1) := by decide +kernel
theorem dX6_ask_14 : decode cX6_ask 14 = .ok (.getfield 23, 3) := by decide +kernel
theorem dX6_ask_17 : decode cX6_ask 17 = .ok (.iconst 5, 1) := by decide +kernel
theorem dX6_ask_18 : decode cX6_ask 18 = .ok (.if_icmp .ne 36, 3) := by decide +kernel
theorem dX6_ask_21 : decode cX6_ask 21 = .ok (.aload_n 0, 1) := by decide +kernel
theorem dX6_ask_22 : decode cX6_ask 22 = .ok (.aload_n 0, 1) := by decide +kernel
theorem dX6_ask_23 : decode cX6_ask 23 = .ok (.getfield 67, 3) := by decide +kernel
theorem dX6_ask_26 : decode cX6_ask 26 = .ok (.iload_n 1, 1) := by decide +kernel
theorem dX6_ask_27 : decode cX6_ask 27 = .ok (.iload_n 2, 1) := by decide +kernel
theorem dX6_ask_28 : decode cX6_ask 28 = .ok (.invokevirtual 214, 3) := by decide +kernel
theorem dX6_ask_31 : decode cX6_ask 31 = .ok (.putfield 78, 3) := by decide +kernel
theorem dX6_ask_34 : decode cX6_ask 34 = .ok (.aload_n 0, 1) := by decide +kernel
theorem dX6_ask_35 : decode cX6_ask 35 = .ok (.aload_n 0, 1) := by decide +kernel
theorem dX6_ask_36 : decode cX6_ask 36 = .ok (.getfield 67, 3) := by decide +kernel
theorem dX6_ask_39 : decode cX6_ask 39 = .ok (.iload_n 1, 1) := by decide +kernel
theorem dX6_ask_40 : decode cX6_ask 40 = .ok (.iload_n 2, 1) := by decide +kernel
theorem dX6_ask_41 : decode cX6_ask 41 = .ok (.aload_n 0, 1) := by decide +kernel
theorem dX6_ask_42 : decode cX6_ask 42 = .ok (.getfield 71, 3) := by decide +kernel
theorem dX6_ask_45 : decode cX6_ask 45 = .ok (.invokevirtual 218, 3) := by decide +kernel
theorem dX6_ask_48 : decode cX6_ask 48 = .ok (.putfield 75, 3) := by decide +kernel
theorem dX6_ask_51 : decode cX6_ask 51 = .ok (.goto 26, 3) := by decide +kernel
theorem dX6_ask_54 : decode cX6_ask 54 = .ok (.aload_n 0, 1) := by decide +kernel
theorem dX6_ask_55 : decode cX6_ask 55 = .ok (.bipush 20, 2) := by decide +kernel
theorem dX6_ask_57 : decode cX6_ask 57 = .ok (.putfield 78, 3) := by decide +kernel
theorem dX6_ask_60 : decode cX6_ask 60 = .ok (.aload_n 0, 1) := by decide +kernel
theorem dX6_ask_61 : decode cX6_ask 61 = .ok (.aload_n 0, 1) := by decide +kernel
theorem dX6_ask_62 : decode cX6_ask 62 = .ok (.getfield 10, 3) := by decide +kernel
theorem dX6_ask_65 : decode cX6_ask 65 = .ok (.iload_n 1, 1) := by decide +kernel
theorem dX6_ask_66 : decode cX6_ask 66 = .ok (.iload_n 2, 1) := by decide +kernel
theorem dX6_ask_67 : decode cX6_ask 67 = .ok (.aload_n 0, 1) := by decide +kernel
theorem dX6_ask_68 : decode cX6_ask 68 = .ok (.getfield 71, 3) := by decide +kernel
theorem dX6_ask_71 : decode cX6_ask 71 = .ok (.invokevirtual 222, 3) := by decide +kernel
theorem dX6_ask_74 : decode cX6_ask 74 = .ok (.putfield 75, 3) := by decide +kernel
theorem dX6_ask_77 : decode cX6_ask 77 = .ok (.aload_n 0, 1) := by decide +kernel
theorem dX6_ask_78 : decode cX6_ask 78 = .ok (.getfield 75, 3) := by decide +kernel
theorem dX6_ask_81 : decode cX6_ask 81 = .ok (.ireturn, 1) := by decide +kernel
theorem dX6_answer_0 : decode cX6_answer 0 = .ok (.iload_n 1, 1) := by decide +kernel
theorem dX6_answer_1 : decode cX6_answer 1 = .ok (.ifCond .lt 29, 3) := by decide +kernel
theorem dX6_answer_4 : decode cX6_answer 4 = .ok (.iload_n 1, 1) := by decide +kernel
theorem dX6_answer_5 : decode cX6_answer 5 = .ok (.aload_n 0, 1) := by decide +kernel
theorem dX6_answer_6 : decode cX6_answer 6 = .ok (.getfield 75, 3) := by decide +kernel
theorem dX6_answer_9 : decode cX6_answer 9 = .ok (.if_icmp .ge 21, 3) := by decide +kernel
theorem dX6_answer_12 : decode cX6_answer 12 = .ok (.iload_n 1, 1) := by decide +kernel
theorem dX6_answer_13 : decode cX6_answer 13 = .ok (.aload_n 0, 1) := by decide +kernel
theorem dX6_answer_14 : decode cX6_answer 14 = .ok (.getfield 71, 3) := by decide +kernel
theorem dX6_answer_17 : decode cX6_answer 17 = .ok (.arraylength, 1) := by decide +kernel
theorem dX6_answer_18 : decode cX6_answer 18 = .ok (.if_icmp .ge 12, 3) := by decide +kernel
theorem dX6_answer_21 : decode cX6_answer 21 = .ok (.aload_n 0, 1) := by decide +kernel
theorem dX6_answer_22 : decode cX6_answer 22 = .ok (.getfield 71, 3) := by decide +kernel
theorem dX6_answer_25 : decode cX6_answer 25 = .ok (.iload_n 1, 1) := by decide +kernel
theorem dX6_answer_26 : decode cX6_answer 26 = .ok (.iaload, 1) := by decide +kernel
theorem dX6_answer_27 : decode cX6_answer 27 = .ok (.goto 4, 3) := by decide +kernel
theorem dX6_answer_30 : decode cX6_answer 30 = .ok (.iconst (-1), 1) := by decide +kernel
theorem dX6_answer_31 : decode cX6_answer 31 = .ok (.ireturn, 1) := by decide +kernel
theorem dX6_cost_0 : decode cX6_cost 0 = .ok (.aload_n 0, 1) := by decide +kernel
theorem dX6_cost_1 : decode cX6_cost 1 = .ok (.getfield 78, 3) := by decide +kernel
theorem dX6_cost_4 : decode cX6_cost 4 = .ok (.ireturn, 1) := by decide +kernel
theorem dX6_entryOf_0 : decode cX6_entryOf 0 = .ok (.iload_n 0, 1) := by decide +kernel
theorem dX6_entryOf_1 : decode cX6_entryOf 1 = .ok (.i2l, 1) := by decide +kernel
theorem dX6_entryOf_2 : decode cX6_entryOf 2 = .ok (.bipush 8, 2) := by decide +kernel
theorem dX6_entryOf_4 : decode cX6_entryOf 4 = .ok (.lshl, 1) := by decide +kernel
theorem dX6_entryOf_5 : decode cX6_entryOf 5 = .ok (.iload_n 1, 1) := by decide +kernel
theorem dX6_entryOf_6 : decode cX6_entryOf 6 = .ok (.i2l, 1) := by decide +kernel
theorem dX6_entryOf_7 : decode cX6_entryOf 7 = .ok (.lor, 1) := by decide +kernel
theorem dX6_entryOf_8 : decode cX6_entryOf 8 = .ok (.lreturn, 1) := by decide +kernel
theorem dX6_keyOf_0 : decode cX6_keyOf 0 = .ok (.lload_n 0, 1) := by decide +kernel
theorem dX6_keyOf_1 : decode cX6_keyOf 1 = .ok (.bipush 8, 2) := by decide +kernel
theorem dX6_keyOf_3 : decode cX6_keyOf 3 = .ok (.lshr, 1) := by decide +kernel
theorem dX6_keyOf_4 : decode cX6_keyOf 4 = .ok (.l2i, 1) := by decide +kernel
theorem dX6_keyOf_5 : decode cX6_keyOf 5 = .ok (.ireturn, 1) := by decide +kernel
theorem dX6_placeOf_0 : decode cX6_placeOf 0 = .ok (.lload_n 0, 1) := by decide +kernel
theorem dX6_placeOf_1 : decode cX6_placeOf 1 = .ok (.ldc2_w 223, 3) := by decide +kernel
theorem dX6_placeOf_4 : decode cX6_placeOf 4 = .ok (.land, 1) := by decide +kernel
theorem dX6_placeOf_5 : decode cX6_placeOf 5 = .ok (.l2i, 1) := by decide +kernel
theorem dX6_placeOf_6 : decode cX6_placeOf 6 = .ok (.ireturn, 1) := by decide +kernel
theorem dX6_wouldRepeat_0 : decode cX6_wouldRepeat 0 = .ok (.aload_n 0, 1) := by decide +kernel
theorem dX6_wouldRepeat_1 : decode cX6_wouldRepeat 1 = .ok (.getfield 23, 3) := by decide +kernel
theorem dX6_wouldRepeat_4 : decode cX6_wouldRepeat 4 = .ok (.iconst 5, 1) := by decide +kernel
theorem dX6_wouldRepeat_5 : decode cX6_wouldRepeat 5 = .ok (.if_icmp .ne 26, 3) := by decide +kernel
theorem dX6_wouldRepeat_8 : decode cX6_wouldRepeat 8 = .ok (.aload_n 0, 1) := by decide +kernel
theorem dX6_wouldRepeat_9 : decode cX6_wouldRepeat 9 = .ok (.getfield 27, 3) := by decide +kernel
theorem dX6_wouldRepeat_12 : decode cX6_wouldRepeat 12 = .ok (.ifCond .eq 19, 3) := by decide +kernel
theorem dX6_wouldRepeat_15 : decode cX6_wouldRepeat 15 = .ok (.aload_n 0, 1) := by decide +kernel
theorem dX6_wouldRepeat_16 : decode cX6_wouldRepeat 16 = .ok (.getfield 10, 3) := by decide +kernel
theorem dX6_wouldRepeat_19 : decode cX6_wouldRepeat 19 = .ok (.iload_n 1, 1) := by decide +kernel
theorem dX6_wouldRepeat_20 : decode cX6_wouldRepeat 20 = .ok (.iload_n 2, 1) := by decide +kernel
theorem dX6_wouldRepeat_21 : decode cX6_wouldRepeat 21 = .ok (.invokevirtual 225, 3) := by decide +kernel
theorem dX6_wouldRepeat_24 : decode cX6_wouldRepeat 24 = .ok (.ifCond .eq 7, 3) := by decide +kernel
theorem dX6_wouldRepeat_27 : decode cX6_wouldRepeat 27 = .ok (.iconst 1, 1) := by decide +kernel
theorem dX6_wouldRepeat_28 : decode cX6_wouldRepeat 28 = .ok (.goto 4, 3) := by decide +kernel
theorem dX6_wouldRepeat_31 : decode cX6_wouldRepeat 31 = .ok (.iconst 0, 1) := by decide +kernel
theorem dX6_wouldRepeat_32 : decode cX6_wouldRepeat 32 = .ok (.ireturn, 1) := by decide +kernel
theorem dX6_writeDown_0 : decode cX6_writeDown 0 = .ok (.aload_n 0, 1) := by decide +kernel
theorem dX6_writeDown_1 : decode cX6_writeDown 1 = .ok (.getfield 19, 3) := by decide +kernel
theorem dX6_writeDown_4 : decode cX6_writeDown 4 = .ok (.invokevirtual 228, 3) := by decide +kernel
theorem dX6_writeDown_7 : decode cX6_writeDown 7 = .ok (.bipush 30, 2) := by decide +kernel
theorem dX6_writeDown_9 : decode cX6_writeDown 9 = .ok (.if_icmp .lt 33, 3) := by decide +kernel
theorem dX6_writeDown_12 : decode cX6_writeDown 12 = .ok (.aload_n 0, 1) := by decide +kernel
theorem dX6_writeDown_13 : decode cX6_writeDown 13 = .ok (.getfield 23, 3) := by decide +kernel
theorem dX6_writeDown_16 : decode cX6_writeDown 16 = .ok (.iconst 5, 1) := by decide +kernel
theorem dX6_writeDown_17 : decode cX6_writeDown 17 = .ok (.if_icmp .ne 13, 3) := by decide +kernel
theorem dX6_writeDown_20 : decode cX6_writeDown 20 = .ok (.aload_n 0, 1) := by decide +kernel
theorem dX6_writeDown_21 : decode cX6_writeDown 21 = .ok (.getfield 67, 3) := by decide +kernel
theorem dX6_writeDown_24 : decode cX6_writeDown 24 = .ok (.invokevirtual 231, 3) := by decide +kernel
theorem dX6_writeDown_27 : decode cX6_writeDown 27 = .ok (.goto 4, 3) := by decide +kernel
theorem dX6_writeDown_30 : decode cX6_writeDown 30 = .ok (.iconst 0, 1) := by decide +kernel
theorem dX6_writeDown_31 : decode cX6_writeDown 31 = .ok (.istore_n 1, 1) := by decide +kernel
theorem dX6_writeDown_32 : decode cX6_writeDown 32 = .ok (.aload_n 0, 1) := by decide +kernel
theorem dX6_writeDown_33 : decode cX6_writeDown 33 = .ok (.iload_n 1, 1) := by decide +kernel
theorem dX6_writeDown_34 : decode cX6_writeDown 34 = .ok (.invokevirtual 150, 3) := by decide +kernel
theorem dX6_writeDown_37 : decode cX6_writeDown 37 = .ok (.ifCond .ne 5, 3) := by decide +kernel
theorem dX6_writeDown_40 : decode cX6_writeDown 40 = .ok (.iconst 0, 1) := by decide +kernel
theorem dX6_writeDown_41 : decode cX6_writeDown 41 = .ok (.ireturn, 1) := by decide +kernel
theorem dX6_writeDown_42 : decode cX6_writeDown 42 = .ok (.aload_n 0, 1) := by decide +kernel
theorem dX6_writeDown_43 : decode cX6_writeDown 43 = .ok (.iconst 1, 1) := by decide +kernel
theorem dX6_writeDown_44 : decode cX6_writeDown 44 = .ok (.invokevirtual 234, 3) := by decide +kernel
theorem dX6_writeDown_47 : decode cX6_writeDown 47 = .ok (.ifCond .ne 5, 3) := by decide +kernel
theorem dX6_writeDown_50 : decode cX6_writeDown 50 = .ok (.iconst 0, 1) := by decide +kernel
theorem dX6_writeDown_51 : decode cX6_writeDown 51 = .ok (.ireturn, 1) := by decide +kernel
theorem dX6_writeDown_52 : decode cX6_writeDown 52 = .ok (.aload_n 0, 1) := by decide +kernel
theorem dX6_writeDown_53 : decode cX6_writeDown 53 = .ok (.getfield 19, 3) := by decide +kernel
theorem dX6_writeDown_56 : decode cX6_writeDown 56 = .ok (.invokevirtual 237, 3) := by decide +kernel
theorem dX6_writeDown_59 : decode cX6_writeDown 59 = .ok (.iconst 1, 1) := by decide +kernel
theorem dX6_writeDown_60 : decode cX6_writeDown 60 = .ok (.ireturn, 1) := by decide +kernel
theorem dX6_makeCheckpoint_0 : decode cX6_makeCheckpoint 0 = .ok (.aload_n 0, 1) := by decide +kernel
theorem dX6_makeCheckpoint_1 : decode cX6_makeCheckpoint 1 = .ok (.getfield 10, 3) := by decide +kernel
theorem dX6_makeCheckpoint_4 : decode cX6_makeCheckpoint 4 = .ok (.invokevirtual 240, 3) := by decide +kernel
theorem dX6_makeCheckpoint_7 : decode cX6_makeCheckpoint 7 = .ok (.iload_n 1, 1) := by decide +kernel
theorem dX6_makeCheckpoint_8 : decode cX6_makeCheckpoint 8 = .ok (.iadd, 1) := by decide +kernel
theorem dX6_makeCheckpoint_9 : decode cX6_makeCheckpoint 9 = .ok (.iconst 1, 1) := by decide +kernel
theorem dX6_makeCheckpoint_10 : decode cX6_makeCheckpoint 10 = .ok (.iadd, 1) := by decide +kernel
theorem dX6_makeCheckpoint_11 : decode cX6_makeCheckpoint 11 = .ok (.istore_n 2, 1) := by decide +kernel
theorem dX6_makeCheckpoint_12 : decode cX6_makeCheckpoint 12 = .ok (.aload_n 0, 1) := by decide +kernel
theorem dX6_makeCheckpoint_13 : decode cX6_makeCheckpoint 13 = .ok (.iload_n 2, 1) := by decide +kernel
theorem dX6_makeCheckpoint_14 : decode cX6_makeCheckpoint 14 = .ok (.invokevirtual 234, 3) := by decide +kernel
theorem dX6_makeCheckpoint_17 : decode cX6_makeCheckpoint 17 = .ok (.ifCond .ne 5, 3) := by decide +kernel
theorem dX6_makeCheckpoint_20 : decode cX6_makeCheckpoint 20 = .ok (.iconst 0, 1) := by decide +kernel
theorem dX6_makeCheckpoint_21 : decode cX6_makeCheckpoint 21 = .ok (.ireturn, 1) := by decide +kernel
theorem dX6_makeCheckpoint_22 : decode cX6_makeCheckpoint 22 = .ok (.aload_n 0, 1) := by decide +kernel
theorem dX6_makeCheckpoint_23 : decode cX6_makeCheckpoint 23 = .ok (.getfield 19, 3) := by decide +kernel
theorem dX6_makeCheckpoint_26 : decode cX6_makeCheckpoint 26 = .ok (.iload_n 2, 1) := by decide +kernel
theorem dX6_makeCheckpoint_27 : decode cX6_makeCheckpoint 27 = .ok (.invokevirtual 243, 3) := by decide +kernel
theorem dX6_makeCheckpoint_30 : decode cX6_makeCheckpoint 30 = .ok (.aload_n 0, 1) := by decide +kernel
theorem dX6_makeCheckpoint_31 : decode cX6_makeCheckpoint 31 = .ok (.getfield 10, 3) := by decide +kernel
theorem dX6_makeCheckpoint_34 : decode cX6_makeCheckpoint 34 = .ok (.invokevirtual 246, 3) := by decide +kernel
theorem dX6_makeCheckpoint_37 : decode cX6_makeCheckpoint 37 = .ok (.aload_n 0, 1) := by decide +kernel
theorem dX6_makeCheckpoint_38 : decode cX6_makeCheckpoint 38 = .ok (.getfield 67, 3) := by decide +kernel
theorem dX6_makeCheckpoint_41 : decode cX6_makeCheckpoint 41 = .ok (.invokevirtual 249, 3) := by decide +kernel
theorem dX6_makeCheckpoint_44 : decode cX6_makeCheckpoint 44 = .ok (.iconst 1, 1) := by decide +kernel
theorem dX6_makeCheckpoint_45 : decode cX6_makeCheckpoint 45 = .ok (.ireturn, 1) := by decide +kernel
theorem dX6_putBlocks_0 : decode cX6_putBlocks 0 = .ok (.aload_n 0, 1) := by decide +kernel
theorem dX6_putBlocks_1 : decode cX6_putBlocks 1 = .ok (.getfield 19, 3) := by decide +kernel
theorem dX6_putBlocks_4 : decode cX6_putBlocks 4 = .ok (.iload_n 1, 1) := by decide +kernel
theorem dX6_putBlocks_5 : decode cX6_putBlocks 5 = .ok (.invokevirtual 250, 3) := by decide +kernel
theorem dX6_putBlocks_8 : decode cX6_putBlocks 8 = .ok (.ifCond .eq 5, 3) := by decide +kernel
theorem dX6_putBlocks_11 : decode cX6_putBlocks 11 = .ok (.iconst 1, 1) := by decide +kernel
theorem dX6_putBlocks_12 : decode cX6_putBlocks 12 = .ok (.ireturn, 1) := by decide +kernel
theorem dX6_putBlocks_13 : decode cX6_putBlocks 13 = .ok (.aload_n 0, 1) := by decide +kernel
theorem dX6_putBlocks_14 : decode cX6_putBlocks 14 = .ok (.getfield 23, 3) := by decide +kernel
theorem dX6_putBlocks_17 : decode cX6_putBlocks 17 = .ok (.iconst 5, 1) := by decide +kernel
theorem dX6_putBlocks_18 : decode cX6_putBlocks 18 = .ok (.if_icmp .eq 7, 3) := by decide +kernel
theorem dX6_putBlocks_21 : decode cX6_putBlocks 21 = .ok (.aload_n 0, 1) := by decide +kernel
theorem dX6_putBlocks_22 : decode cX6_putBlocks 22 = .ok (.invokevirtual 147, 3) := by decide +kernel
theorem dX6_putBlocks_25 : decode cX6_putBlocks 25 = .ok (.iconst 0, 1) := by decide +kernel
theorem dX6_putBlocks_26 : decode cX6_putBlocks 26 = .ok (.ireturn, 1) := by decide +kernel
theorem dX6_follow_0 : decode cX6_follow 0 = .ok (.aload_n 0, 1) := by decide +kernel
theorem dX6_follow_1 : decode cX6_follow 1 = .ok (.getfield 23, 3) := by decide +kernel
theorem dX6_follow_4 : decode cX6_follow 4 = .ok (.iconst 5, 1) := by decide +kernel
theorem dX6_follow_5 : decode cX6_follow 5 = .ok (.if_icmp .ne 12, 3) := by decide +kernel
theorem dX6_follow_8 : decode cX6_follow 8 = .ok (.aload_n 0, 1) := by decide +kernel
theorem dX6_follow_9 : decode cX6_follow 9 = .ok (.lload_n 1, 1) := by decide +kernel
theorem dX6_follow_10 : decode cX6_follow 10 = .ok (.iload_n 3, 1) := by decide +kernel
theorem dX6_follow_11 : decode cX6_follow 11 = .ok (.invokevirtual 252, 3) := by decide +kernel
theorem dX6_follow_14 : decode cX6_follow 14 = .ok (.goto 41, 3) := by decide +kernel
theorem dX6_follow_17 : decode cX6_follow 17 = .ok (.aload_n 0, 1) := by decide +kernel
theorem dX6_follow_18 : decode cX6_follow 18 = .ok (.invokevirtual 153, 3) := by decide +kernel
theorem dX6_follow_21 : decode cX6_follow 21 = .ok (.ifCond .eq 34, 3) := by decide +kernel
theorem dX6_follow_24 : decode cX6_follow 24 = .ok (.lload_n 1, 1) := by decide +kernel
theorem dX6_follow_25 : decode cX6_follow 25 = .ok (.invokestatic 194, 3) := by decide +kernel
theorem dX6_follow_28 : decode cX6_follow 28 = .ok (.bipush 12, 2) := by decide +kernel
theorem dX6_follow_30 : decode cX6_follow 30 = .ok (.idiv, 1) := by decide +kernel
theorem dX6_follow_31 : decode cX6_follow 31 = .ok (.aload_n 0, 1) := by decide +kernel
theorem dX6_follow_32 : decode cX6_follow 32 = .ok (.getfield 31, 3) := by decide +kernel
theorem dX6_follow_35 : decode cX6_follow 35 = .ok (.if_icmp .ge 20, 3) := by decide +kernel
theorem dX6_follow_38 : decode cX6_follow 38 = .ok (.aload_n 0, 1) := by decide +kernel
theorem dX6_follow_39 : decode cX6_follow 39 = .ok (.getfield 60, 3) := by decide +kernel
theorem dX6_follow_42 : decode cX6_follow 42 = .ok (.lload_n 1, 1) := by decide +kernel
theorem dX6_follow_43 : decode cX6_follow 43 = .ok (.iload_n 3, 1) := by decide +kernel
theorem dX6_follow_44 : decode cX6_follow 44 = .ok (.invokevirtual 255, 3) := by decide +kernel
theorem dX6_follow_47 : decode cX6_follow 47 = .ok (.ifCond .ne 8, 3) := by decide +kernel
theorem dX6_follow_50 : decode cX6_follow 50 = .ok (.aload_n 0, 1) := by decide +kernel
theorem dX6_follow_51 : decode cX6_follow 51 = .ok (.iconst 1, 1) := by decide +kernel
theorem dX6_follow_52 : decode cX6_follow 52 = .ok (.invokevirtual 259, 3) := by decide +kernel
theorem dX6_follow_55 : decode cX6_follow 55 = .ok (.return_, 1) := by decide +kernel
theorem dX6_bringToTree_0 : decode cX6_bringToTree 0 = .ok (.iload_n 3, 1) := by decide +kernel
theorem dX6_bringToTree_1 : decode cX6_bringToTree 1 = .ok (.ifCond .ne 14, 3) := by decide +kernel
theorem dX6_bringToTree_4 : decode cX6_bringToTree 4 = .ok (.aload_n 0, 1) := by decide +kernel
theorem dX6_bringToTree_5 : decode cX6_bringToTree 5 = .ok (.getfield 67, 3) := by decide +kernel
theorem dX6_bringToTree_8 : decode cX6_bringToTree 8 = .ok (.lload_n 1, 1) := by decide +kernel
theorem dX6_bringToTree_9 : decode cX6_bringToTree 9 = .ok (.invokevirtual 262, 3) := by decide +kernel
theorem dX6_bringToTree_12 : decode cX6_bringToTree 12 = .ok (.goto 19, 3) := by decide +kernel
theorem dX6_bringToTree_15 : decode cX6_bringToTree 15 = .ok (.aload_n 0, 1) := by decide +kernel
theorem dX6_bringToTree_16 : decode cX6_bringToTree 16 = .ok (.getfield 67, 3) := by decide +kernel
theorem dX6_bringToTree_19 : decode cX6_bringToTree 19 = .ok (.lload_n 1, 1) := by decide +kernel
theorem dX6_bringToTree_20 : decode cX6_bringToTree 20 = .ok (.invokevirtual 266, 3) := by decide +kernel
theorem dX6_bringToTree_23 : decode cX6_bringToTree 23 = .ok (.ifCond .ne 8, 3) := by decide +kernel
theorem dX6_bringToTree_26 : decode cX6_bringToTree 26 = .ok (.aload_n 0, 1) := by decide +kernel
theorem dX6_bringToTree_27 : decode cX6_bringToTree 27 = .ok (.iconst 2, 1) := by decide +kernel
theorem dX6_bringToTree_28 : decode cX6_bringToTree 28 = .ok (.invokevirtual 259, 3) := by decide +kernel
theorem dX6_bringToTree_31 : decode cX6_bringToTree 31 = .ok (.return_, 1) := by decide +kernel
theorem dX6_isBuilding_0 : decode cX6_isBuilding 0 = .ok (.aload_n 0, 1) := by decide +kernel
theorem dX6_isBuilding_1 : decode cX6_isBuilding 1 = .ok (.getfield 23, 3) := by decide +kernel
theorem dX6_isBuilding_4 : decode cX6_isBuilding 4 = .ok (.iconst 1, 1) := by decide +kernel
theorem dX6_isBuilding_5 : decode cX6_isBuilding 5 = .ok (.if_icmp .lt 15, 3) := by decide +kernel
theorem dX6_isBuilding_8 : decode cX6_isBuilding 8 = .ok (.aload_n 0, 1) := by decide +kernel
theorem dX6_isBuilding_9 : decode cX6_isBuilding 9 = .ok (.getfield 23, 3) := by decide +kernel
theorem dX6_isBuilding_12 : decode cX6_isBuilding 12 = .ok (.iconst 4, 1) := by decide +kernel
theorem dX6_isBuilding_13 : decode cX6_isBuilding 13 = .ok (.if_icmp .gt 7, 3) := by decide +kernel
theorem dX6_isBuilding_16 : decode cX6_isBuilding 16 = .ok (.iconst 1, 1) := by decide +kernel
theorem dX6_isBuilding_17 : decode cX6_isBuilding 17 = .ok (.goto 4, 3) := by decide +kernel
theorem dX6_isBuilding_20 : decode cX6_isBuilding 20 = .ok (.iconst 0, 1) := by decide +kernel
theorem dX6_isBuilding_21 : decode cX6_isBuilding 21 = .ok (.ireturn, 1) := by decide +kernel
theorem dX6_hasTree_0 : decode cX6_hasTree 0 = .ok (.aload_n 0, 1) := by decide +kernel
theorem dX6_hasTree_1 : decode cX6_hasTree 1 = .ok (.getfield 23, 3) := by decide +kernel
theorem dX6_hasTree_4 : decode cX6_hasTree 4 = .ok (.iconst 4, 1) := by decide +kernel
theorem dX6_hasTree_5 : decode cX6_hasTree 5 = .ok (.if_icmp .eq 11, 3) := by decide +kernel
theorem dX6_hasTree_8 : decode cX6_hasTree 8 = .ok (.aload_n 0, 1) := by decide +kernel
theorem dX6_hasTree_9 : decode cX6_hasTree 9 = .ok (.getfield 23, 3) := by decide +kernel
theorem dX6_hasTree_12 : decode cX6_hasTree 12 = .ok (.iconst 5, 1) := by decide +kernel
theorem dX6_hasTree_13 : decode cX6_hasTree 13 = .ok (.if_icmp .ne 7, 3) := by decide +kernel
theorem dX6_hasTree_16 : decode cX6_hasTree 16 = .ok (.iconst 1, 1) := by decide +kernel
theorem dX6_hasTree_17 : decode cX6_hasTree 17 = .ok (.goto 4, 3) := by decide +kernel
theorem dX6_hasTree_20 : decode cX6_hasTree 20 = .ok (.iconst 0, 1) := by decide +kernel
theorem dX6_hasTree_21 : decode cX6_hasTree 21 = .ok (.ireturn, 1) := by decide +kernel
theorem dX6_isEntryOfTree_0 : decode cX6_isEntryOfTree 0 = .ok (.aload_n 0, 1) := by decide +kernel
theorem dX6_isEntryOfTree_1 : decode cX6_isEntryOfTree 1 = .ok (.invokevirtual 176, 3) := by decide +kernel
theorem dX6_isEntryOfTree_4 : decode cX6_isEntryOfTree 4 = .ok (.ifCond .eq 22, 3) := by decide +kernel
theorem dX6_isEntryOfTree_7 : decode cX6_isEntryOfTree 7 = .ok (.iload_n 1, 1) := by decide +kernel
theorem dX6_isEntryOfTree_8 : decode cX6_isEntryOfTree 8 = .ok (.ifCond .lt 18, 3) := by decide +kernel
theorem dX6_isEntryOfTree_11 : decode cX6_isEntryOfTree 11 = .ok (.iload_n 1, 1) := by decide +kernel
theorem dX6_isEntryOfTree_12 : decode cX6_isEntryOfTree 12 = .ok (.aload_n 0, 1) := by decide +kernel
theorem dX6_isEntryOfTree_13 : decode cX6_isEntryOfTree 13 = .ok (.getfield 67, 3) := by decide +kernel
theorem dX6_isEntryOfTree_16 : decode cX6_isEntryOfTree 16 = .ok (.invokevirtual 182, 3) := by decide +kernel
theorem dX6_isEntryOfTree_19 : decode cX6_isEntryOfTree 19 = .ok (.if_icmp .ge 7, 3) := by decide +kernel
theorem dX6_isEntryOfTree_22 : decode cX6_isEntryOfTree 22 = .ok (.iconst 1, 1) := by decide +kernel
theorem dX6_isEntryOfTree_23 : decode cX6_isEntryOfTree 23 = .ok (.goto 4, 3) := by decide +kernel
theorem dX6_isEntryOfTree_26 : decode cX6_isEntryOfTree 26 = .ok (.iconst 0, 1) := by decide +kernel
theorem dX6_isEntryOfTree_27 : decode cX6_isEntryOfTree 27 = .ok (.ireturn, 1) := by decide +kernel
theorem dX6_forgetIndex_0 : decode cX6_forgetIndex 0 = .ok (.aload_n 0, 1) := by decide +kernel
theorem dX6_forgetIndex_1 : decode cX6_forgetIndex 1 = .ok (.iconst 0, 1) := by decide +kernel
theorem dX6_forgetIndex_2 : decode cX6_forgetIndex 2 = .ok (.putfield 23, 3) := by decide +kernel
theorem dX6_forgetIndex_5 : decode cX6_forgetIndex 5 = .ok (.aload_n 0, 1) := by decide +kernel
theorem dX6_forgetIndex_6 : decode cX6_forgetIndex 6 = .ok (.iconst 0, 1) := by decide +kernel
theorem dX6_forgetIndex_7 : decode cX6_forgetIndex 7 = .ok (.putfield 27, 3) := by decide +kernel
theorem dX6_forgetIndex_10 : decode cX6_forgetIndex 10 = .ok (.aload_n 0, 1) := by decide +kernel
theorem dX6_forgetIndex_11 : decode cX6_forgetIndex 11 = .ok (.iconst 0, 1) := by decide +kernel
theorem dX6_forgetIndex_12 : decode cX6_forgetIndex 12 = .ok (.putfield 34, 3) := by decide +kernel
theorem dX6_forgetIndex_15 : decode cX6_forgetIndex 15 = .ok (.aload_n 0, 1) := by decide +kernel
theorem dX6_forgetIndex_16 : decode cX6_forgetIndex 16 = .ok (.iconst (-1), 1) := by decide +kernel
theorem dX6_forgetIndex_17 : decode cX6_forgetIndex 17 = .ok (.putfield 37, 3) := by decide +kernel
theorem dX6_forgetIndex_20 : decode cX6_forgetIndex 20 = .ok (.aload_n 0, 1) := by decide +kernel
theorem dX6_forgetIndex_21 : decode cX6_forgetIndex 21 = .ok (.iconst (-1), 1) := by decide +kernel
theorem dX6_forgetIndex_22 : decode cX6_forgetIndex 22 = .ok (.putfield 40, 3) := by decide +kernel
theorem dX6_forgetIndex_25 : decode cX6_forgetIndex 25 = .ok (.aload_n 0, 1) := by decide +kernel
theorem dX6_forgetIndex_26 : decode cX6_forgetIndex 26 = .ok (.invokevirtual 270, 3) := by decide +kernel
theorem dX6_forgetIndex_29 : decode cX6_forgetIndex 29 = .ok (.aload_n 0, 1) := by decide +kernel
theorem dX6_forgetIndex_30 : decode cX6_forgetIndex 30 = .ok (.getfield 67, 3) := by decide +kernel
theorem dX6_forgetIndex_33 : decode cX6_forgetIndex 33 = .ok (.invokevirtual 273, 3) := by decide +kernel
theorem dX6_forgetIndex_36 : decode cX6_forgetIndex 36 = .ok (.return_, 1) := by decide +kernel
theorem dX6_forgetBuilding_0 : decode cX6_forgetBuilding 0 = .ok (.aload_n 0, 1) := by decide +kernel
theorem dX6_forgetBuilding_1 : decode cX6_forgetBuilding 1 = .ok (.iconst 0, 1) := by decide +kernel
theorem dX6_forgetBuilding_2 : decode cX6_forgetBuilding 2 = .ok (.putfield 31, 3) := by decide +kernel
theorem dX6_forgetBuilding_5 : decode cX6_forgetBuilding 5 = .ok (.aload_n 0, 1) := by decide +kernel
theorem dX6_forgetBuilding_6 : decode cX6_forgetBuilding 6 = .ok (.getfield 46, 3) := by decide +kernel
theorem dX6_forgetBuilding_9 : decode cX6_forgetBuilding 9 = .ok (.invokevirtual 276, 3) := by decide +kernel
theorem dX6_forgetBuilding_12 : decode cX6_forgetBuilding 12 = .ok (.aload_n 0, 1) := by decide +kernel
theorem dX6_forgetBuilding_13 : decode cX6_forgetBuilding 13 = .ok (.getfield 60, 3) := by decide +kernel
theorem dX6_forgetBuilding_16 : decode cX6_forgetBuilding 16 = .ok (.invokevirtual 277, 3) := by decide +kernel
theorem dX6_forgetBuilding_19 : decode cX6_forgetBuilding 19 = .ok (.return_, 1) := by decide +kernel
theorem dX6_stopBuilding_0 : decode cX6_stopBuilding 0 = .ok (.aload_n 0, 1) := by decide +kernel
theorem dX6_stopBuilding_1 : decode cX6_stopBuilding 1 = .ok (.bipush 6, 2) := by decide +kernel
theorem dX6_stopBuilding_3 : decode cX6_stopBuilding 3 = .ok (.putfield 23, 3) := by decide +kernel
theorem dX6_stopBuilding_6 : decode cX6_stopBuilding 6 = .ok (.aload_n 0, 1) := by decide +kernel
theorem dX6_stopBuilding_7 : decode cX6_stopBuilding 7 = .ok (.iload_n 1, 1) := by decide +kernel
theorem dX6_stopBuilding_8 : decode cX6_stopBuilding 8 = .ok (.putfield 34, 3) := by decide +kernel
theorem dX6_stopBuilding_11 : decode cX6_stopBuilding 11 = .ok (.aload_n 0, 1) := by decide +kernel
theorem dX6_stopBuilding_12 : decode cX6_stopBuilding 12 = .ok (.invokevirtual 270, 3) := by decide +kernel
theorem dX6_stopBuilding_15 : decode cX6_stopBuilding 15 = .ok (.aload_n 0, 1) := by decide +kernel
theorem dX6_stopBuilding_16 : decode cX6_stopBuilding 16 = .ok (.getfield 67, 3) := by decide +kernel
theorem dX6_stopBuilding_19 : decode cX6_stopBuilding 19 = .ok (.invokevirtual 273, 3) := by decide +kernel
theorem dX6_stopBuilding_22 : decode cX6_stopBuilding 22 = .ok (.return_, 1) := by decide +kernel
theorem dX6_scanPage_0 : decode cX6_scanPage 0 = .ok (.aload_n 0, 1) := by decide +kernel
theorem dX6_scanPage_1 : decode cX6_scanPage 1 = .ok (.getfield 31, 3) := by decide +kernel
theorem dX6_scanPage_4 : decode cX6_scanPage 4 = .ok (.bipush 12, 2) := by decide +kernel
theorem dX6_scanPage_6 : decode cX6_scanPage 6 = .ok (.imul, 1) := by decide +kernel
theorem dX6_scanPage_7 : decode cX6_scanPage 7 = .ok (.istore_n 1, 1) := by decide +kernel
theorem dX6_scanPage_8 : decode cX6_scanPage 8 = .ok (.iload_n 1, 1) := by decide +kernel
theorem dX6_scanPage_9 : decode cX6_scanPage 9 = .ok (.istore_n 2, 1) := by decide +kernel
theorem dX6_scanPage_10 : decode cX6_scanPage 10 = .ok (.iload_n 2, 1) := by decide +kernel
theorem dX6_scanPage_11 : decode cX6_scanPage 11 = .ok (.iload_n 1, 1) := by decide +kernel
theorem dX6_scanPage_12 : decode cX6_scanPage 12 = .ok (.bipush 12, 2) := by decide +kernel
theorem dX6_scanPage_14 : decode cX6_scanPage 14 = .ok (.iadd, 1) := by decide +kernel
theorem dX6_scanPage_15 : decode cX6_scanPage 15 = .ok (.if_icmp .ge 39, 3) := by decide +kernel
theorem dX6_scanPage_18 : decode cX6_scanPage 18 = .ok (.aload_n 0, 1) := by decide +kernel
theorem dX6_scanPage_19 : decode cX6_scanPage 19 = .ok (.getfield 10, 3) := by decide +kernel
theorem dX6_scanPage_22 : decode cX6_scanPage 22 = .ok (.iload_n 2, 1) := by decide +kernel
theorem dX6_scanPage_23 : decode cX6_scanPage 23 = .ok (.invokevirtual 108, 3) := by decide +kernel
theorem dX6_scanPage_26 : decode cX6_scanPage 26 = .ok (.ifCond .eq 22, 3) := by decide +kernel
theorem dX6_scanPage_29 : decode cX6_scanPage 29 = .ok (.aload_n 0, 1) := by decide +kernel
theorem dX6_scanPage_30 : decode cX6_scanPage 30 = .ok (.getfield 46, 3) := by decide +kernel
theorem dX6_scanPage_33 : decode cX6_scanPage 33 = .ok (.aload_n 0, 1) := by decide +kernel
theorem dX6_scanPage_34 : decode cX6_scanPage 34 = .ok (.getfield 10, 3) := by decide +kernel
theorem dX6_scanPage_37 : decode cX6_scanPage 37 = .ok (.iload_n 2, 1) := by decide +kernel
theorem dX6_scanPage_38 : decode cX6_scanPage 38 = .ok (.invokevirtual 112, 3) := by decide +kernel
theorem dX6_scanPage_41 : decode cX6_scanPage 41 = .ok (.iload_n 2, 1) := by decide +kernel
theorem dX6_scanPage_42 : decode cX6_scanPage 42 = .ok (.invokestatic 100, 3) := by decide +kernel
theorem dX6_scanPage_45 : decode cX6_scanPage 45 = .ok (.invokevirtual 278, 3) := by decide +kernel
theorem dX6_scanPage_48 : decode cX6_scanPage 48 = .ok (.iinc 2 1, 3) := by decide +kernel
theorem dX6_scanPage_51 : decode cX6_scanPage 51 = .ok (.goto (-41), 3) := by decide +kernel
theorem dX6_scanPage_54 : decode cX6_scanPage 54 = .ok (.aload_n 0, 1) := by decide +kernel
theorem dX6_scanPage_55 : decode cX6_scanPage 55 = .ok (.dup, 1) := by decide +kernel
theorem dX6_scanPage_56 : decode cX6_scanPage 56 = .ok (.getfield 31, 3) := by decide +kernel
theorem dX6_scanPage_59 : decode cX6_scanPage 59 = .ok (.iconst 1, 1) := by decide +kernel
theorem dX6_scanPage_60 : decode cX6_scanPage 60 = .ok (.iadd, 1) := by decide +kernel
theorem dX6_scanPage_61 : decode cX6_scanPage 61 = .ok (.putfield 31, 3) := by decide +kernel
theorem dX6_scanPage_64 : decode cX6_scanPage 64 = .ok (.aload_n 0, 1) := by decide +kernel
theorem dX6_scanPage_65 : decode cX6_scanPage 65 = .ok (.getfield 31, 3) := by decide +kernel
theorem dX6_scanPage_68 : decode cX6_scanPage 68 = .ok (.bipush 20, 2) := by decide +kernel
theorem dX6_scanPage_70 : decode cX6_scanPage 70 = .ok (.if_icmp .lt 7, 3) := by decide +kernel
theorem dX6_scanPage_73 : decode cX6_scanPage 73 = .ok (.iconst 1, 1) := by decide +kernel
theorem dX6_scanPage_74 : decode cX6_scanPage 74 = .ok (.goto 4, 3) := by decide +kernel
theorem dX6_scanPage_77 : decode cX6_scanPage 77 = .ok (.iconst 0, 1) := by decide +kernel
theorem dX6_scanPage_78 : decode cX6_scanPage 78 = .ok (.istore_n 2, 1) := by decide +kernel
theorem dX6_scanPage_79 : decode cX6_scanPage 79 = .ok (.iload_n 2, 1) := by decide +kernel
theorem dX6_scanPage_80 : decode cX6_scanPage 80 = .ok (.ifCond .eq 8, 3) := by decide +kernel
theorem dX6_scanPage_83 : decode cX6_scanPage 83 = .ok (.aload_n 0, 1) := by decide +kernel
theorem dX6_scanPage_84 : decode cX6_scanPage 84 = .ok (.iconst 2, 1) := by decide +kernel
theorem dX6_scanPage_85 : decode cX6_scanPage 85 = .ok (.putfield 23, 3) := by decide +kernel
theorem dX6_scanPage_88 : decode cX6_scanPage 88 = .ok (.aload_n 0, 1) := by decide +kernel
theorem dX6_scanPage_89 : decode cX6_scanPage 89 = .ok (.getfield 46, 3) := by decide +kernel
theorem dX6_scanPage_92 : decode cX6_scanPage 92 = .ok (.invokevirtual 169, 3) := by decide +kernel
theorem dX6_scanPage_95 : decode cX6_scanPage 95 = .ok (.istore_n 3, 1) := by decide +kernel
theorem dX6_scanPage_96 : decode cX6_scanPage 96 = .ok (.iload_n 3, 1) := by decide +kernel
theorem dX6_scanPage_97 : decode cX6_scanPage 97 = .ok (.bipush 24, 2) := by decide +kernel
theorem dX6_scanPage_99 : decode cX6_scanPage 99 = .ok (.if_icmp .ge 11, 3) := by decide +kernel
theorem dX6_scanPage_102 : decode cX6_scanPage 102 = .ok (.iload_n 2, 1) := by decide +kernel
theorem dX6_scanPage_103 : decode cX6_scanPage 103 = .ok (.ifCond .eq 23, 3) := by decide +kernel
theorem dX6_scanPage_106 : decode cX6_scanPage 106 = .ok (.iload_n 3, 1) := by decide +kernel
theorem dX6_scanPage_107 : decode cX6_scanPage 107 = .ok (.ifCond .le 19, 3) := by decide +kernel
theorem dX6_scanPage_110 : decode cX6_scanPage 110 = .ok (.aload_n 0, 1) := by decide +kernel
theorem dX6_scanPage_111 : decode cX6_scanPage 111 = .ok (.getfield 46, 3) := by decide +kernel
theorem dX6_scanPage_114 : decode cX6_scanPage 114 = .ok (.invokevirtual 281, 3) := by decide +kernel
theorem dX6_scanPage_117 : decode cX6_scanPage 117 = .ok (.aload_n 0, 1) := by decide +kernel
theorem dX6_scanPage_118 : decode cX6_scanPage 118 = .ok (.iload_n 3, 1) := by decide +kernel
theorem dX6_scanPage_119 : decode cX6_scanPage 119 = .ok (.invokestatic 284, 3) := by decide +kernel
theorem dX6_scanPage_122 : decode cX6_scanPage 122 = .ok (.invokevirtual 234, 3) := by decide +kernel
theorem dX6_scanPage_125 : decode cX6_scanPage 125 = .ok (.ireturn, 1) := by decide +kernel
theorem dX6_scanPage_126 : decode cX6_scanPage 126 = .ok (.iconst 1, 1) := by decide +kernel
theorem dX6_scanPage_127 : decode cX6_scanPage 127 = .ok (.ireturn, 1) := by decide +kernel
theorem dX6_mergeRuns_0 : decode cX6_mergeRuns 0 = .ok (.aload_n 0, 1) := by decide +kernel
theorem dX6_mergeRuns_1 : decode cX6_mergeRuns 1 = .ok (.getfield 46, 3) := by decide +kernel
theorem dX6_mergeRuns_4 : decode cX6_mergeRuns 4 = .ok (.invokevirtual 168, 3) := by decide +kernel
theorem dX6_mergeRuns_7 : decode cX6_mergeRuns 7 = .ok (.iconst 2, 1) := by decide +kernel
theorem dX6_mergeRuns_8 : decode cX6_mergeRuns 8 = .ok (.if_icmp .lt 18, 3) := by decide +kernel
theorem dX6_mergeRuns_11 : decode cX6_mergeRuns 11 = .ok (.aload_n 0, 1) := by decide +kernel
theorem dX6_mergeRuns_12 : decode cX6_mergeRuns 12 = .ok (.aload_n 0, 1) := by decide +kernel
theorem dX6_mergeRuns_13 : decode cX6_mergeRuns 13 = .ok (.getfield 46, 3) := by decide +kernel
theorem dX6_mergeRuns_16 : decode cX6_mergeRuns 16 = .ok (.invokevirtual 287, 3) := by decide +kernel
theorem dX6_mergeRuns_19 : decode cX6_mergeRuns 19 = .ok (.invokestatic 284, 3) := by decide +kernel
theorem dX6_mergeRuns_22 : decode cX6_mergeRuns 22 = .ok (.invokevirtual 234, 3) := by decide +kernel
theorem dX6_mergeRuns_25 : decode cX6_mergeRuns 25 = .ok (.ireturn, 1) := by decide +kernel
theorem dX6_mergeRuns_26 : decode cX6_mergeRuns 26 = .ok (.aload_n 0, 1) := by decide +kernel
theorem dX6_mergeRuns_27 : decode cX6_mergeRuns 27 = .ok (.iconst 3, 1) := by decide +kernel
theorem dX6_mergeRuns_28 : decode cX6_mergeRuns 28 = .ok (.putfield 23, 3) := by decide +kernel
theorem dX6_mergeRuns_31 : decode cX6_mergeRuns 31 = .ok (.aload_n 0, 1) := by decide +kernel
theorem dX6_mergeRuns_32 : decode cX6_mergeRuns 32 = .ok (.getfield 53, 3) := by decide +kernel
theorem dX6_mergeRuns_35 : decode cX6_mergeRuns 35 = .ok (.aload_n 0, 1) := by decide +kernel
theorem dX6_mergeRuns_36 : decode cX6_mergeRuns 36 = .ok (.getfield 46, 3) := by decide +kernel
theorem dX6_mergeRuns_39 : decode cX6_mergeRuns 39 = .ok (.invokevirtual 290, 3) := by decide +kernel
theorem dX6_mergeRuns_42 : decode cX6_mergeRuns 42 = .ok (.invokevirtual 293, 3) := by decide +kernel
theorem dX6_mergeRuns_45 : decode cX6_mergeRuns 45 = .ok (.iconst 1, 1) := by decide +kernel
theorem dX6_mergeRuns_46 : decode cX6_mergeRuns 46 = .ok (.ireturn, 1) := by decide +kernel
theorem dX6_blocksFor_0 : decode cX6_blocksFor 0 = .ok (.iload_n 0, 1) := by decide +kernel
theorem dX6_blocksFor_1 : decode cX6_blocksFor 1 = .ok (.bipush 8, 2) := by decide +kernel
theorem dX6_blocksFor_3 : decode cX6_blocksFor 3 = .ok (.iadd, 1) := by decide +kernel
theorem dX6_blocksFor_4 : decode cX6_blocksFor 4 = .ok (.iconst 1, 1) := by decide +kernel
theorem dX6_blocksFor_5 : decode cX6_blocksFor 5 = .ok (.isub, 1) := by decide +kernel
theorem dX6_blocksFor_6 : decode cX6_blocksFor 6 = .ok (.bipush 8, 2) := by decide +kernel
theorem dX6_blocksFor_8 : decode cX6_blocksFor 8 = .ok (.idiv, 1) := by decide +kernel
theorem dX6_blocksFor_9 : decode cX6_blocksFor 9 = .ok (.ireturn, 1) := by decide +kernel
theorem dX6_loadNode_0 : decode cX6_loadNode 0 = .ok (.aload_n 0, 1) := by decide +kernel
theorem dX6_loadNode_1 : decode cX6_loadNode 1 = .ok (.getfield 67, 3) := by decide +kernel
theorem dX6_loadNode_4 : decode cX6_loadNode 4 = .ok (.invokevirtual 173, 3) := by decide +kernel
theorem dX6_loadNode_7 : decode cX6_loadNode 7 = .ok (.bipush 64, 2) := by decide +kernel
theorem dX6_loadNode_9 : decode cX6_loadNode 9 = .ok (.if_icmp .lt 10, 3) := by decide +kernel
theorem dX6_loadNode_12 : decode cX6_loadNode 12 = .ok (.aload_n 0, 1) := by decide +kernel
theorem dX6_loadNode_13 : decode cX6_loadNode 13 = .ok (.iconst 2, 1) := by decide +kernel
theorem dX6_loadNode_14 : decode cX6_loadNode 14 = .ok (.invokevirtual 259, 3) := by decide +kernel
theorem dX6_loadNode_17 : decode cX6_loadNode 17 = .ok (.iconst 1, 1) := by decide +kernel
theorem dX6_loadNode_18 : decode cX6_loadNode 18 = .ok (.ireturn, 1) := by decide +kernel
theorem dX6_loadNode_19 : decode cX6_loadNode 19 = .ok (.aload_n 0, 1) := by decide +kernel
theorem dX6_loadNode_20 : decode cX6_loadNode 20 = .ok (.getfield 53, 3) := by decide +kernel
theorem dX6_loadNode_23 : decode cX6_loadNode 23 = .ok (.aload_n 0, 1) := by decide +kernel
theorem dX6_loadNode_24 : decode cX6_loadNode 24 = .ok (.getfield 67, 3) := by decide +kernel
theorem dX6_loadNode_27 : decode cX6_loadNode 27 = .ok (.aload_n 0, 1) := by decide +kernel
theorem dX6_loadNode_28 : decode cX6_loadNode 28 = .ok (.getfield 46, 3) := by decide +kernel
theorem dX6_loadNode_31 : decode cX6_loadNode 31 = .ok (.invokevirtual 296, 3) := by decide +kernel
theorem dX6_loadNode_34 : decode cX6_loadNode 34 = .ok (.ifCond .eq 8, 3) := by decide +kernel
theorem dX6_loadNode_37 : decode cX6_loadNode 37 = .ok (.aload_n 0, 1) := by decide +kernel
theorem dX6_loadNode_38 : decode cX6_loadNode 38 = .ok (.iconst 4, 1) := by decide +kernel
theorem dX6_loadNode_39 : decode cX6_loadNode 39 = .ok (.putfield 23, 3) := by decide +kernel
theorem dX6_loadNode_42 : decode cX6_loadNode 42 = .ok (.aload_n 0, 1) := by decide +kernel
theorem dX6_loadNode_43 : decode cX6_loadNode 43 = .ok (.iconst 1, 1) := by decide +kernel
theorem dX6_loadNode_44 : decode cX6_loadNode 44 = .ok (.invokevirtual 234, 3) := by decide +kernel
theorem dX6_loadNode_47 : decode cX6_loadNode 47 = .ok (.ireturn, 1) := by decide +kernel
theorem dX6_catchUp_0 : decode cX6_catchUp 0 = .ok (.aload_n 0, 1) := by decide +kernel
theorem dX6_catchUp_1 : decode cX6_catchUp 1 = .ok (.getfield 60, 3) := by decide +kernel
theorem dX6_catchUp_4 : decode cX6_catchUp 4 = .ok (.invokevirtual 172, 3) := by decide +kernel
theorem dX6_catchUp_7 : decode cX6_catchUp 7 = .ok (.ifCond .le 34, 3) := by decide +kernel
theorem dX6_catchUp_10 : decode cX6_catchUp 10 = .ok (.aload_n 0, 1) := by decide +kernel
theorem dX6_catchUp_11 : decode cX6_catchUp 11 = .ok (.getfield 60, 3) := by decide +kernel
theorem dX6_catchUp_14 : decode cX6_catchUp 14 = .ok (.invokevirtual 300, 3) := by decide +kernel
theorem dX6_catchUp_17 : decode cX6_catchUp 17 = .ok (.lstore_n 1, 1) := by decide +kernel
theorem dX6_catchUp_18 : decode cX6_catchUp 18 = .ok (.aload_n 0, 1) := by decide +kernel
theorem dX6_catchUp_19 : decode cX6_catchUp 19 = .ok (.getfield 60, 3) := by decide +kernel
theorem dX6_catchUp_22 : decode cX6_catchUp 22 = .ok (.invokevirtual 304, 3) := by decide +kernel
theorem dX6_catchUp_25 : decode cX6_catchUp 25 = .ok (.istore_n 3, 1) := by decide +kernel
theorem dX6_catchUp_26 : decode cX6_catchUp 26 = .ok (.aload_n 0, 1) := by decide +kernel
theorem dX6_catchUp_27 : decode cX6_catchUp 27 = .ok (.getfield 60, 3) := by decide +kernel
theorem dX6_catchUp_30 : decode cX6_catchUp 30 = .ok (.invokevirtual 307, 3) := by decide +kernel
theorem dX6_catchUp_33 : decode cX6_catchUp 33 = .ok (.aload_n 0, 1) := by decide +kernel
theorem dX6_catchUp_34 : decode cX6_catchUp 34 = .ok (.lload_n 1, 1) := by decide +kernel
theorem dX6_catchUp_35 : decode cX6_catchUp 35 = .ok (.iload_n 3, 1) := by decide +kernel
theorem dX6_catchUp_36 : decode cX6_catchUp 36 = .ok (.invokevirtual 252, 3) := by decide +kernel
theorem dX6_catchUp_39 : decode cX6_catchUp 39 = .ok (.iconst 1, 1) := by decide +kernel
theorem dX6_catchUp_40 : decode cX6_catchUp 40 = .ok (.ireturn, 1) := by decide +kernel
theorem dX6_catchUp_41 : decode cX6_catchUp 41 = .ok (.aload_n 0, 1) := by decide +kernel
theorem dX6_catchUp_42 : decode cX6_catchUp 42 = .ok (.getfield 27, 3) := by decide +kernel
theorem dX6_catchUp_45 : decode cX6_catchUp 45 = .ok (.ifCond .eq 13, 3) := by decide +kernel
theorem dX6_catchUp_48 : decode cX6_catchUp 48 = .ok (.aload_n 0, 1) := by decide +kernel
theorem dX6_catchUp_49 : decode cX6_catchUp 49 = .ok (.getfield 67, 3) := by decide +kernel
theorem dX6_catchUp_52 : decode cX6_catchUp 52 = .ok (.invokevirtual 310, 3) := by decide +kernel
theorem dX6_catchUp_55 : decode cX6_catchUp 55 = .ok (.goto 4, 3) := by decide +kernel
theorem dX6_catchUp_58 : decode cX6_catchUp 58 = .ok (.iconst (-1), 1) := by decide +kernel
theorem dX6_catchUp_59 : decode cX6_catchUp 59 = .ok (.istore_n 1, 1) := by decide +kernel
theorem dX6_catchUp_60 : decode cX6_catchUp 60 = .ok (.iload_n 1, 1) := by decide +kernel
theorem dX6_catchUp_61 : decode cX6_catchUp 61 = .ok (.iconst (-1), 1) := by decide +kernel
theorem dX6_catchUp_62 : decode cX6_catchUp 62 = .ok (.if_icmp .eq 42, 3) := by decide +kernel
theorem dX6_catchUp_65 : decode cX6_catchUp 65 = .ok (.aload_n 0, 1) := by decide +kernel
theorem dX6_catchUp_66 : decode cX6_catchUp 66 = .ok (.aload_n 0, 1) := by decide +kernel
theorem dX6_catchUp_67 : decode cX6_catchUp 67 = .ok (.getfield 67, 3) := by decide +kernel
theorem dX6_catchUp_70 : decode cX6_catchUp 70 = .ok (.iload_n 1, 1) := by decide +kernel
theorem dX6_catchUp_71 : decode cX6_catchUp 71 = .ok (.invokevirtual 190, 3) := by decide +kernel
theorem dX6_catchUp_74 : decode cX6_catchUp 74 = .ok (.invokestatic 194, 3) := by decide +kernel
theorem dX6_catchUp_77 : decode cX6_catchUp 77 = .ok (.putfield 37, 3) := by decide +kernel
theorem dX6_catchUp_80 : decode cX6_catchUp 80 = .ok (.aload_n 0, 1) := by decide +kernel
theorem dX6_catchUp_81 : decode cX6_catchUp 81 = .ok (.aload_n 0, 1) := by decide +kernel
theorem dX6_catchUp_82 : decode cX6_catchUp 82 = .ok (.getfield 67, 3) := by decide +kernel
theorem dX6_catchUp_85 : decode cX6_catchUp 85 = .ok (.iload_n 1, 1) := by decide +kernel
theorem dX6_catchUp_86 : decode cX6_catchUp 86 = .ok (.iconst 1, 1) := by decide +kernel
theorem dX6_catchUp_87 : decode cX6_catchUp 87 = .ok (.iadd, 1) := by decide +kernel
theorem dX6_catchUp_88 : decode cX6_catchUp 88 = .ok (.invokevirtual 190, 3) := by decide +kernel
theorem dX6_catchUp_91 : decode cX6_catchUp 91 = .ok (.invokestatic 194, 3) := by decide +kernel
theorem dX6_catchUp_94 : decode cX6_catchUp 94 = .ok (.putfield 40, 3) := by decide +kernel
theorem dX6_catchUp_97 : decode cX6_catchUp 97 = .ok (.aload_n 0, 1) := by decide +kernel
theorem dX6_catchUp_98 : decode cX6_catchUp 98 = .ok (.iconst 3, 1) := by decide +kernel
theorem dX6_catchUp_99 : decode cX6_catchUp 99 = .ok (.invokevirtual 259, 3) := by decide +kernel
theorem dX6_catchUp_102 : decode cX6_catchUp 102 = .ok (.iconst 1, 1) := by decide +kernel
theorem dX6_catchUp_103 : decode cX6_catchUp 103 = .ok (.ireturn, 1) := by decide +kernel
theorem dX6_catchUp_104 : decode cX6_catchUp 104 = .ok (.aload_n 0, 1) := by decide +kernel
theorem dX6_catchUp_105 : decode cX6_catchUp 105 = .ok (.aload_n 0, 1) := by decide +kernel
theorem dX6_catchUp_106 : decode cX6_catchUp 106 = .ok (.getfield 67, 3) := by decide +kernel
theorem dX6_catchUp_109 : decode cX6_catchUp 109 = .ok (.invokevirtual 173, 3) := by decide +kernel
theorem dX6_catchUp_112 : decode cX6_catchUp 112 = .ok (.invokevirtual 150, 3) := by decide +kernel
theorem dX6_catchUp_115 : decode cX6_catchUp 115 = .ok (.ifCond .ne 5, 3) := by decide +kernel
theorem dX6_catchUp_118 : decode cX6_catchUp 118 = .ok (.iconst 0, 1) := by decide +kernel
theorem dX6_catchUp_119 : decode cX6_catchUp 119 = .ok (.ireturn, 1) := by decide +kernel
theorem dX6_catchUp_120 : decode cX6_catchUp 120 = .ok (.aload_n 0, 1) := by decide +kernel
theorem dX6_catchUp_121 : decode cX6_catchUp 121 = .ok (.iconst 5, 1) := by decide +kernel
theorem dX6_catchUp_122 : decode cX6_catchUp 122 = .ok (.putfield 23, 3) := by decide +kernel
theorem dX6_catchUp_125 : decode cX6_catchUp 125 = .ok (.aload_n 0, 1) := by decide +kernel
theorem dX6_catchUp_126 : decode cX6_catchUp 126 = .ok (.invokevirtual 270, 3) := by decide +kernel
theorem dX6_catchUp_129 : decode cX6_catchUp 129 = .ok (.iconst 1, 1) := by decide +kernel
theorem dX6_catchUp_130 : decode cX6_catchUp 130 = .ok (.ireturn, 1) := by decide +kernel
