theorem dX6_init_0 : decode cX6_init 0 = .ok (.aload_n 0, 1) := by decide +kernel
theorem dX6_init_1 : decode cX6_init 1 = .ok (.invokespecial 1, 3) := by decide +kernel
theorem dX6_init_4 : decode cX6_init 4 = .ok (.aload_n 0, 1) := by decide +kernel
theorem dX6_init_5 : decode cX6_init 5 = .ok (.sipush 194, 3) := by decide +kernel
theorem dX6_init_8 : decode cX6_init 8 = .ok (.newarray .int, 2) := by decide +kernel
theorem dX6_init_10 : decode cX6_init 10 = .ok (.putfield 7, 3) := by decide +kernel
theorem dX6_init_13 : decode cX6_init 13 = .ok (.aload_n 0, 1) := by decide +kernel
theorem dX6_init_14 : decode cX6_init 14 = .ok (.sipush 388, 3) := by decide +kernel
theorem dX6_init_17 : decode cX6_init 17 = .ok (.newarray .int, 2) := by decide +kernel
theorem dX6_init_19 : decode cX6_init 19 = .ok (.putfield 13, 3) := by decide +kernel
theorem dX6_init_22 : decode cX6_init 22 = .ok (.aload_n 0, 1) := by decide +kernel
theorem dX6_init_23 : decode cX6_init 23 = .ok (.iconst 2, 1) := by decide +kernel
theorem dX6_init_24 : decode cX6_init 24 = .ok (.newarray .boolean, 2) := by decide +kernel
theorem dX6_init_26 : decode cX6_init 26 = .ok (.putfield 16, 3) := by decide +kernel
theorem dX6_init_29 : decode cX6_init 29 = .ok (.aload_n 0, 1) := by decide +kernel
theorem dX6_init_30 : decode cX6_init 30 = .ok (.sipush 144, 3) := by decide +kernel
theorem dX6_init_33 : decode cX6_init 33 = .ok (.newarray .int, 2) := by decide +kernel
theorem dX6_init_35 : decode cX6_init 35 = .ok (.putfield 20, 3) := by decide +kernel
theorem dX6_init_38 : decode cX6_init 38 = .ok (.aload_n 0, 1) := by decide +kernel
theorem dX6_init_39 : decode cX6_init 39 = .ok (.sipush 144, 3) := by decide +kernel
theorem dX6_init_42 : decode cX6_init 42 = .ok (.newarray .int, 2) := by decide +kernel
theorem dX6_init_44 : decode cX6_init 44 = .ok (.putfield 23, 3) := by decide +kernel
theorem dX6_init_47 : decode cX6_init 47 = .ok (.aload_n 0, 1) := by decide +kernel
theorem dX6_init_48 : decode cX6_init 48 = .ok (.sipush 144, 3) := by decide +kernel
theorem dX6_init_51 : decode cX6_init 51 = .ok (.newarray .int, 2) := by decide +kernel
theorem dX6_init_53 : decode cX6_init 53 = .ok (.putfield 26, 3) := by decide +kernel
theorem dX6_init_56 : decode cX6_init 56 = .ok (.aload_n 0, 1) := by decide +kernel
theorem dX6_init_57 : decode cX6_init 57 = .ok (.sipush 144, 3) := by decide +kernel
theorem dX6_init_60 : decode cX6_init 60 = .ok (.newarray .int, 2) := by decide +kernel
theorem dX6_init_62 : decode cX6_init 62 = .ok (.putfield 29, 3) := by decide +kernel
theorem dX6_init_65 : decode cX6_init 65 = .ok (.aload_n 0, 1) := by decide +kernel
theorem dX6_init_66 : decode cX6_init 66 = .ok (.sipush 144, 3) := by decide +kernel
theorem dX6_init_69 : decode cX6_init 69 = .ok (.newarray .int, 2) := by decide +kernel
theorem dX6_init_71 : decode cX6_init 71 = .ok (.putfield 32, 3) := by decide +kernel
theorem dX6_init_74 : decode cX6_init 74 = .ok (.aload_n 0, 1) := by decide +kernel
theorem dX6_init_75 : decode cX6_init 75 = .ok (.sipush 144, 3) := by decide +kernel
theorem dX6_init_78 : decode cX6_init 78 = .ok (.newarray .int, 2) := by decide +kernel
theorem dX6_init_80 : decode cX6_init 80 = .ok (.putfield 35, 3) := by decide +kernel
theorem dX6_init_83 : decode cX6_init 83 = .ok (.aload_n 0, 1) := by decide +kernel
theorem dX6_init_84 : decode cX6_init 84 = .ok (.bipush 9, 2) := by decide +kernel
theorem dX6_init_86 : decode cX6_init 86 = .ok (.newarray .int, 2) := by decide +kernel
theorem dX6_init_88 : decode cX6_init 88 = .ok (.putfield 38, 3) := by decide +kernel
theorem dX6_init_91 : decode cX6_init 91 = .ok (.aload_n 0, 1) := by decide +kernel
theorem dX6_init_92 : decode cX6_init 92 = .ok (.bipush 9, 2) := by decide +kernel
theorem dX6_init_94 : decode cX6_init 94 = .ok (.newarray .int, 2) := by decide +kernel
theorem dX6_init_96 : decode cX6_init 96 = .ok (.putfield 41, 3) := by decide +kernel
theorem dX6_init_99 : decode cX6_init 99 = .ok (.aload_n 0, 1) := by decide +kernel
theorem dX6_init_100 : decode cX6_init 100 = .ok (.bipush 9, 2) := by decide +kernel
theorem dX6_init_102 : decode cX6_init 102 = .ok (.newarray .int, 2) := by decide +kernel
theorem dX6_init_104 : decode cX6_init 104 = .ok (.putfield 44, 3) := by decide +kernel
theorem dX6_init_107 : decode cX6_init 107 = .ok (.aload_n 0, 1) := by decide +kernel
theorem dX6_init_108 : decode cX6_init 108 = .ok (.bipush 9, 2) := by decide +kernel
theorem dX6_init_110 : decode cX6_init 110 = .ok (.newarray .int, 2) := by decide +kernel
theorem dX6_init_112 : decode cX6_init 112 = .ok (.putfield 47, 3) := by decide +kernel
theorem dX6_init_115 : decode cX6_init 115 = .ok (.aload_n 0, 1) := by decide +kernel
theorem dX6_init_116 : decode cX6_init 116 = .ok (.bipush 108, 2) := by decide +kernel
theorem dX6_init_118 : decode cX6_init 118 = .ok (.newarray .int, 2) := by decide +kernel
theorem dX6_init_120 : decode cX6_init 120 = .ok (.putfield 50, 3) := by decide +kernel
theorem dX6_init_123 : decode cX6_init 123 = .ok (.aload_n 0, 1) := by decide +kernel
theorem dX6_init_124 : decode cX6_init 124 = .ok (.bipush 108, 2) := by decide +kernel
theorem dX6_init_126 : decode cX6_init 126 = .ok (.newarray .int, 2) := by decide +kernel
theorem dX6_init_128 : decode cX6_init 128 = .ok (.putfield 53, 3) := by decide +kernel
theorem dX6_init_131 : decode cX6_init 131 = .ok (.aload_n 0, 1) := by decide +kernel
theorem dX6_init_132 : decode cX6_init 132 = .ok (.bipush 9, 2) := by decide +kernel
theorem dX6_init_134 : decode cX6_init 134 = .ok (.newarray .int, 2) := by decide +kernel
theorem dX6_init_136 : decode cX6_init 136 = .ok (.putfield 56, 3) := by decide +kernel
theorem dX6_init_139 : decode cX6_init 139 = .ok (.aload_n 0, 1) := by decide +kernel
theorem dX6_init_140 : decode cX6_init 140 = .ok (.bipush 9, 2) := by decide +kernel
theorem dX6_init_142 : decode cX6_init 142 = .ok (.newarray .int, 2) := by decide +kernel
theorem dX6_init_144 : decode cX6_init 144 = .ok (.putfield 59, 3) := by decide +kernel
theorem dX6_init_147 : decode cX6_init 147 = .ok (.aload_n 0, 1) := by decide +kernel
theorem dX6_init_148 : decode cX6_init 148 = .ok (.bipush 108, 2) := by decide +kernel
theorem dX6_init_150 : decode cX6_init 150 = .ok (.newarray .int, 2) := by decide +kernel
theorem dX6_init_152 : decode cX6_init 152 = .ok (.putfield 62, 3) := by decide +kernel
theorem dX6_init_155 : decode cX6_init 155 = .ok (.aload_n 0, 1) := by decide +kernel
theorem dX6_init_156 : decode cX6_init 156 = .ok (.getfield 7, 3) := by decide +kernel
theorem dX6_init_159 : decode cX6_init 159 = .ok (.iconst 3, 1) := by decide +kernel
theorem dX6_init_160 : decode cX6_init 160 = .ok (.iconst 5, 1) := by decide +kernel
theorem dX6_init_161 : decode cX6_init 161 = .ok (.iastore, 1) := by decide +kernel
theorem dX6_init_162 : decode cX6_init 162 = .ok (.aload_n 0, 1) := by decide +kernel
theorem dX6_init_163 : decode cX6_init 163 = .ok (.getfield 7, 3) := by decide +kernel
theorem dX6_init_166 : decode cX6_init 166 = .ok (.iconst 4, 1) := by decide +kernel
theorem dX6_init_167 : decode cX6_init 167 = .ok (.iconst 1, 1) := by decide +kernel
theorem dX6_init_168 : decode cX6_init 168 = .ok (.iastore, 1) := by decide +kernel
theorem dX6_init_169 : decode cX6_init 169 = .ok (.aload_n 0, 1) := by decide +kernel
theorem dX6_init_170 : decode cX6_init 170 = .ok (.iconst 4, 1) := by decide +kernel
theorem dX6_init_171 : decode cX6_init 171 = .ok (.iconst 4, 1) := by decide +kernel
theorem dX6_init_172 : decode cX6_init 172 = .ok (.invokevirtual 65, 3) := by decide +kernel
theorem dX6_init_175 : decode cX6_init 175 = .ok (.return_, 1) := by decide +kernel
theorem dX6_begin_0 : decode cX6_begin 0 = .ok (.aload_n 0, 1) := by decide +kernel
theorem dX6_begin_1 : decode cX6_begin 1 = .ok (.getfield 7, 3) := by decide +kernel
theorem dX6_begin_4 : decode cX6_begin 4 = .ok (.iconst 0, 1) := by decide +kernel
theorem dX6_begin_5 : decode cX6_begin 5 = .ok (.iload_n 1, 1) := by decide +kernel
theorem dX6_begin_6 : decode cX6_begin 6 = .ok (.iastore, 1) := by decide +kernel
theorem dX6_begin_7 : decode cX6_begin 7 = .ok (.aload_n 0, 1) := by decide +kernel
theorem dX6_begin_8 : decode cX6_begin 8 = .ok (.getfield 7, 3) := by decide +kernel
theorem dX6_begin_11 : decode cX6_begin 11 = .ok (.iconst 1, 1) := by decide +kernel
theorem dX6_begin_12 : decode cX6_begin 12 = .ok (.iload_n 2, 1) := by decide +kernel
theorem dX6_begin_13 : decode cX6_begin 13 = .ok (.iastore, 1) := by decide +kernel
theorem dX6_begin_14 : decode cX6_begin 14 = .ok (.iconst 0, 1) := by decide +kernel
theorem dX6_begin_15 : decode cX6_begin 15 = .ok (.istore_n 3, 1) := by decide +kernel
theorem dX6_begin_16 : decode cX6_begin 16 = .ok (.iload_n 3, 1) := by decide +kernel
theorem dX6_begin_17 : decode cX6_begin 17 = .ok (.bipush 81, 2) := by decide +kernel
theorem dX6_begin_19 : decode cX6_begin 19 = .ok (.if_icmp .ge 18, 3) := by decide +kernel
theorem dX6_begin_22 : decode cX6_begin 22 = .ok (.aload_n 0, 1) := by decide +kernel
theorem dX6_begin_23 : decode cX6_begin 23 = .ok (.getfield 7, 3) := by decide +kernel
theorem dX6_begin_26 : decode cX6_begin 26 = .ok (.iconst 5, 1) := by decide +kernel
theorem dX6_begin_27 : decode cX6_begin 27 = .ok (.iload_n 3, 1) := by decide +kernel
theorem dX6_begin_28 : decode cX6_begin 28 = .ok (.iadd, 1) := by decide +kernel
theorem dX6_begin_29 : decode cX6_begin 29 = .ok (.iconst 1, 1) := by decide +kernel
theorem dX6_begin_30 : decode cX6_begin 30 = .ok (.iastore, 1) := by decide +kernel
theorem dX6_begin_31 : decode cX6_begin 31 = .ok (.iinc 3 1, 3) := by decide +kernel
theorem dX6_begin_34 : decode cX6_begin 34 = .ok (.goto (-18), 3) := by decide +kernel
theorem dX6_begin_37 : decode cX6_begin 37 = .ok (.iconst 0, 1) := by decide +kernel
theorem dX6_begin_38 : decode cX6_begin 38 = .ok (.istore_n 3, 1) := by decide +kernel
theorem dX6_begin_39 : decode cX6_begin 39 = .ok (.iload_n 3, 1) := by decide +kernel
theorem dX6_begin_40 : decode cX6_begin 40 = .ok (.bipush 108, 2) := by decide +kernel
theorem dX6_begin_42 : decode cX6_begin 42 = .ok (.if_icmp .ge 19, 3) := by decide +kernel
theorem dX6_begin_45 : decode cX6_begin 45 = .ok (.aload_n 0, 1) := by decide +kernel
theorem dX6_begin_46 : decode cX6_begin 46 = .ok (.getfield 7, 3) := by decide +kernel
theorem dX6_begin_49 : decode cX6_begin 49 = .ok (.bipush 86, 2) := by decide +kernel
theorem dX6_begin_51 : decode cX6_begin 51 = .ok (.iload_n 3, 1) := by decide +kernel
theorem dX6_begin_52 : decode cX6_begin 52 = .ok (.iadd, 1) := by decide +kernel
theorem dX6_begin_53 : decode cX6_begin 53 = .ok (.iconst 0, 1) := by decide +kernel
theorem dX6_begin_54 : decode cX6_begin 54 = .ok (.iastore, 1) := by decide +kernel
theorem dX6_begin_55 : decode cX6_begin 55 = .ok (.iinc 3 1, 3) := by decide +kernel
theorem dX6_begin_58 : decode cX6_begin 58 = .ok (.goto (-19), 3) := by decide +kernel
theorem dX6_begin_61 : decode cX6_begin 61 = .ok (.return_, 1) := by decide +kernel
theorem dX6_in_0 : decode cX6_in 0 = .ok (.iload_n 0, 1) := by decide +kernel
theorem dX6_in_1 : decode cX6_in 1 = .ok (.iload_n 1, 1) := by decide +kernel
theorem dX6_in_2 : decode cX6_in 2 = .ok (.if_icmp .lt 12, 3) := by decide +kernel
theorem dX6_in_5 : decode cX6_in 5 = .ok (.iload_n 0, 1) := by decide +kernel
theorem dX6_in_6 : decode cX6_in 6 = .ok (.iload_n 2, 1) := by decide +kernel
theorem dX6_in_7 : decode cX6_in 7 = .ok (.if_icmp .gt 7, 3) := by decide +kernel
theorem dX6_in_10 : decode cX6_in 10 = .ok (.iconst 1, 1) := by decide +kernel
theorem dX6_in_11 : decode cX6_in 11 = .ok (.goto 4, 3) := by decide +kernel
theorem dX6_in_14 : decode cX6_in 14 = .ok (.iconst 0, 1) := by decide +kernel
theorem dX6_in_15 : decode cX6_in 15 = .ok (.ireturn, 1) := by decide +kernel
theorem dX6_isMachine_0 : decode cX6_isMachine 0 = .ok (.iload_n 1, 1) := by decide +kernel
theorem dX6_isMachine_1 : decode cX6_isMachine 1 = .ok (.iconst 0, 1) := by decide +kernel
theorem dX6_isMachine_2 : decode cX6_isMachine 2 = .ok (.aload_n 0, 1) := by decide +kernel
theorem dX6_isMachine_3 : decode cX6_isMachine 3 = .ok (.getfield 7, 3) := by decide +kernel
theorem dX6_isMachine_6 : decode cX6_isMachine 6 = .ok (.iconst 0, 1) := by decide +kernel
theorem dX6_isMachine_7 : decode cX6_isMachine 7 = .ok (.iaload, 1) := by decide +kernel
theorem dX6_isMachine_8 : decode cX6_isMachine 8 = .ok (.iconst 1, 1) := by decide +kernel
theorem dX6_isMachine_9 : decode cX6_isMachine 9 = .ok (.isub, 1) := by decide +kernel
theorem dX6_isMachine_10 : decode cX6_isMachine 10 = .ok (.invokestatic 69, 3) := by decide +kernel
theorem dX6_isMachine_13 : decode cX6_isMachine 13 = .ok (.ireturn, 1) := by decide +kernel
theorem dX6_isPlace_0 : decode cX6_isPlace 0 = .ok (.iload_n 1, 1) := by decide +kernel
theorem dX6_isPlace_1 : decode cX6_isPlace 1 = .ok (.iconst 0, 1) := by decide +kernel
theorem dX6_isPlace_2 : decode cX6_isPlace 2 = .ok (.aload_n 0, 1) := by decide +kernel
theorem dX6_isPlace_3 : decode cX6_isPlace 3 = .ok (.getfield 7, 3) := by decide +kernel
theorem dX6_isPlace_6 : decode cX6_isPlace 6 = .ok (.iconst 1, 1) := by decide +kernel
theorem dX6_isPlace_7 : decode cX6_isPlace 7 = .ok (.iaload, 1) := by decide +kernel
theorem dX6_isPlace_8 : decode cX6_isPlace 8 = .ok (.iconst 1, 1) := by decide +kernel
theorem dX6_isPlace_9 : decode cX6_isPlace 9 = .ok (.isub, 1) := by decide +kernel
theorem dX6_isPlace_10 : decode cX6_isPlace 10 = .ok (.invokestatic 69, 3) := by decide +kernel
theorem dX6_isPlace_13 : decode cX6_isPlace 13 = .ok (.ireturn, 1) := by decide +kernel
theorem dX6_isWay_0 : decode cX6_isWay 0 = .ok (.iload_n 0, 1) := by decide +kernel
theorem dX6_isWay_1 : decode cX6_isWay 1 = .ok (.iconst 0, 1) := by decide +kernel
theorem dX6_isWay_2 : decode cX6_isWay 2 = .ok (.iconst 3, 1) := by decide +kernel
theorem dX6_isWay_3 : decode cX6_isWay 3 = .ok (.invokestatic 69, 3) := by decide +kernel
theorem dX6_isWay_6 : decode cX6_isWay 6 = .ok (.ireturn, 1) := by decide +kernel
theorem dX6_machines_0 : decode cX6_machines 0 = .ok (.iload_n 1, 1) := by decide +kernel
theorem dX6_machines_1 : decode cX6_machines 1 = .ok (.iconst 2, 1) := by decide +kernel
theorem dX6_machines_2 : decode cX6_machines 2 = .ok (.bipush 9, 2) := by decide +kernel
theorem dX6_machines_4 : decode cX6_machines 4 = .ok (.invokestatic 69, 3) := by decide +kernel
theorem dX6_machines_7 : decode cX6_machines 7 = .ok (.ifCond .eq 13, 3) := by decide +kernel
theorem dX6_machines_10 : decode cX6_machines 10 = .ok (.iload_n 2, 1) := by decide +kernel
theorem dX6_machines_11 : decode cX6_machines 11 = .ok (.iconst 1, 1) := by decide +kernel
theorem dX6_machines_12 : decode cX6_machines 12 = .ok (.bipush 12, 2) := by decide +kernel
theorem dX6_machines_14 : decode cX6_machines 14 = .ok (.invokestatic 69, 3) := by decide +kernel
theorem dX6_machines_17 : decode cX6_machines 17 = .ok (.ifCond .ne 6, 3) := by decide +kernel
theorem dX6_machines_20 : decode cX6_machines 20 = .ok (.bipush (-2), 2) := by decide +kernel
theorem dX6_machines_22 : decode cX6_machines 22 = .ok (.ireturn, 1) := by decide +kernel
theorem dX6_machines_23 : decode cX6_machines 23 = .ok (.aload_n 0, 1) := by decide +kernel
theorem dX6_machines_24 : decode cX6_machines 24 = .ok (.getfield 7, 3) := by decide +kernel
theorem dX6_machines_27 : decode cX6_machines 27 = .ok (.iconst 0, 1) := by decide +kernel
theorem dX6_machines_28 : decode cX6_machines 28 = .ok (.iaload, 1) := by decide +kernel
theorem dX6_machines_29 : decode cX6_machines 29 = .ok (.istore_n 3, 1) := by decide +kernel
theorem dX6_machines_30 : decode cX6_machines 30 = .ok (.aload_n 0, 1) := by decide +kernel
theorem dX6_machines_31 : decode cX6_machines 31 = .ok (.iload_n 1, 1) := by decide +kernel
theorem dX6_machines_32 : decode cX6_machines 32 = .ok (.iload_n 2, 1) := by decide +kernel
theorem dX6_machines_33 : decode cX6_machines 33 = .ok (.invokevirtual 65, 3) := by decide +kernel
theorem dX6_machines_36 : decode cX6_machines 36 = .ok (.iload_n 3, 1) := by decide +kernel
theorem dX6_machines_37 : decode cX6_machines 37 = .ok (.ireturn, 1) := by decide +kernel
theorem dX6_cell_0 : decode cX6_cell 0 = .ok (.bipush 12, 2) := by decide +kernel
theorem dX6_cell_2 : decode cX6_cell 2 = .ok (.iload_n 0, 1) := by decide +kernel
theorem dX6_cell_3 : decode cX6_cell 3 = .ok (.imul, 1) := by decide +kernel
theorem dX6_cell_4 : decode cX6_cell 4 = .ok (.iload_n 1, 1) := by decide +kernel
theorem dX6_cell_5 : decode cX6_cell 5 = .ok (.iadd, 1) := by decide +kernel
theorem dX6_cell_6 : decode cX6_cell 6 = .ok (.ireturn, 1) := by decide +kernel
theorem dX6_put_0 : decode cX6_put 0 = .ok (.aload_n 0, 1) := by decide +kernel
theorem dX6_put_1 : decode cX6_put 1 = .ok (.iload_n 1, 1) := by decide +kernel
theorem dX6_put_2 : decode cX6_put 2 = .ok (.invokevirtual 73, 3) := by decide +kernel
theorem dX6_put_5 : decode cX6_put 5 = .ok (.ifCond .ne 5, 3) := by decide +kernel
theorem dX6_put_8 : decode cX6_put 8 = .ok (.iconst (-1), 1) := by decide +kernel
theorem dX6_put_9 : decode cX6_put 9 = .ok (.ireturn, 1) := by decide +kernel
theorem dX6_put_10 : decode cX6_put 10 = .ok (.aload_n 0, 1) := by decide +kernel
theorem dX6_put_11 : decode cX6_put 11 = .ok (.iload_n 2, 1) := by decide +kernel
theorem dX6_put_12 : decode cX6_put 12 = .ok (.invokevirtual 77, 3) := by decide +kernel
theorem dX6_put_15 : decode cX6_put 15 = .ok (.ifCond .eq 14, 3) := by decide +kernel
theorem dX6_put_18 : decode cX6_put 18 = .ok (.iload_n 3, 1) := by decide +kernel
theorem dX6_put_19 : decode cX6_put 19 = .ok (.iconst 0, 1) := by decide +kernel
theorem dX6_put_20 : decode cX6_put 20 = .ok (.sipush 996, 3) := by decide +kernel
theorem dX6_put_23 : decode cX6_put 23 = .ok (.invokestatic 69, 3) := by decide +kernel
theorem dX6_put_26 : decode cX6_put 26 = .ok (.ifCond .ne 6, 3) := by decide +kernel
theorem dX6_put_29 : decode cX6_put 29 = .ok (.bipush (-2), 2) := by decide +kernel
theorem dX6_put_31 : decode cX6_put 31 = .ok (.ireturn, 1) := by decide +kernel
theorem dX6_put_32 : decode cX6_put 32 = .ok (.aload_n 0, 1) := by decide +kernel
theorem dX6_put_33 : decode cX6_put 33 = .ok (.getfield 7, 3) := by decide +kernel
theorem dX6_put_36 : decode cX6_put 36 = .ok (.bipush 86, 2) := by decide +kernel
theorem dX6_put_38 : decode cX6_put 38 = .ok (.iload_n 1, 1) := by decide +kernel
theorem dX6_put_39 : decode cX6_put 39 = .ok (.iload_n 2, 1) := by decide +kernel
theorem dX6_put_40 : decode cX6_put 40 = .ok (.invokestatic 80, 3) := by decide +kernel
theorem dX6_put_43 : decode cX6_put 43 = .ok (.iadd, 1) := by decide +kernel
theorem dX6_put_44 : decode cX6_put 44 = .ok (.iaload, 1) := by decide +kernel
theorem dX6_put_45 : decode cX6_put 45 = .ok (.istore 4, 2) := by decide +kernel
theorem dX6_put_47 : decode cX6_put 47 = .ok (.aload_n 0, 1) := by decide +kernel
theorem dX6_put_48 : decode cX6_put 48 = .ok (.getfield 7, 3) := by decide +kernel
theorem dX6_put_51 : decode cX6_put 51 = .ok (.bipush 86, 2) := by decide +kernel
theorem dX6_put_53 : decode cX6_put 53 = .ok (.iload_n 1, 1) := by decide +kernel
theorem dX6_put_54 : decode cX6_put 54 = .ok (.iload_n 2, 1) := by decide +kernel
theorem dX6_put_55 : decode cX6_put 55 = .ok (.invokestatic 80, 3) := by decide +kernel
theorem dX6_put_58 : decode cX6_put 58 = .ok (.iadd, 1) := by decide +kernel
theorem dX6_put_59 : decode cX6_put 59 = .ok (.iload_n 3, 1) := by decide +kernel
theorem dX6_put_60 : decode cX6_put 60 = .ok (.iastore, 1) := by decide +kernel
theorem dX6_put_61 : decode cX6_put 61 = .ok (.iload 4, 2) := by decide +kernel
theorem dX6_put_63 : decode cX6_put 63 = .ok (.ireturn, 1) := by decide +kernel
theorem dX6_rule_0 : decode cX6_rule 0 = .ok (.iload_n 1, 1) := by decide +kernel
theorem dX6_rule_1 : decode cX6_rule 1 = .ok (.iconst 0, 1) := by decide +kernel
theorem dX6_rule_2 : decode cX6_rule 2 = .ok (.iconst 2, 1) := by decide +kernel
theorem dX6_rule_3 : decode cX6_rule 3 = .ok (.invokestatic 69, 3) := by decide +kernel
theorem dX6_rule_6 : decode cX6_rule 6 = .ok (.ifCond .eq 21, 3) := by decide +kernel
theorem dX6_rule_9 : decode cX6_rule 9 = .ok (.iload_n 2, 1) := by decide +kernel
theorem dX6_rule_10 : decode cX6_rule 10 = .ok (.iconst 0, 1) := by decide +kernel
theorem dX6_rule_11 : decode cX6_rule 11 = .ok (.iload_n 1, 1) := by decide +kernel
theorem dX6_rule_12 : decode cX6_rule 12 = .ok (.ifCond .ne 7, 3) := by decide +kernel
theorem dX6_rule_15 : decode cX6_rule 15 = .ok (.iconst 2, 1) := by decide +kernel
theorem dX6_rule_16 : decode cX6_rule 16 = .ok (.goto 5, 3) := by decide +kernel
theorem dX6_rule_19 : decode cX6_rule 19 = .ok (.bipush 99, 2) := by decide +kernel
theorem dX6_rule_21 : decode cX6_rule 21 = .ok (.invokestatic 69, 3) := by decide +kernel
theorem dX6_rule_24 : decode cX6_rule 24 = .ok (.ifCond .ne 6, 3) := by decide +kernel
theorem dX6_rule_27 : decode cX6_rule 27 = .ok (.bipush (-2), 2) := by decide +kernel
theorem dX6_rule_29 : decode cX6_rule 29 = .ok (.ireturn, 1) := by decide +kernel
theorem dX6_rule_30 : decode cX6_rule 30 = .ok (.aload_n 0, 1) := by decide +kernel
theorem dX6_rule_31 : decode cX6_rule 31 = .ok (.getfield 7, 3) := by decide +kernel
theorem dX6_rule_34 : decode cX6_rule 34 = .ok (.iconst 2, 1) := by decide +kernel
theorem dX6_rule_35 : decode cX6_rule 35 = .ok (.iload_n 1, 1) := by decide +kernel
theorem dX6_rule_36 : decode cX6_rule 36 = .ok (.iadd, 1) := by decide +kernel
theorem dX6_rule_37 : decode cX6_rule 37 = .ok (.iaload, 1) := by decide +kernel
theorem dX6_rule_38 : decode cX6_rule 38 = .ok (.istore_n 3, 1) := by decide +kernel
theorem dX6_rule_39 : decode cX6_rule 39 = .ok (.aload_n 0, 1) := by decide +kernel
theorem dX6_rule_40 : decode cX6_rule 40 = .ok (.getfield 7, 3) := by decide +kernel
theorem dX6_rule_43 : decode cX6_rule 43 = .ok (.iconst 2, 1) := by decide +kernel
theorem dX6_rule_44 : decode cX6_rule 44 = .ok (.iload_n 1, 1) := by decide +kernel
theorem dX6_rule_45 : decode cX6_rule 45 = .ok (.iadd, 1) := by decide +kernel
theorem dX6_rule_46 : decode cX6_rule 46 = .ok (.iload_n 2, 1) := by decide +kernel
theorem dX6_rule_47 : decode cX6_rule 47 = .ok (.iastore, 1) := by decide +kernel
theorem dX6_rule_48 : decode cX6_rule 48 = .ok (.iload_n 3, 1) := by decide +kernel
theorem dX6_rule_49 : decode cX6_rule 49 = .ok (.ireturn, 1) := by decide +kernel
theorem dX6_slow_0 : decode cX6_slow 0 = .ok (.aload_n 0, 1) := by decide +kernel
theorem dX6_slow_1 : decode cX6_slow 1 = .ok (.iload_n 1, 1) := by decide +kernel
theorem dX6_slow_2 : decode cX6_slow 2 = .ok (.invokevirtual 73, 3) := by decide +kernel
theorem dX6_slow_5 : decode cX6_slow 5 = .ok (.ifCond .eq 11, 3) := by decide +kernel
theorem dX6_slow_8 : decode cX6_slow 8 = .ok (.aload_n 0, 1) := by decide +kernel
theorem dX6_slow_9 : decode cX6_slow 9 = .ok (.iload_n 2, 1) := by decide +kernel
theorem dX6_slow_10 : decode cX6_slow 10 = .ok (.invokevirtual 73, 3) := by decide +kernel
theorem dX6_slow_13 : decode cX6_slow 13 = .ok (.ifCond .ne 5, 3) := by decide +kernel
theorem dX6_slow_16 : decode cX6_slow 16 = .ok (.iconst (-1), 1) := by decide +kernel
theorem dX6_slow_17 : decode cX6_slow 17 = .ok (.ireturn, 1) := by decide +kernel
theorem dX6_slow_18 : decode cX6_slow 18 = .ok (.iload_n 1, 1) := by decide +kernel
theorem dX6_slow_19 : decode cX6_slow 19 = .ok (.iload_n 2, 1) := by decide +kernel
theorem dX6_slow_20 : decode cX6_slow 20 = .ok (.if_icmp .eq 13, 3) := by decide +kernel
theorem dX6_slow_23 : decode cX6_slow 23 = .ok (.iload_n 3, 1) := by decide +kernel
theorem dX6_slow_24 : decode cX6_slow 24 = .ok (.iconst 1, 1) := by decide +kernel
theorem dX6_slow_25 : decode cX6_slow 25 = .ok (.bipush 9, 2) := by decide +kernel
theorem dX6_slow_27 : decode cX6_slow 27 = .ok (.invokestatic 69, 3) := by decide +kernel
theorem dX6_slow_30 : decode cX6_slow 30 = .ok (.ifCond .ne 6, 3) := by decide +kernel
theorem dX6_slow_33 : decode cX6_slow 33 = .ok (.bipush (-2), 2) := by decide +kernel
theorem dX6_slow_35 : decode cX6_slow 35 = .ok (.ireturn, 1) := by decide +kernel
theorem dX6_slow_36 : decode cX6_slow 36 = .ok (.aload_n 0, 1) := by decide +kernel
theorem dX6_slow_37 : decode cX6_slow 37 = .ok (.getfield 7, 3) := by decide +kernel
theorem dX6_slow_40 : decode cX6_slow 40 = .ok (.iconst 5, 1) := by decide +kernel
theorem dX6_slow_41 : decode cX6_slow 41 = .ok (.bipush 9, 2) := by decide +kernel
theorem dX6_slow_43 : decode cX6_slow 43 = .ok (.iload_n 1, 1) := by decide +kernel
theorem dX6_slow_44 : decode cX6_slow 44 = .ok (.imul, 1) := by decide +kernel
theorem dX6_slow_45 : decode cX6_slow 45 = .ok (.iadd, 1) := by decide +kernel
theorem dX6_slow_46 : decode cX6_slow 46 = .ok (.iload_n 2, 1) := by decide +kernel
theorem dX6_slow_47 : decode cX6_slow 47 = .ok (.iadd, 1) := by decide +kernel
theorem dX6_slow_48 : decode cX6_slow 48 = .ok (.iaload, 1) := by decide +kernel
theorem dX6_slow_49 : decode cX6_slow 49 = .ok (.istore 4, 2) := by decide +kernel
theorem dX6_slow_51 : decode cX6_slow 51 = .ok (.aload_n 0, 1) := by decide +kernel
theorem dX6_slow_52 : decode cX6_slow 52 = .ok (.getfield 7, 3) := by decide +kernel
theorem dX6_slow_55 : decode cX6_slow 55 = .ok (.iconst 5, 1) := by decide +kernel
theorem dX6_slow_56 : decode cX6_slow 56 = .ok (.bipush 9, 2) := by decide +kernel
theorem dX6_slow_58 : decode cX6_slow 58 = .ok (.iload_n 1, 1) := by decide +kernel
theorem dX6_slow_59 : decode cX6_slow 59 = .ok (.imul, 1) := by decide +kernel
theorem dX6_slow_60 : decode cX6_slow 60 = .ok (.iadd, 1) := by decide +kernel
theorem dX6_slow_61 : decode cX6_slow 61 = .ok (.iload_n 2, 1) := by decide +kernel
theorem dX6_slow_62 : decode cX6_slow 62 = .ok (.iadd, 1) := by decide +kernel
theorem dX6_slow_63 : decode cX6_slow 63 = .ok (.iload_n 3, 1) := by decide +kernel
theorem dX6_slow_64 : decode cX6_slow 64 = .ok (.iastore, 1) := by decide +kernel
theorem dX6_slow_65 : decode cX6_slow 65 = .ok (.aload_n 0, 1) := by decide +kernel
theorem dX6_slow_66 : decode cX6_slow 66 = .ok (.getfield 7, 3) := by decide +kernel
theorem dX6_slow_69 : decode cX6_slow 69 = .ok (.iconst 5, 1) := by decide +kernel
theorem dX6_slow_70 : decode cX6_slow 70 = .ok (.bipush 9, 2) := by decide +kernel
theorem dX6_slow_72 : decode cX6_slow 72 = .ok (.iload_n 2, 1) := by decide +kernel
theorem dX6_slow_73 : decode cX6_slow 73 = .ok (.imul, 1) := by decide +kernel
theorem dX6_slow_74 : decode cX6_slow 74 = .ok (.iadd, 1) := by decide +kernel
theorem dX6_slow_75 : decode cX6_slow 75 = .ok (.iload_n 1, 1) := by decide +kernel
theorem dX6_slow_76 : decode cX6_slow 76 = .ok (.iadd, 1) := by decide +kernel
theorem dX6_slow_77 : decode cX6_slow 77 = .ok (.iload_n 3, 1) := by decide +kernel
theorem dX6_slow_78 : decode cX6_slow 78 = .ok (.iastore, 1) := by decide +kernel
theorem dX6_slow_79 : decode cX6_slow 79 = .ok (.iload 4, 2) := by decide +kernel
theorem dX6_slow_81 : decode cX6_slow 81 = .ok (.ireturn, 1) := by decide +kernel
theorem dX6_at_0 : decode cX6_at 0 = .ok (.aload_n 0, 1) := by decide +kernel
theorem dX6_at_1 : decode cX6_at 1 = .ok (.iload_n 1, 1) := by decide +kernel
theorem dX6_at_2 : decode cX6_at 2 = .ok (.invokevirtual 73, 3) := by decide +kernel
theorem dX6_at_5 : decode cX6_at 5 = .ok (.ifCond .ne 5, 3) := by decide +kernel
theorem dX6_at_8 : decode cX6_at 8 = .ok (.iconst (-1), 1) := by decide +kernel
theorem dX6_at_9 : decode cX6_at 9 = .ok (.ireturn, 1) := by decide +kernel
theorem dX6_at_10 : decode cX6_at 10 = .ok (.aload_n 0, 1) := by decide +kernel
theorem dX6_at_11 : decode cX6_at 11 = .ok (.iload_n 2, 1) := by decide +kernel
theorem dX6_at_12 : decode cX6_at 12 = .ok (.invokevirtual 77, 3) := by decide +kernel
theorem dX6_at_15 : decode cX6_at 15 = .ok (.ifCond .eq 19, 3) := by decide +kernel
theorem dX6_at_18 : decode cX6_at 18 = .ok (.aload_n 0, 1) := by decide +kernel
theorem dX6_at_19 : decode cX6_at 19 = .ok (.getfield 7, 3) := by decide +kernel
theorem dX6_at_22 : decode cX6_at 22 = .ok (.bipush 86, 2) := by decide +kernel
theorem dX6_at_24 : decode cX6_at 24 = .ok (.iload_n 1, 1) := by decide +kernel
theorem dX6_at_25 : decode cX6_at 25 = .ok (.iload_n 2, 1) := by decide +kernel
theorem dX6_at_26 : decode cX6_at 26 = .ok (.invokestatic 80, 3) := by decide +kernel
theorem dX6_at_29 : decode cX6_at 29 = .ok (.iadd, 1) := by decide +kernel
theorem dX6_at_30 : decode cX6_at 30 = .ok (.iaload, 1) := by decide +kernel
theorem dX6_at_31 : decode cX6_at 31 = .ok (.goto 5, 3) := by decide +kernel
theorem dX6_at_34 : decode cX6_at 34 = .ok (.bipush (-6), 2) := by decide +kernel
theorem dX6_at_36 : decode cX6_at 36 = .ok (.ireturn, 1) := by decide +kernel
theorem dX6_send_0 : decode cX6_send 0 = .ok (.aload_n 0, 1) := by decide +kernel
theorem dX6_send_1 : decode cX6_send 1 = .ok (.getfield 20, 3) := by decide +kernel
theorem dX6_send_4 : decode cX6_send 4 = .ok (.aload_n 0, 1) := by decide +kernel
theorem dX6_send_5 : decode cX6_send 5 = .ok (.getfield 84, 3) := by decide +kernel
theorem dX6_send_8 : decode cX6_send 8 = .ok (.aload_n 0, 1) := by decide +kernel
theorem dX6_send_9 : decode cX6_send 9 = .ok (.getfield 88, 3) := by decide +kernel
theorem dX6_send_12 : decode cX6_send 12 = .ok (.iastore, 1) := by decide +kernel
theorem dX6_send_13 : decode cX6_send 13 = .ok (.aload_n 0, 1) := by decide +kernel
theorem dX6_send_14 : decode cX6_send 14 = .ok (.getfield 23, 3) := by decide +kernel
theorem dX6_send_17 : decode cX6_send 17 = .ok (.aload_n 0, 1) := by decide +kernel
theorem dX6_send_18 : decode cX6_send 18 = .ok (.getfield 84, 3) := by decide +kernel
theorem dX6_send_21 : decode cX6_send 21 = .ok (.iload_n 1, 1) := by decide +kernel
theorem dX6_send_22 : decode cX6_send 22 = .ok (.iastore, 1) := by decide +kernel
theorem dX6_send_23 : decode cX6_send 23 = .ok (.aload_n 0, 1) := by decide +kernel
theorem dX6_send_24 : decode cX6_send 24 = .ok (.getfield 26, 3) := by decide +kernel
theorem dX6_send_27 : decode cX6_send 27 = .ok (.aload_n 0, 1) := by decide +kernel
theorem dX6_send_28 : decode cX6_send 28 = .ok (.getfield 84, 3) := by decide +kernel
theorem dX6_send_31 : decode cX6_send 31 = .ok (.iload_n 2, 1) := by decide +kernel
theorem dX6_send_32 : decode cX6_send 32 = .ok (.iastore, 1) := by decide +kernel
theorem dX6_send_33 : decode cX6_send 33 = .ok (.aload_n 0, 1) := by decide +kernel
theorem dX6_send_34 : decode cX6_send 34 = .ok (.getfield 29, 3) := by decide +kernel
theorem dX6_send_37 : decode cX6_send 37 = .ok (.aload_n 0, 1) := by decide +kernel
theorem dX6_send_38 : decode cX6_send 38 = .ok (.getfield 84, 3) := by decide +kernel
theorem dX6_send_41 : decode cX6_send 41 = .ok (.iload_n 3, 1) := by decide +kernel
theorem dX6_send_42 : decode cX6_send 42 = .ok (.iastore, 1) := by decide +kernel
theorem dX6_send_43 : decode cX6_send 43 = .ok (.aload_n 0, 1) := by decide +kernel
theorem dX6_send_44 : decode cX6_send 44 = .ok (.getfield 32, 3) := by decide +kernel
theorem dX6_send_47 : decode cX6_send 47 = .ok (.aload_n 0, 1) := by decide +kernel
theorem dX6_send_48 : decode cX6_send 48 = .ok (.getfield 84, 3) := by decide +kernel
theorem dX6_send_51 : decode cX6_send 51 = .ok (.iload 4, 2) := by decide +kernel
theorem dX6_send_53 : decode cX6_send 53 = .ok (.iastore, 1) := by decide +kernel
theorem dX6_send_54 : decode cX6_send 54 = .ok (.aload_n 0, 1) := by decide +kernel
theorem dX6_send_55 : decode cX6_send 55 = .ok (.getfield 35, 3) := by decide +kernel
theorem dX6_send_58 : decode cX6_send 58 = .ok (.aload_n 0, 1) := by decide +kernel
theorem dX6_send_59 : decode cX6_send 59 = .ok (.getfield 84, 3) := by decide +kernel
theorem dX6_send_62 : decode cX6_send 62 = .ok (.iload 5, 2) := by decide +kernel
theorem dX6_send_64 : decode cX6_send 64 = .ok (.iastore, 1) := by decide +kernel
theorem dX6_send_65 : decode cX6_send 65 = .ok (.aload_n 0, 1) := by decide +kernel
theorem dX6_send_66 : decode cX6_send 66 = .ok (.dup, 1) := by decide +kernel
theorem dX6_send_67 : decode cX6_send 67 = .ok (.getfield 84, 3) := by decide +kernel
theorem dX6_send_70 : decode cX6_send 70 = .ok (.iconst 1, 1) := by decide +kernel
theorem dX6_send_71 : decode cX6_send 71 = .ok (.iadd, 1) := by decide +kernel
theorem dX6_send_72 : decode cX6_send 72 = .ok (.putfield 84, 3) := by decide +kernel
theorem dX6_send_75 : decode cX6_send 75 = .ok (.return_, 1) := by decide +kernel
theorem dX6_sendPart_0 : decode cX6_sendPart 0 = .ok (.aload_n 0, 1) := by decide +kernel
theorem dX6_sendPart_1 : decode cX6_sendPart 1 = .ok (.getfield 7, 3) := by decide +kernel
theorem dX6_sendPart_4 : decode cX6_sendPart 4 = .ok (.iconst 0, 1) := by decide +kernel
theorem dX6_sendPart_5 : decode cX6_sendPart 5 = .ok (.iaload, 1) := by decide +kernel
theorem dX6_sendPart_6 : decode cX6_sendPart 6 = .ok (.istore 5, 2) := by decide +kernel
theorem dX6_sendPart_8 : decode cX6_sendPart 8 = .ok (.iload_n 2, 1) := by decide +kernel
theorem dX6_sendPart_9 : decode cX6_sendPart 9 = .ok (.iload 5, 2) := by decide +kernel
theorem dX6_sendPart_11 : decode cX6_sendPart 11 = .ok (.irem, 1) := by decide +kernel
theorem dX6_sendPart_12 : decode cX6_sendPart 12 = .ok (.iload 5, 2) := by decide +kernel
theorem dX6_sendPart_14 : decode cX6_sendPart 14 = .ok (.iadd, 1) := by decide +kernel
theorem dX6_sendPart_15 : decode cX6_sendPart 15 = .ok (.iload 5, 2) := by decide +kernel
theorem dX6_sendPart_17 : decode cX6_sendPart 17 = .ok (.irem, 1) := by decide +kernel
theorem dX6_sendPart_18 : decode cX6_sendPart 18 = .ok (.istore 6, 2) := by decide +kernel
theorem dX6_sendPart_20 : decode cX6_sendPart 20 = .ok (.iload_n 3, 1) := by decide +kernel
theorem dX6_sendPart_21 : decode cX6_sendPart 21 = .ok (.iload 6, 2) := by decide +kernel
theorem dX6_sendPart_23 : decode cX6_sendPart 23 = .ok (.imul, 1) := by decide +kernel
theorem dX6_sendPart_24 : decode cX6_sendPart 24 = .ok (.iload 5, 2) := by decide +kernel
theorem dX6_sendPart_26 : decode cX6_sendPart 26 = .ok (.idiv, 1) := by decide +kernel
theorem dX6_sendPart_27 : decode cX6_sendPart 27 = .ok (.istore 7, 2) := by decide +kernel
theorem dX6_sendPart_29 : decode cX6_sendPart 29 = .ok (.aload_n 0, 1) := by decide +kernel
theorem dX6_sendPart_30 : decode cX6_sendPart 30 = .ok (.iload_n 1, 1) := by decide +kernel
theorem dX6_sendPart_31 : decode cX6_sendPart 31 = .ok (.iload_n 1, 1) := by decide +kernel
theorem dX6_sendPart_32 : decode cX6_sendPart 32 = .ok (.iconst 1, 1) := by decide +kernel
theorem dX6_sendPart_33 : decode cX6_sendPart 33 = .ok (.iadd, 1) := by decide +kernel
theorem dX6_sendPart_34 : decode cX6_sendPart 34 = .ok (.iload 5, 2) := by decide +kernel
theorem dX6_sendPart_36 : decode cX6_sendPart 36 = .ok (.irem, 1) := by decide +kernel
theorem dX6_sendPart_37 : decode cX6_sendPart 37 = .ok (.iload 7, 2) := by decide +kernel
theorem dX6_sendPart_39 : decode cX6_sendPart 39 = .ok (.iload_n 3, 1) := by decide +kernel
theorem dX6_sendPart_40 : decode cX6_sendPart 40 = .ok (.iload 6, 2) := by decide +kernel
theorem dX6_sendPart_42 : decode cX6_sendPart 42 = .ok (.iconst 1, 1) := by decide +kernel
theorem dX6_sendPart_43 : decode cX6_sendPart 43 = .ok (.iadd, 1) := by decide +kernel
theorem dX6_sendPart_44 : decode cX6_sendPart 44 = .ok (.imul, 1) := by decide +kernel
theorem dX6_sendPart_45 : decode cX6_sendPart 45 = .ok (.iload 5, 2) := by decide +kernel
theorem dX6_sendPart_47 : decode cX6_sendPart 47 = .ok (.idiv, 1) := by decide +kernel
theorem dX6_sendPart_48 : decode cX6_sendPart 48 = .ok (.iload 7, 2) := by decide +kernel
theorem dX6_sendPart_50 : decode cX6_sendPart 50 = .ok (.isub, 1) := by decide +kernel
theorem dX6_sendPart_51 : decode cX6_sendPart 51 = .ok (.iload 4, 2) := by decide +kernel
theorem dX6_sendPart_53 : decode cX6_sendPart 53 = .ok (.invokevirtual 91, 3) := by decide +kernel
theorem dX6_sendPart_56 : decode cX6_sendPart 56 = .ok (.return_, 1) := by decide +kernel
theorem dX6_layRing_0 : decode cX6_layRing 0 = .ok (.aload_n 0, 1) := by decide +kernel
theorem dX6_layRing_1 : decode cX6_layRing 1 = .ok (.getfield 7, 3) := by decide +kernel
theorem dX6_layRing_4 : decode cX6_layRing 4 = .ok (.iconst 0, 1) := by decide +kernel
theorem dX6_layRing_5 : decode cX6_layRing 5 = .ok (.iaload, 1) := by decide +kernel
theorem dX6_layRing_6 : decode cX6_layRing 6 = .ok (.istore_n 2, 1) := by decide +kernel
theorem dX6_layRing_7 : decode cX6_layRing 7 = .ok (.iconst 0, 1) := by decide +kernel
theorem dX6_layRing_8 : decode cX6_layRing 8 = .ok (.istore_n 3, 1) := by decide +kernel
theorem dX6_layRing_9 : decode cX6_layRing 9 = .ok (.iload_n 3, 1) := by decide +kernel
theorem dX6_layRing_10 : decode cX6_layRing 10 = .ok (.iload_n 2, 1) := by decide +kernel
theorem dX6_layRing_11 : decode cX6_layRing 11 = .ok (.iconst 1, 1) := by decide +kernel
theorem dX6_layRing_12 : decode cX6_layRing 12 = .ok (.isub, 1) := by decide +kernel
theorem dX6_layRing_13 : decode cX6_layRing 13 = .ok (.if_icmp .ge 46, 3) := by decide +kernel
theorem dX6_layRing_16 : decode cX6_layRing 16 = .ok (.iconst 0, 1) := by decide +kernel
theorem dX6_layRing_17 : decode cX6_layRing 17 = .ok (.istore 4, 2) := by decide +kernel
theorem dX6_layRing_19 : decode cX6_layRing 19 = .ok (.iload 4, 2) := by decide +kernel
theorem dX6_layRing_21 : decode cX6_layRing 21 = .ok (.iload_n 2, 1) := by decide +kernel
theorem dX6_layRing_22 : decode cX6_layRing 22 = .ok (.if_icmp .ge 21, 3) := by decide +kernel
theorem dX6_layRing_25 : decode cX6_layRing 25 = .ok (.aload_n 0, 1) := by decide +kernel
theorem dX6_layRing_26 : decode cX6_layRing 26 = .ok (.iload 4, 2) := by decide +kernel
theorem dX6_layRing_28 : decode cX6_layRing 28 = .ok (.iload 4, 2) := by decide +kernel
theorem dX6_layRing_30 : decode cX6_layRing 30 = .ok (.iload_n 3, 1) := by decide +kernel
theorem dX6_layRing_31 : decode cX6_layRing 31 = .ok (.isub, 1) := by decide +kernel
theorem dX6_layRing_32 : decode cX6_layRing 32 = .ok (.iload_n 1, 1) := by decide +kernel
theorem dX6_layRing_33 : decode cX6_layRing 33 = .ok (.iconst 1, 1) := by decide +kernel
theorem dX6_layRing_34 : decode cX6_layRing 34 = .ok (.invokevirtual 95, 3) := by decide +kernel
theorem dX6_layRing_37 : decode cX6_layRing 37 = .ok (.iinc 4 1, 3) := by decide +kernel
theorem dX6_layRing_40 : decode cX6_layRing 40 = .ok (.goto (-21), 3) := by decide +kernel
theorem dX6_layRing_43 : decode cX6_layRing 43 = .ok (.aload_n 0, 1) := by decide +kernel
theorem dX6_layRing_44 : decode cX6_layRing 44 = .ok (.dup, 1) := by decide +kernel
theorem dX6_layRing_45 : decode cX6_layRing 45 = .ok (.getfield 88, 3) := by decide +kernel
theorem dX6_layRing_48 : decode cX6_layRing 48 = .ok (.iconst 1, 1) := by decide +kernel
theorem dX6_layRing_49 : decode cX6_layRing 49 = .ok (.iadd, 1) := by decide +kernel
theorem dX6_layRing_50 : decode cX6_layRing 50 = .ok (.putfield 88, 3) := by decide +kernel
theorem dX6_layRing_53 : decode cX6_layRing 53 = .ok (.iinc 3 1, 3) := by decide +kernel
theorem dX6_layRing_56 : decode cX6_layRing 56 = .ok (.goto (-47), 3) := by decide +kernel
theorem dX6_layRing_59 : decode cX6_layRing 59 = .ok (.iconst 0, 1) := by decide +kernel
theorem dX6_layRing_60 : decode cX6_layRing 60 = .ok (.istore_n 3, 1) := by decide +kernel
theorem dX6_layRing_61 : decode cX6_layRing 61 = .ok (.iload_n 3, 1) := by decide +kernel
theorem dX6_layRing_62 : decode cX6_layRing 62 = .ok (.iload_n 2, 1) := by decide +kernel
theorem dX6_layRing_63 : decode cX6_layRing 63 = .ok (.iconst 1, 1) := by decide +kernel
theorem dX6_layRing_64 : decode cX6_layRing 64 = .ok (.isub, 1) := by decide +kernel
theorem dX6_layRing_65 : decode cX6_layRing 65 = .ok (.if_icmp .ge 48, 3) := by decide +kernel
theorem dX6_layRing_68 : decode cX6_layRing 68 = .ok (.iconst 0, 1) := by decide +kernel
theorem dX6_layRing_69 : decode cX6_layRing 69 = .ok (.istore 4, 2) := by decide +kernel
theorem dX6_layRing_71 : decode cX6_layRing 71 = .ok (.iload 4, 2) := by decide +kernel
theorem dX6_layRing_73 : decode cX6_layRing 73 = .ok (.iload_n 2, 1) := by decide +kernel
theorem dX6_layRing_74 : decode cX6_layRing 74 = .ok (.if_icmp .ge 23, 3) := by decide +kernel
theorem dX6_layRing_77 : decode cX6_layRing 77 = .ok (.aload_n 0, 1) := by decide +kernel
theorem dX6_layRing_78 : decode cX6_layRing 78 = .ok (.iload 4, 2) := by decide +kernel
theorem dX6_layRing_80 : decode cX6_layRing 80 = .ok (.iload 4, 2) := by decide +kernel
theorem dX6_layRing_82 : decode cX6_layRing 82 = .ok (.iconst 1, 1) := by decide +kernel
theorem dX6_layRing_83 : decode cX6_layRing 83 = .ok (.iadd, 1) := by decide +kernel
theorem dX6_layRing_84 : decode cX6_layRing 84 = .ok (.iload_n 3, 1) := by decide +kernel
theorem dX6_layRing_85 : decode cX6_layRing 85 = .ok (.isub, 1) := by decide +kernel
theorem dX6_layRing_86 : decode cX6_layRing 86 = .ok (.iload_n 1, 1) := by decide +kernel
theorem dX6_layRing_87 : decode cX6_layRing 87 = .ok (.iconst 2, 1) := by decide +kernel
theorem dX6_layRing_88 : decode cX6_layRing 88 = .ok (.invokevirtual 95, 3) := by decide +kernel
theorem dX6_layRing_91 : decode cX6_layRing 91 = .ok (.iinc 4 1, 3) := by decide +kernel
theorem dX6_layRing_94 : decode cX6_layRing 94 = .ok (.goto (-23), 3) := by decide +kernel
theorem dX6_layRing_97 : decode cX6_layRing 97 = .ok (.aload_n 0, 1) := by decide +kernel
theorem dX6_layRing_98 : decode cX6_layRing 98 = .ok (.dup, 1) := by decide +kernel
theorem dX6_layRing_99 : decode cX6_layRing 99 = .ok (.getfield 88, 3) := by decide +kernel
theorem dX6_layRing_102 : decode cX6_layRing 102 = .ok (.iconst 1, 1) := by decide +kernel
theorem dX6_layRing_103 : decode cX6_layRing 103 = .ok (.iadd, 1) := by decide +kernel
theorem dX6_layRing_104 : decode cX6_layRing 104 = .ok (.putfield 88, 3) := by decide +kernel
theorem dX6_layRing_107 : decode cX6_layRing 107 = .ok (.iinc 3 1, 3) := by decide +kernel
theorem dX6_layRing_110 : decode cX6_layRing 110 = .ok (.goto (-49), 3) := by decide +kernel
theorem dX6_layRing_113 : decode cX6_layRing 113 = .ok (.return_, 1) := by decide +kernel
theorem dX6_takeNext_0 : decode cX6_takeNext 0 = .ok (.iconst 0, 1) := by decide +kernel
theorem dX6_takeNext_1 : decode cX6_takeNext 1 = .ok (.istore_n 2, 1) := by decide +kernel
theorem dX6_takeNext_2 : decode cX6_takeNext 2 = .ok (.iload_n 2, 1) := by decide +kernel
theorem dX6_takeNext_3 : decode cX6_takeNext 3 = .ok (.iload_n 1, 1) := by decide +kernel
theorem dX6_takeNext_4 : decode cX6_takeNext 4 = .ok (.if_icmp .ge 33, 3) := by decide +kernel
theorem dX6_takeNext_7 : decode cX6_takeNext 7 = .ok (.aload_n 0, 1) := by decide +kernel
theorem dX6_takeNext_8 : decode cX6_takeNext 8 = .ok (.getfield 38, 3) := by decide +kernel
theorem dX6_takeNext_11 : decode cX6_takeNext 11 = .ok (.iload_n 2, 1) := by decide +kernel
theorem dX6_takeNext_12 : decode cX6_takeNext 12 = .ok (.aload_n 0, 1) := by decide +kernel
theorem dX6_takeNext_13 : decode cX6_takeNext 13 = .ok (.getfield 44, 3) := by decide +kernel
theorem dX6_takeNext_16 : decode cX6_takeNext 16 = .ok (.iload_n 2, 1) := by decide +kernel
theorem dX6_takeNext_17 : decode cX6_takeNext 17 = .ok (.iaload, 1) := by decide +kernel
theorem dX6_takeNext_18 : decode cX6_takeNext 18 = .ok (.iastore, 1) := by decide +kernel
theorem dX6_takeNext_19 : decode cX6_takeNext 19 = .ok (.aload_n 0, 1) := by decide +kernel
theorem dX6_takeNext_20 : decode cX6_takeNext 20 = .ok (.getfield 41, 3) := by decide +kernel
theorem dX6_takeNext_23 : decode cX6_takeNext 23 = .ok (.iload_n 2, 1) := by decide +kernel
theorem dX6_takeNext_24 : decode cX6_takeNext 24 = .ok (.aload_n 0, 1) := by decide +kernel
theorem dX6_takeNext_25 : decode cX6_takeNext 25 = .ok (.getfield 47, 3) := by decide +kernel
theorem dX6_takeNext_28 : decode cX6_takeNext 28 = .ok (.iload_n 2, 1) := by decide +kernel
theorem dX6_takeNext_29 : decode cX6_takeNext 29 = .ok (.iaload, 1) := by decide +kernel
theorem dX6_takeNext_30 : decode cX6_takeNext 30 = .ok (.iastore, 1) := by decide +kernel
theorem dX6_takeNext_31 : decode cX6_takeNext 31 = .ok (.iinc 2 1, 3) := by decide +kernel
theorem dX6_takeNext_34 : decode cX6_takeNext 34 = .ok (.goto (-32), 3) := by decide +kernel
theorem dX6_takeNext_37 : decode cX6_takeNext 37 = .ok (.aload_n 0, 1) := by decide +kernel
theorem dX6_takeNext_38 : decode cX6_takeNext 38 = .ok (.dup, 1) := by decide +kernel
theorem dX6_takeNext_39 : decode cX6_takeNext 39 = .ok (.getfield 88, 3) := by decide +kernel
theorem dX6_takeNext_42 : decode cX6_takeNext 42 = .ok (.iconst 1, 1) := by decide +kernel
theorem dX6_takeNext_43 : decode cX6_takeNext 43 = .ok (.iadd, 1) := by decide +kernel
theorem dX6_takeNext_44 : decode cX6_takeNext 44 = .ok (.putfield 88, 3) := by decide +kernel
theorem dX6_takeNext_47 : decode cX6_takeNext 47 = .ok (.return_, 1) := by decide +kernel
theorem dX6_halve_0 : decode cX6_halve 0 = .ok (.iconst 0, 1) := by decide +kernel
theorem dX6_halve_1 : decode cX6_halve 1 = .ok (.istore_n 3, 1) := by decide +kernel
theorem dX6_halve_2 : decode cX6_halve 2 = .ok (.iload_n 3, 1) := by decide +kernel
theorem dX6_halve_3 : decode cX6_halve 3 = .ok (.iload_n 1, 1) := by decide +kernel
theorem dX6_halve_4 : decode cX6_halve 4 = .ok (.if_icmp .ge 146, 3) := by decide +kernel
theorem dX6_halve_7 : decode cX6_halve 7 = .ok (.iload_n 3, 1) := by decide +kernel
theorem dX6_halve_8 : decode cX6_halve 8 = .ok (.iload_n 2, 1) := by decide +kernel
theorem dX6_halve_9 : decode cX6_halve 9 = .ok (.iand, 1) := by decide +kernel
theorem dX6_halve_10 : decode cX6_halve 10 = .ok (.ifCond .eq 7, 3) := by decide +kernel
theorem dX6_halve_13 : decode cX6_halve 13 = .ok (.iconst 1, 1) := by decide +kernel
theorem dX6_halve_14 : decode cX6_halve 14 = .ok (.goto 4, 3) := by decide +kernel
theorem dX6_halve_17 : decode cX6_halve 17 = .ok (.iconst 0, 1) := by decide +kernel
theorem dX6_halve_18 : decode cX6_halve 18 = .ok (.istore 4, 2) := by decide +kernel
theorem dX6_halve_20 : decode cX6_halve 20 = .ok (.aload_n 0, 1) := by decide +kernel
theorem dX6_halve_21 : decode cX6_halve 21 = .ok (.getfield 41, 3) := by decide +kernel
theorem dX6_halve_24 : decode cX6_halve 24 = .ok (.iload_n 3, 1) := by decide +kernel
theorem dX6_halve_25 : decode cX6_halve 25 = .ok (.iaload, 1) := by decide +kernel
theorem dX6_halve_26 : decode cX6_halve 26 = .ok (.iconst 2, 1) := by decide +kernel
theorem dX6_halve_27 : decode cX6_halve 27 = .ok (.idiv, 1) := by decide +kernel
theorem dX6_halve_28 : decode cX6_halve 28 = .ok (.istore 5, 2) := by decide +kernel
theorem dX6_halve_30 : decode cX6_halve 30 = .ok (.aload_n 0, 1) := by decide +kernel
theorem dX6_halve_31 : decode cX6_halve 31 = .ok (.getfield 44, 3) := by decide +kernel
theorem dX6_halve_34 : decode cX6_halve 34 = .ok (.iload_n 3, 1) := by decide +kernel
theorem dX6_halve_35 : decode cX6_halve 35 = .ok (.iload 4, 2) := by decide +kernel
theorem dX6_halve_37 : decode cX6_halve 37 = .ok (.ifCond .eq 15, 3) := by decide +kernel
theorem dX6_halve_40 : decode cX6_halve 40 = .ok (.aload_n 0, 1) := by decide +kernel
theorem dX6_halve_41 : decode cX6_halve 41 = .ok (.getfield 38, 3) := by decide +kernel
theorem dX6_halve_44 : decode cX6_halve 44 = .ok (.iload_n 3, 1) := by decide +kernel
theorem dX6_halve_45 : decode cX6_halve 45 = .ok (.iaload, 1) := by decide +kernel
theorem dX6_halve_46 : decode cX6_halve 46 = .ok (.iload 5, 2) := by decide +kernel
theorem dX6_halve_48 : decode cX6_halve 48 = .ok (.iadd, 1) := by decide +kernel
theorem dX6_halve_49 : decode cX6_halve 49 = .ok (.goto 9, 3) := by decide +kernel
theorem dX6_halve_52 : decode cX6_halve 52 = .ok (.aload_n 0, 1) := by decide +kernel
theorem dX6_halve_53 : decode cX6_halve 53 = .ok (.getfield 38, 3) := by decide +kernel
theorem dX6_halve_56 : decode cX6_halve 56 = .ok (.iload_n 3, 1) := by decide +kernel
theorem dX6_halve_57 : decode cX6_halve 57 = .ok (.iaload, 1) := by decide +kernel
theorem dX6_halve_58 : decode cX6_halve 58 = .ok (.iastore, 1) := by decide +kernel
theorem dX6_halve_59 : decode cX6_halve 59 = .ok (.aload_n 0, 1) := by decide +kernel
theorem dX6_halve_60 : decode cX6_halve 60 = .ok (.getfield 47, 3) := by decide +kernel
theorem dX6_halve_63 : decode cX6_halve 63 = .ok (.iload_n 3, 1) := by decide +kernel
theorem dX6_halve_64 : decode cX6_halve 64 = .ok (.iload 4, 2) := by decide +kernel
theorem dX6_halve_66 : decode cX6_halve 66 = .ok (.ifCond .eq 15, 3) := by decide +kernel
theorem dX6_halve_69 : decode cX6_halve 69 = .ok (.aload_n 0, 1) := by decide +kernel
theorem dX6_halve_70 : decode cX6_halve 70 = .ok (.getfield 41, 3) := by decide +kernel
theorem dX6_halve_73 : decode cX6_halve 73 = .ok (.iload_n 3, 1) := by decide +kernel
theorem dX6_halve_74 : decode cX6_halve 74 = .ok (.iaload, 1) := by decide +kernel
theorem dX6_halve_75 : decode cX6_halve 75 = .ok (.iload 5, 2) := by decide +kernel
theorem dX6_halve_77 : decode cX6_halve 77 = .ok (.isub, 1) := by decide +kernel
theorem dX6_halve_78 : decode cX6_halve 78 = .ok (.goto 5, 3) := by decide +kernel
theorem dX6_halve_81 : decode cX6_halve 81 = .ok (.iload 5, 2) := by decide +kernel
theorem dX6_halve_83 : decode cX6_halve 83 = .ok (.iastore, 1) := by decide +kernel
theorem dX6_halve_84 : decode cX6_halve 84 = .ok (.aload_n 0, 1) := by decide +kernel
theorem dX6_halve_85 : decode cX6_halve 85 = .ok (.iload_n 3, 1) := by decide +kernel
theorem dX6_halve_86 : decode cX6_halve 86 = .ok (.iload_n 3, 1) := by decide +kernel
theorem dX6_halve_87 : decode cX6_halve 87 = .ok (.iload_n 2, 1) := by decide +kernel
theorem dX6_halve_88 : decode cX6_halve 88 = .ok (.ixor, 1) := by decide +kernel
theorem dX6_halve_89 : decode cX6_halve 89 = .ok (.iload 4, 2) := by decide +kernel
theorem dX6_halve_91 : decode cX6_halve 91 = .ok (.ifCond .eq 12, 3) := by decide +kernel
theorem dX6_halve_94 : decode cX6_halve 94 = .ok (.aload_n 0, 1) := by decide +kernel
theorem dX6_halve_95 : decode cX6_halve 95 = .ok (.getfield 38, 3) := by decide +kernel
theorem dX6_halve_98 : decode cX6_halve 98 = .ok (.iload_n 3, 1) := by decide +kernel
theorem dX6_halve_99 : decode cX6_halve 99 = .ok (.iaload, 1) := by decide +kernel
theorem dX6_halve_100 : decode cX6_halve 100 = .ok (.goto 12, 3) := by decide +kernel
theorem dX6_halve_103 : decode cX6_halve 103 = .ok (.aload_n 0, 1) := by decide +kernel
theorem dX6_halve_104 : decode cX6_halve 104 = .ok (.getfield 38, 3) := by decide +kernel
theorem dX6_halve_107 : decode cX6_halve 107 = .ok (.iload_n 3, 1) := by decide +kernel
theorem dX6_halve_108 : decode cX6_halve 108 = .ok (.iaload, 1) := by decide +kernel
theorem dX6_halve_109 : decode cX6_halve 109 = .ok (.iload 5, 2) := by decide +kernel
theorem dX6_halve_111 : decode cX6_halve 111 = .ok (.iadd, 1) := by decide +kernel
theorem dX6_halve_112 : decode cX6_halve 112 = .ok (.iload 4, 2) := by decide +kernel
theorem dX6_halve_114 : decode cX6_halve 114 = .ok (.ifCond .eq 8, 3) := by decide +kernel
theorem dX6_halve_117 : decode cX6_halve 117 = .ok (.iload 5, 2) := by decide +kernel
theorem dX6_halve_119 : decode cX6_halve 119 = .ok (.goto 12, 3) := by decide +kernel
theorem dX6_halve_122 : decode cX6_halve 122 = .ok (.aload_n 0, 1) := by decide +kernel
theorem dX6_halve_123 : decode cX6_halve 123 = .ok (.getfield 41, 3) := by decide +kernel
theorem dX6_halve_126 : decode cX6_halve 126 = .ok (.iload_n 3, 1) := by decide +kernel
theorem dX6_halve_127 : decode cX6_halve 127 = .ok (.iaload, 1) := by decide +kernel
theorem dX6_halve_128 : decode cX6_halve 128 = .ok (.iload 5, 2) := by decide +kernel
theorem dX6_halve_130 : decode cX6_halve 130 = .ok (.isub, 1) := by decide +kernel
theorem dX6_halve_131 : decode cX6_halve 131 = .ok (.iload 4, 2) := by decide +kernel
theorem dX6_halve_133 : decode cX6_halve 133 = .ok (.ifCond .eq 7, 3) := by decide +kernel
theorem dX6_halve_136 : decode cX6_halve 136 = .ok (.iconst 0, 1) := by decide +kernel
theorem dX6_halve_137 : decode cX6_halve 137 = .ok (.goto 4, 3) := by decide +kernel
theorem dX6_halve_140 : decode cX6_halve 140 = .ok (.iconst 1, 1) := by decide +kernel
theorem dX6_halve_141 : decode cX6_halve 141 = .ok (.invokevirtual 91, 3) := by decide +kernel
theorem dX6_halve_144 : decode cX6_halve 144 = .ok (.iinc 3 1, 3) := by decide +kernel
theorem dX6_halve_147 : decode cX6_halve 147 = .ok (.goto (-145), 3) := by decide +kernel
theorem dX6_halve_150 : decode cX6_halve 150 = .ok (.aload_n 0, 1) := by decide +kernel
theorem dX6_halve_151 : decode cX6_halve 151 = .ok (.iload_n 1, 1) := by decide +kernel
theorem dX6_halve_152 : decode cX6_halve 152 = .ok (.invokevirtual 99, 3) := by decide +kernel
theorem dX6_halve_155 : decode cX6_halve 155 = .ok (.return_, 1) := by decide +kernel
theorem dX6_doubleUp_0 : decode cX6_doubleUp 0 = .ok (.iconst 0, 1) := by decide +kernel
theorem dX6_doubleUp_1 : decode cX6_doubleUp 1 = .ok (.istore_n 3, 1) := by decide +kernel
theorem dX6_doubleUp_2 : decode cX6_doubleUp 2 = .ok (.iload_n 3, 1) := by decide +kernel
theorem dX6_doubleUp_3 : decode cX6_doubleUp 3 = .ok (.iload_n 1, 1) := by decide +kernel
theorem dX6_doubleUp_4 : decode cX6_doubleUp 4 = .ok (.if_icmp .ge 67, 3) := by decide +kernel
theorem dX6_doubleUp_7 : decode cX6_doubleUp 7 = .ok (.aload_n 0, 1) := by decide +kernel
theorem dX6_doubleUp_8 : decode cX6_doubleUp 8 = .ok (.getfield 44, 3) := by decide +kernel
theorem dX6_doubleUp_11 : decode cX6_doubleUp 11 = .ok (.iload_n 3, 1) := by decide +kernel
theorem dX6_doubleUp_12 : decode cX6_doubleUp 12 = .ok (.aload_n 0, 1) := by decide +kernel
theorem dX6_doubleUp_13 : decode cX6_doubleUp 13 = .ok (.getfield 38, 3) := by decide +kernel
theorem dX6_doubleUp_16 : decode cX6_doubleUp 16 = .ok (.iload_n 3, 1) := by decide +kernel
theorem dX6_doubleUp_17 : decode cX6_doubleUp 17 = .ok (.iload_n 2, 1) := by decide +kernel
theorem dX6_doubleUp_18 : decode cX6_doubleUp 18 = .ok (.iconst (-1), 1) := by decide +kernel
theorem dX6_doubleUp_19 : decode cX6_doubleUp 19 = .ok (.ixor, 1) := by decide +kernel
theorem dX6_doubleUp_20 : decode cX6_doubleUp 20 = .ok (.iand, 1) := by decide +kernel
theorem dX6_doubleUp_21 : decode cX6_doubleUp 21 = .ok (.iaload, 1) := by decide +kernel
theorem dX6_doubleUp_22 : decode cX6_doubleUp 22 = .ok (.iastore, 1) := by decide +kernel
theorem dX6_doubleUp_23 : decode cX6_doubleUp 23 = .ok (.aload_n 0, 1) := by decide +kernel
theorem dX6_doubleUp_24 : decode cX6_doubleUp 24 = .ok (.getfield 47, 3) := by decide +kernel
theorem dX6_doubleUp_27 : decode cX6_doubleUp 27 = .ok (.iload_n 3, 1) := by decide +kernel
theorem dX6_doubleUp_28 : decode cX6_doubleUp 28 = .ok (.aload_n 0, 1) := by decide +kernel
theorem dX6_doubleUp_29 : decode cX6_doubleUp 29 = .ok (.getfield 41, 3) := by decide +kernel
theorem dX6_doubleUp_32 : decode cX6_doubleUp 32 = .ok (.iload_n 3, 1) := by decide +kernel
theorem dX6_doubleUp_33 : decode cX6_doubleUp 33 = .ok (.iaload, 1) := by decide +kernel
theorem dX6_doubleUp_34 : decode cX6_doubleUp 34 = .ok (.aload_n 0, 1) := by decide +kernel
theorem dX6_doubleUp_35 : decode cX6_doubleUp 35 = .ok (.getfield 41, 3) := by decide +kernel
theorem dX6_doubleUp_38 : decode cX6_doubleUp 38 = .ok (.iload_n 3, 1) := by decide +kernel
theorem dX6_doubleUp_39 : decode cX6_doubleUp 39 = .ok (.iload_n 2, 1) := by decide +kernel
theorem dX6_doubleUp_40 : decode cX6_doubleUp 40 = .ok (.ixor, 1) := by decide +kernel
theorem dX6_doubleUp_41 : decode cX6_doubleUp 41 = .ok (.iaload, 1) := by decide +kernel
theorem dX6_doubleUp_42 : decode cX6_doubleUp 42 = .ok (.iadd, 1) := by decide +kernel
theorem dX6_doubleUp_43 : decode cX6_doubleUp 43 = .ok (.iastore, 1) := by decide +kernel
theorem dX6_doubleUp_44 : decode cX6_doubleUp 44 = .ok (.aload_n 0, 1) := by decide +kernel
theorem dX6_doubleUp_45 : decode cX6_doubleUp 45 = .ok (.iload_n 3, 1) := by decide +kernel
theorem dX6_doubleUp_46 : decode cX6_doubleUp 46 = .ok (.iload_n 3, 1) := by decide +kernel
theorem dX6_doubleUp_47 : decode cX6_doubleUp 47 = .ok (.iload_n 2, 1) := by decide +kernel
theorem dX6_doubleUp_48 : decode cX6_doubleUp 48 = .ok (.ixor, 1) := by decide +kernel
theorem dX6_doubleUp_49 : decode cX6_doubleUp 49 = .ok (.aload_n 0, 1) := by decide +kernel
theorem dX6_doubleUp_50 : decode cX6_doubleUp 50 = .ok (.getfield 38, 3) := by decide +kernel
theorem dX6_doubleUp_53 : decode cX6_doubleUp 53 = .ok (.iload_n 3, 1) := by decide +kernel
theorem dX6_doubleUp_54 : decode cX6_doubleUp 54 = .ok (.iaload, 1) := by decide +kernel
theorem dX6_doubleUp_55 : decode cX6_doubleUp 55 = .ok (.aload_n 0, 1) := by decide +kernel
theorem dX6_doubleUp_56 : decode cX6_doubleUp 56 = .ok (.getfield 41, 3) := by decide +kernel
theorem dX6_doubleUp_59 : decode cX6_doubleUp 59 = .ok (.iload_n 3, 1) := by decide +kernel
theorem dX6_doubleUp_60 : decode cX6_doubleUp 60 = .ok (.iaload, 1) := by decide +kernel
theorem dX6_doubleUp_61 : decode cX6_doubleUp 61 = .ok (.iconst 2, 1) := by decide +kernel
theorem dX6_doubleUp_62 : decode cX6_doubleUp 62 = .ok (.invokevirtual 91, 3) := by decide +kernel
theorem dX6_doubleUp_65 : decode cX6_doubleUp 65 = .ok (.iinc 3 1, 3) := by decide +kernel
theorem dX6_doubleUp_68 : decode cX6_doubleUp 68 = .ok (.goto (-66), 3) := by decide +kernel
theorem dX6_doubleUp_71 : decode cX6_doubleUp 71 = .ok (.aload_n 0, 1) := by decide +kernel
theorem dX6_doubleUp_72 : decode cX6_doubleUp 72 = .ok (.iload_n 1, 1) := by decide +kernel
theorem dX6_doubleUp_73 : decode cX6_doubleUp 73 = .ok (.invokevirtual 99, 3) := by decide +kernel
theorem dX6_doubleUp_76 : decode cX6_doubleUp 76 = .ok (.return_, 1) := by decide +kernel
theorem dX6_layHalves_0 : decode cX6_layHalves 0 = .ok (.aload_n 0, 1) := by decide +kernel
theorem dX6_layHalves_1 : decode cX6_layHalves 1 = .ok (.getfield 7, 3) := by decide +kernel
theorem dX6_layHalves_4 : decode cX6_layHalves 4 = .ok (.iconst 0, 1) := by decide +kernel
theorem dX6_layHalves_5 : decode cX6_layHalves 5 = .ok (.iaload, 1) := by decide +kernel
theorem dX6_layHalves_6 : decode cX6_layHalves 6 = .ok (.istore_n 2, 1) := by decide +kernel
theorem dX6_layHalves_7 : decode cX6_layHalves 7 = .ok (.iload_n 2, 1) := by decide +kernel
theorem dX6_layHalves_8 : decode cX6_layHalves 8 = .ok (.bipush 8, 2) := by decide +kernel
theorem dX6_layHalves_10 : decode cX6_layHalves 10 = .ok (.if_icmp .lt 8, 3) := by decide +kernel
theorem dX6_layHalves_13 : decode cX6_layHalves 13 = .ok (.bipush 8, 2) := by decide +kernel
theorem dX6_layHalves_15 : decode cX6_layHalves 15 = .ok (.goto 13, 3) := by decide +kernel
theorem dX6_layHalves_18 : decode cX6_layHalves 18 = .ok (.iload_n 2, 1) := by decide +kernel
theorem dX6_layHalves_19 : decode cX6_layHalves 19 = .ok (.iconst 4, 1) := by decide +kernel
theorem dX6_layHalves_20 : decode cX6_layHalves 20 = .ok (.if_icmp .lt 7, 3) := by decide +kernel
theorem dX6_layHalves_23 : decode cX6_layHalves 23 = .ok (.iconst 4, 1) := by decide +kernel
theorem dX6_layHalves_24 : decode cX6_layHalves 24 = .ok (.goto 4, 3) := by decide +kernel
theorem dX6_layHalves_27 : decode cX6_layHalves 27 = .ok (.iconst 2, 1) := by decide +kernel
theorem dX6_layHalves_28 : decode cX6_layHalves 28 = .ok (.istore_n 3, 1) := by decide +kernel
theorem dX6_layHalves_29 : decode cX6_layHalves 29 = .ok (.iload_n 3, 1) := by decide +kernel
theorem dX6_layHalves_30 : decode cX6_layHalves 30 = .ok (.istore 4, 2) := by decide +kernel
theorem dX6_layHalves_32 : decode cX6_layHalves 32 = .ok (.iload 4, 2) := by decide +kernel
theorem dX6_layHalves_34 : decode cX6_layHalves 34 = .ok (.iload_n 2, 1) := by decide +kernel
theorem dX6_layHalves_35 : decode cX6_layHalves 35 = .ok (.if_icmp .ge 22, 3) := by decide +kernel
theorem dX6_layHalves_38 : decode cX6_layHalves 38 = .ok (.aload_n 0, 1) := by decide +kernel
theorem dX6_layHalves_39 : decode cX6_layHalves 39 = .ok (.iload 4, 2) := by decide +kernel
theorem dX6_layHalves_41 : decode cX6_layHalves 41 = .ok (.iload 4, 2) := by decide +kernel
theorem dX6_layHalves_43 : decode cX6_layHalves 43 = .ok (.iload_n 3, 1) := by decide +kernel
theorem dX6_layHalves_44 : decode cX6_layHalves 44 = .ok (.isub, 1) := by decide +kernel
theorem dX6_layHalves_45 : decode cX6_layHalves 45 = .ok (.iconst 0, 1) := by decide +kernel
theorem dX6_layHalves_46 : decode cX6_layHalves 46 = .ok (.iload_n 1, 1) := by decide +kernel
theorem dX6_layHalves_47 : decode cX6_layHalves 47 = .ok (.iconst 0, 1) := by decide +kernel
theorem dX6_layHalves_48 : decode cX6_layHalves 48 = .ok (.invokevirtual 91, 3) := by decide +kernel
theorem dX6_layHalves_51 : decode cX6_layHalves 51 = .ok (.iinc 4 1, 3) := by decide +kernel
theorem dX6_layHalves_54 : decode cX6_layHalves 54 = .ok (.goto (-22), 3) := by decide +kernel
theorem dX6_layHalves_57 : decode cX6_layHalves 57 = .ok (.aload_n 0, 1) := by decide +kernel
theorem dX6_layHalves_58 : decode cX6_layHalves 58 = .ok (.dup, 1) := by decide +kernel
theorem dX6_layHalves_59 : decode cX6_layHalves 59 = .ok (.getfield 88, 3) := by decide +kernel
theorem dX6_layHalves_62 : decode cX6_layHalves 62 = .ok (.iload_n 2, 1) := by decide +kernel
theorem dX6_layHalves_63 : decode cX6_layHalves 63 = .ok (.iload_n 3, 1) := by decide +kernel
theorem dX6_layHalves_64 : decode cX6_layHalves 64 = .ok (.if_icmp .le 7, 3) := by decide +kernel
theorem dX6_layHalves_67 : decode cX6_layHalves 67 = .ok (.iconst 1, 1) := by decide +kernel
theorem dX6_layHalves_68 : decode cX6_layHalves 68 = .ok (.goto 4, 3) := by decide +kernel
theorem dX6_layHalves_71 : decode cX6_layHalves 71 = .ok (.iconst 0, 1) := by decide +kernel
theorem dX6_layHalves_72 : decode cX6_layHalves 72 = .ok (.iadd, 1) := by decide +kernel
theorem dX6_layHalves_73 : decode cX6_layHalves 73 = .ok (.putfield 88, 3) := by decide +kernel
theorem dX6_layHalves_76 : decode cX6_layHalves 76 = .ok (.iconst 0, 1) := by decide +kernel
theorem dX6_layHalves_77 : decode cX6_layHalves 77 = .ok (.istore 4, 2) := by decide +kernel
theorem dX6_layHalves_79 : decode cX6_layHalves 79 = .ok (.iload 4, 2) := by decide +kernel
theorem dX6_layHalves_81 : decode cX6_layHalves 81 = .ok (.iload_n 3, 1) := by decide +kernel
theorem dX6_layHalves_82 : decode cX6_layHalves 82 = .ok (.if_icmp .ge 25, 3) := by decide +kernel
theorem dX6_layHalves_85 : decode cX6_layHalves 85 = .ok (.aload_n 0, 1) := by decide +kernel
theorem dX6_layHalves_86 : decode cX6_layHalves 86 = .ok (.getfield 38, 3) := by decide +kernel
theorem dX6_layHalves_89 : decode cX6_layHalves 89 = .ok (.iload 4, 2) := by decide +kernel
theorem dX6_layHalves_91 : decode cX6_layHalves 91 = .ok (.iconst 0, 1) := by decide +kernel
theorem dX6_layHalves_92 : decode cX6_layHalves 92 = .ok (.iastore, 1) := by decide +kernel
theorem dX6_layHalves_93 : decode cX6_layHalves 93 = .ok (.aload_n 0, 1) := by decide +kernel
theorem dX6_layHalves_94 : decode cX6_layHalves 94 = .ok (.getfield 41, 3) := by decide +kernel
theorem dX6_layHalves_97 : decode cX6_layHalves 97 = .ok (.iload 4, 2) := by decide +kernel
theorem dX6_layHalves_99 : decode cX6_layHalves 99 = .ok (.iload_n 1, 1) := by decide +kernel
theorem dX6_layHalves_100 : decode cX6_layHalves 100 = .ok (.iastore, 1) := by decide +kernel
theorem dX6_layHalves_101 : decode cX6_layHalves 101 = .ok (.iinc 4 1, 3) := by decide +kernel
theorem dX6_layHalves_104 : decode cX6_layHalves 104 = .ok (.goto (-25), 3) := by decide +kernel
theorem dX6_layHalves_107 : decode cX6_layHalves 107 = .ok (.iload_n 3, 1) := by decide +kernel
theorem dX6_layHalves_108 : decode cX6_layHalves 108 = .ok (.iconst 2, 1) := by decide +kernel
theorem dX6_layHalves_109 : decode cX6_layHalves 109 = .ok (.idiv, 1) := by decide +kernel
theorem dX6_layHalves_110 : decode cX6_layHalves 110 = .ok (.istore 4, 2) := by decide +kernel
theorem dX6_layHalves_112 : decode cX6_layHalves 112 = .ok (.iload 4, 2) := by decide +kernel
theorem dX6_layHalves_114 : decode cX6_layHalves 114 = .ok (.ifCond .le 19, 3) := by decide +kernel
theorem dX6_layHalves_117 : decode cX6_layHalves 117 = .ok (.aload_n 0, 1) := by decide +kernel
theorem dX6_layHalves_118 : decode cX6_layHalves 118 = .ok (.iload_n 3, 1) := by decide +kernel
theorem dX6_layHalves_119 : decode cX6_layHalves 119 = .ok (.iload 4, 2) := by decide +kernel
theorem dX6_layHalves_121 : decode cX6_layHalves 121 = .ok (.invokevirtual 103, 3) := by decide +kernel
theorem dX6_layHalves_124 : decode cX6_layHalves 124 = .ok (.iload 4, 2) := by decide +kernel
theorem dX6_layHalves_126 : decode cX6_layHalves 126 = .ok (.iconst 2, 1) := by decide +kernel
theorem dX6_layHalves_127 : decode cX6_layHalves 127 = .ok (.idiv, 1) := by decide +kernel
theorem dX6_layHalves_128 : decode cX6_layHalves 128 = .ok (.istore 4, 2) := by decide +kernel
theorem dX6_layHalves_130 : decode cX6_layHalves 130 = .ok (.goto (-18), 3) := by decide +kernel
theorem dX6_layHalves_133 : decode cX6_layHalves 133 = .ok (.iconst 1, 1) := by decide +kernel
theorem dX6_layHalves_134 : decode cX6_layHalves 134 = .ok (.istore 4, 2) := by decide +kernel
theorem dX6_layHalves_136 : decode cX6_layHalves 136 = .ok (.iload 4, 2) := by decide +kernel
theorem dX6_layHalves_138 : decode cX6_layHalves 138 = .ok (.iload_n 3, 1) := by decide +kernel
theorem dX6_layHalves_139 : decode cX6_layHalves 139 = .ok (.if_icmp .ge 19, 3) := by decide +kernel
theorem dX6_layHalves_142 : decode cX6_layHalves 142 = .ok (.aload_n 0, 1) := by decide +kernel
theorem dX6_layHalves_143 : decode cX6_layHalves 143 = .ok (.iload_n 3, 1) := by decide +kernel
theorem dX6_layHalves_144 : decode cX6_layHalves 144 = .ok (.iload 4, 2) := by decide +kernel
theorem dX6_layHalves_146 : decode cX6_layHalves 146 = .ok (.invokevirtual 106, 3) := by decide +kernel
theorem dX6_layHalves_149 : decode cX6_layHalves 149 = .ok (.iload 4, 2) := by decide +kernel
theorem dX6_layHalves_151 : decode cX6_layHalves 151 = .ok (.iconst 2, 1) := by decide +kernel
theorem dX6_layHalves_152 : decode cX6_layHalves 152 = .ok (.imul, 1) := by decide +kernel
theorem dX6_layHalves_153 : decode cX6_layHalves 153 = .ok (.istore 4, 2) := by decide +kernel
theorem dX6_layHalves_155 : decode cX6_layHalves 155 = .ok (.goto (-19), 3) := by decide +kernel
theorem dX6_layHalves_158 : decode cX6_layHalves 158 = .ok (.iconst 0, 1) := by decide +kernel
theorem dX6_layHalves_159 : decode cX6_layHalves 159 = .ok (.istore 4, 2) := by decide +kernel
theorem dX6_layHalves_161 : decode cX6_layHalves 161 = .ok (.iload 4, 2) := by decide +kernel
theorem dX6_layHalves_163 : decode cX6_layHalves 163 = .ok (.iload_n 3, 1) := by decide +kernel
theorem dX6_layHalves_164 : decode cX6_layHalves 164 = .ok (.iadd, 1) := by decide +kernel
theorem dX6_layHalves_165 : decode cX6_layHalves 165 = .ok (.iload_n 2, 1) := by decide +kernel
theorem dX6_layHalves_166 : decode cX6_layHalves 166 = .ok (.if_icmp .ge 22, 3) := by decide +kernel
theorem dX6_layHalves_169 : decode cX6_layHalves 169 = .ok (.aload_n 0, 1) := by decide +kernel
theorem dX6_layHalves_170 : decode cX6_layHalves 170 = .ok (.iload 4, 2) := by decide +kernel
theorem dX6_layHalves_172 : decode cX6_layHalves 172 = .ok (.iload 4, 2) := by decide +kernel
theorem dX6_layHalves_174 : decode cX6_layHalves 174 = .ok (.iload_n 3, 1) := by decide +kernel
theorem dX6_layHalves_175 : decode cX6_layHalves 175 = .ok (.iadd, 1) := by decide +kernel
theorem dX6_layHalves_176 : decode cX6_layHalves 176 = .ok (.iconst 0, 1) := by decide +kernel
theorem dX6_layHalves_177 : decode cX6_layHalves 177 = .ok (.iload_n 1, 1) := by decide +kernel
theorem dX6_layHalves_178 : decode cX6_layHalves 178 = .ok (.iconst 2, 1) := by decide +kernel
theorem dX6_layHalves_179 : decode cX6_layHalves 179 = .ok (.invokevirtual 91, 3) := by decide +kernel
theorem dX6_layHalves_182 : decode cX6_layHalves 182 = .ok (.iinc 4 1, 3) := by decide +kernel
theorem dX6_layHalves_185 : decode cX6_layHalves 185 = .ok (.goto (-24), 3) := by decide +kernel
theorem dX6_layHalves_188 : decode cX6_layHalves 188 = .ok (.aload_n 0, 1) := by decide +kernel
theorem dX6_layHalves_189 : decode cX6_layHalves 189 = .ok (.dup, 1) := by decide +kernel
theorem dX6_layHalves_190 : decode cX6_layHalves 190 = .ok (.getfield 88, 3) := by decide +kernel
theorem dX6_layHalves_193 : decode cX6_layHalves 193 = .ok (.iload_n 2, 1) := by decide +kernel
theorem dX6_layHalves_194 : decode cX6_layHalves 194 = .ok (.iload_n 3, 1) := by decide +kernel
theorem dX6_layHalves_195 : decode cX6_layHalves 195 = .ok (.if_icmp .le 7, 3) := by decide +kernel
theorem dX6_layHalves_198 : decode cX6_layHalves 198 = .ok (.iconst 1, 1) := by decide +kernel
theorem dX6_layHalves_199 : decode cX6_layHalves 199 = .ok (.goto 4, 3) := by decide +kernel
theorem dX6_layHalves_202 : decode cX6_layHalves 202 = .ok (.iconst 0, 1) := by decide +kernel
theorem dX6_layHalves_203 : decode cX6_layHalves 203 = .ok (.iadd, 1) := by decide +kernel
theorem dX6_layHalves_204 : decode cX6_layHalves 204 = .ok (.putfield 88, 3) := by decide +kernel
theorem dX6_layHalves_207 : decode cX6_layHalves 207 = .ok (.return_, 1) := by decide +kernel
theorem dX6_levelOf_0 : decode cX6_levelOf 0 = .ok (.iconst 0, 1) := by decide +kernel
theorem dX6_levelOf_1 : decode cX6_levelOf 1 = .ok (.istore_n 1, 1) := by decide +kernel
theorem dX6_levelOf_2 : decode cX6_levelOf 2 = .ok (.iload_n 0, 1) := by decide +kernel
theorem dX6_levelOf_3 : decode cX6_levelOf 3 = .ok (.istore_n 2, 1) := by decide +kernel
theorem dX6_levelOf_4 : decode cX6_levelOf 4 = .ok (.iload_n 2, 1) := by decide +kernel
theorem dX6_levelOf_5 : decode cX6_levelOf 5 = .ok (.ifCond .le 15, 3) := by decide +kernel
theorem dX6_levelOf_8 : decode cX6_levelOf 8 = .ok (.iinc 1 1, 3) := by decide +kernel
theorem dX6_levelOf_11 : decode cX6_levelOf 11 = .ok (.iload_n 2, 1) := by decide +kernel
theorem dX6_levelOf_12 : decode cX6_levelOf 12 = .ok (.iconst 1, 1) := by decide +kernel
theorem dX6_levelOf_13 : decode cX6_levelOf 13 = .ok (.isub, 1) := by decide +kernel
theorem dX6_levelOf_14 : decode cX6_levelOf 14 = .ok (.iconst 2, 1) := by decide +kernel
theorem dX6_levelOf_15 : decode cX6_levelOf 15 = .ok (.idiv, 1) := by decide +kernel
theorem dX6_levelOf_16 : decode cX6_levelOf 16 = .ok (.istore_n 2, 1) := by decide +kernel
theorem dX6_levelOf_17 : decode cX6_levelOf 17 = .ok (.goto (-13), 3) := by decide +kernel
theorem dX6_levelOf_20 : decode cX6_levelOf 20 = .ok (.iload_n 1, 1) := by decide +kernel
theorem dX6_levelOf_21 : decode cX6_levelOf 21 = .ok (.ireturn, 1) := by decide +kernel
theorem dX6_layTree_0 : decode cX6_layTree 0 = .ok (.aload_n 0, 1) := by decide +kernel
theorem dX6_layTree_1 : decode cX6_layTree 1 = .ok (.getfield 7, 3) := by decide +kernel
theorem dX6_layTree_4 : decode cX6_layTree 4 = .ok (.iconst 0, 1) := by decide +kernel
theorem dX6_layTree_5 : decode cX6_layTree 5 = .ok (.iaload, 1) := by decide +kernel
theorem dX6_layTree_6 : decode cX6_layTree 6 = .ok (.istore_n 2, 1) := by decide +kernel
theorem dX6_layTree_7 : decode cX6_layTree 7 = .ok (.iload_n 2, 1) := by decide +kernel
theorem dX6_layTree_8 : decode cX6_layTree 8 = .ok (.iconst 1, 1) := by decide +kernel
theorem dX6_layTree_9 : decode cX6_layTree 9 = .ok (.isub, 1) := by decide +kernel
theorem dX6_layTree_10 : decode cX6_layTree 10 = .ok (.invokestatic 109, 3) := by decide +kernel
theorem dX6_layTree_13 : decode cX6_layTree 13 = .ok (.istore_n 3, 1) := by decide +kernel
theorem dX6_layTree_14 : decode cX6_layTree 14 = .ok (.iload_n 3, 1) := by decide +kernel
theorem dX6_layTree_15 : decode cX6_layTree 15 = .ok (.istore 4, 2) := by decide +kernel
theorem dX6_layTree_17 : decode cX6_layTree 17 = .ok (.iload 4, 2) := by decide +kernel
theorem dX6_layTree_19 : decode cX6_layTree 19 = .ok (.ifCond .le 59, 3) := by decide +kernel
theorem dX6_layTree_22 : decode cX6_layTree 22 = .ok (.iconst 1, 1) := by decide +kernel
theorem dX6_layTree_23 : decode cX6_layTree 23 = .ok (.istore 5, 2) := by decide +kernel
theorem dX6_layTree_25 : decode cX6_layTree 25 = .ok (.iload 5, 2) := by decide +kernel
theorem dX6_layTree_27 : decode cX6_layTree 27 = .ok (.iload_n 2, 1) := by decide +kernel
theorem dX6_layTree_28 : decode cX6_layTree 28 = .ok (.if_icmp .ge 34, 3) := by decide +kernel
theorem dX6_layTree_31 : decode cX6_layTree 31 = .ok (.iload 5, 2) := by decide +kernel
theorem dX6_layTree_33 : decode cX6_layTree 33 = .ok (.invokestatic 109, 3) := by decide +kernel
theorem dX6_layTree_36 : decode cX6_layTree 36 = .ok (.iload 4, 2) := by decide +kernel
theorem dX6_layTree_38 : decode cX6_layTree 38 = .ok (.if_icmp .ne 18, 3) := by decide +kernel
theorem dX6_layTree_41 : decode cX6_layTree 41 = .ok (.aload_n 0, 1) := by decide +kernel
theorem dX6_layTree_42 : decode cX6_layTree 42 = .ok (.iload 5, 2) := by decide +kernel
theorem dX6_layTree_44 : decode cX6_layTree 44 = .ok (.iload 5, 2) := by decide +kernel
theorem dX6_layTree_46 : decode cX6_layTree 46 = .ok (.iconst 1, 1) := by decide +kernel
theorem dX6_layTree_47 : decode cX6_layTree 47 = .ok (.isub, 1) := by decide +kernel
theorem dX6_layTree_48 : decode cX6_layTree 48 = .ok (.iconst 2, 1) := by decide +kernel
theorem dX6_layTree_49 : decode cX6_layTree 49 = .ok (.idiv, 1) := by decide +kernel
theorem dX6_layTree_50 : decode cX6_layTree 50 = .ok (.iconst 0, 1) := by decide +kernel
theorem dX6_layTree_51 : decode cX6_layTree 51 = .ok (.iload_n 1, 1) := by decide +kernel
theorem dX6_layTree_52 : decode cX6_layTree 52 = .ok (.iconst 0, 1) := by decide +kernel
theorem dX6_layTree_53 : decode cX6_layTree 53 = .ok (.invokevirtual 91, 3) := by decide +kernel
theorem dX6_layTree_56 : decode cX6_layTree 56 = .ok (.iinc 5 1, 3) := by decide +kernel
theorem dX6_layTree_59 : decode cX6_layTree 59 = .ok (.goto (-34), 3) := by decide +kernel
theorem dX6_layTree_62 : decode cX6_layTree 62 = .ok (.aload_n 0, 1) := by decide +kernel
theorem dX6_layTree_63 : decode cX6_layTree 63 = .ok (.dup, 1) := by decide +kernel
theorem dX6_layTree_64 : decode cX6_layTree 64 = .ok (.getfield 88, 3) := by decide +kernel
theorem dX6_layTree_67 : decode cX6_layTree 67 = .ok (.iconst 1, 1) := by decide +kernel
theorem dX6_layTree_68 : decode cX6_layTree 68 = .ok (.iadd, 1) := by decide +kernel
theorem dX6_layTree_69 : decode cX6_layTree 69 = .ok (.putfield 88, 3) := by decide +kernel
theorem dX6_layTree_72 : decode cX6_layTree 72 = .ok (.iinc 4 (-1), 3) := by decide +kernel
theorem dX6_layTree_75 : decode cX6_layTree 75 = .ok (.goto (-58), 3) := by decide +kernel
theorem dX6_layTree_78 : decode cX6_layTree 78 = .ok (.iconst 1, 1) := by decide +kernel
theorem dX6_layTree_79 : decode cX6_layTree 79 = .ok (.istore 4, 2) := by decide +kernel
theorem dX6_layTree_81 : decode cX6_layTree 81 = .ok (.iload 4, 2) := by decide +kernel
theorem dX6_layTree_83 : decode cX6_layTree 83 = .ok (.iload_n 3, 1) := by decide +kernel
theorem dX6_layTree_84 : decode cX6_layTree 84 = .ok (.if_icmp .gt 59, 3) := by decide +kernel
theorem dX6_layTree_87 : decode cX6_layTree 87 = .ok (.iconst 1, 1) := by decide +kernel
theorem dX6_layTree_88 : decode cX6_layTree 88 = .ok (.istore 5, 2) := by decide +kernel
theorem dX6_layTree_90 : decode cX6_layTree 90 = .ok (.iload 5, 2) := by decide +kernel
theorem dX6_layTree_92 : decode cX6_layTree 92 = .ok (.iload_n 2, 1) := by decide +kernel
theorem dX6_layTree_93 : decode cX6_layTree 93 = .ok (.if_icmp .ge 34, 3) := by decide +kernel
theorem dX6_layTree_96 : decode cX6_layTree 96 = .ok (.iload 5, 2) := by decide +kernel
theorem dX6_layTree_98 : decode cX6_layTree 98 = .ok (.invokestatic 109, 3) := by decide +kernel
theorem dX6_layTree_101 : decode cX6_layTree 101 = .ok (.iload 4, 2) := by decide +kernel
theorem dX6_layTree_103 : decode cX6_layTree 103 = .ok (.if_icmp .ne 18, 3) := by decide +kernel
theorem dX6_layTree_106 : decode cX6_layTree 106 = .ok (.aload_n 0, 1) := by decide +kernel
theorem dX6_layTree_107 : decode cX6_layTree 107 = .ok (.iload 5, 2) := by decide +kernel
theorem dX6_layTree_109 : decode cX6_layTree 109 = .ok (.iconst 1, 1) := by decide +kernel
theorem dX6_layTree_110 : decode cX6_layTree 110 = .ok (.isub, 1) := by decide +kernel
theorem dX6_layTree_111 : decode cX6_layTree 111 = .ok (.iconst 2, 1) := by decide +kernel
theorem dX6_layTree_112 : decode cX6_layTree 112 = .ok (.idiv, 1) := by decide +kernel
theorem dX6_layTree_113 : decode cX6_layTree 113 = .ok (.iload 5, 2) := by decide +kernel
theorem dX6_layTree_115 : decode cX6_layTree 115 = .ok (.iconst 0, 1) := by decide +kernel
theorem dX6_layTree_116 : decode cX6_layTree 116 = .ok (.iload_n 1, 1) := by decide +kernel
theorem dX6_layTree_117 : decode cX6_layTree 117 = .ok (.iconst 2, 1) := by decide +kernel
theorem dX6_layTree_118 : decode cX6_layTree 118 = .ok (.invokevirtual 91, 3) := by decide +kernel
theorem dX6_layTree_121 : decode cX6_layTree 121 = .ok (.iinc 5 1, 3) := by decide +kernel
theorem dX6_layTree_124 : decode cX6_layTree 124 = .ok (.goto (-34), 3) := by decide +kernel
theorem dX6_layTree_127 : decode cX6_layTree 127 = .ok (.aload_n 0, 1) := by decide +kernel
theorem dX6_layTree_128 : decode cX6_layTree 128 = .ok (.dup, 1) := by decide +kernel
theorem dX6_layTree_129 : decode cX6_layTree 129 = .ok (.getfield 88, 3) := by decide +kernel
theorem dX6_layTree_132 : decode cX6_layTree 132 = .ok (.iconst 1, 1) := by decide +kernel
theorem dX6_layTree_133 : decode cX6_layTree 133 = .ok (.iadd, 1) := by decide +kernel
theorem dX6_layTree_134 : decode cX6_layTree 134 = .ok (.putfield 88, 3) := by decide +kernel
theorem dX6_layTree_137 : decode cX6_layTree 137 = .ok (.iinc 4 1, 3) := by decide +kernel
theorem dX6_layTree_140 : decode cX6_layTree 140 = .ok (.goto (-59), 3) := by decide +kernel
theorem dX6_layTree_143 : decode cX6_layTree 143 = .ok (.return_, 1) := by decide +kernel
theorem dX6_layEach_0 : decode cX6_layEach 0 = .ok (.iconst 1, 1) := by decide +kernel
theorem dX6_layEach_1 : decode cX6_layEach 1 = .ok (.istore_n 2, 1) := by decide +kernel
theorem dX6_layEach_2 : decode cX6_layEach 2 = .ok (.iload_n 2, 1) := by decide +kernel
theorem dX6_layEach_3 : decode cX6_layEach 3 = .ok (.aload_n 0, 1) := by decide +kernel
theorem dX6_layEach_4 : decode cX6_layEach 4 = .ok (.getfield 7, 3) := by decide +kernel
theorem dX6_layEach_7 : decode cX6_layEach 7 = .ok (.iconst 0, 1) := by decide +kernel
theorem dX6_layEach_8 : decode cX6_layEach 8 = .ok (.iaload, 1) := by decide +kernel
theorem dX6_layEach_9 : decode cX6_layEach 9 = .ok (.if_icmp .ge 18, 3) := by decide +kernel
theorem dX6_layEach_12 : decode cX6_layEach 12 = .ok (.aload_n 0, 1) := by decide +kernel
theorem dX6_layEach_13 : decode cX6_layEach 13 = .ok (.iload_n 2, 1) := by decide +kernel
theorem dX6_layEach_14 : decode cX6_layEach 14 = .ok (.iconst 0, 1) := by decide +kernel
theorem dX6_layEach_15 : decode cX6_layEach 15 = .ok (.iconst 0, 1) := by decide +kernel
theorem dX6_layEach_16 : decode cX6_layEach 16 = .ok (.iload_n 1, 1) := by decide +kernel
theorem dX6_layEach_17 : decode cX6_layEach 17 = .ok (.iconst 0, 1) := by decide +kernel
theorem dX6_layEach_18 : decode cX6_layEach 18 = .ok (.invokevirtual 91, 3) := by decide +kernel
theorem dX6_layEach_21 : decode cX6_layEach 21 = .ok (.iinc 2 1, 3) := by decide +kernel
theorem dX6_layEach_24 : decode cX6_layEach 24 = .ok (.goto (-22), 3) := by decide +kernel
theorem dX6_layEach_27 : decode cX6_layEach 27 = .ok (.aload_n 0, 1) := by decide +kernel
theorem dX6_layEach_28 : decode cX6_layEach 28 = .ok (.dup, 1) := by decide +kernel
theorem dX6_layEach_29 : decode cX6_layEach 29 = .ok (.getfield 88, 3) := by decide +kernel
theorem dX6_layEach_32 : decode cX6_layEach 32 = .ok (.iconst 1, 1) := by decide +kernel
theorem dX6_layEach_33 : decode cX6_layEach 33 = .ok (.iadd, 1) := by decide +kernel
theorem dX6_layEach_34 : decode cX6_layEach 34 = .ok (.putfield 88, 3) := by decide +kernel
theorem dX6_layEach_37 : decode cX6_layEach 37 = .ok (.iconst 1, 1) := by decide +kernel
theorem dX6_layEach_38 : decode cX6_layEach 38 = .ok (.istore_n 2, 1) := by decide +kernel
theorem dX6_layEach_39 : decode cX6_layEach 39 = .ok (.iload_n 2, 1) := by decide +kernel
theorem dX6_layEach_40 : decode cX6_layEach 40 = .ok (.aload_n 0, 1) := by decide +kernel
theorem dX6_layEach_41 : decode cX6_layEach 41 = .ok (.getfield 7, 3) := by decide +kernel
theorem dX6_layEach_44 : decode cX6_layEach 44 = .ok (.iconst 0, 1) := by decide +kernel
theorem dX6_layEach_45 : decode cX6_layEach 45 = .ok (.iaload, 1) := by decide +kernel
theorem dX6_layEach_46 : decode cX6_layEach 46 = .ok (.if_icmp .ge 18, 3) := by decide +kernel
theorem dX6_layEach_49 : decode cX6_layEach 49 = .ok (.aload_n 0, 1) := by decide +kernel
theorem dX6_layEach_50 : decode cX6_layEach 50 = .ok (.iconst 0, 1) := by decide +kernel
theorem dX6_layEach_51 : decode cX6_layEach 51 = .ok (.iload_n 2, 1) := by decide +kernel
theorem dX6_layEach_52 : decode cX6_layEach 52 = .ok (.iconst 0, 1) := by decide +kernel
theorem dX6_layEach_53 : decode cX6_layEach 53 = .ok (.iload_n 1, 1) := by decide +kernel
theorem dX6_layEach_54 : decode cX6_layEach 54 = .ok (.iconst 2, 1) := by decide +kernel
theorem dX6_layEach_55 : decode cX6_layEach 55 = .ok (.invokevirtual 91, 3) := by decide +kernel
theorem dX6_layEach_58 : decode cX6_layEach 58 = .ok (.iinc 2 1, 3) := by decide +kernel
theorem dX6_layEach_61 : decode cX6_layEach 61 = .ok (.goto (-22), 3) := by decide +kernel
theorem dX6_layEach_64 : decode cX6_layEach 64 = .ok (.aload_n 0, 1) := by decide +kernel
theorem dX6_layEach_65 : decode cX6_layEach 65 = .ok (.dup, 1) := by decide +kernel
theorem dX6_layEach_66 : decode cX6_layEach 66 = .ok (.getfield 88, 3) := by decide +kernel
theorem dX6_layEach_69 : decode cX6_layEach 69 = .ok (.iconst 1, 1) := by decide +kernel
theorem dX6_layEach_70 : decode cX6_layEach 70 = .ok (.iadd, 1) := by decide +kernel
theorem dX6_layEach_71 : decode cX6_layEach 71 = .ok (.putfield 88, 3) := by decide +kernel
theorem dX6_layEach_74 : decode cX6_layEach 74 = .ok (.return_, 1) := by decide +kernel
theorem dX6_lay_0 : decode cX6_lay 0 = .ok (.aload_n 0, 1) := by decide +kernel
theorem dX6_lay_1 : decode cX6_lay 1 = .ok (.iconst 0, 1) := by decide +kernel
theorem dX6_lay_2 : decode cX6_lay 2 = .ok (.putfield 84, 3) := by decide +kernel
theorem dX6_lay_5 : decode cX6_lay 5 = .ok (.aload_n 0, 1) := by decide +kernel
theorem dX6_lay_6 : decode cX6_lay 6 = .ok (.iconst 0, 1) := by decide +kernel
theorem dX6_lay_7 : decode cX6_lay 7 = .ok (.putfield 88, 3) := by decide +kernel
theorem dX6_lay_10 : decode cX6_lay 10 = .ok (.iload_n 1, 1) := by decide +kernel
theorem dX6_lay_11 : decode cX6_lay 11 = .ok (.tableswitch 49 0 2 #[25, 33, 41], 25) := by decide +kernel
theorem dX6_lay_36 : decode cX6_lay 36 = .ok (.aload_n 0, 1) := by decide +kernel
theorem dX6_lay_37 : decode cX6_lay 37 = .ok (.iload_n 2, 1) := by decide +kernel
theorem dX6_lay_38 : decode cX6_lay 38 = .ok (.invokevirtual 113, 3) := by decide +kernel
theorem dX6_lay_41 : decode cX6_lay 41 = .ok (.goto 24, 3) := by decide +kernel
theorem dX6_lay_44 : decode cX6_lay 44 = .ok (.aload_n 0, 1) := by decide +kernel
theorem dX6_lay_45 : decode cX6_lay 45 = .ok (.iload_n 2, 1) := by decide +kernel
theorem dX6_lay_46 : decode cX6_lay 46 = .ok (.invokevirtual 116, 3) := by decide +kernel
theorem dX6_lay_49 : decode cX6_lay 49 = .ok (.goto 16, 3) := by decide +kernel
theorem dX6_lay_52 : decode cX6_lay 52 = .ok (.aload_n 0, 1) := by decide +kernel
theorem dX6_lay_53 : decode cX6_lay 53 = .ok (.iload_n 2, 1) := by decide +kernel
theorem dX6_lay_54 : decode cX6_lay 54 = .ok (.invokevirtual 119, 3) := by decide +kernel
theorem dX6_lay_57 : decode cX6_lay 57 = .ok (.goto 8, 3) := by decide +kernel
theorem dX6_lay_60 : decode cX6_lay 60 = .ok (.aload_n 0, 1) := by decide +kernel
theorem dX6_lay_61 : decode cX6_lay 61 = .ok (.iload_n 2, 1) := by decide +kernel
theorem dX6_lay_62 : decode cX6_lay 62 = .ok (.invokevirtual 122, 3) := by decide +kernel
theorem dX6_lay_65 : decode cX6_lay 65 = .ok (.return_, 1) := by decide +kernel
theorem dX6_mixed_0 : decode cX6_mixed 0 = .ok (.aload_n 0, 1) := by decide +kernel
theorem dX6_mixed_1 : decode cX6_mixed 1 = .ok (.getfield 7, 3) := by decide +kernel
theorem dX6_mixed_4 : decode cX6_mixed 4 = .ok (.iconst 2, 1) := by decide +kernel
theorem dX6_mixed_5 : decode cX6_mixed 5 = .ok (.iaload, 1) := by decide +kernel
theorem dX6_mixed_6 : decode cX6_mixed 6 = .ok (.ifCond .ne 13, 3) := by decide +kernel
theorem dX6_mixed_9 : decode cX6_mixed 9 = .ok (.iload_n 1, 1) := by decide +kernel
theorem dX6_mixed_10 : decode cX6_mixed 10 = .ok (.iload_n 2, 1) := by decide +kernel
theorem dX6_mixed_11 : decode cX6_mixed 11 = .ok (.iadd, 1) := by decide +kernel
theorem dX6_mixed_12 : decode cX6_mixed 12 = .ok (.sipush 997, 3) := by decide +kernel
theorem dX6_mixed_15 : decode cX6_mixed 15 = .ok (.irem, 1) := by decide +kernel
theorem dX6_mixed_16 : decode cX6_mixed 16 = .ok (.goto 36, 3) := by decide +kernel
theorem dX6_mixed_19 : decode cX6_mixed 19 = .ok (.aload_n 0, 1) := by decide +kernel
theorem dX6_mixed_20 : decode cX6_mixed 20 = .ok (.getfield 7, 3) := by decide +kernel
theorem dX6_mixed_23 : decode cX6_mixed 23 = .ok (.iconst 2, 1) := by decide +kernel
theorem dX6_mixed_24 : decode cX6_mixed 24 = .ok (.iaload, 1) := by decide +kernel
theorem dX6_mixed_25 : decode cX6_mixed 25 = .ok (.iconst 1, 1) := by decide +kernel
theorem dX6_mixed_26 : decode cX6_mixed 26 = .ok (.if_icmp .ne 16, 3) := by decide +kernel
theorem dX6_mixed_29 : decode cX6_mixed 29 = .ok (.iload_n 1, 1) := by decide +kernel
theorem dX6_mixed_30 : decode cX6_mixed 30 = .ok (.iload_n 2, 1) := by decide +kernel
theorem dX6_mixed_31 : decode cX6_mixed 31 = .ok (.if_icmp .le 7, 3) := by decide +kernel
theorem dX6_mixed_34 : decode cX6_mixed 34 = .ok (.iload_n 1, 1) := by decide +kernel
theorem dX6_mixed_35 : decode cX6_mixed 35 = .ok (.goto 17, 3) := by decide +kernel
theorem dX6_mixed_38 : decode cX6_mixed 38 = .ok (.iload_n 2, 1) := by decide +kernel
theorem dX6_mixed_39 : decode cX6_mixed 39 = .ok (.goto 13, 3) := by decide +kernel
theorem dX6_mixed_42 : decode cX6_mixed 42 = .ok (.bipush 31, 2) := by decide +kernel
theorem dX6_mixed_44 : decode cX6_mixed 44 = .ok (.iload_n 1, 1) := by decide +kernel
theorem dX6_mixed_45 : decode cX6_mixed 45 = .ok (.imul, 1) := by decide +kernel
theorem dX6_mixed_46 : decode cX6_mixed 46 = .ok (.iload_n 2, 1) := by decide +kernel
theorem dX6_mixed_47 : decode cX6_mixed 47 = .ok (.iadd, 1) := by decide +kernel
theorem dX6_mixed_48 : decode cX6_mixed 48 = .ok (.sipush 997, 3) := by decide +kernel
theorem dX6_mixed_51 : decode cX6_mixed 51 = .ok (.irem, 1) := by decide +kernel
theorem dX6_mixed_52 : decode cX6_mixed 52 = .ok (.ireturn, 1) := by decide +kernel
theorem dX6_come_0 : decode cX6_come 0 = .ok (.aload_n 0, 1) := by decide +kernel
theorem dX6_come_1 : decode cX6_come 1 = .ok (.getfield 29, 3) := by decide +kernel
theorem dX6_come_4 : decode cX6_come 4 = .ok (.iload_n 1, 1) := by decide +kernel
theorem dX6_come_5 : decode cX6_come 5 = .ok (.iaload, 1) := by decide +kernel
theorem dX6_come_6 : decode cX6_come 6 = .ok (.istore_n 2, 1) := by decide +kernel
theorem dX6_come_7 : decode cX6_come 7 = .ok (.iload_n 2, 1) := by decide +kernel
theorem dX6_come_8 : decode cX6_come 8 = .ok (.aload_n 0, 1) := by decide +kernel
theorem dX6_come_9 : decode cX6_come 9 = .ok (.getfield 29, 3) := by decide +kernel
theorem dX6_come_12 : decode cX6_come 12 = .ok (.iload_n 1, 1) := by decide +kernel
theorem dX6_come_13 : decode cX6_come 13 = .ok (.iaload, 1) := by decide +kernel
theorem dX6_come_14 : decode cX6_come 14 = .ok (.aload_n 0, 1) := by decide +kernel
theorem dX6_come_15 : decode cX6_come 15 = .ok (.getfield 32, 3) := by decide +kernel
theorem dX6_come_18 : decode cX6_come 18 = .ok (.iload_n 1, 1) := by decide +kernel
theorem dX6_come_19 : decode cX6_come 19 = .ok (.iaload, 1) := by decide +kernel
theorem dX6_come_20 : decode cX6_come 20 = .ok (.iadd, 1) := by decide +kernel
theorem dX6_come_21 : decode cX6_come 21 = .ok (.if_icmp .ge 97, 3) := by decide +kernel
theorem dX6_come_24 : decode cX6_come 24 = .ok (.aload_n 0, 1) := by decide +kernel
theorem dX6_come_25 : decode cX6_come 25 = .ok (.getfield 53, 3) := by decide +kernel
theorem dX6_come_28 : decode cX6_come 28 = .ok (.aload_n 0, 1) := by decide +kernel
theorem dX6_come_29 : decode cX6_come 29 = .ok (.getfield 23, 3) := by decide +kernel
theorem dX6_come_32 : decode cX6_come 32 = .ok (.iload_n 1, 1) := by decide +kernel
theorem dX6_come_33 : decode cX6_come 33 = .ok (.iaload, 1) := by decide +kernel
theorem dX6_come_34 : decode cX6_come 34 = .ok (.iload_n 2, 1) := by decide +kernel
theorem dX6_come_35 : decode cX6_come 35 = .ok (.invokestatic 80, 3) := by decide +kernel
theorem dX6_come_38 : decode cX6_come 38 = .ok (.iaload, 1) := by decide +kernel
theorem dX6_come_39 : decode cX6_come 39 = .ok (.istore_n 3, 1) := by decide +kernel
theorem dX6_come_40 : decode cX6_come 40 = .ok (.aload_n 0, 1) := by decide +kernel
theorem dX6_come_41 : decode cX6_come 41 = .ok (.getfield 50, 3) := by decide +kernel
theorem dX6_come_44 : decode cX6_come 44 = .ok (.aload_n 0, 1) := by decide +kernel
theorem dX6_come_45 : decode cX6_come 45 = .ok (.getfield 26, 3) := by decide +kernel
theorem dX6_come_48 : decode cX6_come 48 = .ok (.iload_n 1, 1) := by decide +kernel
theorem dX6_come_49 : decode cX6_come 49 = .ok (.iaload, 1) := by decide +kernel
theorem dX6_come_50 : decode cX6_come 50 = .ok (.iload_n 2, 1) := by decide +kernel
theorem dX6_come_51 : decode cX6_come 51 = .ok (.invokestatic 80, 3) := by decide +kernel
theorem dX6_come_54 : decode cX6_come 54 = .ok (.iaload, 1) := by decide +kernel
theorem dX6_come_55 : decode cX6_come 55 = .ok (.istore 4, 2) := by decide +kernel
theorem dX6_come_57 : decode cX6_come 57 = .ok (.aload_n 0, 1) := by decide +kernel
theorem dX6_come_58 : decode cX6_come 58 = .ok (.getfield 50, 3) := by decide +kernel
theorem dX6_come_61 : decode cX6_come 61 = .ok (.aload_n 0, 1) := by decide +kernel
theorem dX6_come_62 : decode cX6_come 62 = .ok (.getfield 26, 3) := by decide +kernel
theorem dX6_come_65 : decode cX6_come 65 = .ok (.iload_n 1, 1) := by decide +kernel
theorem dX6_come_66 : decode cX6_come 66 = .ok (.iaload, 1) := by decide +kernel
theorem dX6_come_67 : decode cX6_come 67 = .ok (.iload_n 2, 1) := by decide +kernel
theorem dX6_come_68 : decode cX6_come 68 = .ok (.invokestatic 80, 3) := by decide +kernel
theorem dX6_come_71 : decode cX6_come 71 = .ok (.aload_n 0, 1) := by decide +kernel
theorem dX6_come_72 : decode cX6_come 72 = .ok (.getfield 35, 3) := by decide +kernel
theorem dX6_come_75 : decode cX6_come 75 = .ok (.iload_n 1, 1) := by decide +kernel
theorem dX6_come_76 : decode cX6_come 76 = .ok (.iaload, 1) := by decide +kernel
theorem dX6_come_77 : decode cX6_come 77 = .ok (.ifCond .ne 13, 3) := by decide +kernel
theorem dX6_come_80 : decode cX6_come 80 = .ok (.aload_n 0, 1) := by decide +kernel
theorem dX6_come_81 : decode cX6_come 81 = .ok (.iload 4, 2) := by decide +kernel
theorem dX6_come_83 : decode cX6_come 83 = .ok (.iload_n 3, 1) := by decide +kernel
theorem dX6_come_84 : decode cX6_come 84 = .ok (.invokevirtual 125, 3) := by decide +kernel
theorem dX6_come_87 : decode cX6_come 87 = .ok (.goto 24, 3) := by decide +kernel
theorem dX6_come_90 : decode cX6_come 90 = .ok (.aload_n 0, 1) := by decide +kernel
theorem dX6_come_91 : decode cX6_come 91 = .ok (.getfield 35, 3) := by decide +kernel
theorem dX6_come_94 : decode cX6_come 94 = .ok (.iload_n 1, 1) := by decide +kernel
theorem dX6_come_95 : decode cX6_come 95 = .ok (.iaload, 1) := by decide +kernel
theorem dX6_come_96 : decode cX6_come 96 = .ok (.iconst 1, 1) := by decide +kernel
theorem dX6_come_97 : decode cX6_come 97 = .ok (.if_icmp .ne 13, 3) := by decide +kernel
theorem dX6_come_100 : decode cX6_come 100 = .ok (.aload_n 0, 1) := by decide +kernel
theorem dX6_come_101 : decode cX6_come 101 = .ok (.iload_n 3, 1) := by decide +kernel
theorem dX6_come_102 : decode cX6_come 102 = .ok (.iload 4, 2) := by decide +kernel
theorem dX6_come_104 : decode cX6_come 104 = .ok (.invokevirtual 125, 3) := by decide +kernel
theorem dX6_come_107 : decode cX6_come 107 = .ok (.goto 4, 3) := by decide +kernel
theorem dX6_come_110 : decode cX6_come 110 = .ok (.iload_n 3, 1) := by decide +kernel
theorem dX6_come_111 : decode cX6_come 111 = .ok (.iastore, 1) := by decide +kernel
theorem dX6_come_112 : decode cX6_come 112 = .ok (.iinc 2 1, 3) := by decide +kernel
theorem dX6_come_115 : decode cX6_come 115 = .ok (.goto (-108), 3) := by decide +kernel
theorem dX6_come_118 : decode cX6_come 118 = .ok (.return_, 1) := by decide +kernel
theorem dX6_beginRound_0 : decode cX6_beginRound 0 = .ok (.iconst 0, 1) := by decide +kernel
theorem dX6_beginRound_1 : decode cX6_beginRound 1 = .ok (.istore_n 1, 1) := by decide +kernel
theorem dX6_beginRound_2 : decode cX6_beginRound 2 = .ok (.iload_n 1, 1) := by decide +kernel
theorem dX6_beginRound_3 : decode cX6_beginRound 3 = .ok (.bipush 108, 2) := by decide +kernel
theorem dX6_beginRound_5 : decode cX6_beginRound 5 = .ok (.if_icmp .ge 21, 3) := by decide +kernel
theorem dX6_beginRound_8 : decode cX6_beginRound 8 = .ok (.aload_n 0, 1) := by decide +kernel
theorem dX6_beginRound_9 : decode cX6_beginRound 9 = .ok (.getfield 53, 3) := by decide +kernel
theorem dX6_beginRound_12 : decode cX6_beginRound 12 = .ok (.iload_n 1, 1) := by decide +kernel
theorem dX6_beginRound_13 : decode cX6_beginRound 13 = .ok (.aload_n 0, 1) := by decide +kernel
theorem dX6_beginRound_14 : decode cX6_beginRound 14 = .ok (.getfield 50, 3) := by decide +kernel
theorem dX6_beginRound_17 : decode cX6_beginRound 17 = .ok (.iload_n 1, 1) := by decide +kernel
theorem dX6_beginRound_18 : decode cX6_beginRound 18 = .ok (.iaload, 1) := by decide +kernel
theorem dX6_beginRound_19 : decode cX6_beginRound 19 = .ok (.iastore, 1) := by decide +kernel
theorem dX6_beginRound_20 : decode cX6_beginRound 20 = .ok (.iinc 1 1, 3) := by decide +kernel
theorem dX6_beginRound_23 : decode cX6_beginRound 23 = .ok (.goto (-21), 3) := by decide +kernel
theorem dX6_beginRound_26 : decode cX6_beginRound 26 = .ok (.return_, 1) := by decide +kernel
theorem dX6_go_0 : decode cX6_go 0 = .ok (.iconst 0, 1) := by decide +kernel
theorem dX6_go_1 : decode cX6_go 1 = .ok (.istore_n 3, 1) := by decide +kernel
theorem dX6_go_2 : decode cX6_go 2 = .ok (.iload_n 3, 1) := by decide +kernel
theorem dX6_go_3 : decode cX6_go 3 = .ok (.bipush 108, 2) := by decide +kernel
theorem dX6_go_5 : decode cX6_go 5 = .ok (.if_icmp .ge 24, 3) := by decide +kernel
theorem dX6_go_8 : decode cX6_go 8 = .ok (.aload_n 0, 1) := by decide +kernel
theorem dX6_go_9 : decode cX6_go 9 = .ok (.getfield 50, 3) := by decide +kernel
theorem dX6_go_12 : decode cX6_go 12 = .ok (.iload_n 3, 1) := by decide +kernel
theorem dX6_go_13 : decode cX6_go 13 = .ok (.aload_n 0, 1) := by decide +kernel
theorem dX6_go_14 : decode cX6_go 14 = .ok (.getfield 7, 3) := by decide +kernel
theorem dX6_go_17 : decode cX6_go 17 = .ok (.bipush 86, 2) := by decide +kernel
theorem dX6_go_19 : decode cX6_go 19 = .ok (.iload_n 3, 1) := by decide +kernel
theorem dX6_go_20 : decode cX6_go 20 = .ok (.iadd, 1) := by decide +kernel
theorem dX6_go_21 : decode cX6_go 21 = .ok (.iaload, 1) := by decide +kernel
theorem dX6_go_22 : decode cX6_go 22 = .ok (.iastore, 1) := by decide +kernel
theorem dX6_go_23 : decode cX6_go 23 = .ok (.iinc 3 1, 3) := by decide +kernel
theorem dX6_go_26 : decode cX6_go 26 = .ok (.goto (-24), 3) := by decide +kernel
theorem dX6_go_29 : decode cX6_go 29 = .ok (.iconst 0, 1) := by decide +kernel
theorem dX6_go_30 : decode cX6_go 30 = .ok (.istore_n 3, 1) := by decide +kernel
theorem dX6_go_31 : decode cX6_go 31 = .ok (.iload_n 3, 1) := by decide +kernel
theorem dX6_go_32 : decode cX6_go 32 = .ok (.aload_n 0, 1) := by decide +kernel
theorem dX6_go_33 : decode cX6_go 33 = .ok (.getfield 84, 3) := by decide +kernel
theorem dX6_go_36 : decode cX6_go 36 = .ok (.if_icmp .ge 54, 3) := by decide +kernel
theorem dX6_go_39 : decode cX6_go 39 = .ok (.iload_n 3, 1) := by decide +kernel
theorem dX6_go_40 : decode cX6_go 40 = .ok (.ifCond .eq 20, 3) := by decide +kernel
theorem dX6_go_43 : decode cX6_go 43 = .ok (.aload_n 0, 1) := by decide +kernel
theorem dX6_go_44 : decode cX6_go 44 = .ok (.getfield 20, 3) := by decide +kernel
theorem dX6_go_47 : decode cX6_go 47 = .ok (.iload_n 3, 1) := by decide +kernel
theorem dX6_go_48 : decode cX6_go 48 = .ok (.iaload, 1) := by decide +kernel
theorem dX6_go_49 : decode cX6_go 49 = .ok (.aload_n 0, 1) := by decide +kernel
theorem dX6_go_50 : decode cX6_go 50 = .ok (.getfield 20, 3) := by decide +kernel
theorem dX6_go_53 : decode cX6_go 53 = .ok (.iload_n 3, 1) := by decide +kernel
theorem dX6_go_54 : decode cX6_go 54 = .ok (.iconst 1, 1) := by decide +kernel
theorem dX6_go_55 : decode cX6_go 55 = .ok (.isub, 1) := by decide +kernel
theorem dX6_go_56 : decode cX6_go 56 = .ok (.iaload, 1) := by decide +kernel
theorem dX6_go_57 : decode cX6_go 57 = .ok (.if_icmp .eq 7, 3) := by decide +kernel
theorem dX6_go_60 : decode cX6_go 60 = .ok (.aload_n 0, 1) := by decide +kernel
theorem dX6_go_61 : decode cX6_go 61 = .ok (.invokevirtual 128, 3) := by decide +kernel
theorem dX6_go_64 : decode cX6_go 64 = .ok (.aload_n 0, 1) := by decide +kernel
theorem dX6_go_65 : decode cX6_go 65 = .ok (.getfield 20, 3) := by decide +kernel
theorem dX6_go_68 : decode cX6_go 68 = .ok (.iload_n 3, 1) := by decide +kernel
theorem dX6_go_69 : decode cX6_go 69 = .ok (.iaload, 1) := by decide +kernel
theorem dX6_go_70 : decode cX6_go 70 = .ok (.iload_n 1, 1) := by decide +kernel
theorem dX6_go_71 : decode cX6_go 71 = .ok (.if_icmp .ge 13, 3) := by decide +kernel
theorem dX6_go_74 : decode cX6_go 74 = .ok (.iload_n 3, 1) := by decide +kernel
theorem dX6_go_75 : decode cX6_go 75 = .ok (.iload_n 2, 1) := by decide +kernel
theorem dX6_go_76 : decode cX6_go 76 = .ok (.if_icmp .eq 8, 3) := by decide +kernel
theorem dX6_go_79 : decode cX6_go 79 = .ok (.aload_n 0, 1) := by decide +kernel
theorem dX6_go_80 : decode cX6_go 80 = .ok (.iload_n 3, 1) := by decide +kernel
theorem dX6_go_81 : decode cX6_go 81 = .ok (.invokevirtual 131, 3) := by decide +kernel
theorem dX6_go_84 : decode cX6_go 84 = .ok (.iinc 3 1, 3) := by decide +kernel
theorem dX6_go_87 : decode cX6_go 87 = .ok (.goto (-56), 3) := by decide +kernel
theorem dX6_go_90 : decode cX6_go 90 = .ok (.return_, 1) := by decide +kernel
theorem dX6_priceOf_0 : decode cX6_priceOf 0 = .ok (.aload_n 0, 1) := by decide +kernel
theorem dX6_priceOf_1 : decode cX6_priceOf 1 = .ok (.getfield 7, 3) := by decide +kernel
theorem dX6_priceOf_4 : decode cX6_priceOf 4 = .ok (.iconst 3, 1) := by decide +kernel
theorem dX6_priceOf_5 : decode cX6_priceOf 5 = .ok (.iaload, 1) := by decide +kernel
theorem dX6_priceOf_6 : decode cX6_priceOf 6 = .ok (.aload_n 0, 1) := by decide +kernel
theorem dX6_priceOf_7 : decode cX6_priceOf 7 = .ok (.getfield 7, 3) := by decide +kernel
theorem dX6_priceOf_10 : decode cX6_priceOf 10 = .ok (.iconst 4, 1) := by decide +kernel
theorem dX6_priceOf_11 : decode cX6_priceOf 11 = .ok (.iaload, 1) := by decide +kernel
theorem dX6_priceOf_12 : decode cX6_priceOf 12 = .ok (.aload_n 0, 1) := by decide +kernel
theorem dX6_priceOf_13 : decode cX6_priceOf 13 = .ok (.getfield 32, 3) := by decide +kernel
theorem dX6_priceOf_16 : decode cX6_priceOf 16 = .ok (.iload_n 1, 1) := by decide +kernel
theorem dX6_priceOf_17 : decode cX6_priceOf 17 = .ok (.iaload, 1) := by decide +kernel
theorem dX6_priceOf_18 : decode cX6_priceOf 18 = .ok (.imul, 1) := by decide +kernel
theorem dX6_priceOf_19 : decode cX6_priceOf 19 = .ok (.iadd, 1) := by decide +kernel
theorem dX6_priceOf_20 : decode cX6_priceOf 20 = .ok (.aload_n 0, 1) := by decide +kernel
theorem dX6_priceOf_21 : decode cX6_priceOf 21 = .ok (.getfield 7, 3) := by decide +kernel
theorem dX6_priceOf_24 : decode cX6_priceOf 24 = .ok (.iconst 5, 1) := by decide +kernel
theorem dX6_priceOf_25 : decode cX6_priceOf 25 = .ok (.bipush 9, 2) := by decide +kernel
theorem dX6_priceOf_27 : decode cX6_priceOf 27 = .ok (.aload_n 0, 1) := by decide +kernel
theorem dX6_priceOf_28 : decode cX6_priceOf 28 = .ok (.getfield 23, 3) := by decide +kernel
theorem dX6_priceOf_31 : decode cX6_priceOf 31 = .ok (.iload_n 1, 1) := by decide +kernel
theorem dX6_priceOf_32 : decode cX6_priceOf 32 = .ok (.iaload, 1) := by decide +kernel
theorem dX6_priceOf_33 : decode cX6_priceOf 33 = .ok (.imul, 1) := by decide +kernel
theorem dX6_priceOf_34 : decode cX6_priceOf 34 = .ok (.iadd, 1) := by decide +kernel
theorem dX6_priceOf_35 : decode cX6_priceOf 35 = .ok (.aload_n 0, 1) := by decide +kernel
theorem dX6_priceOf_36 : decode cX6_priceOf 36 = .ok (.getfield 26, 3) := by decide +kernel
theorem dX6_priceOf_39 : decode cX6_priceOf 39 = .ok (.iload_n 1, 1) := by decide +kernel
theorem dX6_priceOf_40 : decode cX6_priceOf 40 = .ok (.iaload, 1) := by decide +kernel
theorem dX6_priceOf_41 : decode cX6_priceOf 41 = .ok (.iadd, 1) := by decide +kernel
theorem dX6_priceOf_42 : decode cX6_priceOf 42 = .ok (.iaload, 1) := by decide +kernel
theorem dX6_priceOf_43 : decode cX6_priceOf 43 = .ok (.imul, 1) := by decide +kernel
theorem dX6_priceOf_44 : decode cX6_priceOf 44 = .ok (.ireturn, 1) := by decide +kernel
theorem dX6_endRound_0 : decode cX6_endRound 0 = .ok (.iconst 0, 1) := by decide +kernel
theorem dX6_endRound_1 : decode cX6_endRound 1 = .ok (.istore_n 2, 1) := by decide +kernel
theorem dX6_endRound_2 : decode cX6_endRound 2 = .ok (.iconst 0, 1) := by decide +kernel
theorem dX6_endRound_3 : decode cX6_endRound 3 = .ok (.istore_n 3, 1) := by decide +kernel
theorem dX6_endRound_4 : decode cX6_endRound 4 = .ok (.iload_n 3, 1) := by decide +kernel
theorem dX6_endRound_5 : decode cX6_endRound 5 = .ok (.bipush 9, 2) := by decide +kernel
theorem dX6_endRound_7 : decode cX6_endRound 7 = .ok (.if_icmp .ge 52, 3) := by decide +kernel
theorem dX6_endRound_10 : decode cX6_endRound 10 = .ok (.aload_n 0, 1) := by decide +kernel
theorem dX6_endRound_11 : decode cX6_endRound 11 = .ok (.getfield 56, 3) := by decide +kernel
theorem dX6_endRound_14 : decode cX6_endRound 14 = .ok (.iload_n 3, 1) := by decide +kernel
theorem dX6_endRound_15 : decode cX6_endRound 15 = .ok (.iaload, 1) := by decide +kernel
theorem dX6_endRound_16 : decode cX6_endRound 16 = .ok (.iload_n 2, 1) := by decide +kernel
theorem dX6_endRound_17 : decode cX6_endRound 17 = .ok (.if_icmp .le 12, 3) := by decide +kernel
theorem dX6_endRound_20 : decode cX6_endRound 20 = .ok (.aload_n 0, 1) := by decide +kernel
theorem dX6_endRound_21 : decode cX6_endRound 21 = .ok (.getfield 56, 3) := by decide +kernel
theorem dX6_endRound_24 : decode cX6_endRound 24 = .ok (.iload_n 3, 1) := by decide +kernel
theorem dX6_endRound_25 : decode cX6_endRound 25 = .ok (.iaload, 1) := by decide +kernel
theorem dX6_endRound_26 : decode cX6_endRound 26 = .ok (.goto 4, 3) := by decide +kernel
theorem dX6_endRound_29 : decode cX6_endRound 29 = .ok (.iload_n 2, 1) := by decide +kernel
theorem dX6_endRound_30 : decode cX6_endRound 30 = .ok (.istore_n 2, 1) := by decide +kernel
theorem dX6_endRound_31 : decode cX6_endRound 31 = .ok (.aload_n 0, 1) := by decide +kernel
theorem dX6_endRound_32 : decode cX6_endRound 32 = .ok (.getfield 59, 3) := by decide +kernel
theorem dX6_endRound_35 : decode cX6_endRound 35 = .ok (.iload_n 3, 1) := by decide +kernel
theorem dX6_endRound_36 : decode cX6_endRound 36 = .ok (.dup2, 1) := by decide +kernel
theorem dX6_endRound_37 : decode cX6_endRound 37 = .ok (.iaload, 1) := by decide +kernel
theorem dX6_endRound_38 : decode cX6_endRound 38 = .ok (.aload_n 0, 1) := by decide +kernel
theorem dX6_endRound_39 : decode cX6_endRound 39 = .ok (.getfield 56, 3) := by decide +kernel
theorem dX6_endRound_42 : decode cX6_endRound 42 = .ok (.iload_n 3, 1) := by decide +kernel
theorem dX6_endRound_43 : decode cX6_endRound 43 = .ok (.iaload, 1) := by decide +kernel
theorem dX6_endRound_44 : decode cX6_endRound 44 = .ok (.iadd, 1) := by decide +kernel
theorem dX6_endRound_45 : decode cX6_endRound 45 = .ok (.iastore, 1) := by decide +kernel
theorem dX6_endRound_46 : decode cX6_endRound 46 = .ok (.aload_n 0, 1) := by decide +kernel
theorem dX6_endRound_47 : decode cX6_endRound 47 = .ok (.getfield 56, 3) := by decide +kernel
theorem dX6_endRound_50 : decode cX6_endRound 50 = .ok (.iload_n 3, 1) := by decide +kernel
theorem dX6_endRound_51 : decode cX6_endRound 51 = .ok (.iconst 0, 1) := by decide +kernel
theorem dX6_endRound_52 : decode cX6_endRound 52 = .ok (.iastore, 1) := by decide +kernel
theorem dX6_endRound_53 : decode cX6_endRound 53 = .ok (.iinc 3 1, 3) := by decide +kernel
theorem dX6_endRound_56 : decode cX6_endRound 56 = .ok (.goto (-52), 3) := by decide +kernel
theorem dX6_endRound_59 : decode cX6_endRound 59 = .ok (.iload_n 2, 1) := by decide +kernel
theorem dX6_endRound_60 : decode cX6_endRound 60 = .ok (.aload_n 0, 1) := by decide +kernel
theorem dX6_endRound_61 : decode cX6_endRound 61 = .ok (.getfield 134, 3) := by decide +kernel
theorem dX6_endRound_64 : decode cX6_endRound 64 = .ok (.if_icmp .le 13, 3) := by decide +kernel
theorem dX6_endRound_67 : decode cX6_endRound 67 = .ok (.aload_n 0, 1) := by decide +kernel
theorem dX6_endRound_68 : decode cX6_endRound 68 = .ok (.iload_n 2, 1) := by decide +kernel
theorem dX6_endRound_69 : decode cX6_endRound 69 = .ok (.putfield 134, 3) := by decide +kernel
theorem dX6_endRound_72 : decode cX6_endRound 72 = .ok (.aload_n 0, 1) := by decide +kernel
theorem dX6_endRound_73 : decode cX6_endRound 73 = .ok (.iload_n 1, 1) := by decide +kernel
theorem dX6_endRound_74 : decode cX6_endRound 74 = .ok (.putfield 137, 3) := by decide +kernel
theorem dX6_endRound_77 : decode cX6_endRound 77 = .ok (.aload_n 0, 1) := by decide +kernel
theorem dX6_endRound_78 : decode cX6_endRound 78 = .ok (.dup, 1) := by decide +kernel
theorem dX6_endRound_79 : decode cX6_endRound 79 = .ok (.getfield 140, 3) := by decide +kernel
theorem dX6_endRound_82 : decode cX6_endRound 82 = .ok (.iload_n 2, 1) := by decide +kernel
theorem dX6_endRound_83 : decode cX6_endRound 83 = .ok (.iadd, 1) := by decide +kernel
theorem dX6_endRound_84 : decode cX6_endRound 84 = .ok (.putfield 140, 3) := by decide +kernel
theorem dX6_endRound_87 : decode cX6_endRound 87 = .ok (.return_, 1) := by decide +kernel
theorem dX6_clock_0 : decode cX6_clock 0 = .ok (.aload_n 0, 1) := by decide +kernel
theorem dX6_clock_1 : decode cX6_clock 1 = .ok (.iconst 0, 1) := by decide +kernel
theorem dX6_clock_2 : decode cX6_clock 2 = .ok (.putfield 140, 3) := by decide +kernel
theorem dX6_clock_5 : decode cX6_clock 5 = .ok (.aload_n 0, 1) := by decide +kernel
theorem dX6_clock_6 : decode cX6_clock 6 = .ok (.iconst (-1), 1) := by decide +kernel
theorem dX6_clock_7 : decode cX6_clock 7 = .ok (.putfield 134, 3) := by decide +kernel
theorem dX6_clock_10 : decode cX6_clock 10 = .ok (.aload_n 0, 1) := by decide +kernel
theorem dX6_clock_11 : decode cX6_clock 11 = .ok (.iconst 0, 1) := by decide +kernel
theorem dX6_clock_12 : decode cX6_clock 12 = .ok (.putfield 137, 3) := by decide +kernel
theorem dX6_clock_15 : decode cX6_clock 15 = .ok (.iconst 0, 1) := by decide +kernel
theorem dX6_clock_16 : decode cX6_clock 16 = .ok (.istore_n 1, 1) := by decide +kernel
theorem dX6_clock_17 : decode cX6_clock 17 = .ok (.iload_n 1, 1) := by decide +kernel
theorem dX6_clock_18 : decode cX6_clock 18 = .ok (.bipush 9, 2) := by decide +kernel
theorem dX6_clock_20 : decode cX6_clock 20 = .ok (.if_icmp .ge 23, 3) := by decide +kernel
theorem dX6_clock_23 : decode cX6_clock 23 = .ok (.aload_n 0, 1) := by decide +kernel
theorem dX6_clock_24 : decode cX6_clock 24 = .ok (.getfield 56, 3) := by decide +kernel
theorem dX6_clock_27 : decode cX6_clock 27 = .ok (.iload_n 1, 1) := by decide +kernel
theorem dX6_clock_28 : decode cX6_clock 28 = .ok (.iconst 0, 1) := by decide +kernel
theorem dX6_clock_29 : decode cX6_clock 29 = .ok (.iastore, 1) := by decide +kernel
theorem dX6_clock_30 : decode cX6_clock 30 = .ok (.aload_n 0, 1) := by decide +kernel
theorem dX6_clock_31 : decode cX6_clock 31 = .ok (.getfield 59, 3) := by decide +kernel
theorem dX6_clock_34 : decode cX6_clock 34 = .ok (.iload_n 1, 1) := by decide +kernel
theorem dX6_clock_35 : decode cX6_clock 35 = .ok (.iconst 0, 1) := by decide +kernel
theorem dX6_clock_36 : decode cX6_clock 36 = .ok (.iastore, 1) := by decide +kernel
theorem dX6_clock_37 : decode cX6_clock 37 = .ok (.iinc 1 1, 3) := by decide +kernel
theorem dX6_clock_40 : decode cX6_clock 40 = .ok (.goto (-23), 3) := by decide +kernel
theorem dX6_clock_43 : decode cX6_clock 43 = .ok (.iconst 0, 1) := by decide +kernel
theorem dX6_clock_44 : decode cX6_clock 44 = .ok (.istore_n 1, 1) := by decide +kernel
theorem dX6_clock_45 : decode cX6_clock 45 = .ok (.iload_n 1, 1) := by decide +kernel
theorem dX6_clock_46 : decode cX6_clock 46 = .ok (.aload_n 0, 1) := by decide +kernel
theorem dX6_clock_47 : decode cX6_clock 47 = .ok (.getfield 84, 3) := by decide +kernel
theorem dX6_clock_50 : decode cX6_clock 50 = .ok (.if_icmp .ge 84, 3) := by decide +kernel
theorem dX6_clock_53 : decode cX6_clock 53 = .ok (.aload_n 0, 1) := by decide +kernel
theorem dX6_clock_54 : decode cX6_clock 54 = .ok (.getfield 56, 3) := by decide +kernel
theorem dX6_clock_57 : decode cX6_clock 57 = .ok (.aload_n 0, 1) := by decide +kernel
theorem dX6_clock_58 : decode cX6_clock 58 = .ok (.getfield 23, 3) := by decide +kernel
theorem dX6_clock_61 : decode cX6_clock 61 = .ok (.iload_n 1, 1) := by decide +kernel
theorem dX6_clock_62 : decode cX6_clock 62 = .ok (.iaload, 1) := by decide +kernel
theorem dX6_clock_63 : decode cX6_clock 63 = .ok (.dup2, 1) := by decide +kernel
theorem dX6_clock_64 : decode cX6_clock 64 = .ok (.iaload, 1) := by decide +kernel
theorem dX6_clock_65 : decode cX6_clock 65 = .ok (.aload_n 0, 1) := by decide +kernel
theorem dX6_clock_66 : decode cX6_clock 66 = .ok (.iload_n 1, 1) := by decide +kernel
theorem dX6_clock_67 : decode cX6_clock 67 = .ok (.invokevirtual 143, 3) := by decide +kernel
theorem dX6_clock_70 : decode cX6_clock 70 = .ok (.iadd, 1) := by decide +kernel
theorem dX6_clock_71 : decode cX6_clock 71 = .ok (.iastore, 1) := by decide +kernel
theorem dX6_clock_72 : decode cX6_clock 72 = .ok (.aload_n 0, 1) := by decide +kernel
theorem dX6_clock_73 : decode cX6_clock 73 = .ok (.getfield 56, 3) := by decide +kernel
theorem dX6_clock_76 : decode cX6_clock 76 = .ok (.aload_n 0, 1) := by decide +kernel
theorem dX6_clock_77 : decode cX6_clock 77 = .ok (.getfield 26, 3) := by decide +kernel
theorem dX6_clock_80 : decode cX6_clock 80 = .ok (.iload_n 1, 1) := by decide +kernel
theorem dX6_clock_81 : decode cX6_clock 81 = .ok (.iaload, 1) := by decide +kernel
theorem dX6_clock_82 : decode cX6_clock 82 = .ok (.dup2, 1) := by decide +kernel
theorem dX6_clock_83 : decode cX6_clock 83 = .ok (.iaload, 1) := by decide +kernel
theorem dX6_clock_84 : decode cX6_clock 84 = .ok (.aload_n 0, 1) := by decide +kernel
theorem dX6_clock_85 : decode cX6_clock 85 = .ok (.iload_n 1, 1) := by decide +kernel
theorem dX6_clock_86 : decode cX6_clock 86 = .ok (.invokevirtual 143, 3) := by decide +kernel
theorem dX6_clock_89 : decode cX6_clock 89 = .ok (.iadd, 1) := by decide +kernel
theorem dX6_clock_90 : decode cX6_clock 90 = .ok (.iastore, 1) := by decide +kernel
theorem dX6_clock_91 : decode cX6_clock 91 = .ok (.iload_n 1, 1) := by decide +kernel
theorem dX6_clock_92 : decode cX6_clock 92 = .ok (.aload_n 0, 1) := by decide +kernel
theorem dX6_clock_93 : decode cX6_clock 93 = .ok (.getfield 84, 3) := by decide +kernel
theorem dX6_clock_96 : decode cX6_clock 96 = .ok (.iconst 1, 1) := by decide +kernel
theorem dX6_clock_97 : decode cX6_clock 97 = .ok (.isub, 1) := by decide +kernel
theorem dX6_clock_98 : decode cX6_clock 98 = .ok (.if_icmp .eq 20, 3) := by decide +kernel
theorem dX6_clock_101 : decode cX6_clock 101 = .ok (.aload_n 0, 1) := by decide +kernel
theorem dX6_clock_102 : decode cX6_clock 102 = .ok (.getfield 20, 3) := by decide +kernel
theorem dX6_clock_105 : decode cX6_clock 105 = .ok (.iload_n 1, 1) := by decide +kernel
theorem dX6_clock_106 : decode cX6_clock 106 = .ok (.iconst 1, 1) := by decide +kernel
theorem dX6_clock_107 : decode cX6_clock 107 = .ok (.iadd, 1) := by decide +kernel
theorem dX6_clock_108 : decode cX6_clock 108 = .ok (.iaload, 1) := by decide +kernel
theorem dX6_clock_109 : decode cX6_clock 109 = .ok (.aload_n 0, 1) := by decide +kernel
theorem dX6_clock_110 : decode cX6_clock 110 = .ok (.getfield 20, 3) := by decide +kernel
theorem dX6_clock_113 : decode cX6_clock 113 = .ok (.iload_n 1, 1) := by decide +kernel
theorem dX6_clock_114 : decode cX6_clock 114 = .ok (.iaload, 1) := by decide +kernel
theorem dX6_clock_115 : decode cX6_clock 115 = .ok (.if_icmp .eq 13, 3) := by decide +kernel
theorem dX6_clock_118 : decode cX6_clock 118 = .ok (.aload_n 0, 1) := by decide +kernel
theorem dX6_clock_119 : decode cX6_clock 119 = .ok (.aload_n 0, 1) := by decide +kernel
theorem dX6_clock_120 : decode cX6_clock 120 = .ok (.getfield 20, 3) := by decide +kernel
theorem dX6_clock_123 : decode cX6_clock 123 = .ok (.iload_n 1, 1) := by decide +kernel
theorem dX6_clock_124 : decode cX6_clock 124 = .ok (.iaload, 1) := by decide +kernel
theorem dX6_clock_125 : decode cX6_clock 125 = .ok (.invokevirtual 146, 3) := by decide +kernel
theorem dX6_clock_128 : decode cX6_clock 128 = .ok (.iinc 1 1, 3) := by decide +kernel
theorem dX6_clock_131 : decode cX6_clock 131 = .ok (.goto (-86), 3) := by decide +kernel
theorem dX6_clock_134 : decode cX6_clock 134 = .ok (.return_, 1) := by decide +kernel
theorem dX6_busiest_0 : decode cX6_busiest 0 = .ok (.iconst 0, 1) := by decide +kernel
theorem dX6_busiest_1 : decode cX6_busiest 1 = .ok (.istore_n 1, 1) := by decide +kernel
theorem dX6_busiest_2 : decode cX6_busiest 2 = .ok (.iconst 1, 1) := by decide +kernel
theorem dX6_busiest_3 : decode cX6_busiest 3 = .ok (.istore_n 2, 1) := by decide +kernel
theorem dX6_busiest_4 : decode cX6_busiest 4 = .ok (.iload_n 2, 1) := by decide +kernel
theorem dX6_busiest_5 : decode cX6_busiest 5 = .ok (.aload_n 0, 1) := by decide +kernel
theorem dX6_busiest_6 : decode cX6_busiest 6 = .ok (.getfield 7, 3) := by decide +kernel
theorem dX6_busiest_9 : decode cX6_busiest 9 = .ok (.iconst 0, 1) := by decide +kernel
theorem dX6_busiest_10 : decode cX6_busiest 10 = .ok (.iaload, 1) := by decide +kernel
theorem dX6_busiest_11 : decode cX6_busiest 11 = .ok (.if_icmp .ge 30, 3) := by decide +kernel
theorem dX6_busiest_14 : decode cX6_busiest 14 = .ok (.aload_n 0, 1) := by decide +kernel
theorem dX6_busiest_15 : decode cX6_busiest 15 = .ok (.getfield 59, 3) := by decide +kernel
theorem dX6_busiest_18 : decode cX6_busiest 18 = .ok (.iload_n 2, 1) := by decide +kernel
theorem dX6_busiest_19 : decode cX6_busiest 19 = .ok (.iaload, 1) := by decide +kernel
theorem dX6_busiest_20 : decode cX6_busiest 20 = .ok (.aload_n 0, 1) := by decide +kernel
theorem dX6_busiest_21 : decode cX6_busiest 21 = .ok (.getfield 59, 3) := by decide +kernel
theorem dX6_busiest_24 : decode cX6_busiest 24 = .ok (.iload_n 1, 1) := by decide +kernel
theorem dX6_busiest_25 : decode cX6_busiest 25 = .ok (.iaload, 1) := by decide +kernel
theorem dX6_busiest_26 : decode cX6_busiest 26 = .ok (.if_icmp .le 7, 3) := by decide +kernel
theorem dX6_busiest_29 : decode cX6_busiest 29 = .ok (.iload_n 2, 1) := by decide +kernel
theorem dX6_busiest_30 : decode cX6_busiest 30 = .ok (.goto 4, 3) := by decide +kernel
theorem dX6_busiest_33 : decode cX6_busiest 33 = .ok (.iload_n 1, 1) := by decide +kernel
theorem dX6_busiest_34 : decode cX6_busiest 34 = .ok (.istore_n 1, 1) := by decide +kernel
theorem dX6_busiest_35 : decode cX6_busiest 35 = .ok (.iinc 2 1, 3) := by decide +kernel
theorem dX6_busiest_38 : decode cX6_busiest 38 = .ok (.goto (-34), 3) := by decide +kernel
theorem dX6_busiest_41 : decode cX6_busiest 41 = .ok (.iload_n 1, 1) := by decide +kernel
theorem dX6_busiest_42 : decode cX6_busiest 42 = .ok (.ireturn, 1) := by decide +kernel
theorem dX6_numbers_0 : decode cX6_numbers 0 = .ok (.iconst 0, 1) := by decide +kernel
theorem dX6_numbers_1 : decode cX6_numbers 1 = .ok (.istore_n 1, 1) := by decide +kernel
theorem dX6_numbers_2 : decode cX6_numbers 2 = .ok (.iconst 0, 1) := by decide +kernel
theorem dX6_numbers_3 : decode cX6_numbers 3 = .ok (.istore_n 2, 1) := by decide +kernel
theorem dX6_numbers_4 : decode cX6_numbers 4 = .ok (.iload_n 2, 1) := by decide +kernel
theorem dX6_numbers_5 : decode cX6_numbers 5 = .ok (.aload_n 0, 1) := by decide +kernel
theorem dX6_numbers_6 : decode cX6_numbers 6 = .ok (.getfield 84, 3) := by decide +kernel
theorem dX6_numbers_9 : decode cX6_numbers 9 = .ok (.if_icmp .ge 18, 3) := by decide +kernel
theorem dX6_numbers_12 : decode cX6_numbers 12 = .ok (.iload_n 1, 1) := by decide +kernel
theorem dX6_numbers_13 : decode cX6_numbers 13 = .ok (.aload_n 0, 1) := by decide +kernel
theorem dX6_numbers_14 : decode cX6_numbers 14 = .ok (.getfield 32, 3) := by decide +kernel
theorem dX6_numbers_17 : decode cX6_numbers 17 = .ok (.iload_n 2, 1) := by decide +kernel
theorem dX6_numbers_18 : decode cX6_numbers 18 = .ok (.iaload, 1) := by decide +kernel
theorem dX6_numbers_19 : decode cX6_numbers 19 = .ok (.iadd, 1) := by decide +kernel
theorem dX6_numbers_20 : decode cX6_numbers 20 = .ok (.istore_n 1, 1) := by decide +kernel
theorem dX6_numbers_21 : decode cX6_numbers 21 = .ok (.iinc 2 1, 3) := by decide +kernel
theorem dX6_numbers_24 : decode cX6_numbers 24 = .ok (.goto (-20), 3) := by decide +kernel
theorem dX6_numbers_27 : decode cX6_numbers 27 = .ok (.iload_n 1, 1) := by decide +kernel
theorem dX6_numbers_28 : decode cX6_numbers 28 = .ok (.ireturn, 1) := by decide +kernel
theorem dX6_way_0 : decode cX6_way 0 = .ok (.iload_n 1, 1) := by decide +kernel
theorem dX6_way_1 : decode cX6_way 1 = .ok (.invokestatic 149, 3) := by decide +kernel
theorem dX6_way_4 : decode cX6_way 4 = .ok (.ifCond .ne 5, 3) := by decide +kernel
theorem dX6_way_7 : decode cX6_way 7 = .ok (.iconst (-1), 1) := by decide +kernel
theorem dX6_way_8 : decode cX6_way 8 = .ok (.ireturn, 1) := by decide +kernel
theorem dX6_way_9 : decode cX6_way 9 = .ok (.aload_n 0, 1) := by decide +kernel
theorem dX6_way_10 : decode cX6_way 10 = .ok (.iload_n 1, 1) := by decide +kernel
theorem dX6_way_11 : decode cX6_way 11 = .ok (.aload_n 0, 1) := by decide +kernel
theorem dX6_way_12 : decode cX6_way 12 = .ok (.getfield 7, 3) := by decide +kernel
theorem dX6_way_15 : decode cX6_way 15 = .ok (.iconst 1, 1) := by decide +kernel
theorem dX6_way_16 : decode cX6_way 16 = .ok (.iaload, 1) := by decide +kernel
theorem dX6_way_17 : decode cX6_way 17 = .ok (.invokevirtual 152, 3) := by decide +kernel
theorem dX6_way_20 : decode cX6_way 20 = .ok (.aload_n 0, 1) := by decide +kernel
theorem dX6_way_21 : decode cX6_way 21 = .ok (.invokevirtual 155, 3) := by decide +kernel
theorem dX6_way_24 : decode cX6_way 24 = .ok (.iload_n 2, 1) := by decide +kernel
theorem dX6_way_25 : decode cX6_way 25 = .ok (.tableswitch 69 0 5 #[39, 44, 49, 54, 59, 64], 39) := by decide +kernel
theorem dX6_way_64 : decode cX6_way 64 = .ok (.aload_n 0, 1) := by decide +kernel
theorem dX6_way_65 : decode cX6_way 65 = .ok (.getfield 88, 3) := by decide +kernel
theorem dX6_way_68 : decode cX6_way 68 = .ok (.ireturn, 1) := by decide +kernel
theorem dX6_way_69 : decode cX6_way 69 = .ok (.aload_n 0, 1) := by decide +kernel
theorem dX6_way_70 : decode cX6_way 70 = .ok (.getfield 84, 3) := by decide +kernel
theorem dX6_way_73 : decode cX6_way 73 = .ok (.ireturn, 1) := by decide +kernel
theorem dX6_way_74 : decode cX6_way 74 = .ok (.aload_n 0, 1) := by decide +kernel
theorem dX6_way_75 : decode cX6_way 75 = .ok (.invokevirtual 158, 3) := by decide +kernel
theorem dX6_way_78 : decode cX6_way 78 = .ok (.ireturn, 1) := by decide +kernel
theorem dX6_way_79 : decode cX6_way 79 = .ok (.aload_n 0, 1) := by decide +kernel
theorem dX6_way_80 : decode cX6_way 80 = .ok (.getfield 140, 3) := by decide +kernel
theorem dX6_way_83 : decode cX6_way 83 = .ok (.ireturn, 1) := by decide +kernel
theorem dX6_way_84 : decode cX6_way 84 = .ok (.aload_n 0, 1) := by decide +kernel
theorem dX6_way_85 : decode cX6_way 85 = .ok (.getfield 137, 3) := by decide +kernel
theorem dX6_way_88 : decode cX6_way 88 = .ok (.ireturn, 1) := by decide +kernel
theorem dX6_way_89 : decode cX6_way 89 = .ok (.aload_n 0, 1) := by decide +kernel
theorem dX6_way_90 : decode cX6_way 90 = .ok (.invokevirtual 162, 3) := by decide +kernel
theorem dX6_way_93 : decode cX6_way 93 = .ok (.ireturn, 1) := by decide +kernel
theorem dX6_way_94 : decode cX6_way 94 = .ok (.bipush (-2), 2) := by decide +kernel
theorem dX6_way_96 : decode cX6_way 96 = .ok (.ireturn, 1) := by decide +kernel
theorem dX6_letter_0 : decode cX6_letter 0 = .ok (.iload_n 1, 1) := by decide +kernel
theorem dX6_letter_1 : decode cX6_letter 1 = .ok (.invokestatic 149, 3) := by decide +kernel
theorem dX6_letter_4 : decode cX6_letter 4 = .ok (.ifCond .ne 5, 3) := by decide +kernel
theorem dX6_letter_7 : decode cX6_letter 7 = .ok (.iconst (-1), 1) := by decide +kernel
theorem dX6_letter_8 : decode cX6_letter 8 = .ok (.ireturn, 1) := by decide +kernel
theorem dX6_letter_9 : decode cX6_letter 9 = .ok (.iload_n 3, 1) := by decide +kernel
theorem dX6_letter_10 : decode cX6_letter 10 = .ok (.iconst 0, 1) := by decide +kernel
theorem dX6_letter_11 : decode cX6_letter 11 = .ok (.bipush 6, 2) := by decide +kernel
theorem dX6_letter_13 : decode cX6_letter 13 = .ok (.invokestatic 69, 3) := by decide +kernel
theorem dX6_letter_16 : decode cX6_letter 16 = .ok (.ifCond .ne 6, 3) := by decide +kernel
theorem dX6_letter_19 : decode cX6_letter 19 = .ok (.bipush (-2), 2) := by decide +kernel
theorem dX6_letter_21 : decode cX6_letter 21 = .ok (.ireturn, 1) := by decide +kernel
theorem dX6_letter_22 : decode cX6_letter 22 = .ok (.aload_n 0, 1) := by decide +kernel
theorem dX6_letter_23 : decode cX6_letter 23 = .ok (.iload_n 1, 1) := by decide +kernel
theorem dX6_letter_24 : decode cX6_letter 24 = .ok (.aload_n 0, 1) := by decide +kernel
theorem dX6_letter_25 : decode cX6_letter 25 = .ok (.getfield 7, 3) := by decide +kernel
theorem dX6_letter_28 : decode cX6_letter 28 = .ok (.iconst 1, 1) := by decide +kernel
theorem dX6_letter_29 : decode cX6_letter 29 = .ok (.iaload, 1) := by decide +kernel
theorem dX6_letter_30 : decode cX6_letter 30 = .ok (.invokevirtual 152, 3) := by decide +kernel
theorem dX6_letter_33 : decode cX6_letter 33 = .ok (.iload_n 2, 1) := by decide +kernel
theorem dX6_letter_34 : decode cX6_letter 34 = .ok (.iconst 0, 1) := by decide +kernel
theorem dX6_letter_35 : decode cX6_letter 35 = .ok (.aload_n 0, 1) := by decide +kernel
theorem dX6_letter_36 : decode cX6_letter 36 = .ok (.getfield 84, 3) := by decide +kernel
theorem dX6_letter_39 : decode cX6_letter 39 = .ok (.iconst 1, 1) := by decide +kernel
theorem dX6_letter_40 : decode cX6_letter 40 = .ok (.isub, 1) := by decide +kernel
theorem dX6_letter_41 : decode cX6_letter 41 = .ok (.invokestatic 69, 3) := by decide +kernel
theorem dX6_letter_44 : decode cX6_letter 44 = .ok (.ifCond .ne 6, 3) := by decide +kernel
theorem dX6_letter_47 : decode cX6_letter 47 = .ok (.bipush (-6), 2) := by decide +kernel
theorem dX6_letter_49 : decode cX6_letter 49 = .ok (.ireturn, 1) := by decide +kernel
theorem dX6_letter_50 : decode cX6_letter 50 = .ok (.iload_n 3, 1) := by decide +kernel
theorem dX6_letter_51 : decode cX6_letter 51 = .ok (.tableswitch 79 0 5 #[37, 44, 51, 58, 65, 72], 37) := by decide +kernel
theorem dX6_letter_88 : decode cX6_letter 88 = .ok (.aload_n 0, 1) := by decide +kernel
theorem dX6_letter_89 : decode cX6_letter 89 = .ok (.getfield 20, 3) := by decide +kernel
theorem dX6_letter_92 : decode cX6_letter 92 = .ok (.iload_n 2, 1) := by decide +kernel
theorem dX6_letter_93 : decode cX6_letter 93 = .ok (.iaload, 1) := by decide +kernel
theorem dX6_letter_94 : decode cX6_letter 94 = .ok (.ireturn, 1) := by decide +kernel
theorem dX6_letter_95 : decode cX6_letter 95 = .ok (.aload_n 0, 1) := by decide +kernel
theorem dX6_letter_96 : decode cX6_letter 96 = .ok (.getfield 23, 3) := by decide +kernel
theorem dX6_letter_99 : decode cX6_letter 99 = .ok (.iload_n 2, 1) := by decide +kernel
theorem dX6_letter_100 : decode cX6_letter 100 = .ok (.iaload, 1) := by decide +kernel
theorem dX6_letter_101 : decode cX6_letter 101 = .ok (.ireturn, 1) := by decide +kernel
theorem dX6_letter_102 : decode cX6_letter 102 = .ok (.aload_n 0, 1) := by decide +kernel
theorem dX6_letter_103 : decode cX6_letter 103 = .ok (.getfield 26, 3) := by decide +kernel
theorem dX6_letter_106 : decode cX6_letter 106 = .ok (.iload_n 2, 1) := by decide +kernel
theorem dX6_letter_107 : decode cX6_letter 107 = .ok (.iaload, 1) := by decide +kernel
theorem dX6_letter_108 : decode cX6_letter 108 = .ok (.ireturn, 1) := by decide +kernel
theorem dX6_letter_109 : decode cX6_letter 109 = .ok (.aload_n 0, 1) := by decide +kernel
theorem dX6_letter_110 : decode cX6_letter 110 = .ok (.getfield 29, 3) := by decide +kernel
theorem dX6_letter_113 : decode cX6_letter 113 = .ok (.iload_n 2, 1) := by decide +kernel
theorem dX6_letter_114 : decode cX6_letter 114 = .ok (.iaload, 1) := by decide +kernel
theorem dX6_letter_115 : decode cX6_letter 115 = .ok (.ireturn, 1) := by decide +kernel
theorem dX6_letter_116 : decode cX6_letter 116 = .ok (.aload_n 0, 1) := by decide +kernel
theorem dX6_letter_117 : decode cX6_letter 117 = .ok (.getfield 32, 3) := by decide +kernel
theorem dX6_letter_120 : decode cX6_letter 120 = .ok (.iload_n 2, 1) := by decide +kernel
theorem dX6_letter_121 : decode cX6_letter 121 = .ok (.iaload, 1) := by decide +kernel
theorem dX6_letter_122 : decode cX6_letter 122 = .ok (.ireturn, 1) := by decide +kernel
theorem dX6_letter_123 : decode cX6_letter 123 = .ok (.aload_n 0, 1) := by decide +kernel
theorem dX6_letter_124 : decode cX6_letter 124 = .ok (.getfield 35, 3) := by decide +kernel
theorem dX6_letter_127 : decode cX6_letter 127 = .ok (.iload_n 2, 1) := by decide +kernel
theorem dX6_letter_128 : decode cX6_letter 128 = .ok (.iaload, 1) := by decide +kernel
theorem dX6_letter_129 : decode cX6_letter 129 = .ok (.ireturn, 1) := by decide +kernel
theorem dX6_letter_130 : decode cX6_letter 130 = .ok (.aload_n 0, 1) := by decide +kernel
theorem dX6_letter_131 : decode cX6_letter 131 = .ok (.iload_n 2, 1) := by decide +kernel
theorem dX6_letter_132 : decode cX6_letter 132 = .ok (.invokevirtual 143, 3) := by decide +kernel
theorem dX6_letter_135 : decode cX6_letter 135 = .ok (.ireturn, 1) := by decide +kernel
theorem dX6_behind_0 : decode cX6_behind 0 = .ok (.iload_n 1, 1) := by decide +kernel
theorem dX6_behind_1 : decode cX6_behind 1 = .ok (.invokestatic 149, 3) := by decide +kernel
theorem dX6_behind_4 : decode cX6_behind 4 = .ok (.ifCond .eq 11, 3) := by decide +kernel
theorem dX6_behind_7 : decode cX6_behind 7 = .ok (.aload_n 0, 1) := by decide +kernel
theorem dX6_behind_8 : decode cX6_behind 8 = .ok (.iload_n 3, 1) := by decide +kernel
theorem dX6_behind_9 : decode cX6_behind 9 = .ok (.invokevirtual 73, 3) := by decide +kernel
theorem dX6_behind_12 : decode cX6_behind 12 = .ok (.ifCond .ne 5, 3) := by decide +kernel
theorem dX6_behind_15 : decode cX6_behind 15 = .ok (.iconst (-1), 1) := by decide +kernel
theorem dX6_behind_16 : decode cX6_behind 16 = .ok (.ireturn, 1) := by decide +kernel
theorem dX6_behind_17 : decode cX6_behind 17 = .ok (.iload_n 2, 1) := by decide +kernel
theorem dX6_behind_18 : decode cX6_behind 18 = .ok (.ifCond .ge 6, 3) := by decide +kernel
theorem dX6_behind_21 : decode cX6_behind 21 = .ok (.bipush (-2), 2) := by decide +kernel
theorem dX6_behind_23 : decode cX6_behind 23 = .ok (.ireturn, 1) := by decide +kernel
theorem dX6_behind_24 : decode cX6_behind 24 = .ok (.aload_n 0, 1) := by decide +kernel
theorem dX6_behind_25 : decode cX6_behind 25 = .ok (.iload 4, 2) := by decide +kernel
theorem dX6_behind_27 : decode cX6_behind 27 = .ok (.invokevirtual 77, 3) := by decide +kernel
theorem dX6_behind_30 : decode cX6_behind 30 = .ok (.ifCond .ne 6, 3) := by decide +kernel
theorem dX6_behind_33 : decode cX6_behind 33 = .ok (.bipush (-6), 2) := by decide +kernel
theorem dX6_behind_35 : decode cX6_behind 35 = .ok (.ireturn, 1) := by decide +kernel
theorem dX6_behind_36 : decode cX6_behind 36 = .ok (.aload_n 0, 1) := by decide +kernel
theorem dX6_behind_37 : decode cX6_behind 37 = .ok (.iload_n 1, 1) := by decide +kernel
theorem dX6_behind_38 : decode cX6_behind 38 = .ok (.aload_n 0, 1) := by decide +kernel
theorem dX6_behind_39 : decode cX6_behind 39 = .ok (.getfield 7, 3) := by decide +kernel
theorem dX6_behind_42 : decode cX6_behind 42 = .ok (.iconst 1, 1) := by decide +kernel
theorem dX6_behind_43 : decode cX6_behind 43 = .ok (.iaload, 1) := by decide +kernel
theorem dX6_behind_44 : decode cX6_behind 44 = .ok (.invokevirtual 152, 3) := by decide +kernel
theorem dX6_behind_47 : decode cX6_behind 47 = .ok (.aload_n 0, 1) := by decide +kernel
theorem dX6_behind_48 : decode cX6_behind 48 = .ok (.iload_n 2, 1) := by decide +kernel
theorem dX6_behind_49 : decode cX6_behind 49 = .ok (.bipush (-6), 2) := by decide +kernel
theorem dX6_behind_51 : decode cX6_behind 51 = .ok (.invokevirtual 165, 3) := by decide +kernel
theorem dX6_behind_54 : decode cX6_behind 54 = .ok (.aload_n 0, 1) := by decide +kernel
theorem dX6_behind_55 : decode cX6_behind 55 = .ok (.getfield 50, 3) := by decide +kernel
theorem dX6_behind_58 : decode cX6_behind 58 = .ok (.iload_n 3, 1) := by decide +kernel
theorem dX6_behind_59 : decode cX6_behind 59 = .ok (.iload 4, 2) := by decide +kernel
theorem dX6_behind_61 : decode cX6_behind 61 = .ok (.invokestatic 80, 3) := by decide +kernel
theorem dX6_behind_64 : decode cX6_behind 64 = .ok (.iaload, 1) := by decide +kernel
theorem dX6_behind_65 : decode cX6_behind 65 = .ok (.ireturn, 1) := by decide +kernel
theorem dX6_goAll_0 : decode cX6_goAll 0 = .ok (.aload_n 0, 1) := by decide +kernel
theorem dX6_goAll_1 : decode cX6_goAll 1 = .ok (.iload_n 1, 1) := by decide +kernel
theorem dX6_goAll_2 : decode cX6_goAll 2 = .ok (.aload_n 0, 1) := by decide +kernel
theorem dX6_goAll_3 : decode cX6_goAll 3 = .ok (.getfield 7, 3) := by decide +kernel
theorem dX6_goAll_6 : decode cX6_goAll 6 = .ok (.iconst 1, 1) := by decide +kernel
theorem dX6_goAll_7 : decode cX6_goAll 7 = .ok (.iaload, 1) := by decide +kernel
theorem dX6_goAll_8 : decode cX6_goAll 8 = .ok (.invokevirtual 152, 3) := by decide +kernel
theorem dX6_goAll_11 : decode cX6_goAll 11 = .ok (.aload_n 0, 1) := by decide +kernel
theorem dX6_goAll_12 : decode cX6_goAll 12 = .ok (.aload_n 0, 1) := by decide +kernel
theorem dX6_goAll_13 : decode cX6_goAll 13 = .ok (.getfield 88, 3) := by decide +kernel
theorem dX6_goAll_16 : decode cX6_goAll 16 = .ok (.iload_n 2, 1) := by decide +kernel
theorem dX6_goAll_17 : decode cX6_goAll 17 = .ok (.invokevirtual 165, 3) := by decide +kernel
theorem dX6_goAll_20 : decode cX6_goAll 20 = .ok (.return_, 1) := by decide +kernel
theorem dX6_allMixed_0 : decode cX6_allMixed 0 = .ok (.aload_n 0, 1) := by decide +kernel
theorem dX6_allMixed_1 : decode cX6_allMixed 1 = .ok (.getfield 7, 3) := by decide +kernel
theorem dX6_allMixed_4 : decode cX6_allMixed 4 = .ok (.bipush 86, 2) := by decide +kernel
theorem dX6_allMixed_6 : decode cX6_allMixed 6 = .ok (.iload_n 1, 1) := by decide +kernel
theorem dX6_allMixed_7 : decode cX6_allMixed 7 = .ok (.iadd, 1) := by decide +kernel
theorem dX6_allMixed_8 : decode cX6_allMixed 8 = .ok (.iaload, 1) := by decide +kernel
theorem dX6_allMixed_9 : decode cX6_allMixed 9 = .ok (.istore_n 2, 1) := by decide +kernel
theorem dX6_allMixed_10 : decode cX6_allMixed 10 = .ok (.iconst 1, 1) := by decide +kernel
theorem dX6_allMixed_11 : decode cX6_allMixed 11 = .ok (.istore_n 3, 1) := by decide +kernel
theorem dX6_allMixed_12 : decode cX6_allMixed 12 = .ok (.iload_n 3, 1) := by decide +kernel
theorem dX6_allMixed_13 : decode cX6_allMixed 13 = .ok (.aload_n 0, 1) := by decide +kernel
theorem dX6_allMixed_14 : decode cX6_allMixed 14 = .ok (.getfield 7, 3) := by decide +kernel
theorem dX6_allMixed_17 : decode cX6_allMixed 17 = .ok (.iconst 0, 1) := by decide +kernel
theorem dX6_allMixed_18 : decode cX6_allMixed 18 = .ok (.iaload, 1) := by decide +kernel
theorem dX6_allMixed_19 : decode cX6_allMixed 19 = .ok (.if_icmp .ge 28, 3) := by decide +kernel
theorem dX6_allMixed_22 : decode cX6_allMixed 22 = .ok (.aload_n 0, 1) := by decide +kernel
theorem dX6_allMixed_23 : decode cX6_allMixed 23 = .ok (.iload_n 2, 1) := by decide +kernel
theorem dX6_allMixed_24 : decode cX6_allMixed 24 = .ok (.aload_n 0, 1) := by decide +kernel
theorem dX6_allMixed_25 : decode cX6_allMixed 25 = .ok (.getfield 7, 3) := by decide +kernel
theorem dX6_allMixed_28 : decode cX6_allMixed 28 = .ok (.bipush 86, 2) := by decide +kernel
theorem dX6_allMixed_30 : decode cX6_allMixed 30 = .ok (.iload_n 3, 1) := by decide +kernel
theorem dX6_allMixed_31 : decode cX6_allMixed 31 = .ok (.iload_n 1, 1) := by decide +kernel
theorem dX6_allMixed_32 : decode cX6_allMixed 32 = .ok (.invokestatic 80, 3) := by decide +kernel
theorem dX6_allMixed_35 : decode cX6_allMixed 35 = .ok (.iadd, 1) := by decide +kernel
theorem dX6_allMixed_36 : decode cX6_allMixed 36 = .ok (.iaload, 1) := by decide +kernel
theorem dX6_allMixed_37 : decode cX6_allMixed 37 = .ok (.invokevirtual 125, 3) := by decide +kernel
theorem dX6_allMixed_40 : decode cX6_allMixed 40 = .ok (.istore_n 2, 1) := by decide +kernel
theorem dX6_allMixed_41 : decode cX6_allMixed 41 = .ok (.iinc 3 1, 3) := by decide +kernel
theorem dX6_allMixed_44 : decode cX6_allMixed 44 = .ok (.goto (-32), 3) := by decide +kernel
theorem dX6_allMixed_47 : decode cX6_allMixed 47 = .ok (.iload_n 2, 1) := by decide +kernel
theorem dX6_allMixed_48 : decode cX6_allMixed 48 = .ok (.ireturn, 1) := by decide +kernel
theorem dX6_same_0 : decode cX6_same 0 = .ok (.iload_n 1, 1) := by decide +kernel
theorem dX6_same_1 : decode cX6_same 1 = .ok (.invokestatic 149, 3) := by decide +kernel
theorem dX6_same_4 : decode cX6_same 4 = .ok (.ifCond .ne 5, 3) := by decide +kernel
theorem dX6_same_7 : decode cX6_same 7 = .ok (.iconst (-1), 1) := by decide +kernel
theorem dX6_same_8 : decode cX6_same 8 = .ok (.ireturn, 1) := by decide +kernel
theorem dX6_same_9 : decode cX6_same 9 = .ok (.iload_n 2, 1) := by decide +kernel
theorem dX6_same_10 : decode cX6_same 10 = .ok (.iconst 0, 1) := by decide +kernel
theorem dX6_same_11 : decode cX6_same 11 = .ok (.iconst 1, 1) := by decide +kernel
theorem dX6_same_12 : decode cX6_same 12 = .ok (.invokestatic 69, 3) := by decide +kernel
theorem dX6_same_15 : decode cX6_same 15 = .ok (.ifCond .ne 6, 3) := by decide +kernel
theorem dX6_same_18 : decode cX6_same 18 = .ok (.bipush (-2), 2) := by decide +kernel
theorem dX6_same_20 : decode cX6_same 20 = .ok (.ireturn, 1) := by decide +kernel
theorem dX6_same_21 : decode cX6_same 21 = .ok (.aload_n 0, 1) := by decide +kernel
theorem dX6_same_22 : decode cX6_same 22 = .ok (.iload_n 1, 1) := by decide +kernel
theorem dX6_same_23 : decode cX6_same 23 = .ok (.bipush (-6), 2) := by decide +kernel
theorem dX6_same_25 : decode cX6_same 25 = .ok (.invokevirtual 168, 3) := by decide +kernel
theorem dX6_same_28 : decode cX6_same 28 = .ok (.iconst 1, 1) := by decide +kernel
theorem dX6_same_29 : decode cX6_same 29 = .ok (.istore_n 3, 1) := by decide +kernel
theorem dX6_same_30 : decode cX6_same 30 = .ok (.iconst 0, 1) := by decide +kernel
theorem dX6_same_31 : decode cX6_same 31 = .ok (.istore 4, 2) := by decide +kernel
theorem dX6_same_33 : decode cX6_same 33 = .ok (.iconst 0, 1) := by decide +kernel
theorem dX6_same_34 : decode cX6_same 34 = .ok (.istore 5, 2) := by decide +kernel
theorem dX6_same_36 : decode cX6_same 36 = .ok (.iload 5, 2) := by decide +kernel
theorem dX6_same_38 : decode cX6_same 38 = .ok (.aload_n 0, 1) := by decide +kernel
theorem dX6_same_39 : decode cX6_same 39 = .ok (.getfield 7, 3) := by decide +kernel
theorem dX6_same_42 : decode cX6_same 42 = .ok (.iconst 1, 1) := by decide +kernel
theorem dX6_same_43 : decode cX6_same 43 = .ok (.iaload, 1) := by decide +kernel
theorem dX6_same_44 : decode cX6_same 44 = .ok (.if_icmp .ge 87, 3) := by decide +kernel
theorem dX6_same_47 : decode cX6_same 47 = .ok (.iconst 1, 1) := by decide +kernel
theorem dX6_same_48 : decode cX6_same 48 = .ok (.istore 6, 2) := by decide +kernel
theorem dX6_same_50 : decode cX6_same 50 = .ok (.iload 6, 2) := by decide +kernel
theorem dX6_same_52 : decode cX6_same 52 = .ok (.aload_n 0, 1) := by decide +kernel
theorem dX6_same_53 : decode cX6_same 53 = .ok (.getfield 7, 3) := by decide +kernel
theorem dX6_same_56 : decode cX6_same 56 = .ok (.iconst 0, 1) := by decide +kernel
theorem dX6_same_57 : decode cX6_same 57 = .ok (.iaload, 1) := by decide +kernel
theorem dX6_same_58 : decode cX6_same 58 = .ok (.if_icmp .ge 41, 3) := by decide +kernel
theorem dX6_same_61 : decode cX6_same 61 = .ok (.iload_n 3, 1) := by decide +kernel
theorem dX6_same_62 : decode cX6_same 62 = .ok (.ifCond .eq 29, 3) := by decide +kernel
theorem dX6_same_65 : decode cX6_same 65 = .ok (.aload_n 0, 1) := by decide +kernel
theorem dX6_same_66 : decode cX6_same 66 = .ok (.getfield 50, 3) := by decide +kernel
theorem dX6_same_69 : decode cX6_same 69 = .ok (.iload 6, 2) := by decide +kernel
theorem dX6_same_71 : decode cX6_same 71 = .ok (.iload 5, 2) := by decide +kernel
theorem dX6_same_73 : decode cX6_same 73 = .ok (.invokestatic 80, 3) := by decide +kernel
theorem dX6_same_76 : decode cX6_same 76 = .ok (.iaload, 1) := by decide +kernel
theorem dX6_same_77 : decode cX6_same 77 = .ok (.aload_n 0, 1) := by decide +kernel
theorem dX6_same_78 : decode cX6_same 78 = .ok (.getfield 50, 3) := by decide +kernel
theorem dX6_same_81 : decode cX6_same 81 = .ok (.iload 5, 2) := by decide +kernel
theorem dX6_same_83 : decode cX6_same 83 = .ok (.iaload, 1) := by decide +kernel
theorem dX6_same_84 : decode cX6_same 84 = .ok (.if_icmp .ne 7, 3) := by decide +kernel
theorem dX6_same_87 : decode cX6_same 87 = .ok (.iconst 1, 1) := by decide +kernel
theorem dX6_same_88 : decode cX6_same 88 = .ok (.goto 4, 3) := by decide +kernel
theorem dX6_same_91 : decode cX6_same 91 = .ok (.iconst 0, 1) := by decide +kernel
theorem dX6_same_92 : decode cX6_same 92 = .ok (.istore_n 3, 1) := by decide +kernel
theorem dX6_same_93 : decode cX6_same 93 = .ok (.iinc 6 1, 3) := by decide +kernel
theorem dX6_same_96 : decode cX6_same 96 = .ok (.goto (-46), 3) := by decide +kernel
theorem dX6_same_99 : decode cX6_same 99 = .ok (.iload 4, 2) := by decide +kernel
theorem dX6_same_101 : decode cX6_same 101 = .ok (.aload_n 0, 1) := by decide +kernel
theorem dX6_same_102 : decode cX6_same 102 = .ok (.getfield 50, 3) := by decide +kernel
theorem dX6_same_105 : decode cX6_same 105 = .ok (.iload 5, 2) := by decide +kernel
theorem dX6_same_107 : decode cX6_same 107 = .ok (.iaload, 1) := by decide +kernel
theorem dX6_same_108 : decode cX6_same 108 = .ok (.aload_n 0, 1) := by decide +kernel
theorem dX6_same_109 : decode cX6_same 109 = .ok (.iload 5, 2) := by decide +kernel
theorem dX6_same_111 : decode cX6_same 111 = .ok (.invokevirtual 171, 3) := by decide +kernel
theorem dX6_same_114 : decode cX6_same 114 = .ok (.if_icmp .ne 7, 3) := by decide +kernel
theorem dX6_same_117 : decode cX6_same 117 = .ok (.iconst 1, 1) := by decide +kernel
theorem dX6_same_118 : decode cX6_same 118 = .ok (.goto 4, 3) := by decide +kernel
theorem dX6_same_121 : decode cX6_same 121 = .ok (.iconst 0, 1) := by decide +kernel
theorem dX6_same_122 : decode cX6_same 122 = .ok (.iadd, 1) := by decide +kernel
theorem dX6_same_123 : decode cX6_same 123 = .ok (.istore 4, 2) := by decide +kernel
theorem dX6_same_125 : decode cX6_same 125 = .ok (.iinc 5 1, 3) := by decide +kernel
theorem dX6_same_128 : decode cX6_same 128 = .ok (.goto (-92), 3) := by decide +kernel
theorem dX6_same_131 : decode cX6_same 131 = .ok (.iload_n 2, 1) := by decide +kernel
theorem dX6_same_132 : decode cX6_same 132 = .ok (.iconst 1, 1) := by decide +kernel
theorem dX6_same_133 : decode cX6_same 133 = .ok (.if_icmp .ne 8, 3) := by decide +kernel
theorem dX6_same_136 : decode cX6_same 136 = .ok (.iload 4, 2) := by decide +kernel
theorem dX6_same_138 : decode cX6_same 138 = .ok (.goto 12, 3) := by decide +kernel
theorem dX6_same_141 : decode cX6_same 141 = .ok (.iload_n 3, 1) := by decide +kernel
theorem dX6_same_142 : decode cX6_same 142 = .ok (.ifCond .eq 7, 3) := by decide +kernel
theorem dX6_same_145 : decode cX6_same 145 = .ok (.iconst 1, 1) := by decide +kernel
theorem dX6_same_146 : decode cX6_same 146 = .ok (.goto 4, 3) := by decide +kernel
theorem dX6_same_149 : decode cX6_same 149 = .ok (.iconst 0, 1) := by decide +kernel
theorem dX6_same_150 : decode cX6_same 150 = .ok (.ireturn, 1) := by decide +kernel
theorem dX6_keepEnd_0 : decode cX6_keepEnd 0 = .ok (.iconst 0, 1) := by decide +kernel
theorem dX6_keepEnd_1 : decode cX6_keepEnd 1 = .ok (.istore_n 1, 1) := by decide +kernel
theorem dX6_keepEnd_2 : decode cX6_keepEnd 2 = .ok (.iload_n 1, 1) := by decide +kernel
theorem dX6_keepEnd_3 : decode cX6_keepEnd 3 = .ok (.bipush 108, 2) := by decide +kernel
theorem dX6_keepEnd_5 : decode cX6_keepEnd 5 = .ok (.if_icmp .ge 21, 3) := by decide +kernel
theorem dX6_keepEnd_8 : decode cX6_keepEnd 8 = .ok (.aload_n 0, 1) := by decide +kernel
theorem dX6_keepEnd_9 : decode cX6_keepEnd 9 = .ok (.getfield 62, 3) := by decide +kernel
theorem dX6_keepEnd_12 : decode cX6_keepEnd 12 = .ok (.iload_n 1, 1) := by decide +kernel
theorem dX6_keepEnd_13 : decode cX6_keepEnd 13 = .ok (.aload_n 0, 1) := by decide +kernel
theorem dX6_keepEnd_14 : decode cX6_keepEnd 14 = .ok (.getfield 50, 3) := by decide +kernel
theorem dX6_keepEnd_17 : decode cX6_keepEnd 17 = .ok (.iload_n 1, 1) := by decide +kernel
theorem dX6_keepEnd_18 : decode cX6_keepEnd 18 = .ok (.iaload, 1) := by decide +kernel
theorem dX6_keepEnd_19 : decode cX6_keepEnd 19 = .ok (.iastore, 1) := by decide +kernel
theorem dX6_keepEnd_20 : decode cX6_keepEnd 20 = .ok (.iinc 1 1, 3) := by decide +kernel
theorem dX6_keepEnd_23 : decode cX6_keepEnd 23 = .ok (.goto (-21), 3) := by decide +kernel
theorem dX6_keepEnd_26 : decode cX6_keepEnd 26 = .ok (.return_, 1) := by decide +kernel
theorem dX6_alike_0 : decode cX6_alike 0 = .ok (.iload_n 1, 1) := by decide +kernel
theorem dX6_alike_1 : decode cX6_alike 1 = .ok (.invokestatic 149, 3) := by decide +kernel
theorem dX6_alike_4 : decode cX6_alike 4 = .ok (.ifCond .eq 10, 3) := by decide +kernel
theorem dX6_alike_7 : decode cX6_alike 7 = .ok (.iload_n 2, 1) := by decide +kernel
theorem dX6_alike_8 : decode cX6_alike 8 = .ok (.invokestatic 149, 3) := by decide +kernel
theorem dX6_alike_11 : decode cX6_alike 11 = .ok (.ifCond .ne 5, 3) := by decide +kernel
theorem dX6_alike_14 : decode cX6_alike 14 = .ok (.iconst (-1), 1) := by decide +kernel
theorem dX6_alike_15 : decode cX6_alike 15 = .ok (.ireturn, 1) := by decide +kernel
theorem dX6_alike_16 : decode cX6_alike 16 = .ok (.aload_n 0, 1) := by decide +kernel
theorem dX6_alike_17 : decode cX6_alike 17 = .ok (.iload_n 1, 1) := by decide +kernel
theorem dX6_alike_18 : decode cX6_alike 18 = .ok (.bipush (-6), 2) := by decide +kernel
theorem dX6_alike_20 : decode cX6_alike 20 = .ok (.invokevirtual 168, 3) := by decide +kernel
theorem dX6_alike_23 : decode cX6_alike 23 = .ok (.aload_n 0, 1) := by decide +kernel
theorem dX6_alike_24 : decode cX6_alike 24 = .ok (.invokevirtual 174, 3) := by decide +kernel
theorem dX6_alike_27 : decode cX6_alike 27 = .ok (.aload_n 0, 1) := by decide +kernel
theorem dX6_alike_28 : decode cX6_alike 28 = .ok (.iload_n 2, 1) := by decide +kernel
theorem dX6_alike_29 : decode cX6_alike 29 = .ok (.bipush (-6), 2) := by decide +kernel
theorem dX6_alike_31 : decode cX6_alike 31 = .ok (.invokevirtual 168, 3) := by decide +kernel
theorem dX6_alike_34 : decode cX6_alike 34 = .ok (.iconst 1, 1) := by decide +kernel
theorem dX6_alike_35 : decode cX6_alike 35 = .ok (.istore_n 3, 1) := by decide +kernel
theorem dX6_alike_36 : decode cX6_alike 36 = .ok (.iconst 0, 1) := by decide +kernel
theorem dX6_alike_37 : decode cX6_alike 37 = .ok (.istore 4, 2) := by decide +kernel
theorem dX6_alike_39 : decode cX6_alike 39 = .ok (.iload 4, 2) := by decide +kernel
theorem dX6_alike_41 : decode cX6_alike 41 = .ok (.aload_n 0, 1) := by decide +kernel
theorem dX6_alike_42 : decode cX6_alike 42 = .ok (.getfield 7, 3) := by decide +kernel
theorem dX6_alike_45 : decode cX6_alike 45 = .ok (.iconst 1, 1) := by decide +kernel
theorem dX6_alike_46 : decode cX6_alike 46 = .ok (.iaload, 1) := by decide +kernel
theorem dX6_alike_47 : decode cX6_alike 47 = .ok (.if_icmp .ge 36, 3) := by decide +kernel
theorem dX6_alike_50 : decode cX6_alike 50 = .ok (.iload_n 3, 1) := by decide +kernel
theorem dX6_alike_51 : decode cX6_alike 51 = .ok (.ifCond .eq 24, 3) := by decide +kernel
theorem dX6_alike_54 : decode cX6_alike 54 = .ok (.aload_n 0, 1) := by decide +kernel
theorem dX6_alike_55 : decode cX6_alike 55 = .ok (.getfield 50, 3) := by decide +kernel
theorem dX6_alike_58 : decode cX6_alike 58 = .ok (.iload 4, 2) := by decide +kernel
theorem dX6_alike_60 : decode cX6_alike 60 = .ok (.iaload, 1) := by decide +kernel
theorem dX6_alike_61 : decode cX6_alike 61 = .ok (.aload_n 0, 1) := by decide +kernel
theorem dX6_alike_62 : decode cX6_alike 62 = .ok (.getfield 62, 3) := by decide +kernel
theorem dX6_alike_65 : decode cX6_alike 65 = .ok (.iload 4, 2) := by decide +kernel
theorem dX6_alike_67 : decode cX6_alike 67 = .ok (.iaload, 1) := by decide +kernel
theorem dX6_alike_68 : decode cX6_alike 68 = .ok (.if_icmp .ne 7, 3) := by decide +kernel
theorem dX6_alike_71 : decode cX6_alike 71 = .ok (.iconst 1, 1) := by decide +kernel
theorem dX6_alike_72 : decode cX6_alike 72 = .ok (.goto 4, 3) := by decide +kernel
theorem dX6_alike_75 : decode cX6_alike 75 = .ok (.iconst 0, 1) := by decide +kernel
theorem dX6_alike_76 : decode cX6_alike 76 = .ok (.istore_n 3, 1) := by decide +kernel
theorem dX6_alike_77 : decode cX6_alike 77 = .ok (.iinc 4 1, 3) := by decide +kernel
theorem dX6_alike_80 : decode cX6_alike 80 = .ok (.goto (-41), 3) := by decide +kernel
theorem dX6_alike_83 : decode cX6_alike 83 = .ok (.iload_n 3, 1) := by decide +kernel
theorem dX6_alike_84 : decode cX6_alike 84 = .ok (.ifCond .eq 7, 3) := by decide +kernel
theorem dX6_alike_87 : decode cX6_alike 87 = .ok (.iconst 1, 1) := by decide +kernel
theorem dX6_alike_88 : decode cX6_alike 88 = .ok (.goto 4, 3) := by decide +kernel
theorem dX6_alike_91 : decode cX6_alike 91 = .ok (.iconst 0, 1) := by decide +kernel
theorem dX6_alike_92 : decode cX6_alike 92 = .ok (.ireturn, 1) := by decide +kernel
theorem dX6_timeBy_0 : decode cX6_timeBy 0 = .ok (.aload_n 0, 1) := by decide +kernel
theorem dX6_timeBy_1 : decode cX6_timeBy 1 = .ok (.iload_n 1, 1) := by decide +kernel
theorem dX6_timeBy_2 : decode cX6_timeBy 2 = .ok (.iload_n 2, 1) := by decide +kernel
theorem dX6_timeBy_3 : decode cX6_timeBy 3 = .ok (.invokevirtual 152, 3) := by decide +kernel
theorem dX6_timeBy_6 : decode cX6_timeBy 6 = .ok (.aload_n 0, 1) := by decide +kernel
theorem dX6_timeBy_7 : decode cX6_timeBy 7 = .ok (.invokevirtual 155, 3) := by decide +kernel
theorem dX6_timeBy_10 : decode cX6_timeBy 10 = .ok (.aload_n 0, 1) := by decide +kernel
theorem dX6_timeBy_11 : decode cX6_timeBy 11 = .ok (.getfield 140, 3) := by decide +kernel
theorem dX6_timeBy_14 : decode cX6_timeBy 14 = .ok (.ireturn, 1) := by decide +kernel
theorem dX6_best_0 : decode cX6_best 0 = .ok (.iload_n 1, 1) := by decide +kernel
theorem dX6_best_1 : decode cX6_best 1 = .ok (.iconst 1, 1) := by decide +kernel
theorem dX6_best_2 : decode cX6_best 2 = .ok (.bipush 99, 2) := by decide +kernel
theorem dX6_best_4 : decode cX6_best 4 = .ok (.invokestatic 69, 3) := by decide +kernel
theorem dX6_best_7 : decode cX6_best 7 = .ok (.ifCond .eq 12, 3) := by decide +kernel
theorem dX6_best_10 : decode cX6_best 10 = .ok (.iload_n 2, 1) := by decide +kernel
theorem dX6_best_11 : decode cX6_best 11 = .ok (.iconst 0, 1) := by decide +kernel
theorem dX6_best_12 : decode cX6_best 12 = .ok (.iconst 1, 1) := by decide +kernel
theorem dX6_best_13 : decode cX6_best 13 = .ok (.invokestatic 69, 3) := by decide +kernel
theorem dX6_best_16 : decode cX6_best 16 = .ok (.ifCond .ne 6, 3) := by decide +kernel
theorem dX6_best_19 : decode cX6_best 19 = .ok (.bipush (-2), 2) := by decide +kernel
theorem dX6_best_21 : decode cX6_best 21 = .ok (.ireturn, 1) := by decide +kernel
theorem dX6_best_22 : decode cX6_best 22 = .ok (.iconst 0, 1) := by decide +kernel
theorem dX6_best_23 : decode cX6_best 23 = .ok (.istore_n 3, 1) := by decide +kernel
theorem dX6_best_24 : decode cX6_best 24 = .ok (.aload_n 0, 1) := by decide +kernel
theorem dX6_best_25 : decode cX6_best 25 = .ok (.iconst 0, 1) := by decide +kernel
theorem dX6_best_26 : decode cX6_best 26 = .ok (.iload_n 1, 1) := by decide +kernel
theorem dX6_best_27 : decode cX6_best 27 = .ok (.invokevirtual 177, 3) := by decide +kernel
theorem dX6_best_30 : decode cX6_best 30 = .ok (.istore 4, 2) := by decide +kernel
theorem dX6_best_32 : decode cX6_best 32 = .ok (.iconst 1, 1) := by decide +kernel
theorem dX6_best_33 : decode cX6_best 33 = .ok (.istore 5, 2) := by decide +kernel
theorem dX6_best_35 : decode cX6_best 35 = .ok (.iload 5, 2) := by decide +kernel
theorem dX6_best_37 : decode cX6_best 37 = .ok (.iconst 4, 1) := by decide +kernel
theorem dX6_best_38 : decode cX6_best 38 = .ok (.if_icmp .ge 48, 3) := by decide +kernel
theorem dX6_best_41 : decode cX6_best 41 = .ok (.aload_n 0, 1) := by decide +kernel
theorem dX6_best_42 : decode cX6_best 42 = .ok (.iload 5, 2) := by decide +kernel
theorem dX6_best_44 : decode cX6_best 44 = .ok (.iload_n 1, 1) := by decide +kernel
theorem dX6_best_45 : decode cX6_best 45 = .ok (.invokevirtual 177, 3) := by decide +kernel
theorem dX6_best_48 : decode cX6_best 48 = .ok (.istore 6, 2) := by decide +kernel
theorem dX6_best_50 : decode cX6_best 50 = .ok (.iload 6, 2) := by decide +kernel
theorem dX6_best_52 : decode cX6_best 52 = .ok (.iload 4, 2) := by decide +kernel
theorem dX6_best_54 : decode cX6_best 54 = .ok (.if_icmp .ge 8, 3) := by decide +kernel
theorem dX6_best_57 : decode cX6_best 57 = .ok (.iload 5, 2) := by decide +kernel
theorem dX6_best_59 : decode cX6_best 59 = .ok (.goto 4, 3) := by decide +kernel
theorem dX6_best_62 : decode cX6_best 62 = .ok (.iload_n 3, 1) := by decide +kernel
theorem dX6_best_63 : decode cX6_best 63 = .ok (.istore_n 3, 1) := by decide +kernel
theorem dX6_best_64 : decode cX6_best 64 = .ok (.iload 6, 2) := by decide +kernel
theorem dX6_best_66 : decode cX6_best 66 = .ok (.iload 4, 2) := by decide +kernel
theorem dX6_best_68 : decode cX6_best 68 = .ok (.if_icmp .ge 8, 3) := by decide +kernel
theorem dX6_best_71 : decode cX6_best 71 = .ok (.iload 6, 2) := by decide +kernel
theorem dX6_best_73 : decode cX6_best 73 = .ok (.goto 5, 3) := by decide +kernel
theorem dX6_best_76 : decode cX6_best 76 = .ok (.iload 4, 2) := by decide +kernel
theorem dX6_best_78 : decode cX6_best 78 = .ok (.istore 4, 2) := by decide +kernel
theorem dX6_best_80 : decode cX6_best 80 = .ok (.iinc 5 1, 3) := by decide +kernel
theorem dX6_best_83 : decode cX6_best 83 = .ok (.goto (-48), 3) := by decide +kernel
theorem dX6_best_86 : decode cX6_best 86 = .ok (.iload_n 2, 1) := by decide +kernel
theorem dX6_best_87 : decode cX6_best 87 = .ok (.ifCond .ne 7, 3) := by decide +kernel
theorem dX6_best_90 : decode cX6_best 90 = .ok (.iload_n 3, 1) := by decide +kernel
theorem dX6_best_91 : decode cX6_best 91 = .ok (.goto 5, 3) := by decide +kernel
theorem dX6_best_94 : decode cX6_best 94 = .ok (.iload 4, 2) := by decide +kernel
theorem dX6_best_96 : decode cX6_best 96 = .ok (.ireturn, 1) := by decide +kernel
theorem dX6_from_0 : decode cX6_from 0 = .ok (.iload_n 1, 1) := by decide +kernel
theorem dX6_from_1 : decode cX6_from 1 = .ok (.invokestatic 149, 3) := by decide +kernel
theorem dX6_from_4 : decode cX6_from 4 = .ok (.ifCond .eq 10, 3) := by decide +kernel
theorem dX6_from_7 : decode cX6_from 7 = .ok (.iload_n 2, 1) := by decide +kernel
theorem dX6_from_8 : decode cX6_from 8 = .ok (.invokestatic 149, 3) := by decide +kernel
theorem dX6_from_11 : decode cX6_from 11 = .ok (.ifCond .ne 5, 3) := by decide +kernel
theorem dX6_from_14 : decode cX6_from 14 = .ok (.iconst (-1), 1) := by decide +kernel
theorem dX6_from_15 : decode cX6_from 15 = .ok (.ireturn, 1) := by decide +kernel
theorem dX6_from_16 : decode cX6_from 16 = .ok (.iconst 1, 1) := by decide +kernel
theorem dX6_from_17 : decode cX6_from 17 = .ok (.istore_n 3, 1) := by decide +kernel
theorem dX6_from_18 : decode cX6_from 18 = .ok (.iload_n 3, 1) := by decide +kernel
theorem dX6_from_19 : decode cX6_from 19 = .ok (.bipush 100, 2) := by decide +kernel
theorem dX6_from_21 : decode cX6_from 21 = .ok (.if_icmp .ge 26, 3) := by decide +kernel
theorem dX6_from_24 : decode cX6_from 24 = .ok (.aload_n 0, 1) := by decide +kernel
theorem dX6_from_25 : decode cX6_from 25 = .ok (.iload_n 1, 1) := by decide +kernel
theorem dX6_from_26 : decode cX6_from 26 = .ok (.iload_n 3, 1) := by decide +kernel
theorem dX6_from_27 : decode cX6_from 27 = .ok (.invokevirtual 177, 3) := by decide +kernel
theorem dX6_from_30 : decode cX6_from 30 = .ok (.aload_n 0, 1) := by decide +kernel
theorem dX6_from_31 : decode cX6_from 31 = .ok (.iload_n 2, 1) := by decide +kernel
theorem dX6_from_32 : decode cX6_from 32 = .ok (.iload_n 3, 1) := by decide +kernel
theorem dX6_from_33 : decode cX6_from 33 = .ok (.invokevirtual 177, 3) := by decide +kernel
theorem dX6_from_36 : decode cX6_from 36 = .ok (.if_icmp .ge 5, 3) := by decide +kernel
theorem dX6_from_39 : decode cX6_from 39 = .ok (.iload_n 3, 1) := by decide +kernel
theorem dX6_from_40 : decode cX6_from 40 = .ok (.ireturn, 1) := by decide +kernel
theorem dX6_from_41 : decode cX6_from 41 = .ok (.iinc 3 1, 3) := by decide +kernel
theorem dX6_from_44 : decode cX6_from 44 = .ok (.goto (-26), 3) := by decide +kernel
theorem dX6_from_47 : decode cX6_from 47 = .ok (.bipush (-6), 2) := by decide +kernel
theorem dX6_from_49 : decode cX6_from 49 = .ok (.ireturn, 1) := by decide +kernel
theorem dX6_otherNumbers_0 : decode cX6_otherNumbers 0 = .ok (.iconst 0, 1) := by decide +kernel
theorem dX6_otherNumbers_1 : decode cX6_otherNumbers 1 = .ok (.istore_n 2, 1) := by decide +kernel
theorem dX6_otherNumbers_2 : decode cX6_otherNumbers 2 = .ok (.iconst 0, 1) := by decide +kernel
theorem dX6_otherNumbers_3 : decode cX6_otherNumbers 3 = .ok (.istore_n 3, 1) := by decide +kernel
theorem dX6_otherNumbers_4 : decode cX6_otherNumbers 4 = .ok (.iload_n 3, 1) := by decide +kernel
theorem dX6_otherNumbers_5 : decode cX6_otherNumbers 5 = .ok (.aload_n 0, 1) := by decide +kernel
theorem dX6_otherNumbers_6 : decode cX6_otherNumbers 6 = .ok (.getfield 7, 3) := by decide +kernel
theorem dX6_otherNumbers_9 : decode cX6_otherNumbers 9 = .ok (.iconst 1, 1) := by decide +kernel
theorem dX6_otherNumbers_10 : decode cX6_otherNumbers 10 = .ok (.iaload, 1) := by decide +kernel
theorem dX6_otherNumbers_11 : decode cX6_otherNumbers 11 = .ok (.if_icmp .ge 40, 3) := by decide +kernel
theorem dX6_otherNumbers_14 : decode cX6_otherNumbers 14 = .ok (.iload_n 2, 1) := by decide +kernel
theorem dX6_otherNumbers_15 : decode cX6_otherNumbers 15 = .ok (.aload_n 0, 1) := by decide +kernel
theorem dX6_otherNumbers_16 : decode cX6_otherNumbers 16 = .ok (.getfield 50, 3) := by decide +kernel
theorem dX6_otherNumbers_19 : decode cX6_otherNumbers 19 = .ok (.iload_n 1, 1) := by decide +kernel
theorem dX6_otherNumbers_20 : decode cX6_otherNumbers 20 = .ok (.iload_n 3, 1) := by decide +kernel
theorem dX6_otherNumbers_21 : decode cX6_otherNumbers 21 = .ok (.invokestatic 80, 3) := by decide +kernel
theorem dX6_otherNumbers_24 : decode cX6_otherNumbers 24 = .ok (.iaload, 1) := by decide +kernel
theorem dX6_otherNumbers_25 : decode cX6_otherNumbers 25 = .ok (.aload_n 0, 1) := by decide +kernel
theorem dX6_otherNumbers_26 : decode cX6_otherNumbers 26 = .ok (.getfield 62, 3) := by decide +kernel
theorem dX6_otherNumbers_29 : decode cX6_otherNumbers 29 = .ok (.iload_n 1, 1) := by decide +kernel
theorem dX6_otherNumbers_30 : decode cX6_otherNumbers 30 = .ok (.iload_n 3, 1) := by decide +kernel
theorem dX6_otherNumbers_31 : decode cX6_otherNumbers 31 = .ok (.invokestatic 80, 3) := by decide +kernel
theorem dX6_otherNumbers_34 : decode cX6_otherNumbers 34 = .ok (.iaload, 1) := by decide +kernel
theorem dX6_otherNumbers_35 : decode cX6_otherNumbers 35 = .ok (.if_icmp .eq 7, 3) := by decide +kernel
theorem dX6_otherNumbers_38 : decode cX6_otherNumbers 38 = .ok (.iconst 1, 1) := by decide +kernel
theorem dX6_otherNumbers_39 : decode cX6_otherNumbers 39 = .ok (.goto 4, 3) := by decide +kernel
theorem dX6_otherNumbers_42 : decode cX6_otherNumbers 42 = .ok (.iconst 0, 1) := by decide +kernel
theorem dX6_otherNumbers_43 : decode cX6_otherNumbers 43 = .ok (.iadd, 1) := by decide +kernel
theorem dX6_otherNumbers_44 : decode cX6_otherNumbers 44 = .ok (.istore_n 2, 1) := by decide +kernel
theorem dX6_otherNumbers_45 : decode cX6_otherNumbers 45 = .ok (.iinc 3 1, 3) := by decide +kernel
theorem dX6_otherNumbers_48 : decode cX6_otherNumbers 48 = .ok (.goto (-44), 3) := by decide +kernel
theorem dX6_otherNumbers_51 : decode cX6_otherNumbers 51 = .ok (.iload_n 2, 1) := by decide +kernel
theorem dX6_otherNumbers_52 : decode cX6_otherNumbers 52 = .ok (.ireturn, 1) := by decide +kernel
theorem dX6_harm_0 : decode cX6_harm 0 = .ok (.iconst 0, 1) := by decide +kernel
theorem dX6_harm_1 : decode cX6_harm 1 = .ok (.istore_n 1, 1) := by decide +kernel
theorem dX6_harm_2 : decode cX6_harm 2 = .ok (.iconst 0, 1) := by decide +kernel
theorem dX6_harm_3 : decode cX6_harm 3 = .ok (.istore_n 2, 1) := by decide +kernel
theorem dX6_harm_4 : decode cX6_harm 4 = .ok (.iload_n 2, 1) := by decide +kernel
theorem dX6_harm_5 : decode cX6_harm 5 = .ok (.aload_n 0, 1) := by decide +kernel
theorem dX6_harm_6 : decode cX6_harm 6 = .ok (.getfield 7, 3) := by decide +kernel
theorem dX6_harm_9 : decode cX6_harm 9 = .ok (.iconst 0, 1) := by decide +kernel
theorem dX6_harm_10 : decode cX6_harm 10 = .ok (.iaload, 1) := by decide +kernel
theorem dX6_harm_11 : decode cX6_harm 11 = .ok (.if_icmp .ge 17, 3) := by decide +kernel
theorem dX6_harm_14 : decode cX6_harm 14 = .ok (.iload_n 1, 1) := by decide +kernel
theorem dX6_harm_15 : decode cX6_harm 15 = .ok (.aload_n 0, 1) := by decide +kernel
theorem dX6_harm_16 : decode cX6_harm 16 = .ok (.iload_n 2, 1) := by decide +kernel
theorem dX6_harm_17 : decode cX6_harm 17 = .ok (.invokevirtual 180, 3) := by decide +kernel
theorem dX6_harm_20 : decode cX6_harm 20 = .ok (.iadd, 1) := by decide +kernel
theorem dX6_harm_21 : decode cX6_harm 21 = .ok (.istore_n 1, 1) := by decide +kernel
theorem dX6_harm_22 : decode cX6_harm 22 = .ok (.iinc 2 1, 3) := by decide +kernel
theorem dX6_harm_25 : decode cX6_harm 25 = .ok (.goto (-21), 3) := by decide +kernel
theorem dX6_harm_28 : decode cX6_harm 28 = .ok (.iload_n 1, 1) := by decide +kernel
theorem dX6_harm_29 : decode cX6_harm 29 = .ok (.ireturn, 1) := by decide +kernel
theorem dX6_harmed_0 : decode cX6_harmed 0 = .ok (.iconst 0, 1) := by decide +kernel
theorem dX6_harmed_1 : decode cX6_harmed 1 = .ok (.istore_n 1, 1) := by decide +kernel
theorem dX6_harmed_2 : decode cX6_harmed 2 = .ok (.iconst 0, 1) := by decide +kernel
theorem dX6_harmed_3 : decode cX6_harmed 3 = .ok (.istore_n 2, 1) := by decide +kernel
theorem dX6_harmed_4 : decode cX6_harmed 4 = .ok (.iload_n 2, 1) := by decide +kernel
theorem dX6_harmed_5 : decode cX6_harmed 5 = .ok (.aload_n 0, 1) := by decide +kernel
theorem dX6_harmed_6 : decode cX6_harmed 6 = .ok (.getfield 7, 3) := by decide +kernel
theorem dX6_harmed_9 : decode cX6_harmed 9 = .ok (.iconst 0, 1) := by decide +kernel
theorem dX6_harmed_10 : decode cX6_harmed 10 = .ok (.iaload, 1) := by decide +kernel
theorem dX6_harmed_11 : decode cX6_harmed 11 = .ok (.if_icmp .ge 27, 3) := by decide +kernel
theorem dX6_harmed_14 : decode cX6_harmed 14 = .ok (.iload_n 1, 1) := by decide +kernel
theorem dX6_harmed_15 : decode cX6_harmed 15 = .ok (.aload_n 0, 1) := by decide +kernel
theorem dX6_harmed_16 : decode cX6_harmed 16 = .ok (.iload_n 2, 1) := by decide +kernel
theorem dX6_harmed_17 : decode cX6_harmed 17 = .ok (.invokevirtual 180, 3) := by decide +kernel
theorem dX6_harmed_20 : decode cX6_harmed 20 = .ok (.ifCond .le 9, 3) := by decide +kernel
theorem dX6_harmed_23 : decode cX6_harmed 23 = .ok (.iconst 1, 1) := by decide +kernel
theorem dX6_harmed_24 : decode cX6_harmed 24 = .ok (.iload_n 2, 1) := by decide +kernel
theorem dX6_harmed_25 : decode cX6_harmed 25 = .ok (.ishl, 1) := by decide +kernel
theorem dX6_harmed_26 : decode cX6_harmed 26 = .ok (.goto 4, 3) := by decide +kernel
theorem dX6_harmed_29 : decode cX6_harmed 29 = .ok (.iconst 0, 1) := by decide +kernel
theorem dX6_harmed_30 : decode cX6_harmed 30 = .ok (.ior, 1) := by decide +kernel
theorem dX6_harmed_31 : decode cX6_harmed 31 = .ok (.istore_n 1, 1) := by decide +kernel
theorem dX6_harmed_32 : decode cX6_harmed 32 = .ok (.iinc 2 1, 3) := by decide +kernel
theorem dX6_harmed_35 : decode cX6_harmed 35 = .ok (.goto (-31), 3) := by decide +kernel
theorem dX6_harmed_38 : decode cX6_harmed 38 = .ok (.iload_n 1, 1) := by decide +kernel
theorem dX6_harmed_39 : decode cX6_harmed 39 = .ok (.ireturn, 1) := by decide +kernel
theorem dX6_lost_0 : decode cX6_lost 0 = .ok (.iload_n 1, 1) := by decide +kernel
theorem dX6_lost_1 : decode cX6_lost 1 = .ok (.invokestatic 149, 3) := by decide +kernel
theorem dX6_lost_4 : decode cX6_lost 4 = .ok (.ifCond .ne 5, 3) := by decide +kernel
theorem dX6_lost_7 : decode cX6_lost 7 = .ok (.iconst (-1), 1) := by decide +kernel
theorem dX6_lost_8 : decode cX6_lost 8 = .ok (.ireturn, 1) := by decide +kernel
theorem dX6_lost_9 : decode cX6_lost 9 = .ok (.iload_n 3, 1) := by decide +kernel
theorem dX6_lost_10 : decode cX6_lost 10 = .ok (.iconst 0, 1) := by decide +kernel
theorem dX6_lost_11 : decode cX6_lost 11 = .ok (.iconst 1, 1) := by decide +kernel
theorem dX6_lost_12 : decode cX6_lost 12 = .ok (.invokestatic 69, 3) := by decide +kernel
theorem dX6_lost_15 : decode cX6_lost 15 = .ok (.ifCond .ne 6, 3) := by decide +kernel
theorem dX6_lost_18 : decode cX6_lost 18 = .ok (.bipush (-2), 2) := by decide +kernel
theorem dX6_lost_20 : decode cX6_lost 20 = .ok (.ireturn, 1) := by decide +kernel
theorem dX6_lost_21 : decode cX6_lost 21 = .ok (.aload_n 0, 1) := by decide +kernel
theorem dX6_lost_22 : decode cX6_lost 22 = .ok (.iload_n 1, 1) := by decide +kernel
theorem dX6_lost_23 : decode cX6_lost 23 = .ok (.bipush (-6), 2) := by decide +kernel
theorem dX6_lost_25 : decode cX6_lost 25 = .ok (.invokevirtual 168, 3) := by decide +kernel
theorem dX6_lost_28 : decode cX6_lost 28 = .ok (.aload_n 0, 1) := by decide +kernel
theorem dX6_lost_29 : decode cX6_lost 29 = .ok (.invokevirtual 174, 3) := by decide +kernel
theorem dX6_lost_32 : decode cX6_lost 32 = .ok (.iload_n 2, 1) := by decide +kernel
theorem dX6_lost_33 : decode cX6_lost 33 = .ok (.iconst 0, 1) := by decide +kernel
theorem dX6_lost_34 : decode cX6_lost 34 = .ok (.aload_n 0, 1) := by decide +kernel
theorem dX6_lost_35 : decode cX6_lost 35 = .ok (.getfield 84, 3) := by decide +kernel
theorem dX6_lost_38 : decode cX6_lost 38 = .ok (.iconst 1, 1) := by decide +kernel
theorem dX6_lost_39 : decode cX6_lost 39 = .ok (.isub, 1) := by decide +kernel
theorem dX6_lost_40 : decode cX6_lost 40 = .ok (.invokestatic 69, 3) := by decide +kernel
theorem dX6_lost_43 : decode cX6_lost 43 = .ok (.ifCond .ne 6, 3) := by decide +kernel
theorem dX6_lost_46 : decode cX6_lost 46 = .ok (.bipush (-6), 2) := by decide +kernel
theorem dX6_lost_48 : decode cX6_lost 48 = .ok (.ireturn, 1) := by decide +kernel
theorem dX6_lost_49 : decode cX6_lost 49 = .ok (.aload_n 0, 1) := by decide +kernel
theorem dX6_lost_50 : decode cX6_lost 50 = .ok (.iload_n 1, 1) := by decide +kernel
theorem dX6_lost_51 : decode cX6_lost 51 = .ok (.iload_n 2, 1) := by decide +kernel
theorem dX6_lost_52 : decode cX6_lost 52 = .ok (.invokevirtual 168, 3) := by decide +kernel
theorem dX6_lost_55 : decode cX6_lost 55 = .ok (.iload_n 3, 1) := by decide +kernel
theorem dX6_lost_56 : decode cX6_lost 56 = .ok (.ifCond .ne 10, 3) := by decide +kernel
theorem dX6_lost_59 : decode cX6_lost 59 = .ok (.aload_n 0, 1) := by decide +kernel
theorem dX6_lost_60 : decode cX6_lost 60 = .ok (.invokevirtual 183, 3) := by decide +kernel
theorem dX6_lost_63 : decode cX6_lost 63 = .ok (.goto 7, 3) := by decide +kernel
theorem dX6_lost_66 : decode cX6_lost 66 = .ok (.aload_n 0, 1) := by decide +kernel
theorem dX6_lost_67 : decode cX6_lost 67 = .ok (.invokevirtual 186, 3) := by decide +kernel
theorem dX6_lost_70 : decode cX6_lost 70 = .ok (.ireturn, 1) := by decide +kernel
theorem dX6_worst_0 : decode cX6_worst 0 = .ok (.iload_n 1, 1) := by decide +kernel
theorem dX6_worst_1 : decode cX6_worst 1 = .ok (.invokestatic 149, 3) := by decide +kernel
theorem dX6_worst_4 : decode cX6_worst 4 = .ok (.ifCond .ne 5, 3) := by decide +kernel
theorem dX6_worst_7 : decode cX6_worst 7 = .ok (.iconst (-1), 1) := by decide +kernel
theorem dX6_worst_8 : decode cX6_worst 8 = .ok (.ireturn, 1) := by decide +kernel
theorem dX6_worst_9 : decode cX6_worst 9 = .ok (.iload_n 2, 1) := by decide +kernel
theorem dX6_worst_10 : decode cX6_worst 10 = .ok (.iconst 0, 1) := by decide +kernel
theorem dX6_worst_11 : decode cX6_worst 11 = .ok (.iconst 2, 1) := by decide +kernel
theorem dX6_worst_12 : decode cX6_worst 12 = .ok (.invokestatic 69, 3) := by decide +kernel
theorem dX6_worst_15 : decode cX6_worst 15 = .ok (.ifCond .ne 6, 3) := by decide +kernel
theorem dX6_worst_18 : decode cX6_worst 18 = .ok (.bipush (-2), 2) := by decide +kernel
theorem dX6_worst_20 : decode cX6_worst 20 = .ok (.ireturn, 1) := by decide +kernel
theorem dX6_worst_21 : decode cX6_worst 21 = .ok (.aload_n 0, 1) := by decide +kernel
theorem dX6_worst_22 : decode cX6_worst 22 = .ok (.iload_n 1, 1) := by decide +kernel
theorem dX6_worst_23 : decode cX6_worst 23 = .ok (.bipush (-6), 2) := by decide +kernel
theorem dX6_worst_25 : decode cX6_worst 25 = .ok (.invokevirtual 168, 3) := by decide +kernel
theorem dX6_worst_28 : decode cX6_worst 28 = .ok (.aload_n 0, 1) := by decide +kernel
theorem dX6_worst_29 : decode cX6_worst 29 = .ok (.invokevirtual 174, 3) := by decide +kernel
theorem dX6_worst_32 : decode cX6_worst 32 = .ok (.iconst 0, 1) := by decide +kernel
theorem dX6_worst_33 : decode cX6_worst 33 = .ok (.istore_n 3, 1) := by decide +kernel
theorem dX6_worst_34 : decode cX6_worst 34 = .ok (.iconst (-1), 1) := by decide +kernel
theorem dX6_worst_35 : decode cX6_worst 35 = .ok (.istore 4, 2) := by decide +kernel
theorem dX6_worst_37 : decode cX6_worst 37 = .ok (.iconst 0, 1) := by decide +kernel
theorem dX6_worst_38 : decode cX6_worst 38 = .ok (.istore 5, 2) := by decide +kernel
theorem dX6_worst_40 : decode cX6_worst 40 = .ok (.iconst 0, 1) := by decide +kernel
theorem dX6_worst_41 : decode cX6_worst 41 = .ok (.istore 6, 2) := by decide +kernel
theorem dX6_worst_43 : decode cX6_worst 43 = .ok (.iload 6, 2) := by decide +kernel
theorem dX6_worst_45 : decode cX6_worst 45 = .ok (.aload_n 0, 1) := by decide +kernel
theorem dX6_worst_46 : decode cX6_worst 46 = .ok (.getfield 84, 3) := by decide +kernel
theorem dX6_worst_49 : decode cX6_worst 49 = .ok (.if_icmp .ge 70, 3) := by decide +kernel
theorem dX6_worst_52 : decode cX6_worst 52 = .ok (.aload_n 0, 1) := by decide +kernel
theorem dX6_worst_53 : decode cX6_worst 53 = .ok (.aload_n 0, 1) := by decide +kernel
theorem dX6_worst_54 : decode cX6_worst 54 = .ok (.getfield 88, 3) := by decide +kernel
theorem dX6_worst_57 : decode cX6_worst 57 = .ok (.iload 6, 2) := by decide +kernel
theorem dX6_worst_59 : decode cX6_worst 59 = .ok (.invokevirtual 165, 3) := by decide +kernel
theorem dX6_worst_62 : decode cX6_worst 62 = .ok (.aload_n 0, 1) := by decide +kernel
theorem dX6_worst_63 : decode cX6_worst 63 = .ok (.invokevirtual 186, 3) := by decide +kernel
theorem dX6_worst_66 : decode cX6_worst 66 = .ok (.istore 7, 2) := by decide +kernel
theorem dX6_worst_68 : decode cX6_worst 68 = .ok (.iload 7, 2) := by decide +kernel
theorem dX6_worst_70 : decode cX6_worst 70 = .ok (.iload 4, 2) := by decide +kernel
theorem dX6_worst_72 : decode cX6_worst 72 = .ok (.if_icmp .le 8, 3) := by decide +kernel
theorem dX6_worst_75 : decode cX6_worst 75 = .ok (.iload 6, 2) := by decide +kernel
theorem dX6_worst_77 : decode cX6_worst 77 = .ok (.goto 4, 3) := by decide +kernel
theorem dX6_worst_80 : decode cX6_worst 80 = .ok (.iload_n 3, 1) := by decide +kernel
theorem dX6_worst_81 : decode cX6_worst 81 = .ok (.istore_n 3, 1) := by decide +kernel
theorem dX6_worst_82 : decode cX6_worst 82 = .ok (.iload 7, 2) := by decide +kernel
theorem dX6_worst_84 : decode cX6_worst 84 = .ok (.iload 4, 2) := by decide +kernel
theorem dX6_worst_86 : decode cX6_worst 86 = .ok (.if_icmp .le 8, 3) := by decide +kernel
theorem dX6_worst_89 : decode cX6_worst 89 = .ok (.iload 7, 2) := by decide +kernel
theorem dX6_worst_91 : decode cX6_worst 91 = .ok (.goto 5, 3) := by decide +kernel
theorem dX6_worst_94 : decode cX6_worst 94 = .ok (.iload 4, 2) := by decide +kernel
theorem dX6_worst_96 : decode cX6_worst 96 = .ok (.istore 4, 2) := by decide +kernel
theorem dX6_worst_98 : decode cX6_worst 98 = .ok (.iload 5, 2) := by decide +kernel
theorem dX6_worst_100 : decode cX6_worst 100 = .ok (.iload 7, 2) := by decide +kernel
theorem dX6_worst_102 : decode cX6_worst 102 = .ok (.ifCond .ne 7, 3) := by decide +kernel
theorem dX6_worst_105 : decode cX6_worst 105 = .ok (.iconst 1, 1) := by decide +kernel
theorem dX6_worst_106 : decode cX6_worst 106 = .ok (.goto 4, 3) := by decide +kernel
theorem dX6_worst_109 : decode cX6_worst 109 = .ok (.iconst 0, 1) := by decide +kernel
theorem dX6_worst_110 : decode cX6_worst 110 = .ok (.iadd, 1) := by decide +kernel
theorem dX6_worst_111 : decode cX6_worst 111 = .ok (.istore 5, 2) := by decide +kernel
theorem dX6_worst_113 : decode cX6_worst 113 = .ok (.iinc 6 1, 3) := by decide +kernel
theorem dX6_worst_116 : decode cX6_worst 116 = .ok (.goto (-73), 3) := by decide +kernel
theorem dX6_worst_119 : decode cX6_worst 119 = .ok (.iload_n 2, 1) := by decide +kernel
theorem dX6_worst_120 : decode cX6_worst 120 = .ok (.ifCond .ne 7, 3) := by decide +kernel
theorem dX6_worst_123 : decode cX6_worst 123 = .ok (.iload_n 3, 1) := by decide +kernel
theorem dX6_worst_124 : decode cX6_worst 124 = .ok (.goto 15, 3) := by decide +kernel
theorem dX6_worst_127 : decode cX6_worst 127 = .ok (.iload_n 2, 1) := by decide +kernel
theorem dX6_worst_128 : decode cX6_worst 128 = .ok (.iconst 1, 1) := by decide +kernel
theorem dX6_worst_129 : decode cX6_worst 129 = .ok (.if_icmp .ne 8, 3) := by decide +kernel
theorem dX6_worst_132 : decode cX6_worst 132 = .ok (.iload 4, 2) := by decide +kernel
theorem dX6_worst_134 : decode cX6_worst 134 = .ok (.goto 5, 3) := by decide +kernel
theorem dX6_worst_137 : decode cX6_worst 137 = .ok (.iload 5, 2) := by decide +kernel
theorem dX6_worst_139 : decode cX6_worst 139 = .ok (.ireturn, 1) := by decide +kernel
theorem dX6_comes_0 : decode cX6_comes 0 = .ok (.iload_n 1, 1) := by decide +kernel
theorem dX6_comes_1 : decode cX6_comes 1 = .ok (.invokestatic 149, 3) := by decide +kernel
theorem dX6_comes_4 : decode cX6_comes 4 = .ok (.ifCond .eq 11, 3) := by decide +kernel
theorem dX6_comes_7 : decode cX6_comes 7 = .ok (.aload_n 0, 1) := by decide +kernel
theorem dX6_comes_8 : decode cX6_comes 8 = .ok (.iload_n 2, 1) := by decide +kernel
theorem dX6_comes_9 : decode cX6_comes 9 = .ok (.invokevirtual 73, 3) := by decide +kernel
theorem dX6_comes_12 : decode cX6_comes 12 = .ok (.ifCond .ne 5, 3) := by decide +kernel
theorem dX6_comes_15 : decode cX6_comes 15 = .ok (.iconst (-1), 1) := by decide +kernel
theorem dX6_comes_16 : decode cX6_comes 16 = .ok (.ireturn, 1) := by decide +kernel
theorem dX6_comes_17 : decode cX6_comes 17 = .ok (.aload_n 0, 1) := by decide +kernel
theorem dX6_comes_18 : decode cX6_comes 18 = .ok (.iload_n 3, 1) := by decide +kernel
theorem dX6_comes_19 : decode cX6_comes 19 = .ok (.invokevirtual 77, 3) := by decide +kernel
theorem dX6_comes_22 : decode cX6_comes 22 = .ok (.ifCond .eq 13, 3) := by decide +kernel
theorem dX6_comes_25 : decode cX6_comes 25 = .ok (.iload 4, 2) := by decide +kernel
theorem dX6_comes_27 : decode cX6_comes 27 = .ok (.iconst 0, 1) := by decide +kernel
theorem dX6_comes_28 : decode cX6_comes 28 = .ok (.iconst 1, 1) := by decide +kernel
theorem dX6_comes_29 : decode cX6_comes 29 = .ok (.invokestatic 69, 3) := by decide +kernel
theorem dX6_comes_32 : decode cX6_comes 32 = .ok (.ifCond .ne 6, 3) := by decide +kernel
theorem dX6_comes_35 : decode cX6_comes 35 = .ok (.bipush (-2), 2) := by decide +kernel
theorem dX6_comes_37 : decode cX6_comes 37 = .ok (.ireturn, 1) := by decide +kernel
theorem dX6_comes_38 : decode cX6_comes 38 = .ok (.aload_n 0, 1) := by decide +kernel
theorem dX6_comes_39 : decode cX6_comes 39 = .ok (.iload_n 1, 1) := by decide +kernel
theorem dX6_comes_40 : decode cX6_comes 40 = .ok (.aload_n 0, 1) := by decide +kernel
theorem dX6_comes_41 : decode cX6_comes 41 = .ok (.getfield 7, 3) := by decide +kernel
theorem dX6_comes_44 : decode cX6_comes 44 = .ok (.iconst 1, 1) := by decide +kernel
theorem dX6_comes_45 : decode cX6_comes 45 = .ok (.iaload, 1) := by decide +kernel
theorem dX6_comes_46 : decode cX6_comes 46 = .ok (.invokevirtual 152, 3) := by decide +kernel
theorem dX6_comes_49 : decode cX6_comes 49 = .ok (.iconst 0, 1) := by decide +kernel
theorem dX6_comes_50 : decode cX6_comes 50 = .ok (.istore 5, 2) := by decide +kernel
theorem dX6_comes_52 : decode cX6_comes 52 = .ok (.iconst 0, 1) := by decide +kernel
theorem dX6_comes_53 : decode cX6_comes 53 = .ok (.istore 6, 2) := by decide +kernel
theorem dX6_comes_55 : decode cX6_comes 55 = .ok (.iload 6, 2) := by decide +kernel
theorem dX6_comes_57 : decode cX6_comes 57 = .ok (.aload_n 0, 1) := by decide +kernel
theorem dX6_comes_58 : decode cX6_comes 58 = .ok (.getfield 84, 3) := by decide +kernel
theorem dX6_comes_61 : decode cX6_comes 61 = .ok (.if_icmp .ge 103, 3) := by decide +kernel
theorem dX6_comes_64 : decode cX6_comes 64 = .ok (.aload_n 0, 1) := by decide +kernel
theorem dX6_comes_65 : decode cX6_comes 65 = .ok (.getfield 26, 3) := by decide +kernel
theorem dX6_comes_68 : decode cX6_comes 68 = .ok (.iload 6, 2) := by decide +kernel
theorem dX6_comes_70 : decode cX6_comes 70 = .ok (.iaload, 1) := by decide +kernel
theorem dX6_comes_71 : decode cX6_comes 71 = .ok (.iload_n 2, 1) := by decide +kernel
theorem dX6_comes_72 : decode cX6_comes 72 = .ok (.if_icmp .ne 38, 3) := by decide +kernel
theorem dX6_comes_75 : decode cX6_comes 75 = .ok (.iload_n 3, 1) := by decide +kernel
theorem dX6_comes_76 : decode cX6_comes 76 = .ok (.aload_n 0, 1) := by decide +kernel
theorem dX6_comes_77 : decode cX6_comes 77 = .ok (.getfield 29, 3) := by decide +kernel
theorem dX6_comes_80 : decode cX6_comes 80 = .ok (.iload 6, 2) := by decide +kernel
theorem dX6_comes_82 : decode cX6_comes 82 = .ok (.iaload, 1) := by decide +kernel
theorem dX6_comes_83 : decode cX6_comes 83 = .ok (.aload_n 0, 1) := by decide +kernel
theorem dX6_comes_84 : decode cX6_comes 84 = .ok (.getfield 29, 3) := by decide +kernel
theorem dX6_comes_87 : decode cX6_comes 87 = .ok (.iload 6, 2) := by decide +kernel
theorem dX6_comes_89 : decode cX6_comes 89 = .ok (.iaload, 1) := by decide +kernel
theorem dX6_comes_90 : decode cX6_comes 90 = .ok (.aload_n 0, 1) := by decide +kernel
theorem dX6_comes_91 : decode cX6_comes 91 = .ok (.getfield 32, 3) := by decide +kernel
theorem dX6_comes_94 : decode cX6_comes 94 = .ok (.iload 6, 2) := by decide +kernel
theorem dX6_comes_96 : decode cX6_comes 96 = .ok (.iaload, 1) := by decide +kernel
theorem dX6_comes_97 : decode cX6_comes 97 = .ok (.iadd, 1) := by decide +kernel
theorem dX6_comes_98 : decode cX6_comes 98 = .ok (.iconst 1, 1) := by decide +kernel
theorem dX6_comes_99 : decode cX6_comes 99 = .ok (.isub, 1) := by decide +kernel
theorem dX6_comes_100 : decode cX6_comes 100 = .ok (.invokestatic 69, 3) := by decide +kernel
theorem dX6_comes_103 : decode cX6_comes 103 = .ok (.ifCond .eq 7, 3) := by decide +kernel
theorem dX6_comes_106 : decode cX6_comes 106 = .ok (.iconst 1, 1) := by decide +kernel
theorem dX6_comes_107 : decode cX6_comes 107 = .ok (.goto 4, 3) := by decide +kernel
theorem dX6_comes_110 : decode cX6_comes 110 = .ok (.iconst 0, 1) := by decide +kernel
theorem dX6_comes_111 : decode cX6_comes 111 = .ok (.istore 7, 2) := by decide +kernel
theorem dX6_comes_113 : decode cX6_comes 113 = .ok (.iload 5, 2) := by decide +kernel
theorem dX6_comes_115 : decode cX6_comes 115 = .ok (.iload 7, 2) := by decide +kernel
theorem dX6_comes_117 : decode cX6_comes 117 = .ok (.ifCond .eq 37, 3) := by decide +kernel
theorem dX6_comes_120 : decode cX6_comes 120 = .ok (.aload_n 0, 1) := by decide +kernel
theorem dX6_comes_121 : decode cX6_comes 121 = .ok (.getfield 35, 3) := by decide +kernel
theorem dX6_comes_124 : decode cX6_comes 124 = .ok (.iload 6, 2) := by decide +kernel
theorem dX6_comes_126 : decode cX6_comes 126 = .ok (.iaload, 1) := by decide +kernel
theorem dX6_comes_127 : decode cX6_comes 127 = .ok (.iconst 2, 1) := by decide +kernel
theorem dX6_comes_128 : decode cX6_comes 128 = .ok (.if_icmp .ne 7, 3) := by decide +kernel
theorem dX6_comes_131 : decode cX6_comes 131 = .ok (.iconst 1, 1) := by decide +kernel
theorem dX6_comes_132 : decode cX6_comes 132 = .ok (.goto 4, 3) := by decide +kernel
theorem dX6_comes_135 : decode cX6_comes 135 = .ok (.iconst 0, 1) := by decide +kernel
theorem dX6_comes_136 : decode cX6_comes 136 = .ok (.iload 4, 2) := by decide +kernel
theorem dX6_comes_138 : decode cX6_comes 138 = .ok (.iconst 1, 1) := by decide +kernel
theorem dX6_comes_139 : decode cX6_comes 139 = .ok (.if_icmp .ne 7, 3) := by decide +kernel
theorem dX6_comes_142 : decode cX6_comes 142 = .ok (.iconst 1, 1) := by decide +kernel
theorem dX6_comes_143 : decode cX6_comes 143 = .ok (.goto 4, 3) := by decide +kernel
theorem dX6_comes_146 : decode cX6_comes 146 = .ok (.iconst 0, 1) := by decide +kernel
theorem dX6_comes_147 : decode cX6_comes 147 = .ok (.if_icmp .ne 7, 3) := by decide +kernel
theorem dX6_comes_150 : decode cX6_comes 150 = .ok (.iconst 1, 1) := by decide +kernel
theorem dX6_comes_151 : decode cX6_comes 151 = .ok (.goto 4, 3) := by decide +kernel
theorem dX6_comes_154 : decode cX6_comes 154 = .ok (.iconst 0, 1) := by decide +kernel
theorem dX6_comes_155 : decode cX6_comes 155 = .ok (.iadd, 1) := by decide +kernel
theorem dX6_comes_156 : decode cX6_comes 156 = .ok (.istore 5, 2) := by decide +kernel
theorem dX6_comes_158 : decode cX6_comes 158 = .ok (.iinc 6 1, 3) := by decide +kernel
theorem dX6_comes_161 : decode cX6_comes 161 = .ok (.goto (-106), 3) := by decide +kernel
theorem dX6_comes_164 : decode cX6_comes 164 = .ok (.iload 5, 2) := by decide +kernel
theorem dX6_comes_166 : decode cX6_comes 166 = .ok (.ireturn, 1) := by decide +kernel
theorem dX6_image_0 : decode cX6_image 0 = .ok (.iload_n 1, 1) := by decide +kernel
theorem dX6_image_1 : decode cX6_image 1 = .ok (.iconst 0, 1) := by decide +kernel
theorem dX6_image_2 : decode cX6_image 2 = .ok (.iconst 1, 1) := by decide +kernel
theorem dX6_image_3 : decode cX6_image 3 = .ok (.invokestatic 69, 3) := by decide +kernel
theorem dX6_image_6 : decode cX6_image 6 = .ok (.ifCond .ne 6, 3) := by decide +kernel
theorem dX6_image_9 : decode cX6_image 9 = .ok (.bipush (-2), 2) := by decide +kernel
theorem dX6_image_11 : decode cX6_image 11 = .ok (.ireturn, 1) := by decide +kernel
theorem dX6_image_12 : decode cX6_image 12 = .ok (.iconst 0, 1) := by decide +kernel
theorem dX6_image_13 : decode cX6_image 13 = .ok (.istore_n 2, 1) := by decide +kernel
theorem dX6_image_14 : decode cX6_image 14 = .ok (.iload_n 2, 1) := by decide +kernel
theorem dX6_image_15 : decode cX6_image 15 = .ok (.sipush 194, 3) := by decide +kernel
theorem dX6_image_18 : decode cX6_image 18 = .ok (.if_icmp .ge 27, 3) := by decide +kernel
theorem dX6_image_21 : decode cX6_image 21 = .ok (.aload_n 0, 1) := by decide +kernel
theorem dX6_image_22 : decode cX6_image 22 = .ok (.getfield 13, 3) := by decide +kernel
theorem dX6_image_25 : decode cX6_image 25 = .ok (.sipush 194, 3) := by decide +kernel
theorem dX6_image_28 : decode cX6_image 28 = .ok (.iload_n 1, 1) := by decide +kernel
theorem dX6_image_29 : decode cX6_image 29 = .ok (.imul, 1) := by decide +kernel
theorem dX6_image_30 : decode cX6_image 30 = .ok (.iload_n 2, 1) := by decide +kernel
theorem dX6_image_31 : decode cX6_image 31 = .ok (.iadd, 1) := by decide +kernel
theorem dX6_image_32 : decode cX6_image 32 = .ok (.aload_n 0, 1) := by decide +kernel
theorem dX6_image_33 : decode cX6_image 33 = .ok (.getfield 7, 3) := by decide +kernel
theorem dX6_image_36 : decode cX6_image 36 = .ok (.iload_n 2, 1) := by decide +kernel
theorem dX6_image_37 : decode cX6_image 37 = .ok (.iaload, 1) := by decide +kernel
theorem dX6_image_38 : decode cX6_image 38 = .ok (.iastore, 1) := by decide +kernel
theorem dX6_image_39 : decode cX6_image 39 = .ok (.iinc 2 1, 3) := by decide +kernel
theorem dX6_image_42 : decode cX6_image 42 = .ok (.goto (-28), 3) := by decide +kernel
theorem dX6_image_45 : decode cX6_image 45 = .ok (.aload_n 0, 1) := by decide +kernel
theorem dX6_image_46 : decode cX6_image 46 = .ok (.getfield 16, 3) := by decide +kernel
theorem dX6_image_49 : decode cX6_image 49 = .ok (.iload_n 1, 1) := by decide +kernel
theorem dX6_image_50 : decode cX6_image 50 = .ok (.iconst 1, 1) := by decide +kernel
theorem dX6_image_51 : decode cX6_image 51 = .ok (.bastore, 1) := by decide +kernel
theorem dX6_image_52 : decode cX6_image 52 = .ok (.iconst 1, 1) := by decide +kernel
theorem dX6_image_53 : decode cX6_image 53 = .ok (.ireturn, 1) := by decide +kernel
theorem dX6_restore_0 : decode cX6_restore 0 = .ok (.iload_n 1, 1) := by decide +kernel
theorem dX6_restore_1 : decode cX6_restore 1 = .ok (.iconst 0, 1) := by decide +kernel
theorem dX6_restore_2 : decode cX6_restore 2 = .ok (.iconst 1, 1) := by decide +kernel
theorem dX6_restore_3 : decode cX6_restore 3 = .ok (.invokestatic 69, 3) := by decide +kernel
theorem dX6_restore_6 : decode cX6_restore 6 = .ok (.ifCond .ne 6, 3) := by decide +kernel
theorem dX6_restore_9 : decode cX6_restore 9 = .ok (.bipush (-2), 2) := by decide +kernel
theorem dX6_restore_11 : decode cX6_restore 11 = .ok (.ireturn, 1) := by decide +kernel
theorem dX6_restore_12 : decode cX6_restore 12 = .ok (.aload_n 0, 1) := by decide +kernel
theorem dX6_restore_13 : decode cX6_restore 13 = .ok (.getfield 16, 3) := by decide +kernel
theorem dX6_restore_16 : decode cX6_restore 16 = .ok (.iload_n 1, 1) := by decide +kernel
theorem dX6_restore_17 : decode cX6_restore 17 = .ok (.baload, 1) := by decide +kernel
theorem dX6_restore_18 : decode cX6_restore 18 = .ok (.ifCond .ne 6, 3) := by decide +kernel
theorem dX6_restore_21 : decode cX6_restore 21 = .ok (.bipush (-3), 2) := by decide +kernel
theorem dX6_restore_23 : decode cX6_restore 23 = .ok (.ireturn, 1) := by decide +kernel
theorem dX6_restore_24 : decode cX6_restore 24 = .ok (.iconst 0, 1) := by decide +kernel
theorem dX6_restore_25 : decode cX6_restore 25 = .ok (.istore_n 2, 1) := by decide +kernel
theorem dX6_restore_26 : decode cX6_restore 26 = .ok (.iload_n 2, 1) := by decide +kernel
theorem dX6_restore_27 : decode cX6_restore 27 = .ok (.sipush 194, 3) := by decide +kernel
theorem dX6_restore_30 : decode cX6_restore 30 = .ok (.if_icmp .ge 27, 3) := by decide +kernel
theorem dX6_restore_33 : decode cX6_restore 33 = .ok (.aload_n 0, 1) := by decide +kernel
theorem dX6_restore_34 : decode cX6_restore 34 = .ok (.getfield 7, 3) := by decide +kernel
theorem dX6_restore_37 : decode cX6_restore 37 = .ok (.iload_n 2, 1) := by decide +kernel
theorem dX6_restore_38 : decode cX6_restore 38 = .ok (.aload_n 0, 1) := by decide +kernel
theorem dX6_restore_39 : decode cX6_restore 39 = .ok (.getfield 13, 3) := by decide +kernel
theorem dX6_restore_42 : decode cX6_restore 42 = .ok (.sipush 194, 3) := by decide +kernel
theorem dX6_restore_45 : decode cX6_restore 45 = .ok (.iload_n 1, 1) := by decide +kernel
theorem dX6_restore_46 : decode cX6_restore 46 = .ok (.imul, 1) := by decide +kernel
theorem dX6_restore_47 : decode cX6_restore 47 = .ok (.iload_n 2, 1) := by decide +kernel
theorem dX6_restore_48 : decode cX6_restore 48 = .ok (.iadd, 1) := by decide +kernel
theorem dX6_restore_49 : decode cX6_restore 49 = .ok (.iaload, 1) := by decide +kernel
theorem dX6_restore_50 : decode cX6_restore 50 = .ok (.iastore, 1) := by decide +kernel
theorem dX6_restore_51 : decode cX6_restore 51 = .ok (.iinc 2 1, 3) := by decide +kernel
theorem dX6_restore_54 : decode cX6_restore 54 = .ok (.goto (-28), 3) := by decide +kernel
theorem dX6_restore_57 : decode cX6_restore 57 = .ok (.iconst 1, 1) := by decide +kernel
theorem dX6_restore_58 : decode cX6_restore 58 = .ok (.ireturn, 1) := by decide +kernel
theorem dX6_allNumbers_0 : decode cX6_allNumbers 0 = .ok (.iconst 0, 1) := by decide +kernel
theorem dX6_allNumbers_1 : decode cX6_allNumbers 1 = .ok (.istore_n 1, 1) := by decide +kernel
theorem dX6_allNumbers_2 : decode cX6_allNumbers 2 = .ok (.iconst 0, 1) := by decide +kernel
theorem dX6_allNumbers_3 : decode cX6_allNumbers 3 = .ok (.istore_n 2, 1) := by decide +kernel
theorem dX6_allNumbers_4 : decode cX6_allNumbers 4 = .ok (.iload_n 2, 1) := by decide +kernel
theorem dX6_allNumbers_5 : decode cX6_allNumbers 5 = .ok (.bipush 108, 2) := by decide +kernel
theorem dX6_allNumbers_7 : decode cX6_allNumbers 7 = .ok (.if_icmp .ge 21, 3) := by decide +kernel
theorem dX6_allNumbers_10 : decode cX6_allNumbers 10 = .ok (.iload_n 1, 1) := by decide +kernel
theorem dX6_allNumbers_11 : decode cX6_allNumbers 11 = .ok (.aload_n 0, 1) := by decide +kernel
theorem dX6_allNumbers_12 : decode cX6_allNumbers 12 = .ok (.getfield 7, 3) := by decide +kernel
theorem dX6_allNumbers_15 : decode cX6_allNumbers 15 = .ok (.bipush 86, 2) := by decide +kernel
theorem dX6_allNumbers_17 : decode cX6_allNumbers 17 = .ok (.iload_n 2, 1) := by decide +kernel
theorem dX6_allNumbers_18 : decode cX6_allNumbers 18 = .ok (.iadd, 1) := by decide +kernel
theorem dX6_allNumbers_19 : decode cX6_allNumbers 19 = .ok (.iaload, 1) := by decide +kernel
theorem dX6_allNumbers_20 : decode cX6_allNumbers 20 = .ok (.iadd, 1) := by decide +kernel
theorem dX6_allNumbers_21 : decode cX6_allNumbers 21 = .ok (.istore_n 1, 1) := by decide +kernel
theorem dX6_allNumbers_22 : decode cX6_allNumbers 22 = .ok (.iinc 2 1, 3) := by decide +kernel
theorem dX6_allNumbers_25 : decode cX6_allNumbers 25 = .ok (.goto (-21), 3) := by decide +kernel
theorem dX6_allNumbers_28 : decode cX6_allNumbers 28 = .ok (.iload_n 1, 1) := by decide +kernel
theorem dX6_allNumbers_29 : decode cX6_allNumbers 29 = .ok (.ireturn, 1) := by decide +kernel
theorem dX6_count_0 : decode cX6_count 0 = .ok (.iload_n 1, 1) := by decide +kernel
theorem dX6_count_1 : decode cX6_count 1 = .ok (.tableswitch 113 0 6 #[43, 50, 57, 64, 71, 78, 83], 43) := by decide +kernel
theorem dX6_count_44 : decode cX6_count 44 = .ok (.aload_n 0, 1) := by decide +kernel
theorem dX6_count_45 : decode cX6_count 45 = .ok (.getfield 7, 3) := by decide +kernel
theorem dX6_count_48 : decode cX6_count 48 = .ok (.iconst 0, 1) := by decide +kernel
theorem dX6_count_49 : decode cX6_count 49 = .ok (.iaload, 1) := by decide +kernel
theorem dX6_count_50 : decode cX6_count 50 = .ok (.ireturn, 1) := by decide +kernel
theorem dX6_count_51 : decode cX6_count 51 = .ok (.aload_n 0, 1) := by decide +kernel
theorem dX6_count_52 : decode cX6_count 52 = .ok (.getfield 7, 3) := by decide +kernel
theorem dX6_count_55 : decode cX6_count 55 = .ok (.iconst 1, 1) := by decide +kernel
theorem dX6_count_56 : decode cX6_count 56 = .ok (.iaload, 1) := by decide +kernel
theorem dX6_count_57 : decode cX6_count 57 = .ok (.ireturn, 1) := by decide +kernel
theorem dX6_count_58 : decode cX6_count 58 = .ok (.aload_n 0, 1) := by decide +kernel
theorem dX6_count_59 : decode cX6_count 59 = .ok (.getfield 7, 3) := by decide +kernel
theorem dX6_count_62 : decode cX6_count 62 = .ok (.iconst 2, 1) := by decide +kernel
theorem dX6_count_63 : decode cX6_count 63 = .ok (.iaload, 1) := by decide +kernel
theorem dX6_count_64 : decode cX6_count 64 = .ok (.ireturn, 1) := by decide +kernel
theorem dX6_count_65 : decode cX6_count 65 = .ok (.aload_n 0, 1) := by decide +kernel
theorem dX6_count_66 : decode cX6_count 66 = .ok (.getfield 7, 3) := by decide +kernel
theorem dX6_count_69 : decode cX6_count 69 = .ok (.iconst 3, 1) := by decide +kernel
theorem dX6_count_70 : decode cX6_count 70 = .ok (.iaload, 1) := by decide +kernel
theorem dX6_count_71 : decode cX6_count 71 = .ok (.ireturn, 1) := by decide +kernel
theorem dX6_count_72 : decode cX6_count 72 = .ok (.aload_n 0, 1) := by decide +kernel
theorem dX6_count_73 : decode cX6_count 73 = .ok (.getfield 7, 3) := by decide +kernel
theorem dX6_count_76 : decode cX6_count 76 = .ok (.iconst 4, 1) := by decide +kernel
theorem dX6_count_77 : decode cX6_count 77 = .ok (.iaload, 1) := by decide +kernel
theorem dX6_count_78 : decode cX6_count 78 = .ok (.ireturn, 1) := by decide +kernel
theorem dX6_count_79 : decode cX6_count 79 = .ok (.aload_n 0, 1) := by decide +kernel
theorem dX6_count_80 : decode cX6_count 80 = .ok (.invokevirtual 189, 3) := by decide +kernel
theorem dX6_count_83 : decode cX6_count 83 = .ok (.ireturn, 1) := by decide +kernel
theorem dX6_count_84 : decode cX6_count 84 = .ok (.aload_n 0, 1) := by decide +kernel
theorem dX6_count_85 : decode cX6_count 85 = .ok (.getfield 16, 3) := by decide +kernel
theorem dX6_count_88 : decode cX6_count 88 = .ok (.iconst 0, 1) := by decide +kernel
theorem dX6_count_89 : decode cX6_count 89 = .ok (.baload, 1) := by decide +kernel
theorem dX6_count_90 : decode cX6_count 90 = .ok (.ifCond .eq 7, 3) := by decide +kernel
theorem dX6_count_93 : decode cX6_count 93 = .ok (.iconst 1, 1) := by decide +kernel
theorem dX6_count_94 : decode cX6_count 94 = .ok (.goto 4, 3) := by decide +kernel
theorem dX6_count_97 : decode cX6_count 97 = .ok (.iconst 0, 1) := by decide +kernel
theorem dX6_count_98 : decode cX6_count 98 = .ok (.aload_n 0, 1) := by decide +kernel
theorem dX6_count_99 : decode cX6_count 99 = .ok (.getfield 16, 3) := by decide +kernel
theorem dX6_count_102 : decode cX6_count 102 = .ok (.iconst 1, 1) := by decide +kernel
theorem dX6_count_103 : decode cX6_count 103 = .ok (.baload, 1) := by decide +kernel
theorem dX6_count_104 : decode cX6_count 104 = .ok (.ifCond .eq 7, 3) := by decide +kernel
theorem dX6_count_107 : decode cX6_count 107 = .ok (.iconst 2, 1) := by decide +kernel
theorem dX6_count_108 : decode cX6_count 108 = .ok (.goto 4, 3) := by decide +kernel
theorem dX6_count_111 : decode cX6_count 111 = .ok (.iconst 0, 1) := by decide +kernel
theorem dX6_count_112 : decode cX6_count 112 = .ok (.iadd, 1) := by decide +kernel
theorem dX6_count_113 : decode cX6_count 113 = .ok (.ireturn, 1) := by decide +kernel
theorem dX6_count_114 : decode cX6_count 114 = .ok (.bipush (-2), 2) := by decide +kernel
theorem dX6_count_116 : decode cX6_count 116 = .ok (.ireturn, 1) := by decide +kernel
