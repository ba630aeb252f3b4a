theorem dX0_init_0 : decode cX0_init 0 = .ok (.aload_n 0, 1) := by decide +kernel
theorem dX0_init_1 : decode cX0_init 1 = .ok (.invokespecial 3, 3) := by decide +kernel
theorem dX0_init_4 : decode cX0_init 4 = .ok (.aload_n 0, 1) := by decide +kernel
theorem dX0_init_5 : decode cX0_init 5 = .ok (.bipush 9, 2) := by decide +kernel
theorem dX0_init_7 : decode cX0_init 7 = .ok (.newarray .int, 2) := by decide +kernel
theorem dX0_init_9 : decode cX0_init 9 = .ok (.putfield 9, 3) := by decide +kernel
theorem dX0_init_12 : decode cX0_init 12 = .ok (.aload_n 0, 1) := by decide +kernel
theorem dX0_init_13 : decode cX0_init 13 = .ok (.bipush 9, 2) := by decide +kernel
theorem dX0_init_15 : decode cX0_init 15 = .ok (.newarray .int, 2) := by decide +kernel
theorem dX0_init_17 : decode cX0_init 17 = .ok (.putfield 15, 3) := by decide +kernel
theorem dX0_init_20 : decode cX0_init 20 = .ok (.aload_n 0, 1) := by decide +kernel
theorem dX0_init_21 : decode cX0_init 21 = .ok (.iconst 0, 1) := by decide +kernel
theorem dX0_init_22 : decode cX0_init 22 = .ok (.putfield 18, 3) := by decide +kernel
theorem dX0_init_25 : decode cX0_init 25 = .ok (.aload_n 0, 1) := by decide +kernel
theorem dX0_init_26 : decode cX0_init 26 = .ok (.iconst 0, 1) := by decide +kernel
theorem dX0_init_27 : decode cX0_init 27 = .ok (.putfield 22, 3) := by decide +kernel
theorem dX0_init_30 : decode cX0_init 30 = .ok (.return_, 1) := by decide +kernel
theorem dX0_reckon_0 : decode cX0_reckon 0 = .ok (.aload_n 0, 1) := by decide +kernel
theorem dX0_reckon_1 : decode cX0_reckon 1 = .ok (.getfield 15, 3) := by decide +kernel
theorem dX0_reckon_4 : decode cX0_reckon 4 = .ok (.iconst 0, 1) := by decide +kernel
theorem dX0_reckon_5 : decode cX0_reckon 5 = .ok (.invokestatic 25, 3) := by decide +kernel
theorem dX0_reckon_8 : decode cX0_reckon 8 = .ok (.aload_n 0, 1) := by decide +kernel
theorem dX0_reckon_9 : decode cX0_reckon 9 = .ok (.iconst 0, 1) := by decide +kernel
theorem dX0_reckon_10 : decode cX0_reckon 10 = .ok (.putfield 18, 3) := by decide +kernel
theorem dX0_reckon_13 : decode cX0_reckon 13 = .ok (.aload_n 0, 1) := by decide +kernel
theorem dX0_reckon_14 : decode cX0_reckon 14 = .ok (.iconst 0, 1) := by decide +kernel
theorem dX0_reckon_15 : decode cX0_reckon 15 = .ok (.putfield 22, 3) := by decide +kernel
theorem dX0_reckon_18 : decode cX0_reckon 18 = .ok (.iconst 0, 1) := by decide +kernel
theorem dX0_reckon_19 : decode cX0_reckon 19 = .ok (.istore_n 3, 1) := by decide +kernel
theorem dX0_reckon_20 : decode cX0_reckon 20 = .ok (.iconst 0, 1) := by decide +kernel
theorem dX0_reckon_21 : decode cX0_reckon 21 = .ok (.istore 4, 2) := by decide +kernel
theorem dX0_reckon_23 : decode cX0_reckon 23 = .ok (.iconst 0, 1) := by decide +kernel
theorem dX0_reckon_24 : decode cX0_reckon 24 = .ok (.istore 5, 2) := by decide +kernel
theorem dX0_reckon_26 : decode cX0_reckon 26 = .ok (.iload 5, 2) := by decide +kernel
theorem dX0_reckon_28 : decode cX0_reckon 28 = .ok (.aload_n 2, 1) := by decide +kernel
theorem dX0_reckon_29 : decode cX0_reckon 29 = .ok (.getfield 31, 3) := by decide +kernel
theorem dX0_reckon_32 : decode cX0_reckon 32 = .ok (.if_icmp .ge 111, 3) := by decide +kernel
theorem dX0_reckon_35 : decode cX0_reckon 35 = .ok (.aload_n 0, 1) := by decide +kernel
theorem dX0_reckon_36 : decode cX0_reckon 36 = .ok (.getfield 9, 3) := by decide +kernel
theorem dX0_reckon_39 : decode cX0_reckon 39 = .ok (.iconst 0, 1) := by decide +kernel
theorem dX0_reckon_40 : decode cX0_reckon 40 = .ok (.invokestatic 25, 3) := by decide +kernel
theorem dX0_reckon_43 : decode cX0_reckon 43 = .ok (.iload 4, 2) := by decide +kernel
theorem dX0_reckon_45 : decode cX0_reckon 45 = .ok (.aload_n 2, 1) := by decide +kernel
theorem dX0_reckon_46 : decode cX0_reckon 46 = .ok (.getfield 36, 3) := by decide +kernel
theorem dX0_reckon_49 : decode cX0_reckon 49 = .ok (.if_icmp .ge 56, 3) := by decide +kernel
theorem dX0_reckon_52 : decode cX0_reckon 52 = .ok (.aload_n 2, 1) := by decide +kernel
theorem dX0_reckon_53 : decode cX0_reckon 53 = .ok (.iload 4, 2) := by decide +kernel
theorem dX0_reckon_55 : decode cX0_reckon 55 = .ok (.iconst 0, 1) := by decide +kernel
theorem dX0_reckon_56 : decode cX0_reckon 56 = .ok (.invokevirtual 39, 3) := by decide +kernel
theorem dX0_reckon_59 : decode cX0_reckon 59 = .ok (.iload 5, 2) := by decide +kernel
theorem dX0_reckon_61 : decode cX0_reckon 61 = .ok (.if_icmp .ne 44, 3) := by decide +kernel
theorem dX0_reckon_64 : decode cX0_reckon 64 = .ok (.aload_n 1, 1) := by decide +kernel
theorem dX0_reckon_65 : decode cX0_reckon 65 = .ok (.aload_n 2, 1) := by decide +kernel
theorem dX0_reckon_66 : decode cX0_reckon 66 = .ok (.iload 4, 2) := by decide +kernel
theorem dX0_reckon_68 : decode cX0_reckon 68 = .ok (.invokevirtual 43, 3) := by decide +kernel
theorem dX0_reckon_71 : decode cX0_reckon 71 = .ok (.istore 6, 2) := by decide +kernel
theorem dX0_reckon_73 : decode cX0_reckon 73 = .ok (.aload_n 0, 1) := by decide +kernel
theorem dX0_reckon_74 : decode cX0_reckon 74 = .ok (.aload_n 2, 1) := by decide +kernel
theorem dX0_reckon_75 : decode cX0_reckon 75 = .ok (.iload 4, 2) := by decide +kernel
theorem dX0_reckon_77 : decode cX0_reckon 77 = .ok (.iconst 1, 1) := by decide +kernel
theorem dX0_reckon_78 : decode cX0_reckon 78 = .ok (.invokevirtual 39, 3) := by decide +kernel
theorem dX0_reckon_81 : decode cX0_reckon 81 = .ok (.iload 6, 2) := by decide +kernel
theorem dX0_reckon_83 : decode cX0_reckon 83 = .ok (.invokevirtual 49, 3) := by decide +kernel
theorem dX0_reckon_86 : decode cX0_reckon 86 = .ok (.aload_n 0, 1) := by decide +kernel
theorem dX0_reckon_87 : decode cX0_reckon 87 = .ok (.aload_n 2, 1) := by decide +kernel
theorem dX0_reckon_88 : decode cX0_reckon 88 = .ok (.iload 4, 2) := by decide +kernel
theorem dX0_reckon_90 : decode cX0_reckon 90 = .ok (.iconst 2, 1) := by decide +kernel
theorem dX0_reckon_91 : decode cX0_reckon 91 = .ok (.invokevirtual 39, 3) := by decide +kernel
theorem dX0_reckon_94 : decode cX0_reckon 94 = .ok (.iload 6, 2) := by decide +kernel
theorem dX0_reckon_96 : decode cX0_reckon 96 = .ok (.invokevirtual 49, 3) := by decide +kernel
theorem dX0_reckon_99 : decode cX0_reckon 99 = .ok (.iinc 4 1, 3) := by decide +kernel
theorem dX0_reckon_102 : decode cX0_reckon 102 = .ok (.goto (-59), 3) := by decide +kernel
theorem dX0_reckon_105 : decode cX0_reckon 105 = .ok (.aload_n 0, 1) := by decide +kernel
theorem dX0_reckon_106 : decode cX0_reckon 106 = .ok (.invokevirtual 53, 3) := by decide +kernel
theorem dX0_reckon_109 : decode cX0_reckon 109 = .ok (.istore 6, 2) := by decide +kernel
theorem dX0_reckon_111 : decode cX0_reckon 111 = .ok (.aload_n 0, 1) := by decide +kernel
theorem dX0_reckon_112 : decode cX0_reckon 112 = .ok (.dup, 1) := by decide +kernel
theorem dX0_reckon_113 : decode cX0_reckon 113 = .ok (.getfield 18, 3) := by decide +kernel
theorem dX0_reckon_116 : decode cX0_reckon 116 = .ok (.iload 6, 2) := by decide +kernel
theorem dX0_reckon_118 : decode cX0_reckon 118 = .ok (.iadd, 1) := by decide +kernel
theorem dX0_reckon_119 : decode cX0_reckon 119 = .ok (.putfield 18, 3) := by decide +kernel
theorem dX0_reckon_122 : decode cX0_reckon 122 = .ok (.iload 6, 2) := by decide +kernel
theorem dX0_reckon_124 : decode cX0_reckon 124 = .ok (.iload_n 3, 1) := by decide +kernel
theorem dX0_reckon_125 : decode cX0_reckon 125 = .ok (.if_icmp .le 12, 3) := by decide +kernel
theorem dX0_reckon_128 : decode cX0_reckon 128 = .ok (.iload 6, 2) := by decide +kernel
theorem dX0_reckon_130 : decode cX0_reckon 130 = .ok (.istore_n 3, 1) := by decide +kernel
theorem dX0_reckon_131 : decode cX0_reckon 131 = .ok (.aload_n 0, 1) := by decide +kernel
theorem dX0_reckon_132 : decode cX0_reckon 132 = .ok (.iload 5, 2) := by decide +kernel
theorem dX0_reckon_134 : decode cX0_reckon 134 = .ok (.putfield 22, 3) := by decide +kernel
theorem dX0_reckon_137 : decode cX0_reckon 137 = .ok (.iinc 5 1, 3) := by decide +kernel
theorem dX0_reckon_140 : decode cX0_reckon 140 = .ok (.goto (-114), 3) := by decide +kernel
theorem dX0_reckon_143 : decode cX0_reckon 143 = .ok (.return_, 1) := by decide +kernel
theorem dX0_busiestMachine_0 : decode cX0_busiestMachine 0 = .ok (.iconst 0, 1) := by decide +kernel
theorem dX0_busiestMachine_1 : decode cX0_busiestMachine 1 = .ok (.istore_n 2, 1) := by decide +kernel
theorem dX0_busiestMachine_2 : decode cX0_busiestMachine 2 = .ok (.iconst 1, 1) := by decide +kernel
theorem dX0_busiestMachine_3 : decode cX0_busiestMachine 3 = .ok (.istore_n 3, 1) := by decide +kernel
theorem dX0_busiestMachine_4 : decode cX0_busiestMachine 4 = .ok (.iload_n 3, 1) := by decide +kernel
theorem dX0_busiestMachine_5 : decode cX0_busiestMachine 5 = .ok (.iload_n 1, 1) := by decide +kernel
theorem dX0_busiestMachine_6 : decode cX0_busiestMachine 6 = .ok (.if_icmp .ge 32, 3) := by decide +kernel
theorem dX0_busiestMachine_9 : decode cX0_busiestMachine 9 = .ok (.iload_n 3, 1) := by decide +kernel
theorem dX0_busiestMachine_10 : decode cX0_busiestMachine 10 = .ok (.bipush 9, 2) := by decide +kernel
theorem dX0_busiestMachine_12 : decode cX0_busiestMachine 12 = .ok (.if_icmp .ge 26, 3) := by decide +kernel
theorem dX0_busiestMachine_15 : decode cX0_busiestMachine 15 = .ok (.aload_n 0, 1) := by decide +kernel
theorem dX0_busiestMachine_16 : decode cX0_busiestMachine 16 = .ok (.getfield 15, 3) := by decide +kernel
theorem dX0_busiestMachine_19 : decode cX0_busiestMachine 19 = .ok (.iload_n 3, 1) := by decide +kernel
theorem dX0_busiestMachine_20 : decode cX0_busiestMachine 20 = .ok (.iaload, 1) := by decide +kernel
theorem dX0_busiestMachine_21 : decode cX0_busiestMachine 21 = .ok (.aload_n 0, 1) := by decide +kernel
theorem dX0_busiestMachine_22 : decode cX0_busiestMachine 22 = .ok (.getfield 15, 3) := by decide +kernel
theorem dX0_busiestMachine_25 : decode cX0_busiestMachine 25 = .ok (.iload_n 2, 1) := by decide +kernel
theorem dX0_busiestMachine_26 : decode cX0_busiestMachine 26 = .ok (.iaload, 1) := by decide +kernel
theorem dX0_busiestMachine_27 : decode cX0_busiestMachine 27 = .ok (.if_icmp .le 5, 3) := by decide +kernel
theorem dX0_busiestMachine_30 : decode cX0_busiestMachine 30 = .ok (.iload_n 3, 1) := by decide +kernel
theorem dX0_busiestMachine_31 : decode cX0_busiestMachine 31 = .ok (.istore_n 2, 1) := by decide +kernel
theorem dX0_busiestMachine_32 : decode cX0_busiestMachine 32 = .ok (.iinc 3 1, 3) := by decide +kernel
theorem dX0_busiestMachine_35 : decode cX0_busiestMachine 35 = .ok (.goto (-31), 3) := by decide +kernel
theorem dX0_busiestMachine_38 : decode cX0_busiestMachine 38 = .ok (.iload_n 2, 1) := by decide +kernel
theorem dX0_busiestMachine_39 : decode cX0_busiestMachine 39 = .ok (.ireturn, 1) := by decide +kernel
theorem dX0_charge_0 : decode cX0_charge 0 = .ok (.iload_n 1, 1) := by decide +kernel
theorem dX0_charge_1 : decode cX0_charge 1 = .ok (.iconst 0, 1) := by decide +kernel
theorem dX0_charge_2 : decode cX0_charge 2 = .ok (.bipush 8, 2) := by decide +kernel
theorem dX0_charge_4 : decode cX0_charge 4 = .ok (.invokestatic 57, 3) := by decide +kernel
theorem dX0_charge_7 : decode cX0_charge 7 = .ok (.ifCond .eq 23, 3) := by decide +kernel
theorem dX0_charge_10 : decode cX0_charge 10 = .ok (.aload_n 0, 1) := by decide +kernel
theorem dX0_charge_11 : decode cX0_charge 11 = .ok (.getfield 9, 3) := by decide +kernel
theorem dX0_charge_14 : decode cX0_charge 14 = .ok (.iload_n 1, 1) := by decide +kernel
theorem dX0_charge_15 : decode cX0_charge 15 = .ok (.dup2, 1) := by decide +kernel
theorem dX0_charge_16 : decode cX0_charge 16 = .ok (.iaload, 1) := by decide +kernel
theorem dX0_charge_17 : decode cX0_charge 17 = .ok (.iload_n 2, 1) := by decide +kernel
theorem dX0_charge_18 : decode cX0_charge 18 = .ok (.iadd, 1) := by decide +kernel
theorem dX0_charge_19 : decode cX0_charge 19 = .ok (.iastore, 1) := by decide +kernel
theorem dX0_charge_20 : decode cX0_charge 20 = .ok (.aload_n 0, 1) := by decide +kernel
theorem dX0_charge_21 : decode cX0_charge 21 = .ok (.getfield 15, 3) := by decide +kernel
theorem dX0_charge_24 : decode cX0_charge 24 = .ok (.iload_n 1, 1) := by decide +kernel
theorem dX0_charge_25 : decode cX0_charge 25 = .ok (.dup2, 1) := by decide +kernel
theorem dX0_charge_26 : decode cX0_charge 26 = .ok (.iaload, 1) := by decide +kernel
theorem dX0_charge_27 : decode cX0_charge 27 = .ok (.iload_n 2, 1) := by decide +kernel
theorem dX0_charge_28 : decode cX0_charge 28 = .ok (.iadd, 1) := by decide +kernel
theorem dX0_charge_29 : decode cX0_charge 29 = .ok (.iastore, 1) := by decide +kernel
theorem dX0_charge_30 : decode cX0_charge 30 = .ok (.return_, 1) := by decide +kernel
theorem dX0_longestInRound_0 : decode cX0_longestInRound 0 = .ok (.iconst 0, 1) := by decide +kernel
theorem dX0_longestInRound_1 : decode cX0_longestInRound 1 = .ok (.istore_n 1, 1) := by decide +kernel
theorem dX0_longestInRound_2 : decode cX0_longestInRound 2 = .ok (.iconst 0, 1) := by decide +kernel
theorem dX0_longestInRound_3 : decode cX0_longestInRound 3 = .ok (.istore_n 2, 1) := by decide +kernel
theorem dX0_longestInRound_4 : decode cX0_longestInRound 4 = .ok (.iload_n 2, 1) := by decide +kernel
theorem dX0_longestInRound_5 : decode cX0_longestInRound 5 = .ok (.bipush 9, 2) := by decide +kernel
theorem dX0_longestInRound_7 : decode cX0_longestInRound 7 = .ok (.if_icmp .ge 20, 3) := by decide +kernel
theorem dX0_longestInRound_10 : decode cX0_longestInRound 10 = .ok (.iload_n 1, 1) := by decide +kernel
theorem dX0_longestInRound_11 : decode cX0_longestInRound 11 = .ok (.aload_n 0, 1) := by decide +kernel
theorem dX0_longestInRound_12 : decode cX0_longestInRound 12 = .ok (.getfield 9, 3) := by decide +kernel
theorem dX0_longestInRound_15 : decode cX0_longestInRound 15 = .ok (.iload_n 2, 1) := by decide +kernel
theorem dX0_longestInRound_16 : decode cX0_longestInRound 16 = .ok (.iaload, 1) := by decide +kernel
theorem dX0_longestInRound_17 : decode cX0_longestInRound 17 = .ok (.invokestatic 61, 3) := by decide +kernel
theorem dX0_longestInRound_20 : decode cX0_longestInRound 20 = .ok (.istore_n 1, 1) := by decide +kernel
theorem dX0_longestInRound_21 : decode cX0_longestInRound 21 = .ok (.iinc 2 1, 3) := by decide +kernel
theorem dX0_longestInRound_24 : decode cX0_longestInRound 24 = .ok (.goto (-20), 3) := by decide +kernel
theorem dX0_longestInRound_27 : decode cX0_longestInRound 27 = .ok (.iload_n 1, 1) := by decide +kernel
theorem dX0_longestInRound_28 : decode cX0_longestInRound 28 = .ok (.ireturn, 1) := by decide +kernel
theorem dX1_init_0 : decode cX1_init 0 = .ok (.aload_n 0, 1) := by decide +kernel
theorem dX1_init_1 : decode cX1_init 1 = .ok (.invokespecial 3, 3) := by decide +kernel
theorem dX1_init_4 : decode cX1_init 4 = .ok (.aload_n 0, 1) := by decide +kernel
theorem dX1_init_5 : decode cX1_init 5 = .ok (.sipush 864, 3) := by decide +kernel
theorem dX1_init_8 : decode cX1_init 8 = .ok (.newarray .int, 2) := by decide +kernel
theorem dX1_init_10 : decode cX1_init 10 = .ok (.putfield 9, 3) := by decide +kernel
theorem dX1_init_13 : decode cX1_init 13 = .ok (.aload_n 0, 1) := by decide +kernel
theorem dX1_init_14 : decode cX1_init 14 = .ok (.iconst 0, 1) := by decide +kernel
theorem dX1_init_15 : decode cX1_init 15 = .ok (.putfield 15, 3) := by decide +kernel
theorem dX1_init_18 : decode cX1_init 18 = .ok (.aload_n 0, 1) := by decide +kernel
theorem dX1_init_19 : decode cX1_init 19 = .ok (.iconst 0, 1) := by decide +kernel
theorem dX1_init_20 : decode cX1_init 20 = .ok (.putfield 19, 3) := by decide +kernel
theorem dX1_init_23 : decode cX1_init 23 = .ok (.aload_n 0, 1) := by decide +kernel
theorem dX1_init_24 : decode cX1_init 24 = .ok (.iconst 0, 1) := by decide +kernel
theorem dX1_init_25 : decode cX1_init 25 = .ok (.putfield 22, 3) := by decide +kernel
theorem dX1_init_28 : decode cX1_init 28 = .ok (.aload_n 0, 1) := by decide +kernel
theorem dX1_init_29 : decode cX1_init 29 = .ok (.iconst 0, 1) := by decide +kernel
theorem dX1_init_30 : decode cX1_init 30 = .ok (.putfield 25, 3) := by decide +kernel
theorem dX1_init_33 : decode cX1_init 33 = .ok (.aload_n 0, 1) := by decide +kernel
theorem dX1_init_34 : decode cX1_init 34 = .ok (.bipush 9, 2) := by decide +kernel
theorem dX1_init_36 : decode cX1_init 36 = .ok (.newarray .int, 2) := by decide +kernel
theorem dX1_init_38 : decode cX1_init 38 = .ok (.putfield 28, 3) := by decide +kernel
theorem dX1_init_41 : decode cX1_init 41 = .ok (.aload_n 0, 1) := by decide +kernel
theorem dX1_init_42 : decode cX1_init 42 = .ok (.bipush 9, 2) := by decide +kernel
theorem dX1_init_44 : decode cX1_init 44 = .ok (.newarray .int, 2) := by decide +kernel
theorem dX1_init_46 : decode cX1_init 46 = .ok (.putfield 31, 3) := by decide +kernel
theorem dX1_init_49 : decode cX1_init 49 = .ok (.return_, 1) := by decide +kernel
theorem dX1_write_0 : decode cX1_write 0 = .ok (.aload_n 0, 1) := by decide +kernel
theorem dX1_write_1 : decode cX1_write 1 = .ok (.iconst 0, 1) := by decide +kernel
theorem dX1_write_2 : decode cX1_write 2 = .ok (.putfield 15, 3) := by decide +kernel
theorem dX1_write_5 : decode cX1_write 5 = .ok (.aload_n 0, 1) := by decide +kernel
theorem dX1_write_6 : decode cX1_write 6 = .ok (.iconst 0, 1) := by decide +kernel
theorem dX1_write_7 : decode cX1_write 7 = .ok (.putfield 19, 3) := by decide +kernel
theorem dX1_write_10 : decode cX1_write 10 = .ok (.aload_n 0, 1) := by decide +kernel
theorem dX1_write_11 : decode cX1_write 11 = .ok (.iload_n 2, 1) := by decide +kernel
theorem dX1_write_12 : decode cX1_write 12 = .ok (.bipush 9, 2) := by decide +kernel
theorem dX1_write_14 : decode cX1_write 14 = .ok (.invokestatic 34, 3) := by decide +kernel
theorem dX1_write_17 : decode cX1_write 17 = .ok (.putfield 22, 3) := by decide +kernel
theorem dX1_write_20 : decode cX1_write 20 = .ok (.aload_n 0, 1) := by decide +kernel
theorem dX1_write_21 : decode cX1_write 21 = .ok (.iload_n 3, 1) := by decide +kernel
theorem dX1_write_22 : decode cX1_write 22 = .ok (.putfield 25, 3) := by decide +kernel
theorem dX1_write_25 : decode cX1_write 25 = .ok (.iload_n 1, 1) := by decide +kernel
theorem dX1_write_26 : decode cX1_write 26 = .ok (.ifCond .ne 10, 3) := by decide +kernel
theorem dX1_write_29 : decode cX1_write 29 = .ok (.aload_n 0, 1) := by decide +kernel
theorem dX1_write_30 : decode cX1_write 30 = .ok (.invokevirtual 40, 3) := by decide +kernel
theorem dX1_write_33 : decode cX1_write 33 = .ok (.goto 31, 3) := by decide +kernel
theorem dX1_write_36 : decode cX1_write 36 = .ok (.iload_n 1, 1) := by decide +kernel
theorem dX1_write_37 : decode cX1_write 37 = .ok (.iconst 1, 1) := by decide +kernel
theorem dX1_write_38 : decode cX1_write 38 = .ok (.if_icmp .ne 10, 3) := by decide +kernel
theorem dX1_write_41 : decode cX1_write 41 = .ok (.aload_n 0, 1) := by decide +kernel
theorem dX1_write_42 : decode cX1_write 42 = .ok (.invokevirtual 43, 3) := by decide +kernel
theorem dX1_write_45 : decode cX1_write 45 = .ok (.goto 19, 3) := by decide +kernel
theorem dX1_write_48 : decode cX1_write 48 = .ok (.iload_n 1, 1) := by decide +kernel
theorem dX1_write_49 : decode cX1_write 49 = .ok (.iconst 2, 1) := by decide +kernel
theorem dX1_write_50 : decode cX1_write 50 = .ok (.if_icmp .ne 10, 3) := by decide +kernel
theorem dX1_write_53 : decode cX1_write 53 = .ok (.aload_n 0, 1) := by decide +kernel
theorem dX1_write_54 : decode cX1_write 54 = .ok (.invokevirtual 46, 3) := by decide +kernel
theorem dX1_write_57 : decode cX1_write 57 = .ok (.goto 7, 3) := by decide +kernel
theorem dX1_write_60 : decode cX1_write 60 = .ok (.aload_n 0, 1) := by decide +kernel
theorem dX1_write_61 : decode cX1_write 61 = .ok (.invokevirtual 49, 3) := by decide +kernel
theorem dX1_write_64 : decode cX1_write 64 = .ok (.return_, 1) := by decide +kernel
theorem dX1_has_0 : decode cX1_has 0 = .ok (.iload_n 1, 1) := by decide +kernel
theorem dX1_has_1 : decode cX1_has 1 = .ok (.ifCond .lt 15, 3) := by decide +kernel
theorem dX1_has_4 : decode cX1_has 4 = .ok (.iload_n 1, 1) := by decide +kernel
theorem dX1_has_5 : decode cX1_has 5 = .ok (.aload_n 0, 1) := by decide +kernel
theorem dX1_has_6 : decode cX1_has 6 = .ok (.getfield 15, 3) := by decide +kernel
theorem dX1_has_9 : decode cX1_has 9 = .ok (.if_icmp .ge 7, 3) := by decide +kernel
theorem dX1_has_12 : decode cX1_has 12 = .ok (.iconst 1, 1) := by decide +kernel
theorem dX1_has_13 : decode cX1_has 13 = .ok (.goto 4, 3) := by decide +kernel
theorem dX1_has_16 : decode cX1_has 16 = .ok (.iconst 0, 1) := by decide +kernel
theorem dX1_has_17 : decode cX1_has 17 = .ok (.ireturn, 1) := by decide +kernel
theorem dX1_told_0 : decode cX1_told 0 = .ok (.aload_n 0, 1) := by decide +kernel
theorem dX1_told_1 : decode cX1_told 1 = .ok (.iload_n 1, 1) := by decide +kernel
theorem dX1_told_2 : decode cX1_told 2 = .ok (.invokevirtual 52, 3) := by decide +kernel
theorem dX1_told_5 : decode cX1_told 5 = .ok (.ifCond .eq 26, 3) := by decide +kernel
theorem dX1_told_8 : decode cX1_told 8 = .ok (.iload_n 2, 1) := by decide +kernel
theorem dX1_told_9 : decode cX1_told 9 = .ok (.iconst 0, 1) := by decide +kernel
theorem dX1_told_10 : decode cX1_told 10 = .ok (.iconst 5, 1) := by decide +kernel
theorem dX1_told_11 : decode cX1_told 11 = .ok (.invokestatic 56, 3) := by decide +kernel
theorem dX1_told_14 : decode cX1_told 14 = .ok (.ifCond .eq 17, 3) := by decide +kernel
theorem dX1_told_17 : decode cX1_told 17 = .ok (.aload_n 0, 1) := by decide +kernel
theorem dX1_told_18 : decode cX1_told 18 = .ok (.getfield 9, 3) := by decide +kernel
theorem dX1_told_21 : decode cX1_told 21 = .ok (.iload_n 1, 1) := by decide +kernel
theorem dX1_told_22 : decode cX1_told 22 = .ok (.bipush 6, 2) := by decide +kernel
theorem dX1_told_24 : decode cX1_told 24 = .ok (.imul, 1) := by decide +kernel
theorem dX1_told_25 : decode cX1_told 25 = .ok (.iload_n 2, 1) := by decide +kernel
theorem dX1_told_26 : decode cX1_told 26 = .ok (.iadd, 1) := by decide +kernel
theorem dX1_told_27 : decode cX1_told 27 = .ok (.iaload, 1) := by decide +kernel
theorem dX1_told_28 : decode cX1_told 28 = .ok (.goto 4, 3) := by decide +kernel
theorem dX1_told_31 : decode cX1_told 31 = .ok (.iconst 0, 1) := by decide +kernel
theorem dX1_told_32 : decode cX1_told 32 = .ok (.ireturn, 1) := by decide +kernel
theorem dX1_brings_0 : decode cX1_brings 0 = .ok (.aload_n 0, 1) := by decide +kernel
theorem dX1_brings_1 : decode cX1_brings 1 = .ok (.iload_n 1, 1) := by decide +kernel
theorem dX1_brings_2 : decode cX1_brings 2 = .ok (.iconst 3, 1) := by decide +kernel
theorem dX1_brings_3 : decode cX1_brings 3 = .ok (.invokevirtual 60, 3) := by decide +kernel
theorem dX1_brings_6 : decode cX1_brings 6 = .ok (.istore_n 3, 1) := by decide +kernel
theorem dX1_brings_7 : decode cX1_brings 7 = .ok (.iload_n 2, 1) := by decide +kernel
theorem dX1_brings_8 : decode cX1_brings 8 = .ok (.iload_n 3, 1) := by decide +kernel
theorem dX1_brings_9 : decode cX1_brings 9 = .ok (.if_icmp .lt 19, 3) := by decide +kernel
theorem dX1_brings_12 : decode cX1_brings 12 = .ok (.iload_n 2, 1) := by decide +kernel
theorem dX1_brings_13 : decode cX1_brings 13 = .ok (.iload_n 3, 1) := by decide +kernel
theorem dX1_brings_14 : decode cX1_brings 14 = .ok (.aload_n 0, 1) := by decide +kernel
theorem dX1_brings_15 : decode cX1_brings 15 = .ok (.iload_n 1, 1) := by decide +kernel
theorem dX1_brings_16 : decode cX1_brings 16 = .ok (.iconst 4, 1) := by decide +kernel
theorem dX1_brings_17 : decode cX1_brings 17 = .ok (.invokevirtual 60, 3) := by decide +kernel
theorem dX1_brings_20 : decode cX1_brings 20 = .ok (.iadd, 1) := by decide +kernel
theorem dX1_brings_21 : decode cX1_brings 21 = .ok (.if_icmp .ge 7, 3) := by decide +kernel
theorem dX1_brings_24 : decode cX1_brings 24 = .ok (.iconst 1, 1) := by decide +kernel
theorem dX1_brings_25 : decode cX1_brings 25 = .ok (.goto 4, 3) := by decide +kernel
theorem dX1_brings_28 : decode cX1_brings 28 = .ok (.iconst 0, 1) := by decide +kernel
theorem dX1_brings_29 : decode cX1_brings 29 = .ok (.ireturn, 1) := by decide +kernel
theorem dX1_numbersInAll_0 : decode cX1_numbersInAll 0 = .ok (.iconst 0, 1) := by decide +kernel
theorem dX1_numbersInAll_1 : decode cX1_numbersInAll 1 = .ok (.istore_n 1, 1) := by decide +kernel
theorem dX1_numbersInAll_2 : decode cX1_numbersInAll 2 = .ok (.iconst 0, 1) := by decide +kernel
theorem dX1_numbersInAll_3 : decode cX1_numbersInAll 3 = .ok (.istore_n 2, 1) := by decide +kernel
theorem dX1_numbersInAll_4 : decode cX1_numbersInAll 4 = .ok (.iload_n 2, 1) := by decide +kernel
theorem dX1_numbersInAll_5 : decode cX1_numbersInAll 5 = .ok (.aload_n 0, 1) := by decide +kernel
theorem dX1_numbersInAll_6 : decode cX1_numbersInAll 6 = .ok (.getfield 15, 3) := by decide +kernel
theorem dX1_numbersInAll_9 : decode cX1_numbersInAll 9 = .ok (.if_icmp .ge 18, 3) := by decide +kernel
theorem dX1_numbersInAll_12 : decode cX1_numbersInAll 12 = .ok (.iload_n 1, 1) := by decide +kernel
theorem dX1_numbersInAll_13 : decode cX1_numbersInAll 13 = .ok (.aload_n 0, 1) := by decide +kernel
theorem dX1_numbersInAll_14 : decode cX1_numbersInAll 14 = .ok (.iload_n 2, 1) := by decide +kernel
theorem dX1_numbersInAll_15 : decode cX1_numbersInAll 15 = .ok (.iconst 4, 1) := by decide +kernel
theorem dX1_numbersInAll_16 : decode cX1_numbersInAll 16 = .ok (.invokevirtual 60, 3) := by decide +kernel
theorem dX1_numbersInAll_19 : decode cX1_numbersInAll 19 = .ok (.iadd, 1) := by decide +kernel
theorem dX1_numbersInAll_20 : decode cX1_numbersInAll 20 = .ok (.istore_n 1, 1) := by decide +kernel
theorem dX1_numbersInAll_21 : decode cX1_numbersInAll 21 = .ok (.iinc 2 1, 3) := by decide +kernel
theorem dX1_numbersInAll_24 : decode cX1_numbersInAll 24 = .ok (.goto (-20), 3) := by decide +kernel
theorem dX1_numbersInAll_27 : decode cX1_numbersInAll 27 = .ok (.iload_n 1, 1) := by decide +kernel
theorem dX1_numbersInAll_28 : decode cX1_numbersInAll 28 = .ok (.ireturn, 1) := by decide +kernel
theorem dX1_send_0 : decode cX1_send 0 = .ok (.aload_n 0, 1) := by decide +kernel
theorem dX1_send_1 : decode cX1_send 1 = .ok (.getfield 15, 3) := by decide +kernel
theorem dX1_send_4 : decode cX1_send 4 = .ok (.sipush 144, 3) := by decide +kernel
theorem dX1_send_7 : decode cX1_send 7 = .ok (.if_icmp .lt 4, 3) := by decide +kernel
theorem dX1_send_10 : decode cX1_send 10 = .ok (.return_, 1) := by decide +kernel
theorem dX1_send_11 : decode cX1_send 11 = .ok (.aload_n 0, 1) := by decide +kernel
theorem dX1_send_12 : decode cX1_send 12 = .ok (.getfield 15, 3) := by decide +kernel
theorem dX1_send_15 : decode cX1_send 15 = .ok (.bipush 6, 2) := by decide +kernel
theorem dX1_send_17 : decode cX1_send 17 = .ok (.imul, 1) := by decide +kernel
theorem dX1_send_18 : decode cX1_send 18 = .ok (.istore 6, 2) := by decide +kernel
theorem dX1_send_20 : decode cX1_send 20 = .ok (.aload_n 0, 1) := by decide +kernel
theorem dX1_send_21 : decode cX1_send 21 = .ok (.getfield 9, 3) := by decide +kernel
theorem dX1_send_24 : decode cX1_send 24 = .ok (.iload 6, 2) := by decide +kernel
theorem dX1_send_26 : decode cX1_send 26 = .ok (.iconst 0, 1) := by decide +kernel
theorem dX1_send_27 : decode cX1_send 27 = .ok (.iadd, 1) := by decide +kernel
theorem dX1_send_28 : decode cX1_send 28 = .ok (.aload_n 0, 1) := by decide +kernel
theorem dX1_send_29 : decode cX1_send 29 = .ok (.getfield 19, 3) := by decide +kernel
theorem dX1_send_32 : decode cX1_send 32 = .ok (.iastore, 1) := by decide +kernel
theorem dX1_send_33 : decode cX1_send 33 = .ok (.aload_n 0, 1) := by decide +kernel
theorem dX1_send_34 : decode cX1_send 34 = .ok (.getfield 9, 3) := by decide +kernel
theorem dX1_send_37 : decode cX1_send 37 = .ok (.iload 6, 2) := by decide +kernel
theorem dX1_send_39 : decode cX1_send 39 = .ok (.iconst 1, 1) := by decide +kernel
theorem dX1_send_40 : decode cX1_send 40 = .ok (.iadd, 1) := by decide +kernel
theorem dX1_send_41 : decode cX1_send 41 = .ok (.iload_n 1, 1) := by decide +kernel
theorem dX1_send_42 : decode cX1_send 42 = .ok (.iastore, 1) := by decide +kernel
theorem dX1_send_43 : decode cX1_send 43 = .ok (.aload_n 0, 1) := by decide +kernel
theorem dX1_send_44 : decode cX1_send 44 = .ok (.getfield 9, 3) := by decide +kernel
theorem dX1_send_47 : decode cX1_send 47 = .ok (.iload 6, 2) := by decide +kernel
theorem dX1_send_49 : decode cX1_send 49 = .ok (.iconst 2, 1) := by decide +kernel
theorem dX1_send_50 : decode cX1_send 50 = .ok (.iadd, 1) := by decide +kernel
theorem dX1_send_51 : decode cX1_send 51 = .ok (.iload_n 2, 1) := by decide +kernel
theorem dX1_send_52 : decode cX1_send 52 = .ok (.iastore, 1) := by decide +kernel
theorem dX1_send_53 : decode cX1_send 53 = .ok (.aload_n 0, 1) := by decide +kernel
theorem dX1_send_54 : decode cX1_send 54 = .ok (.getfield 9, 3) := by decide +kernel
theorem dX1_send_57 : decode cX1_send 57 = .ok (.iload 6, 2) := by decide +kernel
theorem dX1_send_59 : decode cX1_send 59 = .ok (.iconst 3, 1) := by decide +kernel
theorem dX1_send_60 : decode cX1_send 60 = .ok (.iadd, 1) := by decide +kernel
theorem dX1_send_61 : decode cX1_send 61 = .ok (.iload_n 3, 1) := by decide +kernel
theorem dX1_send_62 : decode cX1_send 62 = .ok (.iastore, 1) := by decide +kernel
theorem dX1_send_63 : decode cX1_send 63 = .ok (.aload_n 0, 1) := by decide +kernel
theorem dX1_send_64 : decode cX1_send 64 = .ok (.getfield 9, 3) := by decide +kernel
theorem dX1_send_67 : decode cX1_send 67 = .ok (.iload 6, 2) := by decide +kernel
theorem dX1_send_69 : decode cX1_send 69 = .ok (.iconst 4, 1) := by decide +kernel
theorem dX1_send_70 : decode cX1_send 70 = .ok (.iadd, 1) := by decide +kernel
theorem dX1_send_71 : decode cX1_send 71 = .ok (.iload 4, 2) := by decide +kernel
theorem dX1_send_73 : decode cX1_send 73 = .ok (.iastore, 1) := by decide +kernel
theorem dX1_send_74 : decode cX1_send 74 = .ok (.aload_n 0, 1) := by decide +kernel
theorem dX1_send_75 : decode cX1_send 75 = .ok (.getfield 9, 3) := by decide +kernel
theorem dX1_send_78 : decode cX1_send 78 = .ok (.iload 6, 2) := by decide +kernel
theorem dX1_send_80 : decode cX1_send 80 = .ok (.iconst 5, 1) := by decide +kernel
theorem dX1_send_81 : decode cX1_send 81 = .ok (.iadd, 1) := by decide +kernel
theorem dX1_send_82 : decode cX1_send 82 = .ok (.iload 5, 2) := by decide +kernel
theorem dX1_send_84 : decode cX1_send 84 = .ok (.iastore, 1) := by decide +kernel
theorem dX1_send_85 : decode cX1_send 85 = .ok (.aload_n 0, 1) := by decide +kernel
theorem dX1_send_86 : decode cX1_send 86 = .ok (.dup, 1) := by decide +kernel
theorem dX1_send_87 : decode cX1_send 87 = .ok (.getfield 15, 3) := by decide +kernel
theorem dX1_send_90 : decode cX1_send 90 = .ok (.iconst 1, 1) := by decide +kernel
theorem dX1_send_91 : decode cX1_send 91 = .ok (.iadd, 1) := by decide +kernel
theorem dX1_send_92 : decode cX1_send 92 = .ok (.putfield 15, 3) := by decide +kernel
theorem dX1_send_95 : decode cX1_send 95 = .ok (.return_, 1) := by decide +kernel
theorem dX1_sendWhole_0 : decode cX1_sendWhole 0 = .ok (.aload_n 0, 1) := by decide +kernel
theorem dX1_sendWhole_1 : decode cX1_sendWhole 1 = .ok (.iload_n 1, 1) := by decide +kernel
theorem dX1_sendWhole_2 : decode cX1_sendWhole 2 = .ok (.iload_n 2, 1) := by decide +kernel
theorem dX1_sendWhole_3 : decode cX1_sendWhole 3 = .ok (.iconst 0, 1) := by decide +kernel
theorem dX1_sendWhole_4 : decode cX1_sendWhole 4 = .ok (.aload_n 0, 1) := by decide +kernel
theorem dX1_sendWhole_5 : decode cX1_sendWhole 5 = .ok (.getfield 25, 3) := by decide +kernel
theorem dX1_sendWhole_8 : decode cX1_sendWhole 8 = .ok (.iload_n 3, 1) := by decide +kernel
theorem dX1_sendWhole_9 : decode cX1_sendWhole 9 = .ok (.invokevirtual 63, 3) := by decide +kernel
theorem dX1_sendWhole_12 : decode cX1_sendWhole 12 = .ok (.return_, 1) := by decide +kernel
theorem dX1_endRound_0 : decode cX1_endRound 0 = .ok (.aload_n 0, 1) := by decide +kernel
theorem dX1_endRound_1 : decode cX1_endRound 1 = .ok (.dup, 1) := by decide +kernel
theorem dX1_endRound_2 : decode cX1_endRound 2 = .ok (.getfield 19, 3) := by decide +kernel
theorem dX1_endRound_5 : decode cX1_endRound 5 = .ok (.iconst 1, 1) := by decide +kernel
theorem dX1_endRound_6 : decode cX1_endRound 6 = .ok (.iadd, 1) := by decide +kernel
theorem dX1_endRound_7 : decode cX1_endRound 7 = .ok (.putfield 19, 3) := by decide +kernel
theorem dX1_endRound_10 : decode cX1_endRound 10 = .ok (.return_, 1) := by decide +kernel
theorem dX1_writeRing_0 : decode cX1_writeRing 0 = .ok (.iconst 0, 1) := by decide +kernel
theorem dX1_writeRing_1 : decode cX1_writeRing 1 = .ok (.istore_n 1, 1) := by decide +kernel
theorem dX1_writeRing_2 : decode cX1_writeRing 2 = .ok (.iload_n 1, 1) := by decide +kernel
theorem dX1_writeRing_3 : decode cX1_writeRing 3 = .ok (.aload_n 0, 1) := by decide +kernel
theorem dX1_writeRing_4 : decode cX1_writeRing 4 = .ok (.getfield 22, 3) := by decide +kernel
theorem dX1_writeRing_7 : decode cX1_writeRing 7 = .ok (.iconst 1, 1) := by decide +kernel
theorem dX1_writeRing_8 : decode cX1_writeRing 8 = .ok (.isub, 1) := by decide +kernel
theorem dX1_writeRing_9 : decode cX1_writeRing 9 = .ok (.if_icmp .ge 42, 3) := by decide +kernel
theorem dX1_writeRing_12 : decode cX1_writeRing 12 = .ok (.iconst 0, 1) := by decide +kernel
theorem dX1_writeRing_13 : decode cX1_writeRing 13 = .ok (.istore_n 2, 1) := by decide +kernel
theorem dX1_writeRing_14 : decode cX1_writeRing 14 = .ok (.iload_n 2, 1) := by decide +kernel
theorem dX1_writeRing_15 : decode cX1_writeRing 15 = .ok (.aload_n 0, 1) := by decide +kernel
theorem dX1_writeRing_16 : decode cX1_writeRing 16 = .ok (.getfield 22, 3) := by decide +kernel
theorem dX1_writeRing_19 : decode cX1_writeRing 19 = .ok (.if_icmp .ge 22, 3) := by decide +kernel
theorem dX1_writeRing_22 : decode cX1_writeRing 22 = .ok (.aload_n 0, 1) := by decide +kernel
theorem dX1_writeRing_23 : decode cX1_writeRing 23 = .ok (.iload_n 2, 1) := by decide +kernel
theorem dX1_writeRing_24 : decode cX1_writeRing 24 = .ok (.aload_n 0, 1) := by decide +kernel
theorem dX1_writeRing_25 : decode cX1_writeRing 25 = .ok (.iload_n 2, 1) := by decide +kernel
theorem dX1_writeRing_26 : decode cX1_writeRing 26 = .ok (.iload_n 1, 1) := by decide +kernel
theorem dX1_writeRing_27 : decode cX1_writeRing 27 = .ok (.isub, 1) := by decide +kernel
theorem dX1_writeRing_28 : decode cX1_writeRing 28 = .ok (.invokevirtual 67, 3) := by decide +kernel
theorem dX1_writeRing_31 : decode cX1_writeRing 31 = .ok (.iconst 1, 1) := by decide +kernel
theorem dX1_writeRing_32 : decode cX1_writeRing 32 = .ok (.invokevirtual 71, 3) := by decide +kernel
theorem dX1_writeRing_35 : decode cX1_writeRing 35 = .ok (.iinc 2 1, 3) := by decide +kernel
theorem dX1_writeRing_38 : decode cX1_writeRing 38 = .ok (.goto (-24), 3) := by decide +kernel
theorem dX1_writeRing_41 : decode cX1_writeRing 41 = .ok (.aload_n 0, 1) := by decide +kernel
theorem dX1_writeRing_42 : decode cX1_writeRing 42 = .ok (.invokevirtual 75, 3) := by decide +kernel
theorem dX1_writeRing_45 : decode cX1_writeRing 45 = .ok (.iinc 1 1, 3) := by decide +kernel
theorem dX1_writeRing_48 : decode cX1_writeRing 48 = .ok (.goto (-46), 3) := by decide +kernel
theorem dX1_writeRing_51 : decode cX1_writeRing 51 = .ok (.iconst 0, 1) := by decide +kernel
theorem dX1_writeRing_52 : decode cX1_writeRing 52 = .ok (.istore_n 1, 1) := by decide +kernel
theorem dX1_writeRing_53 : decode cX1_writeRing 53 = .ok (.iload_n 1, 1) := by decide +kernel
theorem dX1_writeRing_54 : decode cX1_writeRing 54 = .ok (.aload_n 0, 1) := by decide +kernel
theorem dX1_writeRing_55 : decode cX1_writeRing 55 = .ok (.getfield 22, 3) := by decide +kernel
theorem dX1_writeRing_58 : decode cX1_writeRing 58 = .ok (.iconst 1, 1) := by decide +kernel
theorem dX1_writeRing_59 : decode cX1_writeRing 59 = .ok (.isub, 1) := by decide +kernel
theorem dX1_writeRing_60 : decode cX1_writeRing 60 = .ok (.if_icmp .ge 44, 3) := by decide +kernel
theorem dX1_writeRing_63 : decode cX1_writeRing 63 = .ok (.iconst 0, 1) := by decide +kernel
theorem dX1_writeRing_64 : decode cX1_writeRing 64 = .ok (.istore_n 2, 1) := by decide +kernel
theorem dX1_writeRing_65 : decode cX1_writeRing 65 = .ok (.iload_n 2, 1) := by decide +kernel
theorem dX1_writeRing_66 : decode cX1_writeRing 66 = .ok (.aload_n 0, 1) := by decide +kernel
theorem dX1_writeRing_67 : decode cX1_writeRing 67 = .ok (.getfield 22, 3) := by decide +kernel
theorem dX1_writeRing_70 : decode cX1_writeRing 70 = .ok (.if_icmp .ge 24, 3) := by decide +kernel
theorem dX1_writeRing_73 : decode cX1_writeRing 73 = .ok (.aload_n 0, 1) := by decide +kernel
theorem dX1_writeRing_74 : decode cX1_writeRing 74 = .ok (.iload_n 2, 1) := by decide +kernel
theorem dX1_writeRing_75 : decode cX1_writeRing 75 = .ok (.aload_n 0, 1) := by decide +kernel
theorem dX1_writeRing_76 : decode cX1_writeRing 76 = .ok (.iload_n 2, 1) := by decide +kernel
theorem dX1_writeRing_77 : decode cX1_writeRing 77 = .ok (.iconst 1, 1) := by decide +kernel
theorem dX1_writeRing_78 : decode cX1_writeRing 78 = .ok (.iadd, 1) := by decide +kernel
theorem dX1_writeRing_79 : decode cX1_writeRing 79 = .ok (.iload_n 1, 1) := by decide +kernel
theorem dX1_writeRing_80 : decode cX1_writeRing 80 = .ok (.isub, 1) := by decide +kernel
theorem dX1_writeRing_81 : decode cX1_writeRing 81 = .ok (.invokevirtual 67, 3) := by decide +kernel
theorem dX1_writeRing_84 : decode cX1_writeRing 84 = .ok (.iconst 2, 1) := by decide +kernel
theorem dX1_writeRing_85 : decode cX1_writeRing 85 = .ok (.invokevirtual 71, 3) := by decide +kernel
theorem dX1_writeRing_88 : decode cX1_writeRing 88 = .ok (.iinc 2 1, 3) := by decide +kernel
theorem dX1_writeRing_91 : decode cX1_writeRing 91 = .ok (.goto (-26), 3) := by decide +kernel
theorem dX1_writeRing_94 : decode cX1_writeRing 94 = .ok (.aload_n 0, 1) := by decide +kernel
theorem dX1_writeRing_95 : decode cX1_writeRing 95 = .ok (.invokevirtual 75, 3) := by decide +kernel
theorem dX1_writeRing_98 : decode cX1_writeRing 98 = .ok (.iinc 1 1, 3) := by decide +kernel
theorem dX1_writeRing_101 : decode cX1_writeRing 101 = .ok (.goto (-48), 3) := by decide +kernel
theorem dX1_writeRing_104 : decode cX1_writeRing 104 = .ok (.return_, 1) := by decide +kernel
theorem dX1_sendPart_0 : decode cX1_sendPart 0 = .ok (.aload_n 0, 1) := by decide +kernel
theorem dX1_sendPart_1 : decode cX1_sendPart 1 = .ok (.iload_n 2, 1) := by decide +kernel
theorem dX1_sendPart_2 : decode cX1_sendPart 2 = .ok (.invokevirtual 78, 3) := by decide +kernel
theorem dX1_sendPart_5 : decode cX1_sendPart 5 = .ok (.istore 4, 2) := by decide +kernel
theorem dX1_sendPart_7 : decode cX1_sendPart 7 = .ok (.aload_n 0, 1) := by decide +kernel
theorem dX1_sendPart_8 : decode cX1_sendPart 8 = .ok (.iload_n 1, 1) := by decide +kernel
theorem dX1_sendPart_9 : decode cX1_sendPart 9 = .ok (.aload_n 0, 1) := by decide +kernel
theorem dX1_sendPart_10 : decode cX1_sendPart 10 = .ok (.iload_n 1, 1) := by decide +kernel
theorem dX1_sendPart_11 : decode cX1_sendPart 11 = .ok (.iconst 1, 1) := by decide +kernel
theorem dX1_sendPart_12 : decode cX1_sendPart 12 = .ok (.iadd, 1) := by decide +kernel
theorem dX1_sendPart_13 : decode cX1_sendPart 13 = .ok (.invokevirtual 67, 3) := by decide +kernel
theorem dX1_sendPart_16 : decode cX1_sendPart 16 = .ok (.iload 4, 2) := by decide +kernel
theorem dX1_sendPart_18 : decode cX1_sendPart 18 = .ok (.aload_n 0, 1) := by decide +kernel
theorem dX1_sendPart_19 : decode cX1_sendPart 19 = .ok (.iload_n 2, 1) := by decide +kernel
theorem dX1_sendPart_20 : decode cX1_sendPart 20 = .ok (.iconst 1, 1) := by decide +kernel
theorem dX1_sendPart_21 : decode cX1_sendPart 21 = .ok (.iadd, 1) := by decide +kernel
theorem dX1_sendPart_22 : decode cX1_sendPart 22 = .ok (.invokevirtual 78, 3) := by decide +kernel
theorem dX1_sendPart_25 : decode cX1_sendPart 25 = .ok (.iload 4, 2) := by decide +kernel
theorem dX1_sendPart_27 : decode cX1_sendPart 27 = .ok (.isub, 1) := by decide +kernel
theorem dX1_sendPart_28 : decode cX1_sendPart 28 = .ok (.iload_n 3, 1) := by decide +kernel
theorem dX1_sendPart_29 : decode cX1_sendPart 29 = .ok (.invokevirtual 63, 3) := by decide +kernel
theorem dX1_sendPart_32 : decode cX1_sendPart 32 = .ok (.return_, 1) := by decide +kernel
theorem dX1_partStart_0 : decode cX1_partStart 0 = .ok (.aload_n 0, 1) := by decide +kernel
theorem dX1_partStart_1 : decode cX1_partStart 1 = .ok (.getfield 22, 3) := by decide +kernel
theorem dX1_partStart_4 : decode cX1_partStart 4 = .ok (.ifCond .le 17, 3) := by decide +kernel
theorem dX1_partStart_7 : decode cX1_partStart 7 = .ok (.aload_n 0, 1) := by decide +kernel
theorem dX1_partStart_8 : decode cX1_partStart 8 = .ok (.getfield 25, 3) := by decide +kernel
theorem dX1_partStart_11 : decode cX1_partStart 11 = .ok (.iload_n 1, 1) := by decide +kernel
theorem dX1_partStart_12 : decode cX1_partStart 12 = .ok (.imul, 1) := by decide +kernel
theorem dX1_partStart_13 : decode cX1_partStart 13 = .ok (.aload_n 0, 1) := by decide +kernel
theorem dX1_partStart_14 : decode cX1_partStart 14 = .ok (.getfield 22, 3) := by decide +kernel
theorem dX1_partStart_17 : decode cX1_partStart 17 = .ok (.idiv, 1) := by decide +kernel
theorem dX1_partStart_18 : decode cX1_partStart 18 = .ok (.goto 4, 3) := by decide +kernel
theorem dX1_partStart_21 : decode cX1_partStart 21 = .ok (.iconst 0, 1) := by decide +kernel
theorem dX1_partStart_22 : decode cX1_partStart 22 = .ok (.ireturn, 1) := by decide +kernel
theorem dX1_aroundTheRing_0 : decode cX1_aroundTheRing 0 = .ok (.iload_n 1, 1) := by decide +kernel
theorem dX1_aroundTheRing_1 : decode cX1_aroundTheRing 1 = .ok (.ifCond .ge 12, 3) := by decide +kernel
theorem dX1_aroundTheRing_4 : decode cX1_aroundTheRing 4 = .ok (.iload_n 1, 1) := by decide +kernel
theorem dX1_aroundTheRing_5 : decode cX1_aroundTheRing 5 = .ok (.aload_n 0, 1) := by decide +kernel
theorem dX1_aroundTheRing_6 : decode cX1_aroundTheRing 6 = .ok (.getfield 22, 3) := by decide +kernel
theorem dX1_aroundTheRing_9 : decode cX1_aroundTheRing 9 = .ok (.iadd, 1) := by decide +kernel
theorem dX1_aroundTheRing_10 : decode cX1_aroundTheRing 10 = .ok (.goto 21, 3) := by decide +kernel
theorem dX1_aroundTheRing_13 : decode cX1_aroundTheRing 13 = .ok (.iload_n 1, 1) := by decide +kernel
theorem dX1_aroundTheRing_14 : decode cX1_aroundTheRing 14 = .ok (.aload_n 0, 1) := by decide +kernel
theorem dX1_aroundTheRing_15 : decode cX1_aroundTheRing 15 = .ok (.getfield 22, 3) := by decide +kernel
theorem dX1_aroundTheRing_18 : decode cX1_aroundTheRing 18 = .ok (.if_icmp .lt 12, 3) := by decide +kernel
theorem dX1_aroundTheRing_21 : decode cX1_aroundTheRing 21 = .ok (.iload_n 1, 1) := by decide +kernel
theorem dX1_aroundTheRing_22 : decode cX1_aroundTheRing 22 = .ok (.aload_n 0, 1) := by decide +kernel
theorem dX1_aroundTheRing_23 : decode cX1_aroundTheRing 23 = .ok (.getfield 22, 3) := by decide +kernel
theorem dX1_aroundTheRing_26 : decode cX1_aroundTheRing 26 = .ok (.isub, 1) := by decide +kernel
theorem dX1_aroundTheRing_27 : decode cX1_aroundTheRing 27 = .ok (.goto 4, 3) := by decide +kernel
theorem dX1_aroundTheRing_30 : decode cX1_aroundTheRing 30 = .ok (.iload_n 1, 1) := by decide +kernel
theorem dX1_aroundTheRing_31 : decode cX1_aroundTheRing 31 = .ok (.ireturn, 1) := by decide +kernel
theorem dX1_writeHalves_0 : decode cX1_writeHalves 0 = .ok (.aload_n 0, 1) := by decide +kernel
theorem dX1_writeHalves_1 : decode cX1_writeHalves 1 = .ok (.invokevirtual 81, 3) := by decide +kernel
theorem dX1_writeHalves_4 : decode cX1_writeHalves 4 = .ok (.istore_n 1, 1) := by decide +kernel
theorem dX1_writeHalves_5 : decode cX1_writeHalves 5 = .ok (.aload_n 0, 1) := by decide +kernel
theorem dX1_writeHalves_6 : decode cX1_writeHalves 6 = .ok (.getfield 22, 3) := by decide +kernel
theorem dX1_writeHalves_9 : decode cX1_writeHalves 9 = .ok (.iload_n 1, 1) := by decide +kernel
theorem dX1_writeHalves_10 : decode cX1_writeHalves 10 = .ok (.if_icmp .le 32, 3) := by decide +kernel
theorem dX1_writeHalves_13 : decode cX1_writeHalves 13 = .ok (.iload_n 1, 1) := by decide +kernel
theorem dX1_writeHalves_14 : decode cX1_writeHalves 14 = .ok (.istore_n 2, 1) := by decide +kernel
theorem dX1_writeHalves_15 : decode cX1_writeHalves 15 = .ok (.iload_n 2, 1) := by decide +kernel
theorem dX1_writeHalves_16 : decode cX1_writeHalves 16 = .ok (.aload_n 0, 1) := by decide +kernel
theorem dX1_writeHalves_17 : decode cX1_writeHalves 17 = .ok (.getfield 22, 3) := by decide +kernel
theorem dX1_writeHalves_20 : decode cX1_writeHalves 20 = .ok (.if_icmp .ge 18, 3) := by decide +kernel
theorem dX1_writeHalves_23 : decode cX1_writeHalves 23 = .ok (.aload_n 0, 1) := by decide +kernel
theorem dX1_writeHalves_24 : decode cX1_writeHalves 24 = .ok (.iload_n 2, 1) := by decide +kernel
theorem dX1_writeHalves_25 : decode cX1_writeHalves 25 = .ok (.iload_n 2, 1) := by decide +kernel
theorem dX1_writeHalves_26 : decode cX1_writeHalves 26 = .ok (.iload_n 1, 1) := by decide +kernel
theorem dX1_writeHalves_27 : decode cX1_writeHalves 27 = .ok (.isub, 1) := by decide +kernel
theorem dX1_writeHalves_28 : decode cX1_writeHalves 28 = .ok (.iconst 0, 1) := by decide +kernel
theorem dX1_writeHalves_29 : decode cX1_writeHalves 29 = .ok (.invokevirtual 85, 3) := by decide +kernel
theorem dX1_writeHalves_32 : decode cX1_writeHalves 32 = .ok (.iinc 2 1, 3) := by decide +kernel
theorem dX1_writeHalves_35 : decode cX1_writeHalves 35 = .ok (.goto (-20), 3) := by decide +kernel
theorem dX1_writeHalves_38 : decode cX1_writeHalves 38 = .ok (.aload_n 0, 1) := by decide +kernel
theorem dX1_writeHalves_39 : decode cX1_writeHalves 39 = .ok (.invokevirtual 75, 3) := by decide +kernel
theorem dX1_writeHalves_42 : decode cX1_writeHalves 42 = .ok (.aload_n 0, 1) := by decide +kernel
theorem dX1_writeHalves_43 : decode cX1_writeHalves 43 = .ok (.getfield 28, 3) := by decide +kernel
theorem dX1_writeHalves_46 : decode cX1_writeHalves 46 = .ok (.iconst 0, 1) := by decide +kernel
theorem dX1_writeHalves_47 : decode cX1_writeHalves 47 = .ok (.invokestatic 88, 3) := by decide +kernel
theorem dX1_writeHalves_50 : decode cX1_writeHalves 50 = .ok (.aload_n 0, 1) := by decide +kernel
theorem dX1_writeHalves_51 : decode cX1_writeHalves 51 = .ok (.getfield 31, 3) := by decide +kernel
theorem dX1_writeHalves_54 : decode cX1_writeHalves 54 = .ok (.aload_n 0, 1) := by decide +kernel
theorem dX1_writeHalves_55 : decode cX1_writeHalves 55 = .ok (.getfield 25, 3) := by decide +kernel
theorem dX1_writeHalves_58 : decode cX1_writeHalves 58 = .ok (.invokestatic 88, 3) := by decide +kernel
theorem dX1_writeHalves_61 : decode cX1_writeHalves 61 = .ok (.iload_n 1, 1) := by decide +kernel
theorem dX1_writeHalves_62 : decode cX1_writeHalves 62 = .ok (.iconst 2, 1) := by decide +kernel
theorem dX1_writeHalves_63 : decode cX1_writeHalves 63 = .ok (.idiv, 1) := by decide +kernel
theorem dX1_writeHalves_64 : decode cX1_writeHalves 64 = .ok (.istore_n 2, 1) := by decide +kernel
theorem dX1_writeHalves_65 : decode cX1_writeHalves 65 = .ok (.iload_n 2, 1) := by decide +kernel
theorem dX1_writeHalves_66 : decode cX1_writeHalves 66 = .ok (.iconst 1, 1) := by decide +kernel
theorem dX1_writeHalves_67 : decode cX1_writeHalves 67 = .ok (.if_icmp .lt 16, 3) := by decide +kernel
theorem dX1_writeHalves_70 : decode cX1_writeHalves 70 = .ok (.aload_n 0, 1) := by decide +kernel
theorem dX1_writeHalves_71 : decode cX1_writeHalves 71 = .ok (.iload_n 1, 1) := by decide +kernel
theorem dX1_writeHalves_72 : decode cX1_writeHalves 72 = .ok (.iload_n 2, 1) := by decide +kernel
theorem dX1_writeHalves_73 : decode cX1_writeHalves 73 = .ok (.invokevirtual 94, 3) := by decide +kernel
theorem dX1_writeHalves_76 : decode cX1_writeHalves 76 = .ok (.iload_n 2, 1) := by decide +kernel
theorem dX1_writeHalves_77 : decode cX1_writeHalves 77 = .ok (.iconst 2, 1) := by decide +kernel
theorem dX1_writeHalves_78 : decode cX1_writeHalves 78 = .ok (.idiv, 1) := by decide +kernel
theorem dX1_writeHalves_79 : decode cX1_writeHalves 79 = .ok (.istore_n 2, 1) := by decide +kernel
theorem dX1_writeHalves_80 : decode cX1_writeHalves 80 = .ok (.goto (-15), 3) := by decide +kernel
theorem dX1_writeHalves_83 : decode cX1_writeHalves 83 = .ok (.iconst 1, 1) := by decide +kernel
theorem dX1_writeHalves_84 : decode cX1_writeHalves 84 = .ok (.istore_n 2, 1) := by decide +kernel
theorem dX1_writeHalves_85 : decode cX1_writeHalves 85 = .ok (.iload_n 2, 1) := by decide +kernel
theorem dX1_writeHalves_86 : decode cX1_writeHalves 86 = .ok (.iload_n 1, 1) := by decide +kernel
theorem dX1_writeHalves_87 : decode cX1_writeHalves 87 = .ok (.if_icmp .ge 16, 3) := by decide +kernel
theorem dX1_writeHalves_90 : decode cX1_writeHalves 90 = .ok (.aload_n 0, 1) := by decide +kernel
theorem dX1_writeHalves_91 : decode cX1_writeHalves 91 = .ok (.iload_n 1, 1) := by decide +kernel
theorem dX1_writeHalves_92 : decode cX1_writeHalves 92 = .ok (.iload_n 2, 1) := by decide +kernel
theorem dX1_writeHalves_93 : decode cX1_writeHalves 93 = .ok (.invokevirtual 98, 3) := by decide +kernel
theorem dX1_writeHalves_96 : decode cX1_writeHalves 96 = .ok (.iload_n 2, 1) := by decide +kernel
theorem dX1_writeHalves_97 : decode cX1_writeHalves 97 = .ok (.iconst 2, 1) := by decide +kernel
theorem dX1_writeHalves_98 : decode cX1_writeHalves 98 = .ok (.imul, 1) := by decide +kernel
theorem dX1_writeHalves_99 : decode cX1_writeHalves 99 = .ok (.istore_n 2, 1) := by decide +kernel
theorem dX1_writeHalves_100 : decode cX1_writeHalves 100 = .ok (.goto (-15), 3) := by decide +kernel
theorem dX1_writeHalves_103 : decode cX1_writeHalves 103 = .ok (.aload_n 0, 1) := by decide +kernel
theorem dX1_writeHalves_104 : decode cX1_writeHalves 104 = .ok (.getfield 22, 3) := by decide +kernel
theorem dX1_writeHalves_107 : decode cX1_writeHalves 107 = .ok (.iload_n 1, 1) := by decide +kernel
theorem dX1_writeHalves_108 : decode cX1_writeHalves 108 = .ok (.if_icmp .le 34, 3) := by decide +kernel
theorem dX1_writeHalves_111 : decode cX1_writeHalves 111 = .ok (.iconst 0, 1) := by decide +kernel
theorem dX1_writeHalves_112 : decode cX1_writeHalves 112 = .ok (.istore_n 2, 1) := by decide +kernel
theorem dX1_writeHalves_113 : decode cX1_writeHalves 113 = .ok (.iload_n 2, 1) := by decide +kernel
theorem dX1_writeHalves_114 : decode cX1_writeHalves 114 = .ok (.aload_n 0, 1) := by decide +kernel
theorem dX1_writeHalves_115 : decode cX1_writeHalves 115 = .ok (.getfield 22, 3) := by decide +kernel
theorem dX1_writeHalves_118 : decode cX1_writeHalves 118 = .ok (.iload_n 1, 1) := by decide +kernel
theorem dX1_writeHalves_119 : decode cX1_writeHalves 119 = .ok (.isub, 1) := by decide +kernel
theorem dX1_writeHalves_120 : decode cX1_writeHalves 120 = .ok (.if_icmp .ge 18, 3) := by decide +kernel
theorem dX1_writeHalves_123 : decode cX1_writeHalves 123 = .ok (.aload_n 0, 1) := by decide +kernel
theorem dX1_writeHalves_124 : decode cX1_writeHalves 124 = .ok (.iload_n 2, 1) := by decide +kernel
theorem dX1_writeHalves_125 : decode cX1_writeHalves 125 = .ok (.iload_n 2, 1) := by decide +kernel
theorem dX1_writeHalves_126 : decode cX1_writeHalves 126 = .ok (.iload_n 1, 1) := by decide +kernel
theorem dX1_writeHalves_127 : decode cX1_writeHalves 127 = .ok (.iadd, 1) := by decide +kernel
theorem dX1_writeHalves_128 : decode cX1_writeHalves 128 = .ok (.iconst 2, 1) := by decide +kernel
theorem dX1_writeHalves_129 : decode cX1_writeHalves 129 = .ok (.invokevirtual 85, 3) := by decide +kernel
theorem dX1_writeHalves_132 : decode cX1_writeHalves 132 = .ok (.iinc 2 1, 3) := by decide +kernel
theorem dX1_writeHalves_135 : decode cX1_writeHalves 135 = .ok (.goto (-22), 3) := by decide +kernel
theorem dX1_writeHalves_138 : decode cX1_writeHalves 138 = .ok (.aload_n 0, 1) := by decide +kernel
theorem dX1_writeHalves_139 : decode cX1_writeHalves 139 = .ok (.invokevirtual 75, 3) := by decide +kernel
theorem dX1_writeHalves_142 : decode cX1_writeHalves 142 = .ok (.return_, 1) := by decide +kernel
theorem dX1_greatestPowerOfTwo_0 : decode cX1_greatestPowerOfTwo 0 = .ok (.iconst 1, 1) := by decide +kernel
theorem dX1_greatestPowerOfTwo_1 : decode cX1_greatestPowerOfTwo 1 = .ok (.istore_n 1, 1) := by decide +kernel
theorem dX1_greatestPowerOfTwo_2 : decode cX1_greatestPowerOfTwo 2 = .ok (.iconst 2, 1) := by decide +kernel
theorem dX1_greatestPowerOfTwo_3 : decode cX1_greatestPowerOfTwo 3 = .ok (.istore_n 2, 1) := by decide +kernel
theorem dX1_greatestPowerOfTwo_4 : decode cX1_greatestPowerOfTwo 4 = .ok (.iload_n 2, 1) := by decide +kernel
theorem dX1_greatestPowerOfTwo_5 : decode cX1_greatestPowerOfTwo 5 = .ok (.bipush 9, 2) := by decide +kernel
theorem dX1_greatestPowerOfTwo_7 : decode cX1_greatestPowerOfTwo 7 = .ok (.if_icmp .gt 20, 3) := by decide +kernel
theorem dX1_greatestPowerOfTwo_10 : decode cX1_greatestPowerOfTwo 10 = .ok (.iload_n 2, 1) := by decide +kernel
theorem dX1_greatestPowerOfTwo_11 : decode cX1_greatestPowerOfTwo 11 = .ok (.aload_n 0, 1) := by decide +kernel
theorem dX1_greatestPowerOfTwo_12 : decode cX1_greatestPowerOfTwo 12 = .ok (.getfield 22, 3) := by decide +kernel
theorem dX1_greatestPowerOfTwo_15 : decode cX1_greatestPowerOfTwo 15 = .ok (.if_icmp .gt 5, 3) := by decide +kernel
theorem dX1_greatestPowerOfTwo_18 : decode cX1_greatestPowerOfTwo 18 = .ok (.iload_n 2, 1) := by decide +kernel
theorem dX1_greatestPowerOfTwo_19 : decode cX1_greatestPowerOfTwo 19 = .ok (.istore_n 1, 1) := by decide +kernel
theorem dX1_greatestPowerOfTwo_20 : decode cX1_greatestPowerOfTwo 20 = .ok (.iload_n 2, 1) := by decide +kernel
theorem dX1_greatestPowerOfTwo_21 : decode cX1_greatestPowerOfTwo 21 = .ok (.iconst 2, 1) := by decide +kernel
theorem dX1_greatestPowerOfTwo_22 : decode cX1_greatestPowerOfTwo 22 = .ok (.imul, 1) := by decide +kernel
theorem dX1_greatestPowerOfTwo_23 : decode cX1_greatestPowerOfTwo 23 = .ok (.istore_n 2, 1) := by decide +kernel
theorem dX1_greatestPowerOfTwo_24 : decode cX1_greatestPowerOfTwo 24 = .ok (.goto (-20), 3) := by decide +kernel
theorem dX1_greatestPowerOfTwo_27 : decode cX1_greatestPowerOfTwo 27 = .ok (.iload_n 1, 1) := by decide +kernel
theorem dX1_greatestPowerOfTwo_28 : decode cX1_greatestPowerOfTwo 28 = .ok (.ireturn, 1) := by decide +kernel
theorem dX1_writeHalving_0 : decode cX1_writeHalving 0 = .ok (.iconst 0, 1) := by decide +kernel
theorem dX1_writeHalving_1 : decode cX1_writeHalving 1 = .ok (.istore_n 3, 1) := by decide +kernel
theorem dX1_writeHalving_2 : decode cX1_writeHalving 2 = .ok (.iload_n 3, 1) := by decide +kernel
theorem dX1_writeHalving_3 : decode cX1_writeHalving 3 = .ok (.iload_n 1, 1) := by decide +kernel
theorem dX1_writeHalving_4 : decode cX1_writeHalving 4 = .ok (.if_icmp .ge 109, 3) := by decide +kernel
theorem dX1_writeHalving_7 : decode cX1_writeHalving 7 = .ok (.iload_n 3, 1) := by decide +kernel
theorem dX1_writeHalving_8 : decode cX1_writeHalving 8 = .ok (.bipush 9, 2) := by decide +kernel
theorem dX1_writeHalving_10 : decode cX1_writeHalving 10 = .ok (.if_icmp .ge 103, 3) := by decide +kernel
theorem dX1_writeHalving_13 : decode cX1_writeHalving 13 = .ok (.aload_n 0, 1) := by decide +kernel
theorem dX1_writeHalving_14 : decode cX1_writeHalving 14 = .ok (.getfield 28, 3) := by decide +kernel
theorem dX1_writeHalving_17 : decode cX1_writeHalving 17 = .ok (.iload_n 3, 1) := by decide +kernel
theorem dX1_writeHalving_18 : decode cX1_writeHalving 18 = .ok (.iaload, 1) := by decide +kernel
theorem dX1_writeHalving_19 : decode cX1_writeHalving 19 = .ok (.istore 4, 2) := by decide +kernel
theorem dX1_writeHalving_21 : decode cX1_writeHalving 21 = .ok (.aload_n 0, 1) := by decide +kernel
theorem dX1_writeHalving_22 : decode cX1_writeHalving 22 = .ok (.getfield 31, 3) := by decide +kernel
theorem dX1_writeHalving_25 : decode cX1_writeHalving 25 = .ok (.iload_n 3, 1) := by decide +kernel
theorem dX1_writeHalving_26 : decode cX1_writeHalving 26 = .ok (.iaload, 1) := by decide +kernel
theorem dX1_writeHalving_27 : decode cX1_writeHalving 27 = .ok (.iconst 2, 1) := by decide +kernel
theorem dX1_writeHalving_28 : decode cX1_writeHalving 28 = .ok (.idiv, 1) := by decide +kernel
theorem dX1_writeHalving_29 : decode cX1_writeHalving 29 = .ok (.istore 5, 2) := by decide +kernel
theorem dX1_writeHalving_31 : decode cX1_writeHalving 31 = .ok (.aload_n 0, 1) := by decide +kernel
theorem dX1_writeHalving_32 : decode cX1_writeHalving 32 = .ok (.getfield 31, 3) := by decide +kernel
theorem dX1_writeHalving_35 : decode cX1_writeHalving 35 = .ok (.iload_n 3, 1) := by decide +kernel
theorem dX1_writeHalving_36 : decode cX1_writeHalving 36 = .ok (.iaload, 1) := by decide +kernel
theorem dX1_writeHalving_37 : decode cX1_writeHalving 37 = .ok (.iload 5, 2) := by decide +kernel
theorem dX1_writeHalving_39 : decode cX1_writeHalving 39 = .ok (.isub, 1) := by decide +kernel
theorem dX1_writeHalving_40 : decode cX1_writeHalving 40 = .ok (.istore 6, 2) := by decide +kernel
theorem dX1_writeHalving_42 : decode cX1_writeHalving 42 = .ok (.iload_n 3, 1) := by decide +kernel
theorem dX1_writeHalving_43 : decode cX1_writeHalving 43 = .ok (.iload_n 2, 1) := by decide +kernel
theorem dX1_writeHalving_44 : decode cX1_writeHalving 44 = .ok (.iand, 1) := by decide +kernel
theorem dX1_writeHalving_45 : decode cX1_writeHalving 45 = .ok (.ifCond .ne 30, 3) := by decide +kernel
theorem dX1_writeHalving_48 : decode cX1_writeHalving 48 = .ok (.aload_n 0, 1) := by decide +kernel
theorem dX1_writeHalving_49 : decode cX1_writeHalving 49 = .ok (.iload_n 3, 1) := by decide +kernel
theorem dX1_writeHalving_50 : decode cX1_writeHalving 50 = .ok (.iload_n 3, 1) := by decide +kernel
theorem dX1_writeHalving_51 : decode cX1_writeHalving 51 = .ok (.iload_n 2, 1) := by decide +kernel
theorem dX1_writeHalving_52 : decode cX1_writeHalving 52 = .ok (.iadd, 1) := by decide +kernel
theorem dX1_writeHalving_53 : decode cX1_writeHalving 53 = .ok (.iload 4, 2) := by decide +kernel
theorem dX1_writeHalving_55 : decode cX1_writeHalving 55 = .ok (.iload 5, 2) := by decide +kernel
theorem dX1_writeHalving_57 : decode cX1_writeHalving 57 = .ok (.iadd, 1) := by decide +kernel
theorem dX1_writeHalving_58 : decode cX1_writeHalving 58 = .ok (.iload 6, 2) := by decide +kernel
theorem dX1_writeHalving_60 : decode cX1_writeHalving 60 = .ok (.iconst 1, 1) := by decide +kernel
theorem dX1_writeHalving_61 : decode cX1_writeHalving 61 = .ok (.invokevirtual 63, 3) := by decide +kernel
theorem dX1_writeHalving_64 : decode cX1_writeHalving 64 = .ok (.aload_n 0, 1) := by decide +kernel
theorem dX1_writeHalving_65 : decode cX1_writeHalving 65 = .ok (.getfield 31, 3) := by decide +kernel
theorem dX1_writeHalving_68 : decode cX1_writeHalving 68 = .ok (.iload_n 3, 1) := by decide +kernel
theorem dX1_writeHalving_69 : decode cX1_writeHalving 69 = .ok (.iload 5, 2) := by decide +kernel
theorem dX1_writeHalving_71 : decode cX1_writeHalving 71 = .ok (.iastore, 1) := by decide +kernel
theorem dX1_writeHalving_72 : decode cX1_writeHalving 72 = .ok (.goto 35, 3) := by decide +kernel
theorem dX1_writeHalving_75 : decode cX1_writeHalving 75 = .ok (.aload_n 0, 1) := by decide +kernel
theorem dX1_writeHalving_76 : decode cX1_writeHalving 76 = .ok (.iload_n 3, 1) := by decide +kernel
theorem dX1_writeHalving_77 : decode cX1_writeHalving 77 = .ok (.iload_n 3, 1) := by decide +kernel
theorem dX1_writeHalving_78 : decode cX1_writeHalving 78 = .ok (.iload_n 2, 1) := by decide +kernel
theorem dX1_writeHalving_79 : decode cX1_writeHalving 79 = .ok (.isub, 1) := by decide +kernel
theorem dX1_writeHalving_80 : decode cX1_writeHalving 80 = .ok (.iload 4, 2) := by decide +kernel
theorem dX1_writeHalving_82 : decode cX1_writeHalving 82 = .ok (.iload 5, 2) := by decide +kernel
theorem dX1_writeHalving_84 : decode cX1_writeHalving 84 = .ok (.iconst 0, 1) := by decide +kernel
theorem dX1_writeHalving_85 : decode cX1_writeHalving 85 = .ok (.invokevirtual 63, 3) := by decide +kernel
theorem dX1_writeHalving_88 : decode cX1_writeHalving 88 = .ok (.aload_n 0, 1) := by decide +kernel
theorem dX1_writeHalving_89 : decode cX1_writeHalving 89 = .ok (.getfield 28, 3) := by decide +kernel
theorem dX1_writeHalving_92 : decode cX1_writeHalving 92 = .ok (.iload_n 3, 1) := by decide +kernel
theorem dX1_writeHalving_93 : decode cX1_writeHalving 93 = .ok (.iload 4, 2) := by decide +kernel
theorem dX1_writeHalving_95 : decode cX1_writeHalving 95 = .ok (.iload 5, 2) := by decide +kernel
theorem dX1_writeHalving_97 : decode cX1_writeHalving 97 = .ok (.iadd, 1) := by decide +kernel
theorem dX1_writeHalving_98 : decode cX1_writeHalving 98 = .ok (.iastore, 1) := by decide +kernel
theorem dX1_writeHalving_99 : decode cX1_writeHalving 99 = .ok (.aload_n 0, 1) := by decide +kernel
theorem dX1_writeHalving_100 : decode cX1_writeHalving 100 = .ok (.getfield 31, 3) := by decide +kernel
theorem dX1_writeHalving_103 : decode cX1_writeHalving 103 = .ok (.iload_n 3, 1) := by decide +kernel
theorem dX1_writeHalving_104 : decode cX1_writeHalving 104 = .ok (.iload 6, 2) := by decide +kernel
theorem dX1_writeHalving_106 : decode cX1_writeHalving 106 = .ok (.iastore, 1) := by decide +kernel
theorem dX1_writeHalving_107 : decode cX1_writeHalving 107 = .ok (.iinc 3 1, 3) := by decide +kernel
theorem dX1_writeHalving_110 : decode cX1_writeHalving 110 = .ok (.goto (-108), 3) := by decide +kernel
theorem dX1_writeHalving_113 : decode cX1_writeHalving 113 = .ok (.aload_n 0, 1) := by decide +kernel
theorem dX1_writeHalving_114 : decode cX1_writeHalving 114 = .ok (.invokevirtual 75, 3) := by decide +kernel
theorem dX1_writeHalving_117 : decode cX1_writeHalving 117 = .ok (.return_, 1) := by decide +kernel
theorem dX1_writeDoubling_0 : decode cX1_writeDoubling 0 = .ok (.iconst 0, 1) := by decide +kernel
theorem dX1_writeDoubling_1 : decode cX1_writeDoubling 1 = .ok (.istore_n 3, 1) := by decide +kernel
theorem dX1_writeDoubling_2 : decode cX1_writeDoubling 2 = .ok (.iload_n 3, 1) := by decide +kernel
theorem dX1_writeDoubling_3 : decode cX1_writeDoubling 3 = .ok (.iload_n 1, 1) := by decide +kernel
theorem dX1_writeDoubling_4 : decode cX1_writeDoubling 4 = .ok (.if_icmp .ge 36, 3) := by decide +kernel
theorem dX1_writeDoubling_7 : decode cX1_writeDoubling 7 = .ok (.iload_n 3, 1) := by decide +kernel
theorem dX1_writeDoubling_8 : decode cX1_writeDoubling 8 = .ok (.bipush 9, 2) := by decide +kernel
theorem dX1_writeDoubling_10 : decode cX1_writeDoubling 10 = .ok (.if_icmp .ge 30, 3) := by decide +kernel
theorem dX1_writeDoubling_13 : decode cX1_writeDoubling 13 = .ok (.aload_n 0, 1) := by decide +kernel
theorem dX1_writeDoubling_14 : decode cX1_writeDoubling 14 = .ok (.iload_n 3, 1) := by decide +kernel
theorem dX1_writeDoubling_15 : decode cX1_writeDoubling 15 = .ok (.iload_n 3, 1) := by decide +kernel
theorem dX1_writeDoubling_16 : decode cX1_writeDoubling 16 = .ok (.iload_n 2, 1) := by decide +kernel
theorem dX1_writeDoubling_17 : decode cX1_writeDoubling 17 = .ok (.ixor, 1) := by decide +kernel
theorem dX1_writeDoubling_18 : decode cX1_writeDoubling 18 = .ok (.aload_n 0, 1) := by decide +kernel
theorem dX1_writeDoubling_19 : decode cX1_writeDoubling 19 = .ok (.getfield 28, 3) := by decide +kernel
theorem dX1_writeDoubling_22 : decode cX1_writeDoubling 22 = .ok (.iload_n 3, 1) := by decide +kernel
theorem dX1_writeDoubling_23 : decode cX1_writeDoubling 23 = .ok (.iaload, 1) := by decide +kernel
theorem dX1_writeDoubling_24 : decode cX1_writeDoubling 24 = .ok (.aload_n 0, 1) := by decide +kernel
theorem dX1_writeDoubling_25 : decode cX1_writeDoubling 25 = .ok (.getfield 31, 3) := by decide +kernel
theorem dX1_writeDoubling_28 : decode cX1_writeDoubling 28 = .ok (.iload_n 3, 1) := by decide +kernel
theorem dX1_writeDoubling_29 : decode cX1_writeDoubling 29 = .ok (.iaload, 1) := by decide +kernel
theorem dX1_writeDoubling_30 : decode cX1_writeDoubling 30 = .ok (.iconst 2, 1) := by decide +kernel
theorem dX1_writeDoubling_31 : decode cX1_writeDoubling 31 = .ok (.invokevirtual 63, 3) := by decide +kernel
theorem dX1_writeDoubling_34 : decode cX1_writeDoubling 34 = .ok (.iinc 3 1, 3) := by decide +kernel
theorem dX1_writeDoubling_37 : decode cX1_writeDoubling 37 = .ok (.goto (-35), 3) := by decide +kernel
theorem dX1_writeDoubling_40 : decode cX1_writeDoubling 40 = .ok (.iconst 0, 1) := by decide +kernel
theorem dX1_writeDoubling_41 : decode cX1_writeDoubling 41 = .ok (.istore_n 3, 1) := by decide +kernel
theorem dX1_writeDoubling_42 : decode cX1_writeDoubling 42 = .ok (.iload_n 3, 1) := by decide +kernel
theorem dX1_writeDoubling_43 : decode cX1_writeDoubling 43 = .ok (.iload_n 2, 1) := by decide +kernel
theorem dX1_writeDoubling_44 : decode cX1_writeDoubling 44 = .ok (.iadd, 1) := by decide +kernel
theorem dX1_writeDoubling_45 : decode cX1_writeDoubling 45 = .ok (.iload_n 1, 1) := by decide +kernel
theorem dX1_writeDoubling_46 : decode cX1_writeDoubling 46 = .ok (.if_icmp .ge 68, 3) := by decide +kernel
theorem dX1_writeDoubling_49 : decode cX1_writeDoubling 49 = .ok (.iload_n 3, 1) := by decide +kernel
theorem dX1_writeDoubling_50 : decode cX1_writeDoubling 50 = .ok (.iload_n 2, 1) := by decide +kernel
theorem dX1_writeDoubling_51 : decode cX1_writeDoubling 51 = .ok (.iadd, 1) := by decide +kernel
theorem dX1_writeDoubling_52 : decode cX1_writeDoubling 52 = .ok (.bipush 9, 2) := by decide +kernel
theorem dX1_writeDoubling_54 : decode cX1_writeDoubling 54 = .ok (.if_icmp .ge 60, 3) := by decide +kernel
theorem dX1_writeDoubling_57 : decode cX1_writeDoubling 57 = .ok (.iload_n 3, 1) := by decide +kernel
theorem dX1_writeDoubling_58 : decode cX1_writeDoubling 58 = .ok (.iload_n 2, 1) := by decide +kernel
theorem dX1_writeDoubling_59 : decode cX1_writeDoubling 59 = .ok (.iand, 1) := by decide +kernel
theorem dX1_writeDoubling_60 : decode cX1_writeDoubling 60 = .ok (.ifCond .ne 48, 3) := by decide +kernel
theorem dX1_writeDoubling_63 : decode cX1_writeDoubling 63 = .ok (.aload_n 0, 1) := by decide +kernel
theorem dX1_writeDoubling_64 : decode cX1_writeDoubling 64 = .ok (.getfield 31, 3) := by decide +kernel
theorem dX1_writeDoubling_67 : decode cX1_writeDoubling 67 = .ok (.iload_n 3, 1) := by decide +kernel
theorem dX1_writeDoubling_68 : decode cX1_writeDoubling 68 = .ok (.dup2, 1) := by decide +kernel
theorem dX1_writeDoubling_69 : decode cX1_writeDoubling 69 = .ok (.iaload, 1) := by decide +kernel
theorem dX1_writeDoubling_70 : decode cX1_writeDoubling 70 = .ok (.aload_n 0, 1) := by decide +kernel
theorem dX1_writeDoubling_71 : decode cX1_writeDoubling 71 = .ok (.getfield 31, 3) := by decide +kernel
theorem dX1_writeDoubling_74 : decode cX1_writeDoubling 74 = .ok (.iload_n 3, 1) := by decide +kernel
theorem dX1_writeDoubling_75 : decode cX1_writeDoubling 75 = .ok (.iload_n 2, 1) := by decide +kernel
theorem dX1_writeDoubling_76 : decode cX1_writeDoubling 76 = .ok (.iadd, 1) := by decide +kernel
theorem dX1_writeDoubling_77 : decode cX1_writeDoubling 77 = .ok (.iaload, 1) := by decide +kernel
theorem dX1_writeDoubling_78 : decode cX1_writeDoubling 78 = .ok (.iadd, 1) := by decide +kernel
theorem dX1_writeDoubling_79 : decode cX1_writeDoubling 79 = .ok (.iastore, 1) := by decide +kernel
theorem dX1_writeDoubling_80 : decode cX1_writeDoubling 80 = .ok (.aload_n 0, 1) := by decide +kernel
theorem dX1_writeDoubling_81 : decode cX1_writeDoubling 81 = .ok (.getfield 28, 3) := by decide +kernel
theorem dX1_writeDoubling_84 : decode cX1_writeDoubling 84 = .ok (.iload_n 3, 1) := by decide +kernel
theorem dX1_writeDoubling_85 : decode cX1_writeDoubling 85 = .ok (.iload_n 2, 1) := by decide +kernel
theorem dX1_writeDoubling_86 : decode cX1_writeDoubling 86 = .ok (.iadd, 1) := by decide +kernel
theorem dX1_writeDoubling_87 : decode cX1_writeDoubling 87 = .ok (.aload_n 0, 1) := by decide +kernel
theorem dX1_writeDoubling_88 : decode cX1_writeDoubling 88 = .ok (.getfield 28, 3) := by decide +kernel
theorem dX1_writeDoubling_91 : decode cX1_writeDoubling 91 = .ok (.iload_n 3, 1) := by decide +kernel
theorem dX1_writeDoubling_92 : decode cX1_writeDoubling 92 = .ok (.iaload, 1) := by decide +kernel
theorem dX1_writeDoubling_93 : decode cX1_writeDoubling 93 = .ok (.iastore, 1) := by decide +kernel
theorem dX1_writeDoubling_94 : decode cX1_writeDoubling 94 = .ok (.aload_n 0, 1) := by decide +kernel
theorem dX1_writeDoubling_95 : decode cX1_writeDoubling 95 = .ok (.getfield 31, 3) := by decide +kernel
theorem dX1_writeDoubling_98 : decode cX1_writeDoubling 98 = .ok (.iload_n 3, 1) := by decide +kernel
theorem dX1_writeDoubling_99 : decode cX1_writeDoubling 99 = .ok (.iload_n 2, 1) := by decide +kernel
theorem dX1_writeDoubling_100 : decode cX1_writeDoubling 100 = .ok (.iadd, 1) := by decide +kernel
theorem dX1_writeDoubling_101 : decode cX1_writeDoubling 101 = .ok (.aload_n 0, 1) := by decide +kernel
theorem dX1_writeDoubling_102 : decode cX1_writeDoubling 102 = .ok (.getfield 31, 3) := by decide +kernel
theorem dX1_writeDoubling_105 : decode cX1_writeDoubling 105 = .ok (.iload_n 3, 1) := by decide +kernel
theorem dX1_writeDoubling_106 : decode cX1_writeDoubling 106 = .ok (.iaload, 1) := by decide +kernel
theorem dX1_writeDoubling_107 : decode cX1_writeDoubling 107 = .ok (.iastore, 1) := by decide +kernel
theorem dX1_writeDoubling_108 : decode cX1_writeDoubling 108 = .ok (.iinc 3 1, 3) := by decide +kernel
theorem dX1_writeDoubling_111 : decode cX1_writeDoubling 111 = .ok (.goto (-69), 3) := by decide +kernel
theorem dX1_writeDoubling_114 : decode cX1_writeDoubling 114 = .ok (.aload_n 0, 1) := by decide +kernel
theorem dX1_writeDoubling_115 : decode cX1_writeDoubling 115 = .ok (.invokevirtual 75, 3) := by decide +kernel
theorem dX1_writeDoubling_118 : decode cX1_writeDoubling 118 = .ok (.return_, 1) := by decide +kernel
theorem dX1_writeTree_0 : decode cX1_writeTree 0 = .ok (.aload_n 0, 1) := by decide +kernel
theorem dX1_writeTree_1 : decode cX1_writeTree 1 = .ok (.invokevirtual 101, 3) := by decide +kernel
theorem dX1_writeTree_4 : decode cX1_writeTree 4 = .ok (.istore_n 1, 1) := by decide +kernel
theorem dX1_writeTree_5 : decode cX1_writeTree 5 = .ok (.iload_n 1, 1) := by decide +kernel
theorem dX1_writeTree_6 : decode cX1_writeTree 6 = .ok (.istore_n 2, 1) := by decide +kernel
theorem dX1_writeTree_7 : decode cX1_writeTree 7 = .ok (.iload_n 2, 1) := by decide +kernel
theorem dX1_writeTree_8 : decode cX1_writeTree 8 = .ok (.iconst 1, 1) := by decide +kernel
theorem dX1_writeTree_9 : decode cX1_writeTree 9 = .ok (.if_icmp .lt 52, 3) := by decide +kernel
theorem dX1_writeTree_12 : decode cX1_writeTree 12 = .ok (.iload_n 2, 1) := by decide +kernel
theorem dX1_writeTree_13 : decode cX1_writeTree 13 = .ok (.invokestatic 104, 3) := by decide +kernel
theorem dX1_writeTree_16 : decode cX1_writeTree 16 = .ok (.istore_n 3, 1) := by decide +kernel
theorem dX1_writeTree_17 : decode cX1_writeTree 17 = .ok (.iload_n 3, 1) := by decide +kernel
theorem dX1_writeTree_18 : decode cX1_writeTree 18 = .ok (.aload_n 0, 1) := by decide +kernel
theorem dX1_writeTree_19 : decode cX1_writeTree 19 = .ok (.getfield 22, 3) := by decide +kernel
theorem dX1_writeTree_22 : decode cX1_writeTree 22 = .ok (.if_icmp .ge 29, 3) := by decide +kernel
theorem dX1_writeTree_25 : decode cX1_writeTree 25 = .ok (.iload_n 3, 1) := by decide +kernel
theorem dX1_writeTree_26 : decode cX1_writeTree 26 = .ok (.iload_n 2, 1) := by decide +kernel
theorem dX1_writeTree_27 : decode cX1_writeTree 27 = .ok (.iconst 1, 1) := by decide +kernel
theorem dX1_writeTree_28 : decode cX1_writeTree 28 = .ok (.iadd, 1) := by decide +kernel
theorem dX1_writeTree_29 : decode cX1_writeTree 29 = .ok (.invokestatic 104, 3) := by decide +kernel
theorem dX1_writeTree_32 : decode cX1_writeTree 32 = .ok (.if_icmp .ge 19, 3) := by decide +kernel
theorem dX1_writeTree_35 : decode cX1_writeTree 35 = .ok (.aload_n 0, 1) := by decide +kernel
theorem dX1_writeTree_36 : decode cX1_writeTree 36 = .ok (.iload_n 3, 1) := by decide +kernel
theorem dX1_writeTree_37 : decode cX1_writeTree 37 = .ok (.iload_n 3, 1) := by decide +kernel
theorem dX1_writeTree_38 : decode cX1_writeTree 38 = .ok (.invokestatic 107, 3) := by decide +kernel
theorem dX1_writeTree_41 : decode cX1_writeTree 41 = .ok (.iconst 0, 1) := by decide +kernel
theorem dX1_writeTree_42 : decode cX1_writeTree 42 = .ok (.invokevirtual 85, 3) := by decide +kernel
theorem dX1_writeTree_45 : decode cX1_writeTree 45 = .ok (.iinc 3 1, 3) := by decide +kernel
theorem dX1_writeTree_48 : decode cX1_writeTree 48 = .ok (.goto (-31), 3) := by decide +kernel
theorem dX1_writeTree_51 : decode cX1_writeTree 51 = .ok (.aload_n 0, 1) := by decide +kernel
theorem dX1_writeTree_52 : decode cX1_writeTree 52 = .ok (.invokevirtual 75, 3) := by decide +kernel
theorem dX1_writeTree_55 : decode cX1_writeTree 55 = .ok (.iinc 2 (-1), 3) := by decide +kernel
theorem dX1_writeTree_58 : decode cX1_writeTree 58 = .ok (.goto (-51), 3) := by decide +kernel
theorem dX1_writeTree_61 : decode cX1_writeTree 61 = .ok (.iconst 1, 1) := by decide +kernel
theorem dX1_writeTree_62 : decode cX1_writeTree 62 = .ok (.istore_n 2, 1) := by decide +kernel
theorem dX1_writeTree_63 : decode cX1_writeTree 63 = .ok (.iload_n 2, 1) := by decide +kernel
theorem dX1_writeTree_64 : decode cX1_writeTree 64 = .ok (.iload_n 1, 1) := by decide +kernel
theorem dX1_writeTree_65 : decode cX1_writeTree 65 = .ok (.if_icmp .gt 52, 3) := by decide +kernel
theorem dX1_writeTree_68 : decode cX1_writeTree 68 = .ok (.iload_n 2, 1) := by decide +kernel
theorem dX1_writeTree_69 : decode cX1_writeTree 69 = .ok (.invokestatic 104, 3) := by decide +kernel
theorem dX1_writeTree_72 : decode cX1_writeTree 72 = .ok (.istore_n 3, 1) := by decide +kernel
theorem dX1_writeTree_73 : decode cX1_writeTree 73 = .ok (.iload_n 3, 1) := by decide +kernel
theorem dX1_writeTree_74 : decode cX1_writeTree 74 = .ok (.aload_n 0, 1) := by decide +kernel
theorem dX1_writeTree_75 : decode cX1_writeTree 75 = .ok (.getfield 22, 3) := by decide +kernel
theorem dX1_writeTree_78 : decode cX1_writeTree 78 = .ok (.if_icmp .ge 29, 3) := by decide +kernel
theorem dX1_writeTree_81 : decode cX1_writeTree 81 = .ok (.iload_n 3, 1) := by decide +kernel
theorem dX1_writeTree_82 : decode cX1_writeTree 82 = .ok (.iload_n 2, 1) := by decide +kernel
theorem dX1_writeTree_83 : decode cX1_writeTree 83 = .ok (.iconst 1, 1) := by decide +kernel
theorem dX1_writeTree_84 : decode cX1_writeTree 84 = .ok (.iadd, 1) := by decide +kernel
theorem dX1_writeTree_85 : decode cX1_writeTree 85 = .ok (.invokestatic 104, 3) := by decide +kernel
theorem dX1_writeTree_88 : decode cX1_writeTree 88 = .ok (.if_icmp .ge 19, 3) := by decide +kernel
theorem dX1_writeTree_91 : decode cX1_writeTree 91 = .ok (.aload_n 0, 1) := by decide +kernel
theorem dX1_writeTree_92 : decode cX1_writeTree 92 = .ok (.iload_n 3, 1) := by decide +kernel
theorem dX1_writeTree_93 : decode cX1_writeTree 93 = .ok (.invokestatic 107, 3) := by decide +kernel
theorem dX1_writeTree_96 : decode cX1_writeTree 96 = .ok (.iload_n 3, 1) := by decide +kernel
theorem dX1_writeTree_97 : decode cX1_writeTree 97 = .ok (.iconst 2, 1) := by decide +kernel
theorem dX1_writeTree_98 : decode cX1_writeTree 98 = .ok (.invokevirtual 85, 3) := by decide +kernel
theorem dX1_writeTree_101 : decode cX1_writeTree 101 = .ok (.iinc 3 1, 3) := by decide +kernel
theorem dX1_writeTree_104 : decode cX1_writeTree 104 = .ok (.goto (-31), 3) := by decide +kernel
theorem dX1_writeTree_107 : decode cX1_writeTree 107 = .ok (.aload_n 0, 1) := by decide +kernel
theorem dX1_writeTree_108 : decode cX1_writeTree 108 = .ok (.invokevirtual 75, 3) := by decide +kernel
theorem dX1_writeTree_111 : decode cX1_writeTree 111 = .ok (.iinc 2 1, 3) := by decide +kernel
theorem dX1_writeTree_114 : decode cX1_writeTree 114 = .ok (.goto (-51), 3) := by decide +kernel
theorem dX1_writeTree_117 : decode cX1_writeTree 117 = .ok (.return_, 1) := by decide +kernel
theorem dX1_upper_0 : decode cX1_upper 0 = .ok (.iload_n 0, 1) := by decide +kernel
theorem dX1_upper_1 : decode cX1_upper 1 = .ok (.iconst 1, 1) := by decide +kernel
theorem dX1_upper_2 : decode cX1_upper 2 = .ok (.isub, 1) := by decide +kernel
theorem dX1_upper_3 : decode cX1_upper 3 = .ok (.iconst 2, 1) := by decide +kernel
theorem dX1_upper_4 : decode cX1_upper 4 = .ok (.idiv, 1) := by decide +kernel
theorem dX1_upper_5 : decode cX1_upper 5 = .ok (.ireturn, 1) := by decide +kernel
theorem dX1_firstOnLevel_0 : decode cX1_firstOnLevel 0 = .ok (.iconst 1, 1) := by decide +kernel
theorem dX1_firstOnLevel_1 : decode cX1_firstOnLevel 1 = .ok (.iload_n 0, 1) := by decide +kernel
theorem dX1_firstOnLevel_2 : decode cX1_firstOnLevel 2 = .ok (.ishl, 1) := by decide +kernel
theorem dX1_firstOnLevel_3 : decode cX1_firstOnLevel 3 = .ok (.iconst 1, 1) := by decide +kernel
theorem dX1_firstOnLevel_4 : decode cX1_firstOnLevel 4 = .ok (.isub, 1) := by decide +kernel
theorem dX1_firstOnLevel_5 : decode cX1_firstOnLevel 5 = .ok (.ireturn, 1) := by decide +kernel
theorem dX1_deepestLevel_0 : decode cX1_deepestLevel 0 = .ok (.iconst 0, 1) := by decide +kernel
theorem dX1_deepestLevel_1 : decode cX1_deepestLevel 1 = .ok (.istore_n 1, 1) := by decide +kernel
theorem dX1_deepestLevel_2 : decode cX1_deepestLevel 2 = .ok (.iconst 1, 1) := by decide +kernel
theorem dX1_deepestLevel_3 : decode cX1_deepestLevel 3 = .ok (.istore_n 2, 1) := by decide +kernel
theorem dX1_deepestLevel_4 : decode cX1_deepestLevel 4 = .ok (.iload_n 2, 1) := by decide +kernel
theorem dX1_deepestLevel_5 : decode cX1_deepestLevel 5 = .ok (.iconst 3, 1) := by decide +kernel
theorem dX1_deepestLevel_6 : decode cX1_deepestLevel 6 = .ok (.if_icmp .gt 22, 3) := by decide +kernel
theorem dX1_deepestLevel_9 : decode cX1_deepestLevel 9 = .ok (.iload_n 2, 1) := by decide +kernel
theorem dX1_deepestLevel_10 : decode cX1_deepestLevel 10 = .ok (.invokestatic 104, 3) := by decide +kernel
theorem dX1_deepestLevel_13 : decode cX1_deepestLevel 13 = .ok (.aload_n 0, 1) := by decide +kernel
theorem dX1_deepestLevel_14 : decode cX1_deepestLevel 14 = .ok (.getfield 22, 3) := by decide +kernel
theorem dX1_deepestLevel_17 : decode cX1_deepestLevel 17 = .ok (.if_icmp .ge 5, 3) := by decide +kernel
theorem dX1_deepestLevel_20 : decode cX1_deepestLevel 20 = .ok (.iload_n 2, 1) := by decide +kernel
theorem dX1_deepestLevel_21 : decode cX1_deepestLevel 21 = .ok (.istore_n 1, 1) := by decide +kernel
theorem dX1_deepestLevel_22 : decode cX1_deepestLevel 22 = .ok (.iinc 2 1, 3) := by decide +kernel
theorem dX1_deepestLevel_25 : decode cX1_deepestLevel 25 = .ok (.goto (-21), 3) := by decide +kernel
theorem dX1_deepestLevel_28 : decode cX1_deepestLevel 28 = .ok (.iload_n 1, 1) := by decide +kernel
theorem dX1_deepestLevel_29 : decode cX1_deepestLevel 29 = .ok (.ireturn, 1) := by decide +kernel
theorem dX1_writeEach_0 : decode cX1_writeEach 0 = .ok (.iconst 1, 1) := by decide +kernel
theorem dX1_writeEach_1 : decode cX1_writeEach 1 = .ok (.istore_n 1, 1) := by decide +kernel
theorem dX1_writeEach_2 : decode cX1_writeEach 2 = .ok (.iload_n 1, 1) := by decide +kernel
theorem dX1_writeEach_3 : decode cX1_writeEach 3 = .ok (.aload_n 0, 1) := by decide +kernel
theorem dX1_writeEach_4 : decode cX1_writeEach 4 = .ok (.getfield 22, 3) := by decide +kernel
theorem dX1_writeEach_7 : decode cX1_writeEach 7 = .ok (.if_icmp .ge 16, 3) := by decide +kernel
theorem dX1_writeEach_10 : decode cX1_writeEach 10 = .ok (.aload_n 0, 1) := by decide +kernel
theorem dX1_writeEach_11 : decode cX1_writeEach 11 = .ok (.iload_n 1, 1) := by decide +kernel
theorem dX1_writeEach_12 : decode cX1_writeEach 12 = .ok (.iconst 0, 1) := by decide +kernel
theorem dX1_writeEach_13 : decode cX1_writeEach 13 = .ok (.iconst 0, 1) := by decide +kernel
theorem dX1_writeEach_14 : decode cX1_writeEach 14 = .ok (.invokevirtual 85, 3) := by decide +kernel
theorem dX1_writeEach_17 : decode cX1_writeEach 17 = .ok (.iinc 1 1, 3) := by decide +kernel
theorem dX1_writeEach_20 : decode cX1_writeEach 20 = .ok (.goto (-18), 3) := by decide +kernel
theorem dX1_writeEach_23 : decode cX1_writeEach 23 = .ok (.aload_n 0, 1) := by decide +kernel
theorem dX1_writeEach_24 : decode cX1_writeEach 24 = .ok (.invokevirtual 75, 3) := by decide +kernel
theorem dX1_writeEach_27 : decode cX1_writeEach 27 = .ok (.iconst 1, 1) := by decide +kernel
theorem dX1_writeEach_28 : decode cX1_writeEach 28 = .ok (.istore_n 1, 1) := by decide +kernel
theorem dX1_writeEach_29 : decode cX1_writeEach 29 = .ok (.iload_n 1, 1) := by decide +kernel
theorem dX1_writeEach_30 : decode cX1_writeEach 30 = .ok (.aload_n 0, 1) := by decide +kernel
theorem dX1_writeEach_31 : decode cX1_writeEach 31 = .ok (.getfield 22, 3) := by decide +kernel
theorem dX1_writeEach_34 : decode cX1_writeEach 34 = .ok (.if_icmp .ge 16, 3) := by decide +kernel
theorem dX1_writeEach_37 : decode cX1_writeEach 37 = .ok (.aload_n 0, 1) := by decide +kernel
theorem dX1_writeEach_38 : decode cX1_writeEach 38 = .ok (.iconst 0, 1) := by decide +kernel
theorem dX1_writeEach_39 : decode cX1_writeEach 39 = .ok (.iload_n 1, 1) := by decide +kernel
theorem dX1_writeEach_40 : decode cX1_writeEach 40 = .ok (.iconst 2, 1) := by decide +kernel
theorem dX1_writeEach_41 : decode cX1_writeEach 41 = .ok (.invokevirtual 85, 3) := by decide +kernel
theorem dX1_writeEach_44 : decode cX1_writeEach 44 = .ok (.iinc 1 1, 3) := by decide +kernel
theorem dX1_writeEach_47 : decode cX1_writeEach 47 = .ok (.goto (-18), 3) := by decide +kernel
theorem dX1_writeEach_50 : decode cX1_writeEach 50 = .ok (.aload_n 0, 1) := by decide +kernel
theorem dX1_writeEach_51 : decode cX1_writeEach 51 = .ok (.invokevirtual 75, 3) := by decide +kernel
theorem dX1_writeEach_54 : decode cX1_writeEach 54 = .ok (.return_, 1) := by decide +kernel
theorem dX2_init_0 : decode cX2_init 0 = .ok (.aload_n 0, 1) := by decide +kernel
theorem dX2_init_1 : decode cX2_init 1 = .ok (.invokespecial 3, 3) := by decide +kernel
theorem dX2_init_4 : decode cX2_init 4 = .ok (.aload_n 0, 1) := by decide +kernel
theorem dX2_init_5 : decode cX2_init 5 = .ok (.new 9, 3) := by decide +kernel
theorem dX2_init_8 : decode cX2_init 8 = .ok (.dup, 1) := by decide +kernel
theorem dX2_init_9 : decode cX2_init 9 = .ok (.invokespecial 11, 3) := by decide +kernel
theorem dX2_init_12 : decode cX2_init 12 = .ok (.putfield 12, 3) := by decide +kernel
theorem dX2_init_15 : decode cX2_init 15 = .ok (.aload_n 0, 1) := by decide +kernel
theorem dX2_init_16 : decode cX2_init 16 = .ok (.new 9, 3) := by decide +kernel
theorem dX2_init_19 : decode cX2_init 19 = .ok (.dup, 1) := by decide +kernel
theorem dX2_init_20 : decode cX2_init 20 = .ok (.invokespecial 11, 3) := by decide +kernel
theorem dX2_init_23 : decode cX2_init 23 = .ok (.putfield 18, 3) := by decide +kernel
theorem dX2_init_26 : decode cX2_init 26 = .ok (.return_, 1) := by decide +kernel
theorem dX2_run_0 : decode cX2_run 0 = .ok (.aload_n 0, 1) := by decide +kernel
theorem dX2_run_1 : decode cX2_run 1 = .ok (.getfield 12, 3) := by decide +kernel
theorem dX2_run_4 : decode cX2_run 4 = .ok (.aload_n 1, 1) := by decide +kernel
theorem dX2_run_5 : decode cX2_run 5 = .ok (.getfield 21, 3) := by decide +kernel
theorem dX2_run_8 : decode cX2_run 8 = .ok (.invokevirtual 24, 3) := by decide +kernel
theorem dX2_run_11 : decode cX2_run 11 = .ok (.iconst 0, 1) := by decide +kernel
theorem dX2_run_12 : decode cX2_run 12 = .ok (.istore 5, 2) := by decide +kernel
theorem dX2_run_14 : decode cX2_run 14 = .ok (.iconst 0, 1) := by decide +kernel
theorem dX2_run_15 : decode cX2_run 15 = .ok (.istore 6, 2) := by decide +kernel
theorem dX2_run_17 : decode cX2_run 17 = .ok (.iload 6, 2) := by decide +kernel
theorem dX2_run_19 : decode cX2_run 19 = .ok (.iload_n 3, 1) := by decide +kernel
theorem dX2_run_20 : decode cX2_run 20 = .ok (.if_icmp .ge 71, 3) := by decide +kernel
theorem dX2_run_23 : decode cX2_run 23 = .ok (.iload 6, 2) := by decide +kernel
theorem dX2_run_25 : decode cX2_run 25 = .ok (.aload_n 2, 1) := by decide +kernel
theorem dX2_run_26 : decode cX2_run 26 = .ok (.getfield 28, 3) := by decide +kernel
theorem dX2_run_29 : decode cX2_run 29 = .ok (.if_icmp .ge 62, 3) := by decide +kernel
theorem dX2_run_32 : decode cX2_run 32 = .ok (.aload_n 0, 1) := by decide +kernel
theorem dX2_run_33 : decode cX2_run 33 = .ok (.getfield 18, 3) := by decide +kernel
theorem dX2_run_36 : decode cX2_run 36 = .ok (.aload_n 0, 1) := by decide +kernel
theorem dX2_run_37 : decode cX2_run 37 = .ok (.getfield 12, 3) := by decide +kernel
theorem dX2_run_40 : decode cX2_run 40 = .ok (.invokevirtual 24, 3) := by decide +kernel
theorem dX2_run_43 : decode cX2_run 43 = .ok (.iload 5, 2) := by decide +kernel
theorem dX2_run_45 : decode cX2_run 45 = .ok (.aload_n 2, 1) := by decide +kernel
theorem dX2_run_46 : decode cX2_run 46 = .ok (.getfield 34, 3) := by decide +kernel
theorem dX2_run_49 : decode cX2_run 49 = .ok (.if_icmp .ge 36, 3) := by decide +kernel
theorem dX2_run_52 : decode cX2_run 52 = .ok (.aload_n 2, 1) := by decide +kernel
theorem dX2_run_53 : decode cX2_run 53 = .ok (.iload 5, 2) := by decide +kernel
theorem dX2_run_55 : decode cX2_run 55 = .ok (.iconst 0, 1) := by decide +kernel
theorem dX2_run_56 : decode cX2_run 56 = .ok (.invokevirtual 37, 3) := by decide +kernel
theorem dX2_run_59 : decode cX2_run 59 = .ok (.iload 6, 2) := by decide +kernel
theorem dX2_run_61 : decode cX2_run 61 = .ok (.if_icmp .ne 24, 3) := by decide +kernel
theorem dX2_run_64 : decode cX2_run 64 = .ok (.iload 5, 2) := by decide +kernel
theorem dX2_run_66 : decode cX2_run 66 = .ok (.iload 4, 2) := by decide +kernel
theorem dX2_run_68 : decode cX2_run 68 = .ok (.if_icmp .eq 11, 3) := by decide +kernel
theorem dX2_run_71 : decode cX2_run 71 = .ok (.aload_n 0, 1) := by decide +kernel
theorem dX2_run_72 : decode cX2_run 72 = .ok (.aload_n 1, 1) := by decide +kernel
theorem dX2_run_73 : decode cX2_run 73 = .ok (.aload_n 2, 1) := by decide +kernel
theorem dX2_run_74 : decode cX2_run 74 = .ok (.iload 5, 2) := by decide +kernel
theorem dX2_run_76 : decode cX2_run 76 = .ok (.invokevirtual 41, 3) := by decide +kernel
theorem dX2_run_79 : decode cX2_run 79 = .ok (.iinc 5 1, 3) := by decide +kernel
theorem dX2_run_82 : decode cX2_run 82 = .ok (.goto (-39), 3) := by decide +kernel
theorem dX2_run_85 : decode cX2_run 85 = .ok (.iinc 6 1, 3) := by decide +kernel
theorem dX2_run_88 : decode cX2_run 88 = .ok (.goto (-71), 3) := by decide +kernel
theorem dX2_run_91 : decode cX2_run 91 = .ok (.return_, 1) := by decide +kernel
theorem dX2_deliver_0 : decode cX2_deliver 0 = .ok (.aload_n 2, 1) := by decide +kernel
theorem dX2_deliver_1 : decode cX2_deliver 1 = .ok (.iload_n 3, 1) := by decide +kernel
theorem dX2_deliver_2 : decode cX2_deliver 2 = .ok (.iconst 1, 1) := by decide +kernel
theorem dX2_deliver_3 : decode cX2_deliver 3 = .ok (.invokevirtual 37, 3) := by decide +kernel
theorem dX2_deliver_6 : decode cX2_deliver 6 = .ok (.istore 4, 2) := by decide +kernel
theorem dX2_deliver_8 : decode cX2_deliver 8 = .ok (.aload_n 2, 1) := by decide +kernel
theorem dX2_deliver_9 : decode cX2_deliver 9 = .ok (.iload_n 3, 1) := by decide +kernel
theorem dX2_deliver_10 : decode cX2_deliver 10 = .ok (.iconst 2, 1) := by decide +kernel
theorem dX2_deliver_11 : decode cX2_deliver 11 = .ok (.invokevirtual 37, 3) := by decide +kernel
theorem dX2_deliver_14 : decode cX2_deliver 14 = .ok (.istore 5, 2) := by decide +kernel
theorem dX2_deliver_16 : decode cX2_deliver 16 = .ok (.aload_n 2, 1) := by decide +kernel
theorem dX2_deliver_17 : decode cX2_deliver 17 = .ok (.iload_n 3, 1) := by decide +kernel
theorem dX2_deliver_18 : decode cX2_deliver 18 = .ok (.iconst 5, 1) := by decide +kernel
theorem dX2_deliver_19 : decode cX2_deliver 19 = .ok (.invokevirtual 37, 3) := by decide +kernel
theorem dX2_deliver_22 : decode cX2_deliver 22 = .ok (.istore 6, 2) := by decide +kernel
theorem dX2_deliver_24 : decode cX2_deliver 24 = .ok (.aload_n 2, 1) := by decide +kernel
theorem dX2_deliver_25 : decode cX2_deliver 25 = .ok (.iload_n 3, 1) := by decide +kernel
theorem dX2_deliver_26 : decode cX2_deliver 26 = .ok (.iconst 3, 1) := by decide +kernel
theorem dX2_deliver_27 : decode cX2_deliver 27 = .ok (.invokevirtual 37, 3) := by decide +kernel
theorem dX2_deliver_30 : decode cX2_deliver 30 = .ok (.istore 7, 2) := by decide +kernel
theorem dX2_deliver_32 : decode cX2_deliver 32 = .ok (.iload 7, 2) := by decide +kernel
theorem dX2_deliver_34 : decode cX2_deliver 34 = .ok (.aload_n 2, 1) := by decide +kernel
theorem dX2_deliver_35 : decode cX2_deliver 35 = .ok (.iload_n 3, 1) := by decide +kernel
theorem dX2_deliver_36 : decode cX2_deliver 36 = .ok (.iconst 4, 1) := by decide +kernel
theorem dX2_deliver_37 : decode cX2_deliver 37 = .ok (.invokevirtual 37, 3) := by decide +kernel
theorem dX2_deliver_40 : decode cX2_deliver 40 = .ok (.iadd, 1) := by decide +kernel
theorem dX2_deliver_41 : decode cX2_deliver 41 = .ok (.istore 8, 2) := by decide +kernel
theorem dX2_deliver_43 : decode cX2_deliver 43 = .ok (.iload 7, 2) := by decide +kernel
theorem dX2_deliver_45 : decode cX2_deliver 45 = .ok (.istore 9, 2) := by decide +kernel
theorem dX2_deliver_47 : decode cX2_deliver 47 = .ok (.iload 9, 2) := by decide +kernel
theorem dX2_deliver_49 : decode cX2_deliver 49 = .ok (.iload 8, 2) := by decide +kernel
theorem dX2_deliver_51 : decode cX2_deliver 51 = .ok (.if_icmp .ge 56, 3) := by decide +kernel
theorem dX2_deliver_54 : decode cX2_deliver 54 = .ok (.aload_n 0, 1) := by decide +kernel
theorem dX2_deliver_55 : decode cX2_deliver 55 = .ok (.getfield 12, 3) := by decide +kernel
theorem dX2_deliver_58 : decode cX2_deliver 58 = .ok (.iload 5, 2) := by decide +kernel
theorem dX2_deliver_60 : decode cX2_deliver 60 = .ok (.iload 9, 2) := by decide +kernel
theorem dX2_deliver_62 : decode cX2_deliver 62 = .ok (.invokevirtual 45, 3) := by decide +kernel
theorem dX2_deliver_65 : decode cX2_deliver 65 = .ok (.istore 10, 2) := by decide +kernel
theorem dX2_deliver_67 : decode cX2_deliver 67 = .ok (.aload_n 0, 1) := by decide +kernel
theorem dX2_deliver_68 : decode cX2_deliver 68 = .ok (.getfield 18, 3) := by decide +kernel
theorem dX2_deliver_71 : decode cX2_deliver 71 = .ok (.iload 4, 2) := by decide +kernel
theorem dX2_deliver_73 : decode cX2_deliver 73 = .ok (.iload 9, 2) := by decide +kernel
theorem dX2_deliver_75 : decode cX2_deliver 75 = .ok (.invokevirtual 45, 3) := by decide +kernel
theorem dX2_deliver_78 : decode cX2_deliver 78 = .ok (.istore 11, 2) := by decide +kernel
theorem dX2_deliver_80 : decode cX2_deliver 80 = .ok (.aload_n 0, 1) := by decide +kernel
theorem dX2_deliver_81 : decode cX2_deliver 81 = .ok (.getfield 12, 3) := by decide +kernel
theorem dX2_deliver_84 : decode cX2_deliver 84 = .ok (.iload 5, 2) := by decide +kernel
theorem dX2_deliver_86 : decode cX2_deliver 86 = .ok (.iload 9, 2) := by decide +kernel
theorem dX2_deliver_88 : decode cX2_deliver 88 = .ok (.aload_n 1, 1) := by decide +kernel
theorem dX2_deliver_89 : decode cX2_deliver 89 = .ok (.iload 6, 2) := by decide +kernel
theorem dX2_deliver_91 : decode cX2_deliver 91 = .ok (.iload 10, 2) := by decide +kernel
theorem dX2_deliver_93 : decode cX2_deliver 93 = .ok (.iload 11, 2) := by decide +kernel
theorem dX2_deliver_95 : decode cX2_deliver 95 = .ok (.invokestatic 48, 3) := by decide +kernel
theorem dX2_deliver_98 : decode cX2_deliver 98 = .ok (.invokevirtual 52, 3) := by decide +kernel
theorem dX2_deliver_101 : decode cX2_deliver 101 = .ok (.iinc 9 1, 3) := by decide +kernel
theorem dX2_deliver_104 : decode cX2_deliver 104 = .ok (.goto (-57), 3) := by decide +kernel
theorem dX2_deliver_107 : decode cX2_deliver 107 = .ok (.return_, 1) := by decide +kernel
theorem dX2_received_0 : decode cX2_received 0 = .ok (.iload_n 1, 1) := by decide +kernel
theorem dX2_received_1 : decode cX2_received 1 = .ok (.ifCond .ne 10, 3) := by decide +kernel
theorem dX2_received_4 : decode cX2_received 4 = .ok (.aload_n 0, 1) := by decide +kernel
theorem dX2_received_5 : decode cX2_received 5 = .ok (.iload_n 2, 1) := by decide +kernel
theorem dX2_received_6 : decode cX2_received 6 = .ok (.iload_n 3, 1) := by decide +kernel
theorem dX2_received_7 : decode cX2_received 7 = .ok (.invokevirtual 56, 3) := by decide +kernel
theorem dX2_received_10 : decode cX2_received 10 = .ok (.ireturn, 1) := by decide +kernel
theorem dX2_received_11 : decode cX2_received 11 = .ok (.iload_n 1, 1) := by decide +kernel
theorem dX2_received_12 : decode cX2_received 12 = .ok (.iconst 1, 1) := by decide +kernel
theorem dX2_received_13 : decode cX2_received 13 = .ok (.if_icmp .ne 12, 3) := by decide +kernel
theorem dX2_received_16 : decode cX2_received 16 = .ok (.aload_n 0, 1) := by decide +kernel
theorem dX2_received_17 : decode cX2_received 17 = .ok (.iload_n 3, 1) := by decide +kernel
theorem dX2_received_18 : decode cX2_received 18 = .ok (.iload_n 2, 1) := by decide +kernel
theorem dX2_received_19 : decode cX2_received 19 = .ok (.invokevirtual 56, 3) := by decide +kernel
theorem dX2_received_22 : decode cX2_received 22 = .ok (.goto 4, 3) := by decide +kernel
theorem dX2_received_25 : decode cX2_received 25 = .ok (.iload_n 3, 1) := by decide +kernel
theorem dX2_received_26 : decode cX2_received 26 = .ok (.ireturn, 1) := by decide +kernel
theorem dX3_init_0 : decode cX3_init 0 = .ok (.aload_n 0, 1) := by decide +kernel
theorem dX3_init_1 : decode cX3_init 1 = .ok (.invokespecial 3, 3) := by decide +kernel
theorem dX3_init_4 : decode cX3_init 4 = .ok (.aload_n 0, 1) := by decide +kernel
theorem dX3_init_5 : decode cX3_init 5 = .ok (.bipush 108, 2) := by decide +kernel
theorem dX3_init_7 : decode cX3_init 7 = .ok (.newarray .int, 2) := by decide +kernel
theorem dX3_init_9 : decode cX3_init 9 = .ok (.putfield 9, 3) := by decide +kernel
theorem dX3_init_12 : decode cX3_init 12 = .ok (.return_, 1) := by decide +kernel
theorem dX3_get_0 : decode cX3_get 0 = .ok (.iload_n 1, 1) := by decide +kernel
theorem dX3_get_1 : decode cX3_get 1 = .ok (.iload_n 2, 1) := by decide +kernel
theorem dX3_get_2 : decode cX3_get 2 = .ok (.invokestatic 15, 3) := by decide +kernel
theorem dX3_get_5 : decode cX3_get 5 = .ok (.ifCond .eq 17, 3) := by decide +kernel
theorem dX3_get_8 : decode cX3_get 8 = .ok (.aload_n 0, 1) := by decide +kernel
theorem dX3_get_9 : decode cX3_get 9 = .ok (.getfield 9, 3) := by decide +kernel
theorem dX3_get_12 : decode cX3_get 12 = .ok (.iload_n 1, 1) := by decide +kernel
theorem dX3_get_13 : decode cX3_get 13 = .ok (.bipush 12, 2) := by decide +kernel
theorem dX3_get_15 : decode cX3_get 15 = .ok (.imul, 1) := by decide +kernel
theorem dX3_get_16 : decode cX3_get 16 = .ok (.iload_n 2, 1) := by decide +kernel
theorem dX3_get_17 : decode cX3_get 17 = .ok (.iadd, 1) := by decide +kernel
theorem dX3_get_18 : decode cX3_get 18 = .ok (.iaload, 1) := by decide +kernel
theorem dX3_get_19 : decode cX3_get 19 = .ok (.goto 4, 3) := by decide +kernel
theorem dX3_get_22 : decode cX3_get 22 = .ok (.iconst 0, 1) := by decide +kernel
theorem dX3_get_23 : decode cX3_get 23 = .ok (.ireturn, 1) := by decide +kernel
theorem dX3_set_0 : decode cX3_set 0 = .ok (.iload_n 1, 1) := by decide +kernel
theorem dX3_set_1 : decode cX3_set 1 = .ok (.iload_n 2, 1) := by decide +kernel
theorem dX3_set_2 : decode cX3_set 2 = .ok (.invokestatic 15, 3) := by decide +kernel
theorem dX3_set_5 : decode cX3_set 5 = .ok (.ifCond .eq 15, 3) := by decide +kernel
theorem dX3_set_8 : decode cX3_set 8 = .ok (.aload_n 0, 1) := by decide +kernel
theorem dX3_set_9 : decode cX3_set 9 = .ok (.getfield 9, 3) := by decide +kernel
theorem dX3_set_12 : decode cX3_set 12 = .ok (.iload_n 1, 1) := by decide +kernel
theorem dX3_set_13 : decode cX3_set 13 = .ok (.bipush 12, 2) := by decide +kernel
theorem dX3_set_15 : decode cX3_set 15 = .ok (.imul, 1) := by decide +kernel
theorem dX3_set_16 : decode cX3_set 16 = .ok (.iload_n 2, 1) := by decide +kernel
theorem dX3_set_17 : decode cX3_set 17 = .ok (.iadd, 1) := by decide +kernel
theorem dX3_set_18 : decode cX3_set 18 = .ok (.iload_n 3, 1) := by decide +kernel
theorem dX3_set_19 : decode cX3_set 19 = .ok (.iastore, 1) := by decide +kernel
theorem dX3_set_20 : decode cX3_set 20 = .ok (.return_, 1) := by decide +kernel
theorem dX3_clear_0 : decode cX3_clear 0 = .ok (.aload_n 0, 1) := by decide +kernel
theorem dX3_clear_1 : decode cX3_clear 1 = .ok (.getfield 9, 3) := by decide +kernel
theorem dX3_clear_4 : decode cX3_clear 4 = .ok (.iconst 0, 1) := by decide +kernel
theorem dX3_clear_5 : decode cX3_clear 5 = .ok (.invokestatic 19, 3) := by decide +kernel
theorem dX3_clear_8 : decode cX3_clear 8 = .ok (.return_, 1) := by decide +kernel
theorem dX3_copyFrom_0 : decode cX3_copyFrom 0 = .ok (.aload_n 1, 1) := by decide +kernel
theorem dX3_copyFrom_1 : decode cX3_copyFrom 1 = .ok (.getfield 9, 3) := by decide +kernel
theorem dX3_copyFrom_4 : decode cX3_copyFrom 4 = .ok (.iconst 0, 1) := by decide +kernel
theorem dX3_copyFrom_5 : decode cX3_copyFrom 5 = .ok (.aload_n 0, 1) := by decide +kernel
theorem dX3_copyFrom_6 : decode cX3_copyFrom 6 = .ok (.getfield 9, 3) := by decide +kernel
theorem dX3_copyFrom_9 : decode cX3_copyFrom 9 = .ok (.iconst 0, 1) := by decide +kernel
theorem dX3_copyFrom_10 : decode cX3_copyFrom 10 = .ok (.bipush 108, 2) := by decide +kernel
theorem dX3_copyFrom_12 : decode cX3_copyFrom 12 = .ok (.invokestatic 25, 3) := by decide +kernel
theorem dX3_copyFrom_15 : decode cX3_copyFrom 15 = .ok (.return_, 1) := by decide +kernel
theorem dX3_differing_0 : decode cX3_differing 0 = .ok (.iconst 0, 1) := by decide +kernel
theorem dX3_differing_1 : decode cX3_differing 1 = .ok (.istore 5, 2) := by decide +kernel
theorem dX3_differing_3 : decode cX3_differing 3 = .ok (.iconst 0, 1) := by decide +kernel
theorem dX3_differing_4 : decode cX3_differing 4 = .ok (.istore 6, 2) := by decide +kernel
theorem dX3_differing_6 : decode cX3_differing 6 = .ok (.iload 6, 2) := by decide +kernel
theorem dX3_differing_8 : decode cX3_differing 8 = .ok (.iload 4, 2) := by decide +kernel
theorem dX3_differing_10 : decode cX3_differing 10 = .ok (.if_icmp .ge 29, 3) := by decide +kernel
theorem dX3_differing_13 : decode cX3_differing 13 = .ok (.aload_n 0, 1) := by decide +kernel
theorem dX3_differing_14 : decode cX3_differing 14 = .ok (.iload_n 1, 1) := by decide +kernel
theorem dX3_differing_15 : decode cX3_differing 15 = .ok (.iload 6, 2) := by decide +kernel
theorem dX3_differing_17 : decode cX3_differing 17 = .ok (.invokevirtual 31, 3) := by decide +kernel
theorem dX3_differing_20 : decode cX3_differing 20 = .ok (.aload_n 2, 1) := by decide +kernel
theorem dX3_differing_21 : decode cX3_differing 21 = .ok (.iload_n 3, 1) := by decide +kernel
theorem dX3_differing_22 : decode cX3_differing 22 = .ok (.iload 6, 2) := by decide +kernel
theorem dX3_differing_24 : decode cX3_differing 24 = .ok (.invokevirtual 31, 3) := by decide +kernel
theorem dX3_differing_27 : decode cX3_differing 27 = .ok (.if_icmp .eq 6, 3) := by decide +kernel
theorem dX3_differing_30 : decode cX3_differing 30 = .ok (.iinc 5 1, 3) := by decide +kernel
theorem dX3_differing_33 : decode cX3_differing 33 = .ok (.iinc 6 1, 3) := by decide +kernel
theorem dX3_differing_36 : decode cX3_differing 36 = .ok (.goto (-30), 3) := by decide +kernel
theorem dX3_differing_39 : decode cX3_differing 39 = .ok (.iload 5, 2) := by decide +kernel
theorem dX3_differing_41 : decode cX3_differing 41 = .ok (.ireturn, 1) := by decide +kernel
theorem dX3_isInside_0 : decode cX3_isInside 0 = .ok (.iload_n 0, 1) := by decide +kernel
theorem dX3_isInside_1 : decode cX3_isInside 1 = .ok (.iconst 0, 1) := by decide +kernel
theorem dX3_isInside_2 : decode cX3_isInside 2 = .ok (.bipush 8, 2) := by decide +kernel
theorem dX3_isInside_4 : decode cX3_isInside 4 = .ok (.invokestatic 35, 3) := by decide +kernel
theorem dX3_isInside_7 : decode cX3_isInside 7 = .ok (.ifCond .eq 17, 3) := by decide +kernel
theorem dX3_isInside_10 : decode cX3_isInside 10 = .ok (.iload_n 1, 1) := by decide +kernel
theorem dX3_isInside_11 : decode cX3_isInside 11 = .ok (.iconst 0, 1) := by decide +kernel
theorem dX3_isInside_12 : decode cX3_isInside 12 = .ok (.bipush 11, 2) := by decide +kernel
theorem dX3_isInside_14 : decode cX3_isInside 14 = .ok (.invokestatic 35, 3) := by decide +kernel
theorem dX3_isInside_17 : decode cX3_isInside 17 = .ok (.ifCond .eq 7, 3) := by decide +kernel
theorem dX3_isInside_20 : decode cX3_isInside 20 = .ok (.iconst 1, 1) := by decide +kernel
theorem dX3_isInside_21 : decode cX3_isInside 21 = .ok (.goto 4, 3) := by decide +kernel
theorem dX3_isInside_24 : decode cX3_isInside 24 = .ok (.iconst 0, 1) := by decide +kernel
theorem dX3_isInside_25 : decode cX3_isInside 25 = .ok (.ireturn, 1) := by decide +kernel
theorem dX4_init_0 : decode cX4_init 0 = .ok (.aload_n 0, 1) := by decide +kernel
theorem dX4_init_1 : decode cX4_init 1 = .ok (.invokespecial 3, 3) := by decide +kernel
theorem dX4_init_4 : decode cX4_init 4 = .ok (.aload_n 0, 1) := by decide +kernel
theorem dX4_init_5 : decode cX4_init 5 = .ok (.new 9, 3) := by decide +kernel
theorem dX4_init_8 : decode cX4_init 8 = .ok (.dup, 1) := by decide +kernel
theorem dX4_init_9 : decode cX4_init 9 = .ok (.invokespecial 11, 3) := by decide +kernel
theorem dX4_init_12 : decode cX4_init 12 = .ok (.putfield 12, 3) := by decide +kernel
theorem dX4_init_15 : decode cX4_init 15 = .ok (.aload_n 0, 1) := by decide +kernel
theorem dX4_init_16 : decode cX4_init 16 = .ok (.bipush 81, 2) := by decide +kernel
theorem dX4_init_18 : decode cX4_init 18 = .ok (.newarray .int, 2) := by decide +kernel
theorem dX4_init_20 : decode cX4_init 20 = .ok (.putfield 18, 3) := by decide +kernel
theorem dX4_init_23 : decode cX4_init 23 = .ok (.aload_n 0, 1) := by decide +kernel
theorem dX4_init_24 : decode cX4_init 24 = .ok (.iconst 4, 1) := by decide +kernel
theorem dX4_init_25 : decode cX4_init 25 = .ok (.putfield 22, 3) := by decide +kernel
theorem dX4_init_28 : decode cX4_init 28 = .ok (.aload_n 0, 1) := by decide +kernel
theorem dX4_init_29 : decode cX4_init 29 = .ok (.iconst 4, 1) := by decide +kernel
theorem dX4_init_30 : decode cX4_init 30 = .ok (.putfield 26, 3) := by decide +kernel
theorem dX4_init_33 : decode cX4_init 33 = .ok (.aload_n 0, 1) := by decide +kernel
theorem dX4_init_34 : decode cX4_init 34 = .ok (.iconst 0, 1) := by decide +kernel
theorem dX4_init_35 : decode cX4_init 35 = .ok (.putfield 29, 3) := by decide +kernel
theorem dX4_init_38 : decode cX4_init 38 = .ok (.aload_n 0, 1) := by decide +kernel
theorem dX4_init_39 : decode cX4_init 39 = .ok (.iconst 5, 1) := by decide +kernel
theorem dX4_init_40 : decode cX4_init 40 = .ok (.putfield 32, 3) := by decide +kernel
theorem dX4_init_43 : decode cX4_init 43 = .ok (.aload_n 0, 1) := by decide +kernel
theorem dX4_init_44 : decode cX4_init 44 = .ok (.iconst 1, 1) := by decide +kernel
theorem dX4_init_45 : decode cX4_init 45 = .ok (.putfield 35, 3) := by decide +kernel
theorem dX4_init_48 : decode cX4_init 48 = .ok (.aload_n 0, 1) := by decide +kernel
theorem dX4_init_49 : decode cX4_init 49 = .ok (.getfield 18, 3) := by decide +kernel
theorem dX4_init_52 : decode cX4_init 52 = .ok (.iconst 1, 1) := by decide +kernel
theorem dX4_init_53 : decode cX4_init 53 = .ok (.invokestatic 38, 3) := by decide +kernel
theorem dX4_init_56 : decode cX4_init 56 = .ok (.return_, 1) := by decide +kernel
theorem dX4_begin_0 : decode cX4_begin 0 = .ok (.aload_n 0, 1) := by decide +kernel
theorem dX4_begin_1 : decode cX4_begin 1 = .ok (.iload_n 1, 1) := by decide +kernel
theorem dX4_begin_2 : decode cX4_begin 2 = .ok (.putfield 22, 3) := by decide +kernel
theorem dX4_begin_5 : decode cX4_begin 5 = .ok (.aload_n 0, 1) := by decide +kernel
theorem dX4_begin_6 : decode cX4_begin 6 = .ok (.iload_n 2, 1) := by decide +kernel
theorem dX4_begin_7 : decode cX4_begin 7 = .ok (.putfield 26, 3) := by decide +kernel
theorem dX4_begin_10 : decode cX4_begin 10 = .ok (.aload_n 0, 1) := by decide +kernel
theorem dX4_begin_11 : decode cX4_begin 11 = .ok (.getfield 12, 3) := by decide +kernel
theorem dX4_begin_14 : decode cX4_begin 14 = .ok (.invokevirtual 44, 3) := by decide +kernel
theorem dX4_begin_17 : decode cX4_begin 17 = .ok (.aload_n 0, 1) := by decide +kernel
theorem dX4_begin_18 : decode cX4_begin 18 = .ok (.getfield 18, 3) := by decide +kernel
theorem dX4_begin_21 : decode cX4_begin 21 = .ok (.iconst 1, 1) := by decide +kernel
theorem dX4_begin_22 : decode cX4_begin 22 = .ok (.invokestatic 38, 3) := by decide +kernel
theorem dX4_begin_25 : decode cX4_begin 25 = .ok (.return_, 1) := by decide +kernel
theorem dX4_copyFrom_0 : decode cX4_copyFrom 0 = .ok (.aload_n 0, 1) := by decide +kernel
theorem dX4_copyFrom_1 : decode cX4_copyFrom 1 = .ok (.aload_n 1, 1) := by decide +kernel
theorem dX4_copyFrom_2 : decode cX4_copyFrom 2 = .ok (.getfield 22, 3) := by decide +kernel
theorem dX4_copyFrom_5 : decode cX4_copyFrom 5 = .ok (.putfield 22, 3) := by decide +kernel
theorem dX4_copyFrom_8 : decode cX4_copyFrom 8 = .ok (.aload_n 0, 1) := by decide +kernel
theorem dX4_copyFrom_9 : decode cX4_copyFrom 9 = .ok (.aload_n 1, 1) := by decide +kernel
theorem dX4_copyFrom_10 : decode cX4_copyFrom 10 = .ok (.getfield 26, 3) := by decide +kernel
theorem dX4_copyFrom_13 : decode cX4_copyFrom 13 = .ok (.putfield 26, 3) := by decide +kernel
theorem dX4_copyFrom_16 : decode cX4_copyFrom 16 = .ok (.aload_n 0, 1) := by decide +kernel
theorem dX4_copyFrom_17 : decode cX4_copyFrom 17 = .ok (.aload_n 1, 1) := by decide +kernel
theorem dX4_copyFrom_18 : decode cX4_copyFrom 18 = .ok (.getfield 29, 3) := by decide +kernel
theorem dX4_copyFrom_21 : decode cX4_copyFrom 21 = .ok (.putfield 29, 3) := by decide +kernel
theorem dX4_copyFrom_24 : decode cX4_copyFrom 24 = .ok (.aload_n 0, 1) := by decide +kernel
theorem dX4_copyFrom_25 : decode cX4_copyFrom 25 = .ok (.aload_n 1, 1) := by decide +kernel
theorem dX4_copyFrom_26 : decode cX4_copyFrom 26 = .ok (.getfield 32, 3) := by decide +kernel
theorem dX4_copyFrom_29 : decode cX4_copyFrom 29 = .ok (.putfield 32, 3) := by decide +kernel
theorem dX4_copyFrom_32 : decode cX4_copyFrom 32 = .ok (.aload_n 0, 1) := by decide +kernel
theorem dX4_copyFrom_33 : decode cX4_copyFrom 33 = .ok (.aload_n 1, 1) := by decide +kernel
theorem dX4_copyFrom_34 : decode cX4_copyFrom 34 = .ok (.getfield 35, 3) := by decide +kernel
theorem dX4_copyFrom_37 : decode cX4_copyFrom 37 = .ok (.putfield 35, 3) := by decide +kernel
theorem dX4_copyFrom_40 : decode cX4_copyFrom 40 = .ok (.aload_n 0, 1) := by decide +kernel
theorem dX4_copyFrom_41 : decode cX4_copyFrom 41 = .ok (.getfield 12, 3) := by decide +kernel
theorem dX4_copyFrom_44 : decode cX4_copyFrom 44 = .ok (.aload_n 1, 1) := by decide +kernel
theorem dX4_copyFrom_45 : decode cX4_copyFrom 45 = .ok (.getfield 12, 3) := by decide +kernel
theorem dX4_copyFrom_48 : decode cX4_copyFrom 48 = .ok (.invokevirtual 47, 3) := by decide +kernel
theorem dX4_copyFrom_51 : decode cX4_copyFrom 51 = .ok (.aload_n 1, 1) := by decide +kernel
theorem dX4_copyFrom_52 : decode cX4_copyFrom 52 = .ok (.getfield 18, 3) := by decide +kernel
theorem dX4_copyFrom_55 : decode cX4_copyFrom 55 = .ok (.iconst 0, 1) := by decide +kernel
theorem dX4_copyFrom_56 : decode cX4_copyFrom 56 = .ok (.aload_n 0, 1) := by decide +kernel
theorem dX4_copyFrom_57 : decode cX4_copyFrom 57 = .ok (.getfield 18, 3) := by decide +kernel
theorem dX4_copyFrom_60 : decode cX4_copyFrom 60 = .ok (.iconst 0, 1) := by decide +kernel
theorem dX4_copyFrom_61 : decode cX4_copyFrom 61 = .ok (.bipush 81, 2) := by decide +kernel
theorem dX4_copyFrom_63 : decode cX4_copyFrom 63 = .ok (.invokestatic 51, 3) := by decide +kernel
theorem dX4_copyFrom_66 : decode cX4_copyFrom 66 = .ok (.return_, 1) := by decide +kernel
theorem dX4_hasMachine_0 : decode cX4_hasMachine 0 = .ok (.iload_n 1, 1) := by decide +kernel
theorem dX4_hasMachine_1 : decode cX4_hasMachine 1 = .ok (.iconst 0, 1) := by decide +kernel
theorem dX4_hasMachine_2 : decode cX4_hasMachine 2 = .ok (.aload_n 0, 1) := by decide +kernel
theorem dX4_hasMachine_3 : decode cX4_hasMachine 3 = .ok (.getfield 22, 3) := by decide +kernel
theorem dX4_hasMachine_6 : decode cX4_hasMachine 6 = .ok (.iconst 1, 1) := by decide +kernel
theorem dX4_hasMachine_7 : decode cX4_hasMachine 7 = .ok (.isub, 1) := by decide +kernel
theorem dX4_hasMachine_8 : decode cX4_hasMachine 8 = .ok (.invokestatic 57, 3) := by decide +kernel
theorem dX4_hasMachine_11 : decode cX4_hasMachine 11 = .ok (.ireturn, 1) := by decide +kernel
theorem dX4_hasPlace_0 : decode cX4_hasPlace 0 = .ok (.iload_n 1, 1) := by decide +kernel
theorem dX4_hasPlace_1 : decode cX4_hasPlace 1 = .ok (.iconst 0, 1) := by decide +kernel
theorem dX4_hasPlace_2 : decode cX4_hasPlace 2 = .ok (.aload_n 0, 1) := by decide +kernel
theorem dX4_hasPlace_3 : decode cX4_hasPlace 3 = .ok (.getfield 26, 3) := by decide +kernel
theorem dX4_hasPlace_6 : decode cX4_hasPlace 6 = .ok (.iconst 1, 1) := by decide +kernel
theorem dX4_hasPlace_7 : decode cX4_hasPlace 7 = .ok (.isub, 1) := by decide +kernel
theorem dX4_hasPlace_8 : decode cX4_hasPlace 8 = .ok (.invokestatic 57, 3) := by decide +kernel
theorem dX4_hasPlace_11 : decode cX4_hasPlace 11 = .ok (.ireturn, 1) := by decide +kernel
theorem dX4_slowness_0 : decode cX4_slowness 0 = .ok (.iload_n 1, 1) := by decide +kernel
theorem dX4_slowness_1 : decode cX4_slowness 1 = .ok (.iload_n 2, 1) := by decide +kernel
theorem dX4_slowness_2 : decode cX4_slowness 2 = .ok (.invokestatic 61, 3) := by decide +kernel
theorem dX4_slowness_5 : decode cX4_slowness 5 = .ok (.ifCond .eq 17, 3) := by decide +kernel
theorem dX4_slowness_8 : decode cX4_slowness 8 = .ok (.aload_n 0, 1) := by decide +kernel
theorem dX4_slowness_9 : decode cX4_slowness 9 = .ok (.getfield 18, 3) := by decide +kernel
theorem dX4_slowness_12 : decode cX4_slowness 12 = .ok (.iload_n 1, 1) := by decide +kernel
theorem dX4_slowness_13 : decode cX4_slowness 13 = .ok (.bipush 9, 2) := by decide +kernel
theorem dX4_slowness_15 : decode cX4_slowness 15 = .ok (.imul, 1) := by decide +kernel
theorem dX4_slowness_16 : decode cX4_slowness 16 = .ok (.iload_n 2, 1) := by decide +kernel
theorem dX4_slowness_17 : decode cX4_slowness 17 = .ok (.iadd, 1) := by decide +kernel
theorem dX4_slowness_18 : decode cX4_slowness 18 = .ok (.iaload, 1) := by decide +kernel
theorem dX4_slowness_19 : decode cX4_slowness 19 = .ok (.goto 4, 3) := by decide +kernel
theorem dX4_slowness_22 : decode cX4_slowness 22 = .ok (.iconst 1, 1) := by decide +kernel
theorem dX4_slowness_23 : decode cX4_slowness 23 = .ok (.ireturn, 1) := by decide +kernel
theorem dX4_setSlowness_0 : decode cX4_setSlowness 0 = .ok (.iload_n 1, 1) := by decide +kernel
theorem dX4_setSlowness_1 : decode cX4_setSlowness 1 = .ok (.iload_n 2, 1) := by decide +kernel
theorem dX4_setSlowness_2 : decode cX4_setSlowness 2 = .ok (.invokestatic 61, 3) := by decide +kernel
theorem dX4_setSlowness_5 : decode cX4_setSlowness 5 = .ok (.ifCond .eq 27, 3) := by decide +kernel
theorem dX4_setSlowness_8 : decode cX4_setSlowness 8 = .ok (.aload_n 0, 1) := by decide +kernel
theorem dX4_setSlowness_9 : decode cX4_setSlowness 9 = .ok (.getfield 18, 3) := by decide +kernel
theorem dX4_setSlowness_12 : decode cX4_setSlowness 12 = .ok (.iload_n 1, 1) := by decide +kernel
theorem dX4_setSlowness_13 : decode cX4_setSlowness 13 = .ok (.bipush 9, 2) := by decide +kernel
theorem dX4_setSlowness_15 : decode cX4_setSlowness 15 = .ok (.imul, 1) := by decide +kernel
theorem dX4_setSlowness_16 : decode cX4_setSlowness 16 = .ok (.iload_n 2, 1) := by decide +kernel
theorem dX4_setSlowness_17 : decode cX4_setSlowness 17 = .ok (.iadd, 1) := by decide +kernel
theorem dX4_setSlowness_18 : decode cX4_setSlowness 18 = .ok (.iload_n 3, 1) := by decide +kernel
theorem dX4_setSlowness_19 : decode cX4_setSlowness 19 = .ok (.iastore, 1) := by decide +kernel
theorem dX4_setSlowness_20 : decode cX4_setSlowness 20 = .ok (.aload_n 0, 1) := by decide +kernel
theorem dX4_setSlowness_21 : decode cX4_setSlowness 21 = .ok (.getfield 18, 3) := by decide +kernel
theorem dX4_setSlowness_24 : decode cX4_setSlowness 24 = .ok (.iload_n 2, 1) := by decide +kernel
theorem dX4_setSlowness_25 : decode cX4_setSlowness 25 = .ok (.bipush 9, 2) := by decide +kernel
theorem dX4_setSlowness_27 : decode cX4_setSlowness 27 = .ok (.imul, 1) := by decide +kernel
theorem dX4_setSlowness_28 : decode cX4_setSlowness 28 = .ok (.iload_n 1, 1) := by decide +kernel
theorem dX4_setSlowness_29 : decode cX4_setSlowness 29 = .ok (.iadd, 1) := by decide +kernel
theorem dX4_setSlowness_30 : decode cX4_setSlowness 30 = .ok (.iload_n 3, 1) := by decide +kernel
theorem dX4_setSlowness_31 : decode cX4_setSlowness 31 = .ok (.iastore, 1) := by decide +kernel
theorem dX4_setSlowness_32 : decode cX4_setSlowness 32 = .ok (.return_, 1) := by decide +kernel
theorem dX4_mixed_0 : decode cX4_mixed 0 = .ok (.aload_n 0, 1) := by decide +kernel
theorem dX4_mixed_1 : decode cX4_mixed 1 = .ok (.getfield 29, 3) := by decide +kernel
theorem dX4_mixed_4 : decode cX4_mixed 4 = .ok (.ifCond .ne 11, 3) := by decide +kernel
theorem dX4_mixed_7 : decode cX4_mixed 7 = .ok (.iload_n 1, 1) := by decide +kernel
theorem dX4_mixed_8 : decode cX4_mixed 8 = .ok (.iload_n 2, 1) := by decide +kernel
theorem dX4_mixed_9 : decode cX4_mixed 9 = .ok (.iadd, 1) := by decide +kernel
theorem dX4_mixed_10 : decode cX4_mixed 10 = .ok (.sipush 997, 3) := by decide +kernel
theorem dX4_mixed_13 : decode cX4_mixed 13 = .ok (.irem, 1) := by decide +kernel
theorem dX4_mixed_14 : decode cX4_mixed 14 = .ok (.ireturn, 1) := by decide +kernel
theorem dX4_mixed_15 : decode cX4_mixed 15 = .ok (.aload_n 0, 1) := by decide +kernel
theorem dX4_mixed_16 : decode cX4_mixed 16 = .ok (.getfield 29, 3) := by decide +kernel
theorem dX4_mixed_19 : decode cX4_mixed 19 = .ok (.iconst 1, 1) := by decide +kernel
theorem dX4_mixed_20 : decode cX4_mixed 20 = .ok (.if_icmp .ne 9, 3) := by decide +kernel
theorem dX4_mixed_23 : decode cX4_mixed 23 = .ok (.iload_n 1, 1) := by decide +kernel
theorem dX4_mixed_24 : decode cX4_mixed 24 = .ok (.iload_n 2, 1) := by decide +kernel
theorem dX4_mixed_25 : decode cX4_mixed 25 = .ok (.invokestatic 65, 3) := by decide +kernel
theorem dX4_mixed_28 : decode cX4_mixed 28 = .ok (.ireturn, 1) := by decide +kernel
theorem dX4_mixed_29 : decode cX4_mixed 29 = .ok (.bipush 31, 2) := by decide +kernel
theorem dX4_mixed_31 : decode cX4_mixed 31 = .ok (.iload_n 1, 1) := by decide +kernel
theorem dX4_mixed_32 : decode cX4_mixed 32 = .ok (.imul, 1) := by decide +kernel
theorem dX4_mixed_33 : decode cX4_mixed 33 = .ok (.iload_n 2, 1) := by decide +kernel
theorem dX4_mixed_34 : decode cX4_mixed 34 = .ok (.iadd, 1) := by decide +kernel
theorem dX4_mixed_35 : decode cX4_mixed 35 = .ok (.sipush 997, 3) := by decide +kernel
theorem dX4_mixed_38 : decode cX4_mixed 38 = .ok (.irem, 1) := by decide +kernel
theorem dX4_mixed_39 : decode cX4_mixed 39 = .ok (.ireturn, 1) := by decide +kernel
theorem dX4_mixedByRising_0 : decode cX4_mixedByRising 0 = .ok (.aload_n 0, 1) := by decide +kernel
theorem dX4_mixedByRising_1 : decode cX4_mixedByRising 1 = .ok (.getfield 12, 3) := by decide +kernel
theorem dX4_mixedByRising_4 : decode cX4_mixedByRising 4 = .ok (.iconst 0, 1) := by decide +kernel
theorem dX4_mixedByRising_5 : decode cX4_mixedByRising 5 = .ok (.iload_n 1, 1) := by decide +kernel
theorem dX4_mixedByRising_6 : decode cX4_mixedByRising 6 = .ok (.invokevirtual 71, 3) := by decide +kernel
theorem dX4_mixedByRising_9 : decode cX4_mixedByRising 9 = .ok (.istore_n 2, 1) := by decide +kernel
theorem dX4_mixedByRising_10 : decode cX4_mixedByRising 10 = .ok (.iconst 1, 1) := by decide +kernel
theorem dX4_mixedByRising_11 : decode cX4_mixedByRising 11 = .ok (.istore_n 3, 1) := by decide +kernel
theorem dX4_mixedByRising_12 : decode cX4_mixedByRising 12 = .ok (.iload_n 3, 1) := by decide +kernel
theorem dX4_mixedByRising_13 : decode cX4_mixedByRising 13 = .ok (.aload_n 0, 1) := by decide +kernel
theorem dX4_mixedByRising_14 : decode cX4_mixedByRising 14 = .ok (.getfield 22, 3) := by decide +kernel
theorem dX4_mixedByRising_17 : decode cX4_mixedByRising 17 = .ok (.if_icmp .ge 24, 3) := by decide +kernel
theorem dX4_mixedByRising_20 : decode cX4_mixedByRising 20 = .ok (.aload_n 0, 1) := by decide +kernel
theorem dX4_mixedByRising_21 : decode cX4_mixedByRising 21 = .ok (.iload_n 2, 1) := by decide +kernel
theorem dX4_mixedByRising_22 : decode cX4_mixedByRising 22 = .ok (.aload_n 0, 1) := by decide +kernel
theorem dX4_mixedByRising_23 : decode cX4_mixedByRising 23 = .ok (.getfield 12, 3) := by decide +kernel
theorem dX4_mixedByRising_26 : decode cX4_mixedByRising 26 = .ok (.iload_n 3, 1) := by decide +kernel
theorem dX4_mixedByRising_27 : decode cX4_mixedByRising 27 = .ok (.iload_n 1, 1) := by decide +kernel
theorem dX4_mixedByRising_28 : decode cX4_mixedByRising 28 = .ok (.invokevirtual 71, 3) := by decide +kernel
theorem dX4_mixedByRising_31 : decode cX4_mixedByRising 31 = .ok (.invokevirtual 74, 3) := by decide +kernel
theorem dX4_mixedByRising_34 : decode cX4_mixedByRising 34 = .ok (.istore_n 2, 1) := by decide +kernel
theorem dX4_mixedByRising_35 : decode cX4_mixedByRising 35 = .ok (.iinc 3 1, 3) := by decide +kernel
theorem dX4_mixedByRising_38 : decode cX4_mixedByRising 38 = .ok (.goto (-26), 3) := by decide +kernel
theorem dX4_mixedByRising_41 : decode cX4_mixedByRising 41 = .ok (.iload_n 2, 1) := by decide +kernel
theorem dX4_mixedByRising_42 : decode cX4_mixedByRising 42 = .ok (.ireturn, 1) := by decide +kernel
theorem dX4_priceOf_0 : decode cX4_priceOf 0 = .ok (.aload_n 0, 1) := by decide +kernel
theorem dX4_priceOf_1 : decode cX4_priceOf 1 = .ok (.aload_n 1, 1) := by decide +kernel
theorem dX4_priceOf_2 : decode cX4_priceOf 2 = .ok (.iload_n 2, 1) := by decide +kernel
theorem dX4_priceOf_3 : decode cX4_priceOf 3 = .ok (.iconst 1, 1) := by decide +kernel
theorem dX4_priceOf_4 : decode cX4_priceOf 4 = .ok (.invokevirtual 77, 3) := by decide +kernel
theorem dX4_priceOf_7 : decode cX4_priceOf 7 = .ok (.aload_n 1, 1) := by decide +kernel
theorem dX4_priceOf_8 : decode cX4_priceOf 8 = .ok (.iload_n 2, 1) := by decide +kernel
theorem dX4_priceOf_9 : decode cX4_priceOf 9 = .ok (.iconst 2, 1) := by decide +kernel
theorem dX4_priceOf_10 : decode cX4_priceOf 10 = .ok (.invokevirtual 77, 3) := by decide +kernel
theorem dX4_priceOf_13 : decode cX4_priceOf 13 = .ok (.invokevirtual 82, 3) := by decide +kernel
theorem dX4_priceOf_16 : decode cX4_priceOf 16 = .ok (.istore_n 3, 1) := by decide +kernel
theorem dX4_priceOf_17 : decode cX4_priceOf 17 = .ok (.aload_n 0, 1) := by decide +kernel
theorem dX4_priceOf_18 : decode cX4_priceOf 18 = .ok (.getfield 32, 3) := by decide +kernel
theorem dX4_priceOf_21 : decode cX4_priceOf 21 = .ok (.aload_n 0, 1) := by decide +kernel
theorem dX4_priceOf_22 : decode cX4_priceOf 22 = .ok (.getfield 35, 3) := by decide +kernel
theorem dX4_priceOf_25 : decode cX4_priceOf 25 = .ok (.aload_n 1, 1) := by decide +kernel
theorem dX4_priceOf_26 : decode cX4_priceOf 26 = .ok (.iload_n 2, 1) := by decide +kernel
theorem dX4_priceOf_27 : decode cX4_priceOf 27 = .ok (.iconst 4, 1) := by decide +kernel
theorem dX4_priceOf_28 : decode cX4_priceOf 28 = .ok (.invokevirtual 77, 3) := by decide +kernel
theorem dX4_priceOf_31 : decode cX4_priceOf 31 = .ok (.imul, 1) := by decide +kernel
theorem dX4_priceOf_32 : decode cX4_priceOf 32 = .ok (.iadd, 1) := by decide +kernel
theorem dX4_priceOf_33 : decode cX4_priceOf 33 = .ok (.iload_n 3, 1) := by decide +kernel
theorem dX4_priceOf_34 : decode cX4_priceOf 34 = .ok (.imul, 1) := by decide +kernel
theorem dX4_priceOf_35 : decode cX4_priceOf 35 = .ok (.ireturn, 1) := by decide +kernel
theorem dX4_allNumbersAdded_0 : decode cX4_allNumbersAdded 0 = .ok (.iconst 0, 1) := by decide +kernel
theorem dX4_allNumbersAdded_1 : decode cX4_allNumbersAdded 1 = .ok (.istore_n 1, 1) := by decide +kernel
theorem dX4_allNumbersAdded_2 : decode cX4_allNumbersAdded 2 = .ok (.iconst 0, 1) := by decide +kernel
theorem dX4_allNumbersAdded_3 : decode cX4_allNumbersAdded 3 = .ok (.istore_n 2, 1) := by decide +kernel
theorem dX4_allNumbersAdded_4 : decode cX4_allNumbersAdded 4 = .ok (.iload_n 2, 1) := by decide +kernel
theorem dX4_allNumbersAdded_5 : decode cX4_allNumbersAdded 5 = .ok (.aload_n 0, 1) := by decide +kernel
theorem dX4_allNumbersAdded_6 : decode cX4_allNumbersAdded 6 = .ok (.getfield 22, 3) := by decide +kernel
theorem dX4_allNumbersAdded_9 : decode cX4_allNumbersAdded 9 = .ok (.if_icmp .ge 37, 3) := by decide +kernel
theorem dX4_allNumbersAdded_12 : decode cX4_allNumbersAdded 12 = .ok (.iconst 0, 1) := by decide +kernel
theorem dX4_allNumbersAdded_13 : decode cX4_allNumbersAdded 13 = .ok (.istore_n 3, 1) := by decide +kernel
theorem dX4_allNumbersAdded_14 : decode cX4_allNumbersAdded 14 = .ok (.iload_n 3, 1) := by decide +kernel
theorem dX4_allNumbersAdded_15 : decode cX4_allNumbersAdded 15 = .ok (.aload_n 0, 1) := by decide +kernel
theorem dX4_allNumbersAdded_16 : decode cX4_allNumbersAdded 16 = .ok (.getfield 26, 3) := by decide +kernel
theorem dX4_allNumbersAdded_19 : decode cX4_allNumbersAdded 19 = .ok (.if_icmp .ge 21, 3) := by decide +kernel
theorem dX4_allNumbersAdded_22 : decode cX4_allNumbersAdded 22 = .ok (.iload_n 1, 1) := by decide +kernel
theorem dX4_allNumbersAdded_23 : decode cX4_allNumbersAdded 23 = .ok (.aload_n 0, 1) := by decide +kernel
theorem dX4_allNumbersAdded_24 : decode cX4_allNumbersAdded 24 = .ok (.getfield 12, 3) := by decide +kernel
theorem dX4_allNumbersAdded_27 : decode cX4_allNumbersAdded 27 = .ok (.iload_n 2, 1) := by decide +kernel
theorem dX4_allNumbersAdded_28 : decode cX4_allNumbersAdded 28 = .ok (.iload_n 3, 1) := by decide +kernel
theorem dX4_allNumbersAdded_29 : decode cX4_allNumbersAdded 29 = .ok (.invokevirtual 71, 3) := by decide +kernel
theorem dX4_allNumbersAdded_32 : decode cX4_allNumbersAdded 32 = .ok (.iadd, 1) := by decide +kernel
theorem dX4_allNumbersAdded_33 : decode cX4_allNumbersAdded 33 = .ok (.istore_n 1, 1) := by decide +kernel
theorem dX4_allNumbersAdded_34 : decode cX4_allNumbersAdded 34 = .ok (.iinc 3 1, 3) := by decide +kernel
theorem dX4_allNumbersAdded_37 : decode cX4_allNumbersAdded 37 = .ok (.goto (-23), 3) := by decide +kernel
theorem dX4_allNumbersAdded_40 : decode cX4_allNumbersAdded 40 = .ok (.iinc 2 1, 3) := by decide +kernel
theorem dX4_allNumbersAdded_43 : decode cX4_allNumbersAdded 43 = .ok (.goto (-39), 3) := by decide +kernel
theorem dX4_allNumbersAdded_46 : decode cX4_allNumbersAdded 46 = .ok (.iload_n 1, 1) := by decide +kernel
theorem dX4_allNumbersAdded_47 : decode cX4_allNumbersAdded 47 = .ok (.ireturn, 1) := by decide +kernel
theorem dX4_hasLine_0 : decode cX4_hasLine 0 = .ok (.iload_n 0, 1) := by decide +kernel
theorem dX4_hasLine_1 : decode cX4_hasLine 1 = .ok (.iconst 0, 1) := by decide +kernel
theorem dX4_hasLine_2 : decode cX4_hasLine 2 = .ok (.bipush 8, 2) := by decide +kernel
theorem dX4_hasLine_4 : decode cX4_hasLine 4 = .ok (.invokestatic 57, 3) := by decide +kernel
theorem dX4_hasLine_7 : decode cX4_hasLine 7 = .ok (.ifCond .eq 17, 3) := by decide +kernel
theorem dX4_hasLine_10 : decode cX4_hasLine 10 = .ok (.iload_n 1, 1) := by decide +kernel
theorem dX4_hasLine_11 : decode cX4_hasLine 11 = .ok (.iconst 0, 1) := by decide +kernel
theorem dX4_hasLine_12 : decode cX4_hasLine 12 = .ok (.bipush 8, 2) := by decide +kernel
theorem dX4_hasLine_14 : decode cX4_hasLine 14 = .ok (.invokestatic 57, 3) := by decide +kernel
theorem dX4_hasLine_17 : decode cX4_hasLine 17 = .ok (.ifCond .eq 7, 3) := by decide +kernel
theorem dX4_hasLine_20 : decode cX4_hasLine 20 = .ok (.iconst 1, 1) := by decide +kernel
theorem dX4_hasLine_21 : decode cX4_hasLine 21 = .ok (.goto 4, 3) := by decide +kernel
theorem dX4_hasLine_24 : decode cX4_hasLine 24 = .ok (.iconst 0, 1) := by decide +kernel
theorem dX4_hasLine_25 : decode cX4_hasLine 25 = .ok (.ireturn, 1) := by decide +kernel
theorem dX5_init_0 : decode cX5_init 0 = .ok (.aload_n 0, 1) := by decide +kernel
theorem dX5_init_1 : decode cX5_init 1 = .ok (.invokespecial 1, 3) := by decide +kernel
theorem dX5_init_4 : decode cX5_init 4 = .ok (.aload_n 0, 1) := by decide +kernel
theorem dX5_init_5 : decode cX5_init 5 = .ok (.new 7, 3) := by decide +kernel
theorem dX5_init_8 : decode cX5_init 8 = .ok (.dup, 1) := by decide +kernel
theorem dX5_init_9 : decode cX5_init 9 = .ok (.invokespecial 9, 3) := by decide +kernel
theorem dX5_init_12 : decode cX5_init 12 = .ok (.putfield 10, 3) := by decide +kernel
theorem dX5_init_15 : decode cX5_init 15 = .ok (.aload_n 0, 1) := by decide +kernel
theorem dX5_init_16 : decode cX5_init 16 = .ok (.new 7, 3) := by decide +kernel
theorem dX5_init_19 : decode cX5_init 19 = .ok (.dup, 1) := by decide +kernel
theorem dX5_init_20 : decode cX5_init 20 = .ok (.invokespecial 9, 3) := by decide +kernel
theorem dX5_init_23 : decode cX5_init 23 = .ok (.putfield 16, 3) := by decide +kernel
theorem dX5_init_26 : decode cX5_init 26 = .ok (.aload_n 0, 1) := by decide +kernel
theorem dX5_init_27 : decode cX5_init 27 = .ok (.new 7, 3) := by decide +kernel
theorem dX5_init_30 : decode cX5_init 30 = .ok (.dup, 1) := by decide +kernel
theorem dX5_init_31 : decode cX5_init 31 = .ok (.invokespecial 9, 3) := by decide +kernel
theorem dX5_init_34 : decode cX5_init 34 = .ok (.putfield 19, 3) := by decide +kernel
theorem dX5_init_37 : decode cX5_init 37 = .ok (.aload_n 0, 1) := by decide +kernel
theorem dX5_init_38 : decode cX5_init 38 = .ok (.iconst 0, 1) := by decide +kernel
theorem dX5_init_39 : decode cX5_init 39 = .ok (.putfield 22, 3) := by decide +kernel
theorem dX5_init_42 : decode cX5_init 42 = .ok (.aload_n 0, 1) := by decide +kernel
theorem dX5_init_43 : decode cX5_init 43 = .ok (.new 26, 3) := by decide +kernel
theorem dX5_init_46 : decode cX5_init 46 = .ok (.dup, 1) := by decide +kernel
theorem dX5_init_47 : decode cX5_init 47 = .ok (.invokespecial 28, 3) := by decide +kernel
theorem dX5_init_50 : decode cX5_init 50 = .ok (.putfield 29, 3) := by decide +kernel
theorem dX5_init_53 : decode cX5_init 53 = .ok (.aload_n 0, 1) := by decide +kernel
theorem dX5_init_54 : decode cX5_init 54 = .ok (.new 33, 3) := by decide +kernel
theorem dX5_init_57 : decode cX5_init 57 = .ok (.dup, 1) := by decide +kernel
theorem dX5_init_58 : decode cX5_init 58 = .ok (.invokespecial 35, 3) := by decide +kernel
theorem dX5_init_61 : decode cX5_init 61 = .ok (.putfield 36, 3) := by decide +kernel
theorem dX5_init_64 : decode cX5_init 64 = .ok (.aload_n 0, 1) := by decide +kernel
theorem dX5_init_65 : decode cX5_init 65 = .ok (.new 40, 3) := by decide +kernel
theorem dX5_init_68 : decode cX5_init 68 = .ok (.dup, 1) := by decide +kernel
theorem dX5_init_69 : decode cX5_init 69 = .ok (.invokespecial 42, 3) := by decide +kernel
theorem dX5_init_72 : decode cX5_init 72 = .ok (.putfield 43, 3) := by decide +kernel
theorem dX5_init_75 : decode cX5_init 75 = .ok (.aload_n 0, 1) := by decide +kernel
theorem dX5_init_76 : decode cX5_init 76 = .ok (.new 40, 3) := by decide +kernel
theorem dX5_init_79 : decode cX5_init 79 = .ok (.dup, 1) := by decide +kernel
theorem dX5_init_80 : decode cX5_init 80 = .ok (.invokespecial 42, 3) := by decide +kernel
theorem dX5_init_83 : decode cX5_init 83 = .ok (.putfield 47, 3) := by decide +kernel
theorem dX5_init_86 : decode cX5_init 86 = .ok (.return_, 1) := by decide +kernel
theorem dX5_machines_0 : decode cX5_machines 0 = .ok (.iload_n 1, 1) := by decide +kernel
theorem dX5_machines_1 : decode cX5_machines 1 = .ok (.iconst 2, 1) := by decide +kernel
theorem dX5_machines_2 : decode cX5_machines 2 = .ok (.bipush 9, 2) := by decide +kernel
theorem dX5_machines_4 : decode cX5_machines 4 = .ok (.invokestatic 50, 3) := by decide +kernel
theorem dX5_machines_7 : decode cX5_machines 7 = .ok (.ifCond .eq 13, 3) := by decide +kernel
theorem dX5_machines_10 : decode cX5_machines 10 = .ok (.iload_n 2, 1) := by decide +kernel
theorem dX5_machines_11 : decode cX5_machines 11 = .ok (.iconst 1, 1) := by decide +kernel
theorem dX5_machines_12 : decode cX5_machines 12 = .ok (.bipush 12, 2) := by decide +kernel
theorem dX5_machines_14 : decode cX5_machines 14 = .ok (.invokestatic 50, 3) := by decide +kernel
theorem dX5_machines_17 : decode cX5_machines 17 = .ok (.ifCond .ne 6, 3) := by decide +kernel
theorem dX5_machines_20 : decode cX5_machines 20 = .ok (.bipush (-2), 2) := by decide +kernel
theorem dX5_machines_22 : decode cX5_machines 22 = .ok (.ireturn, 1) := by decide +kernel
theorem dX5_machines_23 : decode cX5_machines 23 = .ok (.aload_n 0, 1) := by decide +kernel
theorem dX5_machines_24 : decode cX5_machines 24 = .ok (.getfield 10, 3) := by decide +kernel
theorem dX5_machines_27 : decode cX5_machines 27 = .ok (.getfield 54, 3) := by decide +kernel
theorem dX5_machines_30 : decode cX5_machines 30 = .ok (.istore_n 3, 1) := by decide +kernel
theorem dX5_machines_31 : decode cX5_machines 31 = .ok (.aload_n 0, 1) := by decide +kernel
theorem dX5_machines_32 : decode cX5_machines 32 = .ok (.getfield 10, 3) := by decide +kernel
theorem dX5_machines_35 : decode cX5_machines 35 = .ok (.iload_n 1, 1) := by decide +kernel
theorem dX5_machines_36 : decode cX5_machines 36 = .ok (.iload_n 2, 1) := by decide +kernel
theorem dX5_machines_37 : decode cX5_machines 37 = .ok (.invokevirtual 57, 3) := by decide +kernel
theorem dX5_machines_40 : decode cX5_machines 40 = .ok (.iload_n 3, 1) := by decide +kernel
theorem dX5_machines_41 : decode cX5_machines 41 = .ok (.ireturn, 1) := by decide +kernel
theorem dX5_put_0 : decode cX5_put 0 = .ok (.aload_n 0, 1) := by decide +kernel
theorem dX5_put_1 : decode cX5_put 1 = .ok (.getfield 10, 3) := by decide +kernel
theorem dX5_put_4 : decode cX5_put 4 = .ok (.iload_n 1, 1) := by decide +kernel
theorem dX5_put_5 : decode cX5_put 5 = .ok (.invokevirtual 61, 3) := by decide +kernel
theorem dX5_put_8 : decode cX5_put 8 = .ok (.ifCond .ne 5, 3) := by decide +kernel
theorem dX5_put_11 : decode cX5_put 11 = .ok (.iconst (-1), 1) := by decide +kernel
theorem dX5_put_12 : decode cX5_put 12 = .ok (.ireturn, 1) := by decide +kernel
theorem dX5_put_13 : decode cX5_put 13 = .ok (.aload_n 0, 1) := by decide +kernel
theorem dX5_put_14 : decode cX5_put 14 = .ok (.getfield 10, 3) := by decide +kernel
theorem dX5_put_17 : decode cX5_put 17 = .ok (.iload_n 2, 1) := by decide +kernel
theorem dX5_put_18 : decode cX5_put 18 = .ok (.invokevirtual 65, 3) := by decide +kernel
theorem dX5_put_21 : decode cX5_put 21 = .ok (.ifCond .eq 14, 3) := by decide +kernel
theorem dX5_put_24 : decode cX5_put 24 = .ok (.iload_n 3, 1) := by decide +kernel
theorem dX5_put_25 : decode cX5_put 25 = .ok (.iconst 0, 1) := by decide +kernel
theorem dX5_put_26 : decode cX5_put 26 = .ok (.sipush 996, 3) := by decide +kernel
theorem dX5_put_29 : decode cX5_put 29 = .ok (.invokestatic 50, 3) := by decide +kernel
theorem dX5_put_32 : decode cX5_put 32 = .ok (.ifCond .ne 6, 3) := by decide +kernel
theorem dX5_put_35 : decode cX5_put 35 = .ok (.bipush (-2), 2) := by decide +kernel
theorem dX5_put_37 : decode cX5_put 37 = .ok (.ireturn, 1) := by decide +kernel
theorem dX5_put_38 : decode cX5_put 38 = .ok (.aload_n 0, 1) := by decide +kernel
theorem dX5_put_39 : decode cX5_put 39 = .ok (.getfield 10, 3) := by decide +kernel
theorem dX5_put_42 : decode cX5_put 42 = .ok (.getfield 68, 3) := by decide +kernel
theorem dX5_put_45 : decode cX5_put 45 = .ok (.iload_n 1, 1) := by decide +kernel
theorem dX5_put_46 : decode cX5_put 46 = .ok (.iload_n 2, 1) := by decide +kernel
theorem dX5_put_47 : decode cX5_put 47 = .ok (.invokevirtual 72, 3) := by decide +kernel
theorem dX5_put_50 : decode cX5_put 50 = .ok (.istore 4, 2) := by decide +kernel
theorem dX5_put_52 : decode cX5_put 52 = .ok (.aload_n 0, 1) := by decide +kernel
theorem dX5_put_53 : decode cX5_put 53 = .ok (.getfield 10, 3) := by decide +kernel
theorem dX5_put_56 : decode cX5_put 56 = .ok (.getfield 68, 3) := by decide +kernel
theorem dX5_put_59 : decode cX5_put 59 = .ok (.iload_n 1, 1) := by decide +kernel
theorem dX5_put_60 : decode cX5_put 60 = .ok (.iload_n 2, 1) := by decide +kernel
theorem dX5_put_61 : decode cX5_put 61 = .ok (.iload_n 3, 1) := by decide +kernel
theorem dX5_put_62 : decode cX5_put 62 = .ok (.invokevirtual 78, 3) := by decide +kernel
theorem dX5_put_65 : decode cX5_put 65 = .ok (.iload 4, 2) := by decide +kernel
theorem dX5_put_67 : decode cX5_put 67 = .ok (.ireturn, 1) := by decide +kernel
theorem dX5_rule_0 : decode cX5_rule 0 = .ok (.iload_n 1, 1) := by decide +kernel
theorem dX5_rule_1 : decode cX5_rule 1 = .ok (.iconst 0, 1) := by decide +kernel
theorem dX5_rule_2 : decode cX5_rule 2 = .ok (.iconst 2, 1) := by decide +kernel
theorem dX5_rule_3 : decode cX5_rule 3 = .ok (.invokestatic 50, 3) := by decide +kernel
theorem dX5_rule_6 : decode cX5_rule 6 = .ok (.ifCond .eq 21, 3) := by decide +kernel
theorem dX5_rule_9 : decode cX5_rule 9 = .ok (.iload_n 2, 1) := by decide +kernel
theorem dX5_rule_10 : decode cX5_rule 10 = .ok (.iconst 0, 1) := by decide +kernel
theorem dX5_rule_11 : decode cX5_rule 11 = .ok (.iload_n 1, 1) := by decide +kernel
theorem dX5_rule_12 : decode cX5_rule 12 = .ok (.ifCond .ne 7, 3) := by decide +kernel
theorem dX5_rule_15 : decode cX5_rule 15 = .ok (.iconst 2, 1) := by decide +kernel
theorem dX5_rule_16 : decode cX5_rule 16 = .ok (.goto 5, 3) := by decide +kernel
theorem dX5_rule_19 : decode cX5_rule 19 = .ok (.bipush 99, 2) := by decide +kernel
theorem dX5_rule_21 : decode cX5_rule 21 = .ok (.invokestatic 50, 3) := by decide +kernel
theorem dX5_rule_24 : decode cX5_rule 24 = .ok (.ifCond .ne 6, 3) := by decide +kernel
theorem dX5_rule_27 : decode cX5_rule 27 = .ok (.bipush (-2), 2) := by decide +kernel
theorem dX5_rule_29 : decode cX5_rule 29 = .ok (.ireturn, 1) := by decide +kernel
theorem dX5_rule_30 : decode cX5_rule 30 = .ok (.aload_n 0, 1) := by decide +kernel
theorem dX5_rule_31 : decode cX5_rule 31 = .ok (.iload_n 1, 1) := by decide +kernel
theorem dX5_rule_32 : decode cX5_rule 32 = .ok (.invokevirtual 82, 3) := by decide +kernel
theorem dX5_rule_35 : decode cX5_rule 35 = .ok (.istore_n 3, 1) := by decide +kernel
theorem dX5_rule_36 : decode cX5_rule 36 = .ok (.iload_n 1, 1) := by decide +kernel
theorem dX5_rule_37 : decode cX5_rule 37 = .ok (.ifCond .ne 14, 3) := by decide +kernel
theorem dX5_rule_40 : decode cX5_rule 40 = .ok (.aload_n 0, 1) := by decide +kernel
theorem dX5_rule_41 : decode cX5_rule 41 = .ok (.getfield 10, 3) := by decide +kernel
theorem dX5_rule_44 : decode cX5_rule 44 = .ok (.iload_n 2, 1) := by decide +kernel
theorem dX5_rule_45 : decode cX5_rule 45 = .ok (.putfield 86, 3) := by decide +kernel
theorem dX5_rule_48 : decode cX5_rule 48 = .ok (.goto 27, 3) := by decide +kernel
theorem dX5_rule_51 : decode cX5_rule 51 = .ok (.iload_n 1, 1) := by decide +kernel
theorem dX5_rule_52 : decode cX5_rule 52 = .ok (.iconst 1, 1) := by decide +kernel
theorem dX5_rule_53 : decode cX5_rule 53 = .ok (.if_icmp .ne 14, 3) := by decide +kernel
theorem dX5_rule_56 : decode cX5_rule 56 = .ok (.aload_n 0, 1) := by decide +kernel
theorem dX5_rule_57 : decode cX5_rule 57 = .ok (.getfield 10, 3) := by decide +kernel
theorem dX5_rule_60 : decode cX5_rule 60 = .ok (.iload_n 2, 1) := by decide +kernel
theorem dX5_rule_61 : decode cX5_rule 61 = .ok (.putfield 89, 3) := by decide +kernel
theorem dX5_rule_64 : decode cX5_rule 64 = .ok (.goto 11, 3) := by decide +kernel
theorem dX5_rule_67 : decode cX5_rule 67 = .ok (.aload_n 0, 1) := by decide +kernel
theorem dX5_rule_68 : decode cX5_rule 68 = .ok (.getfield 10, 3) := by decide +kernel
theorem dX5_rule_71 : decode cX5_rule 71 = .ok (.iload_n 2, 1) := by decide +kernel
theorem dX5_rule_72 : decode cX5_rule 72 = .ok (.putfield 92, 3) := by decide +kernel
theorem dX5_rule_75 : decode cX5_rule 75 = .ok (.iload_n 3, 1) := by decide +kernel
theorem dX5_rule_76 : decode cX5_rule 76 = .ok (.ireturn, 1) := by decide +kernel
theorem dX5_slow_0 : decode cX5_slow 0 = .ok (.aload_n 0, 1) := by decide +kernel
theorem dX5_slow_1 : decode cX5_slow 1 = .ok (.getfield 10, 3) := by decide +kernel
theorem dX5_slow_4 : decode cX5_slow 4 = .ok (.iload_n 1, 1) := by decide +kernel
theorem dX5_slow_5 : decode cX5_slow 5 = .ok (.invokevirtual 61, 3) := by decide +kernel
theorem dX5_slow_8 : decode cX5_slow 8 = .ok (.ifCond .eq 14, 3) := by decide +kernel
theorem dX5_slow_11 : decode cX5_slow 11 = .ok (.aload_n 0, 1) := by decide +kernel
theorem dX5_slow_12 : decode cX5_slow 12 = .ok (.getfield 10, 3) := by decide +kernel
theorem dX5_slow_15 : decode cX5_slow 15 = .ok (.iload_n 2, 1) := by decide +kernel
theorem dX5_slow_16 : decode cX5_slow 16 = .ok (.invokevirtual 61, 3) := by decide +kernel
theorem dX5_slow_19 : decode cX5_slow 19 = .ok (.ifCond .ne 5, 3) := by decide +kernel
theorem dX5_slow_22 : decode cX5_slow 22 = .ok (.iconst (-1), 1) := by decide +kernel
theorem dX5_slow_23 : decode cX5_slow 23 = .ok (.ireturn, 1) := by decide +kernel
theorem dX5_slow_24 : decode cX5_slow 24 = .ok (.iload_n 1, 1) := by decide +kernel
theorem dX5_slow_25 : decode cX5_slow 25 = .ok (.iload_n 2, 1) := by decide +kernel
theorem dX5_slow_26 : decode cX5_slow 26 = .ok (.if_icmp .eq 13, 3) := by decide +kernel
theorem dX5_slow_29 : decode cX5_slow 29 = .ok (.iload_n 3, 1) := by decide +kernel
theorem dX5_slow_30 : decode cX5_slow 30 = .ok (.iconst 1, 1) := by decide +kernel
theorem dX5_slow_31 : decode cX5_slow 31 = .ok (.bipush 9, 2) := by decide +kernel
theorem dX5_slow_33 : decode cX5_slow 33 = .ok (.invokestatic 50, 3) := by decide +kernel
theorem dX5_slow_36 : decode cX5_slow 36 = .ok (.ifCond .ne 6, 3) := by decide +kernel
theorem dX5_slow_39 : decode cX5_slow 39 = .ok (.bipush (-2), 2) := by decide +kernel
theorem dX5_slow_41 : decode cX5_slow 41 = .ok (.ireturn, 1) := by decide +kernel
theorem dX5_slow_42 : decode cX5_slow 42 = .ok (.aload_n 0, 1) := by decide +kernel
theorem dX5_slow_43 : decode cX5_slow 43 = .ok (.getfield 10, 3) := by decide +kernel
theorem dX5_slow_46 : decode cX5_slow 46 = .ok (.iload_n 1, 1) := by decide +kernel
theorem dX5_slow_47 : decode cX5_slow 47 = .ok (.iload_n 2, 1) := by decide +kernel
theorem dX5_slow_48 : decode cX5_slow 48 = .ok (.invokevirtual 95, 3) := by decide +kernel
theorem dX5_slow_51 : decode cX5_slow 51 = .ok (.istore 4, 2) := by decide +kernel
theorem dX5_slow_53 : decode cX5_slow 53 = .ok (.aload_n 0, 1) := by decide +kernel
theorem dX5_slow_54 : decode cX5_slow 54 = .ok (.getfield 10, 3) := by decide +kernel
theorem dX5_slow_57 : decode cX5_slow 57 = .ok (.iload_n 1, 1) := by decide +kernel
theorem dX5_slow_58 : decode cX5_slow 58 = .ok (.iload_n 2, 1) := by decide +kernel
theorem dX5_slow_59 : decode cX5_slow 59 = .ok (.iload_n 3, 1) := by decide +kernel
theorem dX5_slow_60 : decode cX5_slow 60 = .ok (.invokevirtual 98, 3) := by decide +kernel
theorem dX5_slow_63 : decode cX5_slow 63 = .ok (.iload 4, 2) := by decide +kernel
theorem dX5_slow_65 : decode cX5_slow 65 = .ok (.ireturn, 1) := by decide +kernel
theorem dX5_at_0 : decode cX5_at 0 = .ok (.aload_n 0, 1) := by decide +kernel
theorem dX5_at_1 : decode cX5_at 1 = .ok (.getfield 10, 3) := by decide +kernel
theorem dX5_at_4 : decode cX5_at 4 = .ok (.iload_n 1, 1) := by decide +kernel
theorem dX5_at_5 : decode cX5_at 5 = .ok (.invokevirtual 61, 3) := by decide +kernel
theorem dX5_at_8 : decode cX5_at 8 = .ok (.ifCond .ne 5, 3) := by decide +kernel
theorem dX5_at_11 : decode cX5_at 11 = .ok (.iconst (-1), 1) := by decide +kernel
theorem dX5_at_12 : decode cX5_at 12 = .ok (.ireturn, 1) := by decide +kernel
theorem dX5_at_13 : decode cX5_at 13 = .ok (.aload_n 0, 1) := by decide +kernel
theorem dX5_at_14 : decode cX5_at 14 = .ok (.getfield 10, 3) := by decide +kernel
theorem dX5_at_17 : decode cX5_at 17 = .ok (.iload_n 2, 1) := by decide +kernel
theorem dX5_at_18 : decode cX5_at 18 = .ok (.invokevirtual 65, 3) := by decide +kernel
theorem dX5_at_21 : decode cX5_at 21 = .ok (.ifCond .eq 18, 3) := by decide +kernel
theorem dX5_at_24 : decode cX5_at 24 = .ok (.aload_n 0, 1) := by decide +kernel
theorem dX5_at_25 : decode cX5_at 25 = .ok (.getfield 10, 3) := by decide +kernel
theorem dX5_at_28 : decode cX5_at 28 = .ok (.getfield 68, 3) := by decide +kernel
theorem dX5_at_31 : decode cX5_at 31 = .ok (.iload_n 1, 1) := by decide +kernel
theorem dX5_at_32 : decode cX5_at 32 = .ok (.iload_n 2, 1) := by decide +kernel
theorem dX5_at_33 : decode cX5_at 33 = .ok (.invokevirtual 72, 3) := by decide +kernel
theorem dX5_at_36 : decode cX5_at 36 = .ok (.goto 5, 3) := by decide +kernel
theorem dX5_at_39 : decode cX5_at 39 = .ok (.bipush (-6), 2) := by decide +kernel
theorem dX5_at_41 : decode cX5_at 41 = .ok (.ireturn, 1) := by decide +kernel
theorem dX5_way_0 : decode cX5_way 0 = .ok (.iload_n 1, 1) := by decide +kernel
theorem dX5_way_1 : decode cX5_way 1 = .ok (.invokestatic 101, 3) := by decide +kernel
theorem dX5_way_4 : decode cX5_way 4 = .ok (.ifCond .ne 5, 3) := by decide +kernel
theorem dX5_way_7 : decode cX5_way 7 = .ok (.iconst (-1), 1) := by decide +kernel
theorem dX5_way_8 : decode cX5_way 8 = .ok (.ireturn, 1) := by decide +kernel
theorem dX5_way_9 : decode cX5_way 9 = .ok (.iload_n 2, 1) := by decide +kernel
theorem dX5_way_10 : decode cX5_way 10 = .ok (.iconst 0, 1) := by decide +kernel
theorem dX5_way_11 : decode cX5_way 11 = .ok (.iconst 5, 1) := by decide +kernel
theorem dX5_way_12 : decode cX5_way 12 = .ok (.invokestatic 50, 3) := by decide +kernel
theorem dX5_way_15 : decode cX5_way 15 = .ok (.ifCond .ne 6, 3) := by decide +kernel
theorem dX5_way_18 : decode cX5_way 18 = .ok (.bipush (-2), 2) := by decide +kernel
theorem dX5_way_20 : decode cX5_way 20 = .ok (.ireturn, 1) := by decide +kernel
theorem dX5_way_21 : decode cX5_way 21 = .ok (.aload_n 0, 1) := by decide +kernel
theorem dX5_way_22 : decode cX5_way 22 = .ok (.iload_n 1, 1) := by decide +kernel
theorem dX5_way_23 : decode cX5_way 23 = .ok (.invokevirtual 104, 3) := by decide +kernel
theorem dX5_way_26 : decode cX5_way 26 = .ok (.aload_n 0, 1) := by decide +kernel
theorem dX5_way_27 : decode cX5_way 27 = .ok (.getfield 36, 3) := by decide +kernel
theorem dX5_way_30 : decode cX5_way 30 = .ok (.aload_n 0, 1) := by decide +kernel
theorem dX5_way_31 : decode cX5_way 31 = .ok (.getfield 10, 3) := by decide +kernel
theorem dX5_way_34 : decode cX5_way 34 = .ok (.aload_n 0, 1) := by decide +kernel
theorem dX5_way_35 : decode cX5_way 35 = .ok (.getfield 29, 3) := by decide +kernel
theorem dX5_way_38 : decode cX5_way 38 = .ok (.invokevirtual 108, 3) := by decide +kernel
theorem dX5_way_41 : decode cX5_way 41 = .ok (.iload_n 2, 1) := by decide +kernel
theorem dX5_way_42 : decode cX5_way 42 = .ok (.tableswitch 74 0 4 #[34, 42, 50, 58, 66], 34) := by decide +kernel
theorem dX5_way_76 : decode cX5_way 76 = .ok (.aload_n 0, 1) := by decide +kernel
theorem dX5_way_77 : decode cX5_way 77 = .ok (.getfield 29, 3) := by decide +kernel
theorem dX5_way_80 : decode cX5_way 80 = .ok (.getfield 112, 3) := by decide +kernel
theorem dX5_way_83 : decode cX5_way 83 = .ok (.ireturn, 1) := by decide +kernel
theorem dX5_way_84 : decode cX5_way 84 = .ok (.aload_n 0, 1) := by decide +kernel
theorem dX5_way_85 : decode cX5_way 85 = .ok (.getfield 29, 3) := by decide +kernel
theorem dX5_way_88 : decode cX5_way 88 = .ok (.getfield 115, 3) := by decide +kernel
theorem dX5_way_91 : decode cX5_way 91 = .ok (.ireturn, 1) := by decide +kernel
theorem dX5_way_92 : decode cX5_way 92 = .ok (.aload_n 0, 1) := by decide +kernel
theorem dX5_way_93 : decode cX5_way 93 = .ok (.getfield 29, 3) := by decide +kernel
theorem dX5_way_96 : decode cX5_way 96 = .ok (.invokevirtual 118, 3) := by decide +kernel
theorem dX5_way_99 : decode cX5_way 99 = .ok (.ireturn, 1) := by decide +kernel
theorem dX5_way_100 : decode cX5_way 100 = .ok (.aload_n 0, 1) := by decide +kernel
theorem dX5_way_101 : decode cX5_way 101 = .ok (.getfield 36, 3) := by decide +kernel
theorem dX5_way_104 : decode cX5_way 104 = .ok (.getfield 122, 3) := by decide +kernel
theorem dX5_way_107 : decode cX5_way 107 = .ok (.ireturn, 1) := by decide +kernel
theorem dX5_way_108 : decode cX5_way 108 = .ok (.aload_n 0, 1) := by decide +kernel
theorem dX5_way_109 : decode cX5_way 109 = .ok (.getfield 36, 3) := by decide +kernel
theorem dX5_way_112 : decode cX5_way 112 = .ok (.getfield 125, 3) := by decide +kernel
theorem dX5_way_115 : decode cX5_way 115 = .ok (.ireturn, 1) := by decide +kernel
theorem dX5_way_116 : decode cX5_way 116 = .ok (.aload_n 0, 1) := by decide +kernel
theorem dX5_way_117 : decode cX5_way 117 = .ok (.getfield 36, 3) := by decide +kernel
theorem dX5_way_120 : decode cX5_way 120 = .ok (.aload_n 0, 1) := by decide +kernel
theorem dX5_way_121 : decode cX5_way 121 = .ok (.getfield 10, 3) := by decide +kernel
theorem dX5_way_124 : decode cX5_way 124 = .ok (.getfield 54, 3) := by decide +kernel
theorem dX5_way_127 : decode cX5_way 127 = .ok (.invokevirtual 128, 3) := by decide +kernel
theorem dX5_way_130 : decode cX5_way 130 = .ok (.ireturn, 1) := by decide +kernel
theorem dX5_letter_0 : decode cX5_letter 0 = .ok (.iload_n 1, 1) := by decide +kernel
theorem dX5_letter_1 : decode cX5_letter 1 = .ok (.invokestatic 101, 3) := by decide +kernel
theorem dX5_letter_4 : decode cX5_letter 4 = .ok (.ifCond .ne 5, 3) := by decide +kernel
theorem dX5_letter_7 : decode cX5_letter 7 = .ok (.iconst (-1), 1) := by decide +kernel
theorem dX5_letter_8 : decode cX5_letter 8 = .ok (.ireturn, 1) := by decide +kernel
theorem dX5_letter_9 : decode cX5_letter 9 = .ok (.iload_n 3, 1) := by decide +kernel
theorem dX5_letter_10 : decode cX5_letter 10 = .ok (.iconst 0, 1) := by decide +kernel
theorem dX5_letter_11 : decode cX5_letter 11 = .ok (.bipush 6, 2) := by decide +kernel
theorem dX5_letter_13 : decode cX5_letter 13 = .ok (.invokestatic 50, 3) := by decide +kernel
theorem dX5_letter_16 : decode cX5_letter 16 = .ok (.ifCond .ne 6, 3) := by decide +kernel
theorem dX5_letter_19 : decode cX5_letter 19 = .ok (.bipush (-2), 2) := by decide +kernel
theorem dX5_letter_21 : decode cX5_letter 21 = .ok (.ireturn, 1) := by decide +kernel
theorem dX5_letter_22 : decode cX5_letter 22 = .ok (.aload_n 0, 1) := by decide +kernel
theorem dX5_letter_23 : decode cX5_letter 23 = .ok (.iload_n 1, 1) := by decide +kernel
theorem dX5_letter_24 : decode cX5_letter 24 = .ok (.invokevirtual 104, 3) := by decide +kernel
theorem dX5_letter_27 : decode cX5_letter 27 = .ok (.aload_n 0, 1) := by decide +kernel
theorem dX5_letter_28 : decode cX5_letter 28 = .ok (.getfield 29, 3) := by decide +kernel
theorem dX5_letter_31 : decode cX5_letter 31 = .ok (.iload_n 2, 1) := by decide +kernel
theorem dX5_letter_32 : decode cX5_letter 32 = .ok (.invokevirtual 131, 3) := by decide +kernel
theorem dX5_letter_35 : decode cX5_letter 35 = .ok (.ifCond .ne 6, 3) := by decide +kernel
theorem dX5_letter_38 : decode cX5_letter 38 = .ok (.bipush (-6), 2) := by decide +kernel
theorem dX5_letter_40 : decode cX5_letter 40 = .ok (.ireturn, 1) := by decide +kernel
theorem dX5_letter_41 : decode cX5_letter 41 = .ok (.iload_n 3, 1) := by decide +kernel
theorem dX5_letter_42 : decode cX5_letter 42 = .ok (.bipush 6, 2) := by decide +kernel
theorem dX5_letter_44 : decode cX5_letter 44 = .ok (.if_icmp .ne 18, 3) := by decide +kernel
theorem dX5_letter_47 : decode cX5_letter 47 = .ok (.aload_n 0, 1) := by decide +kernel
theorem dX5_letter_48 : decode cX5_letter 48 = .ok (.getfield 10, 3) := by decide +kernel
theorem dX5_letter_51 : decode cX5_letter 51 = .ok (.aload_n 0, 1) := by decide +kernel
theorem dX5_letter_52 : decode cX5_letter 52 = .ok (.getfield 29, 3) := by decide +kernel
theorem dX5_letter_55 : decode cX5_letter 55 = .ok (.iload_n 2, 1) := by decide +kernel
theorem dX5_letter_56 : decode cX5_letter 56 = .ok (.invokevirtual 134, 3) := by decide +kernel
theorem dX5_letter_59 : decode cX5_letter 59 = .ok (.goto 12, 3) := by decide +kernel
theorem dX5_letter_62 : decode cX5_letter 62 = .ok (.aload_n 0, 1) := by decide +kernel
theorem dX5_letter_63 : decode cX5_letter 63 = .ok (.getfield 29, 3) := by decide +kernel
theorem dX5_letter_66 : decode cX5_letter 66 = .ok (.iload_n 2, 1) := by decide +kernel
theorem dX5_letter_67 : decode cX5_letter 67 = .ok (.iload_n 3, 1) := by decide +kernel
theorem dX5_letter_68 : decode cX5_letter 68 = .ok (.invokevirtual 138, 3) := by decide +kernel
theorem dX5_letter_71 : decode cX5_letter 71 = .ok (.ireturn, 1) := by decide +kernel
theorem dX5_behind_0 : decode cX5_behind 0 = .ok (.iload_n 1, 1) := by decide +kernel
theorem dX5_behind_1 : decode cX5_behind 1 = .ok (.invokestatic 101, 3) := by decide +kernel
theorem dX5_behind_4 : decode cX5_behind 4 = .ok (.ifCond .eq 14, 3) := by decide +kernel
theorem dX5_behind_7 : decode cX5_behind 7 = .ok (.aload_n 0, 1) := by decide +kernel
theorem dX5_behind_8 : decode cX5_behind 8 = .ok (.getfield 10, 3) := by decide +kernel
theorem dX5_behind_11 : decode cX5_behind 11 = .ok (.iload_n 3, 1) := by decide +kernel
theorem dX5_behind_12 : decode cX5_behind 12 = .ok (.invokevirtual 61, 3) := by decide +kernel
theorem dX5_behind_15 : decode cX5_behind 15 = .ok (.ifCond .ne 5, 3) := by decide +kernel
theorem dX5_behind_18 : decode cX5_behind 18 = .ok (.iconst (-1), 1) := by decide +kernel
theorem dX5_behind_19 : decode cX5_behind 19 = .ok (.ireturn, 1) := by decide +kernel
theorem dX5_behind_20 : decode cX5_behind 20 = .ok (.iload_n 2, 1) := by decide +kernel
theorem dX5_behind_21 : decode cX5_behind 21 = .ok (.ifCond .ge 6, 3) := by decide +kernel
theorem dX5_behind_24 : decode cX5_behind 24 = .ok (.bipush (-2), 2) := by decide +kernel
theorem dX5_behind_26 : decode cX5_behind 26 = .ok (.ireturn, 1) := by decide +kernel
theorem dX5_behind_27 : decode cX5_behind 27 = .ok (.aload_n 0, 1) := by decide +kernel
theorem dX5_behind_28 : decode cX5_behind 28 = .ok (.getfield 10, 3) := by decide +kernel
theorem dX5_behind_31 : decode cX5_behind 31 = .ok (.iload 4, 2) := by decide +kernel
theorem dX5_behind_33 : decode cX5_behind 33 = .ok (.invokevirtual 65, 3) := by decide +kernel
theorem dX5_behind_36 : decode cX5_behind 36 = .ok (.ifCond .ne 6, 3) := by decide +kernel
theorem dX5_behind_39 : decode cX5_behind 39 = .ok (.bipush (-6), 2) := by decide +kernel
theorem dX5_behind_41 : decode cX5_behind 41 = .ok (.ireturn, 1) := by decide +kernel
theorem dX5_behind_42 : decode cX5_behind 42 = .ok (.aload_n 0, 1) := by decide +kernel
theorem dX5_behind_43 : decode cX5_behind 43 = .ok (.iload_n 1, 1) := by decide +kernel
theorem dX5_behind_44 : decode cX5_behind 44 = .ok (.invokevirtual 104, 3) := by decide +kernel
theorem dX5_behind_47 : decode cX5_behind 47 = .ok (.aload_n 0, 1) := by decide +kernel
theorem dX5_behind_48 : decode cX5_behind 48 = .ok (.getfield 43, 3) := by decide +kernel
theorem dX5_behind_51 : decode cX5_behind 51 = .ok (.aload_n 0, 1) := by decide +kernel
theorem dX5_behind_52 : decode cX5_behind 52 = .ok (.getfield 10, 3) := by decide +kernel
theorem dX5_behind_55 : decode cX5_behind 55 = .ok (.aload_n 0, 1) := by decide +kernel
theorem dX5_behind_56 : decode cX5_behind 56 = .ok (.getfield 29, 3) := by decide +kernel
theorem dX5_behind_59 : decode cX5_behind 59 = .ok (.iload_n 2, 1) := by decide +kernel
theorem dX5_behind_60 : decode cX5_behind 60 = .ok (.iconst (-1), 1) := by decide +kernel
theorem dX5_behind_61 : decode cX5_behind 61 = .ok (.invokevirtual 141, 3) := by decide +kernel
theorem dX5_behind_64 : decode cX5_behind 64 = .ok (.aload_n 0, 1) := by decide +kernel
theorem dX5_behind_65 : decode cX5_behind 65 = .ok (.getfield 43, 3) := by decide +kernel
theorem dX5_behind_68 : decode cX5_behind 68 = .ok (.getfield 145, 3) := by decide +kernel
theorem dX5_behind_71 : decode cX5_behind 71 = .ok (.iload_n 3, 1) := by decide +kernel
theorem dX5_behind_72 : decode cX5_behind 72 = .ok (.iload 4, 2) := by decide +kernel
theorem dX5_behind_74 : decode cX5_behind 74 = .ok (.invokevirtual 72, 3) := by decide +kernel
theorem dX5_behind_77 : decode cX5_behind 77 = .ok (.ireturn, 1) := by decide +kernel
theorem dX5_same_0 : decode cX5_same 0 = .ok (.iload_n 1, 1) := by decide +kernel
theorem dX5_same_1 : decode cX5_same 1 = .ok (.invokestatic 101, 3) := by decide +kernel
theorem dX5_same_4 : decode cX5_same 4 = .ok (.ifCond .ne 5, 3) := by decide +kernel
theorem dX5_same_7 : decode cX5_same 7 = .ok (.iconst (-1), 1) := by decide +kernel
theorem dX5_same_8 : decode cX5_same 8 = .ok (.ireturn, 1) := by decide +kernel
theorem dX5_same_9 : decode cX5_same 9 = .ok (.iload_n 2, 1) := by decide +kernel
theorem dX5_same_10 : decode cX5_same 10 = .ok (.iconst 0, 1) := by decide +kernel
theorem dX5_same_11 : decode cX5_same 11 = .ok (.iconst 1, 1) := by decide +kernel
theorem dX5_same_12 : decode cX5_same 12 = .ok (.invokestatic 50, 3) := by decide +kernel
theorem dX5_same_15 : decode cX5_same 15 = .ok (.ifCond .ne 6, 3) := by decide +kernel
theorem dX5_same_18 : decode cX5_same 18 = .ok (.bipush (-2), 2) := by decide +kernel
theorem dX5_same_20 : decode cX5_same 20 = .ok (.ireturn, 1) := by decide +kernel
theorem dX5_same_21 : decode cX5_same 21 = .ok (.aload_n 0, 1) := by decide +kernel
theorem dX5_same_22 : decode cX5_same 22 = .ok (.aload_n 0, 1) := by decide +kernel
theorem dX5_same_23 : decode cX5_same 23 = .ok (.getfield 43, 3) := by decide +kernel
theorem dX5_same_26 : decode cX5_same 26 = .ok (.iload_n 1, 1) := by decide +kernel
theorem dX5_same_27 : decode cX5_same 27 = .ok (.invokevirtual 146, 3) := by decide +kernel
theorem dX5_same_30 : decode cX5_same 30 = .ok (.iload_n 2, 1) := by decide +kernel
theorem dX5_same_31 : decode cX5_same 31 = .ok (.ifCond .ne 20, 3) := by decide +kernel
theorem dX5_same_34 : decode cX5_same 34 = .ok (.aload_n 0, 1) := by decide +kernel
theorem dX5_same_35 : decode cX5_same 35 = .ok (.aload_n 0, 1) := by decide +kernel
theorem dX5_same_36 : decode cX5_same 36 = .ok (.getfield 43, 3) := by decide +kernel
theorem dX5_same_39 : decode cX5_same 39 = .ok (.getfield 145, 3) := by decide +kernel
theorem dX5_same_42 : decode cX5_same 42 = .ok (.invokevirtual 150, 3) := by decide +kernel
theorem dX5_same_45 : decode cX5_same 45 = .ok (.invokestatic 154, 3) := by decide +kernel
theorem dX5_same_48 : decode cX5_same 48 = .ok (.goto 14, 3) := by decide +kernel
theorem dX5_same_51 : decode cX5_same 51 = .ok (.aload_n 0, 1) := by decide +kernel
theorem dX5_same_52 : decode cX5_same 52 = .ok (.aload_n 0, 1) := by decide +kernel
theorem dX5_same_53 : decode cX5_same 53 = .ok (.getfield 43, 3) := by decide +kernel
theorem dX5_same_56 : decode cX5_same 56 = .ok (.getfield 145, 3) := by decide +kernel
theorem dX5_same_59 : decode cX5_same 59 = .ok (.invokevirtual 158, 3) := by decide +kernel
theorem dX5_same_62 : decode cX5_same 62 = .ok (.ireturn, 1) := by decide +kernel
theorem dX5_alike_0 : decode cX5_alike 0 = .ok (.iload_n 1, 1) := by decide +kernel
theorem dX5_alike_1 : decode cX5_alike 1 = .ok (.invokestatic 101, 3) := by decide +kernel
theorem dX5_alike_4 : decode cX5_alike 4 = .ok (.ifCond .eq 10, 3) := by decide +kernel
theorem dX5_alike_7 : decode cX5_alike 7 = .ok (.iload_n 2, 1) := by decide +kernel
theorem dX5_alike_8 : decode cX5_alike 8 = .ok (.invokestatic 101, 3) := by decide +kernel
theorem dX5_alike_11 : decode cX5_alike 11 = .ok (.ifCond .ne 5, 3) := by decide +kernel
theorem dX5_alike_14 : decode cX5_alike 14 = .ok (.iconst (-1), 1) := by decide +kernel
theorem dX5_alike_15 : decode cX5_alike 15 = .ok (.ireturn, 1) := by decide +kernel
theorem dX5_alike_16 : decode cX5_alike 16 = .ok (.aload_n 0, 1) := by decide +kernel
theorem dX5_alike_17 : decode cX5_alike 17 = .ok (.aload_n 0, 1) := by decide +kernel
theorem dX5_alike_18 : decode cX5_alike 18 = .ok (.getfield 43, 3) := by decide +kernel
theorem dX5_alike_21 : decode cX5_alike 21 = .ok (.iload_n 1, 1) := by decide +kernel
theorem dX5_alike_22 : decode cX5_alike 22 = .ok (.invokevirtual 146, 3) := by decide +kernel
theorem dX5_alike_25 : decode cX5_alike 25 = .ok (.aload_n 0, 1) := by decide +kernel
theorem dX5_alike_26 : decode cX5_alike 26 = .ok (.aload_n 0, 1) := by decide +kernel
theorem dX5_alike_27 : decode cX5_alike 27 = .ok (.getfield 47, 3) := by decide +kernel
theorem dX5_alike_30 : decode cX5_alike 30 = .ok (.iload_n 2, 1) := by decide +kernel
theorem dX5_alike_31 : decode cX5_alike 31 = .ok (.invokevirtual 146, 3) := by decide +kernel
theorem dX5_alike_34 : decode cX5_alike 34 = .ok (.aload_n 0, 1) := by decide +kernel
theorem dX5_alike_35 : decode cX5_alike 35 = .ok (.getfield 43, 3) := by decide +kernel
theorem dX5_alike_38 : decode cX5_alike 38 = .ok (.getfield 145, 3) := by decide +kernel
theorem dX5_alike_41 : decode cX5_alike 41 = .ok (.iconst 0, 1) := by decide +kernel
theorem dX5_alike_42 : decode cX5_alike 42 = .ok (.aload_n 0, 1) := by decide +kernel
theorem dX5_alike_43 : decode cX5_alike 43 = .ok (.getfield 47, 3) := by decide +kernel
theorem dX5_alike_46 : decode cX5_alike 46 = .ok (.getfield 145, 3) := by decide +kernel
theorem dX5_alike_49 : decode cX5_alike 49 = .ok (.iconst 0, 1) := by decide +kernel
theorem dX5_alike_50 : decode cX5_alike 50 = .ok (.aload_n 0, 1) := by decide +kernel
theorem dX5_alike_51 : decode cX5_alike 51 = .ok (.getfield 10, 3) := by decide +kernel
theorem dX5_alike_54 : decode cX5_alike 54 = .ok (.getfield 162, 3) := by decide +kernel
theorem dX5_alike_57 : decode cX5_alike 57 = .ok (.invokevirtual 165, 3) := by decide +kernel
theorem dX5_alike_60 : decode cX5_alike 60 = .ok (.ifCond .ne 7, 3) := by decide +kernel
theorem dX5_alike_63 : decode cX5_alike 63 = .ok (.iconst 1, 1) := by decide +kernel
theorem dX5_alike_64 : decode cX5_alike 64 = .ok (.goto 4, 3) := by decide +kernel
theorem dX5_alike_67 : decode cX5_alike 67 = .ok (.iconst 0, 1) := by decide +kernel
theorem dX5_alike_68 : decode cX5_alike 68 = .ok (.invokestatic 154, 3) := by decide +kernel
theorem dX5_alike_71 : decode cX5_alike 71 = .ok (.ireturn, 1) := by decide +kernel
theorem dX5_best_0 : decode cX5_best 0 = .ok (.iload_n 1, 1) := by decide +kernel
theorem dX5_best_1 : decode cX5_best 1 = .ok (.iconst 1, 1) := by decide +kernel
theorem dX5_best_2 : decode cX5_best 2 = .ok (.bipush 99, 2) := by decide +kernel
theorem dX5_best_4 : decode cX5_best 4 = .ok (.invokestatic 50, 3) := by decide +kernel
theorem dX5_best_7 : decode cX5_best 7 = .ok (.ifCond .eq 12, 3) := by decide +kernel
theorem dX5_best_10 : decode cX5_best 10 = .ok (.iload_n 2, 1) := by decide +kernel
theorem dX5_best_11 : decode cX5_best 11 = .ok (.iconst 0, 1) := by decide +kernel
theorem dX5_best_12 : decode cX5_best 12 = .ok (.iconst 1, 1) := by decide +kernel
theorem dX5_best_13 : decode cX5_best 13 = .ok (.invokestatic 50, 3) := by decide +kernel
theorem dX5_best_16 : decode cX5_best 16 = .ok (.ifCond .ne 6, 3) := by decide +kernel
theorem dX5_best_19 : decode cX5_best 19 = .ok (.bipush (-2), 2) := by decide +kernel
theorem dX5_best_21 : decode cX5_best 21 = .ok (.ireturn, 1) := by decide +kernel
theorem dX5_best_22 : decode cX5_best 22 = .ok (.iconst 0, 1) := by decide +kernel
theorem dX5_best_23 : decode cX5_best 23 = .ok (.istore_n 3, 1) := by decide +kernel
theorem dX5_best_24 : decode cX5_best 24 = .ok (.aload_n 0, 1) := by decide +kernel
theorem dX5_best_25 : decode cX5_best 25 = .ok (.iconst 0, 1) := by decide +kernel
theorem dX5_best_26 : decode cX5_best 26 = .ok (.iload_n 1, 1) := by decide +kernel
theorem dX5_best_27 : decode cX5_best 27 = .ok (.invokevirtual 169, 3) := by decide +kernel
theorem dX5_best_30 : decode cX5_best 30 = .ok (.istore 4, 2) := by decide +kernel
theorem dX5_best_32 : decode cX5_best 32 = .ok (.iconst 1, 1) := by decide +kernel
theorem dX5_best_33 : decode cX5_best 33 = .ok (.istore 5, 2) := by decide +kernel
theorem dX5_best_35 : decode cX5_best 35 = .ok (.iload 5, 2) := by decide +kernel
theorem dX5_best_37 : decode cX5_best 37 = .ok (.iconst 3, 1) := by decide +kernel
theorem dX5_best_38 : decode cX5_best 38 = .ok (.if_icmp .gt 32, 3) := by decide +kernel
theorem dX5_best_41 : decode cX5_best 41 = .ok (.aload_n 0, 1) := by decide +kernel
theorem dX5_best_42 : decode cX5_best 42 = .ok (.iload 5, 2) := by decide +kernel
theorem dX5_best_44 : decode cX5_best 44 = .ok (.iload_n 1, 1) := by decide +kernel
theorem dX5_best_45 : decode cX5_best 45 = .ok (.invokevirtual 169, 3) := by decide +kernel
theorem dX5_best_48 : decode cX5_best 48 = .ok (.istore 6, 2) := by decide +kernel
theorem dX5_best_50 : decode cX5_best 50 = .ok (.iload 6, 2) := by decide +kernel
theorem dX5_best_52 : decode cX5_best 52 = .ok (.iload 4, 2) := by decide +kernel
theorem dX5_best_54 : decode cX5_best 54 = .ok (.if_icmp .ge 10, 3) := by decide +kernel
theorem dX5_best_57 : decode cX5_best 57 = .ok (.iload 5, 2) := by decide +kernel
theorem dX5_best_59 : decode cX5_best 59 = .ok (.istore_n 3, 1) := by decide +kernel
theorem dX5_best_60 : decode cX5_best 60 = .ok (.iload 6, 2) := by decide +kernel
theorem dX5_best_62 : decode cX5_best 62 = .ok (.istore 4, 2) := by decide +kernel
theorem dX5_best_64 : decode cX5_best 64 = .ok (.iinc 5 1, 3) := by decide +kernel
theorem dX5_best_67 : decode cX5_best 67 = .ok (.goto (-32), 3) := by decide +kernel
theorem dX5_best_70 : decode cX5_best 70 = .ok (.iload_n 2, 1) := by decide +kernel
theorem dX5_best_71 : decode cX5_best 71 = .ok (.ifCond .ne 7, 3) := by decide +kernel
theorem dX5_best_74 : decode cX5_best 74 = .ok (.iload_n 3, 1) := by decide +kernel
theorem dX5_best_75 : decode cX5_best 75 = .ok (.goto 5, 3) := by decide +kernel
theorem dX5_best_78 : decode cX5_best 78 = .ok (.iload 4, 2) := by decide +kernel
theorem dX5_best_80 : decode cX5_best 80 = .ok (.ireturn, 1) := by decide +kernel
theorem dX5_from_0 : decode cX5_from 0 = .ok (.iload_n 1, 1) := by decide +kernel
theorem dX5_from_1 : decode cX5_from 1 = .ok (.invokestatic 101, 3) := by decide +kernel
theorem dX5_from_4 : decode cX5_from 4 = .ok (.ifCond .eq 10, 3) := by decide +kernel
theorem dX5_from_7 : decode cX5_from 7 = .ok (.iload_n 2, 1) := by decide +kernel
theorem dX5_from_8 : decode cX5_from 8 = .ok (.invokestatic 101, 3) := by decide +kernel
theorem dX5_from_11 : decode cX5_from 11 = .ok (.ifCond .ne 5, 3) := by decide +kernel
theorem dX5_from_14 : decode cX5_from 14 = .ok (.iconst (-1), 1) := by decide +kernel
theorem dX5_from_15 : decode cX5_from 15 = .ok (.ireturn, 1) := by decide +kernel
theorem dX5_from_16 : decode cX5_from 16 = .ok (.iconst 1, 1) := by decide +kernel
theorem dX5_from_17 : decode cX5_from 17 = .ok (.istore_n 3, 1) := by decide +kernel
theorem dX5_from_18 : decode cX5_from 18 = .ok (.iload_n 3, 1) := by decide +kernel
theorem dX5_from_19 : decode cX5_from 19 = .ok (.bipush 99, 2) := by decide +kernel
theorem dX5_from_21 : decode cX5_from 21 = .ok (.if_icmp .gt 26, 3) := by decide +kernel
theorem dX5_from_24 : decode cX5_from 24 = .ok (.aload_n 0, 1) := by decide +kernel
theorem dX5_from_25 : decode cX5_from 25 = .ok (.iload_n 1, 1) := by decide +kernel
theorem dX5_from_26 : decode cX5_from 26 = .ok (.iload_n 3, 1) := by decide +kernel
theorem dX5_from_27 : decode cX5_from 27 = .ok (.invokevirtual 169, 3) := by decide +kernel
theorem dX5_from_30 : decode cX5_from 30 = .ok (.aload_n 0, 1) := by decide +kernel
theorem dX5_from_31 : decode cX5_from 31 = .ok (.iload_n 2, 1) := by decide +kernel
theorem dX5_from_32 : decode cX5_from 32 = .ok (.iload_n 3, 1) := by decide +kernel
theorem dX5_from_33 : decode cX5_from 33 = .ok (.invokevirtual 169, 3) := by decide +kernel
theorem dX5_from_36 : decode cX5_from 36 = .ok (.if_icmp .ge 5, 3) := by decide +kernel
theorem dX5_from_39 : decode cX5_from 39 = .ok (.iload_n 3, 1) := by decide +kernel
theorem dX5_from_40 : decode cX5_from 40 = .ok (.ireturn, 1) := by decide +kernel
theorem dX5_from_41 : decode cX5_from 41 = .ok (.iinc 3 1, 3) := by decide +kernel
theorem dX5_from_44 : decode cX5_from 44 = .ok (.goto (-26), 3) := by decide +kernel
theorem dX5_from_47 : decode cX5_from 47 = .ok (.bipush (-6), 2) := by decide +kernel
theorem dX5_from_49 : decode cX5_from 49 = .ok (.ireturn, 1) := by decide +kernel
theorem dX5_lost_0 : decode cX5_lost 0 = .ok (.iload_n 1, 1) := by decide +kernel
theorem dX5_lost_1 : decode cX5_lost 1 = .ok (.invokestatic 101, 3) := by decide +kernel
theorem dX5_lost_4 : decode cX5_lost 4 = .ok (.ifCond .ne 5, 3) := by decide +kernel
theorem dX5_lost_7 : decode cX5_lost 7 = .ok (.iconst (-1), 1) := by decide +kernel
theorem dX5_lost_8 : decode cX5_lost 8 = .ok (.ireturn, 1) := by decide +kernel
theorem dX5_lost_9 : decode cX5_lost 9 = .ok (.iload_n 3, 1) := by decide +kernel
theorem dX5_lost_10 : decode cX5_lost 10 = .ok (.iconst 0, 1) := by decide +kernel
theorem dX5_lost_11 : decode cX5_lost 11 = .ok (.iconst 1, 1) := by decide +kernel
theorem dX5_lost_12 : decode cX5_lost 12 = .ok (.invokestatic 50, 3) := by decide +kernel
theorem dX5_lost_15 : decode cX5_lost 15 = .ok (.ifCond .ne 6, 3) := by decide +kernel
theorem dX5_lost_18 : decode cX5_lost 18 = .ok (.bipush (-2), 2) := by decide +kernel
theorem dX5_lost_20 : decode cX5_lost 20 = .ok (.ireturn, 1) := by decide +kernel
theorem dX5_lost_21 : decode cX5_lost 21 = .ok (.aload_n 0, 1) := by decide +kernel
theorem dX5_lost_22 : decode cX5_lost 22 = .ok (.aload_n 0, 1) := by decide +kernel
theorem dX5_lost_23 : decode cX5_lost 23 = .ok (.getfield 43, 3) := by decide +kernel
theorem dX5_lost_26 : decode cX5_lost 26 = .ok (.iload_n 1, 1) := by decide +kernel
theorem dX5_lost_27 : decode cX5_lost 27 = .ok (.invokevirtual 146, 3) := by decide +kernel
theorem dX5_lost_30 : decode cX5_lost 30 = .ok (.aload_n 0, 1) := by decide +kernel
theorem dX5_lost_31 : decode cX5_lost 31 = .ok (.getfield 29, 3) := by decide +kernel
theorem dX5_lost_34 : decode cX5_lost 34 = .ok (.iload_n 2, 1) := by decide +kernel
theorem dX5_lost_35 : decode cX5_lost 35 = .ok (.invokevirtual 131, 3) := by decide +kernel
theorem dX5_lost_38 : decode cX5_lost 38 = .ok (.ifCond .ne 6, 3) := by decide +kernel
theorem dX5_lost_41 : decode cX5_lost 41 = .ok (.bipush (-6), 2) := by decide +kernel
theorem dX5_lost_43 : decode cX5_lost 43 = .ok (.ireturn, 1) := by decide +kernel
theorem dX5_lost_44 : decode cX5_lost 44 = .ok (.aload_n 0, 1) := by decide +kernel
theorem dX5_lost_45 : decode cX5_lost 45 = .ok (.getfield 47, 3) := by decide +kernel
theorem dX5_lost_48 : decode cX5_lost 48 = .ok (.aload_n 0, 1) := by decide +kernel
theorem dX5_lost_49 : decode cX5_lost 49 = .ok (.getfield 10, 3) := by decide +kernel
theorem dX5_lost_52 : decode cX5_lost 52 = .ok (.aload_n 0, 1) := by decide +kernel
theorem dX5_lost_53 : decode cX5_lost 53 = .ok (.getfield 29, 3) := by decide +kernel
theorem dX5_lost_56 : decode cX5_lost 56 = .ok (.aload_n 0, 1) := by decide +kernel
theorem dX5_lost_57 : decode cX5_lost 57 = .ok (.getfield 29, 3) := by decide +kernel
theorem dX5_lost_60 : decode cX5_lost 60 = .ok (.getfield 112, 3) := by decide +kernel
theorem dX5_lost_63 : decode cX5_lost 63 = .ok (.iload_n 2, 1) := by decide +kernel
theorem dX5_lost_64 : decode cX5_lost 64 = .ok (.invokevirtual 141, 3) := by decide +kernel
theorem dX5_lost_67 : decode cX5_lost 67 = .ok (.iload_n 3, 1) := by decide +kernel
theorem dX5_lost_68 : decode cX5_lost 68 = .ok (.ifCond .ne 10, 3) := by decide +kernel
theorem dX5_lost_71 : decode cX5_lost 71 = .ok (.aload_n 0, 1) := by decide +kernel
theorem dX5_lost_72 : decode cX5_lost 72 = .ok (.invokevirtual 172, 3) := by decide +kernel
theorem dX5_lost_75 : decode cX5_lost 75 = .ok (.goto 7, 3) := by decide +kernel
theorem dX5_lost_78 : decode cX5_lost 78 = .ok (.aload_n 0, 1) := by decide +kernel
theorem dX5_lost_79 : decode cX5_lost 79 = .ok (.invokevirtual 175, 3) := by decide +kernel
theorem dX5_lost_82 : decode cX5_lost 82 = .ok (.ireturn, 1) := by decide +kernel
theorem dX5_worst_0 : decode cX5_worst 0 = .ok (.iload_n 1, 1) := by decide +kernel
theorem dX5_worst_1 : decode cX5_worst 1 = .ok (.invokestatic 101, 3) := by decide +kernel
theorem dX5_worst_4 : decode cX5_worst 4 = .ok (.ifCond .ne 5, 3) := by decide +kernel
theorem dX5_worst_7 : decode cX5_worst 7 = .ok (.iconst (-1), 1) := by decide +kernel
theorem dX5_worst_8 : decode cX5_worst 8 = .ok (.ireturn, 1) := by decide +kernel
theorem dX5_worst_9 : decode cX5_worst 9 = .ok (.iload_n 2, 1) := by decide +kernel
theorem dX5_worst_10 : decode cX5_worst 10 = .ok (.iconst 0, 1) := by decide +kernel
theorem dX5_worst_11 : decode cX5_worst 11 = .ok (.iconst 2, 1) := by decide +kernel
theorem dX5_worst_12 : decode cX5_worst 12 = .ok (.invokestatic 50, 3) := by decide +kernel
theorem dX5_worst_15 : decode cX5_worst 15 = .ok (.ifCond .ne 6, 3) := by decide +kernel
theorem dX5_worst_18 : decode cX5_worst 18 = .ok (.bipush (-2), 2) := by decide +kernel
theorem dX5_worst_20 : decode cX5_worst 20 = .ok (.ireturn, 1) := by decide +kernel
theorem dX5_worst_21 : decode cX5_worst 21 = .ok (.aload_n 0, 1) := by decide +kernel
theorem dX5_worst_22 : decode cX5_worst 22 = .ok (.aload_n 0, 1) := by decide +kernel
theorem dX5_worst_23 : decode cX5_worst 23 = .ok (.getfield 43, 3) := by decide +kernel
theorem dX5_worst_26 : decode cX5_worst 26 = .ok (.iload_n 1, 1) := by decide +kernel
theorem dX5_worst_27 : decode cX5_worst 27 = .ok (.invokevirtual 146, 3) := by decide +kernel
theorem dX5_worst_30 : decode cX5_worst 30 = .ok (.iconst 0, 1) := by decide +kernel
theorem dX5_worst_31 : decode cX5_worst 31 = .ok (.istore_n 3, 1) := by decide +kernel
theorem dX5_worst_32 : decode cX5_worst 32 = .ok (.iconst 0, 1) := by decide +kernel
theorem dX5_worst_33 : decode cX5_worst 33 = .ok (.istore 4, 2) := by decide +kernel
theorem dX5_worst_35 : decode cX5_worst 35 = .ok (.iconst 0, 1) := by decide +kernel
theorem dX5_worst_36 : decode cX5_worst 36 = .ok (.istore 5, 2) := by decide +kernel
theorem dX5_worst_38 : decode cX5_worst 38 = .ok (.iconst 0, 1) := by decide +kernel
theorem dX5_worst_39 : decode cX5_worst 39 = .ok (.istore 6, 2) := by decide +kernel
theorem dX5_worst_41 : decode cX5_worst 41 = .ok (.iload 6, 2) := by decide +kernel
theorem dX5_worst_43 : decode cX5_worst 43 = .ok (.aload_n 0, 1) := by decide +kernel
theorem dX5_worst_44 : decode cX5_worst 44 = .ok (.getfield 29, 3) := by decide +kernel
theorem dX5_worst_47 : decode cX5_worst 47 = .ok (.getfield 115, 3) := by decide +kernel
theorem dX5_worst_50 : decode cX5_worst 50 = .ok (.if_icmp .ge 61, 3) := by decide +kernel
theorem dX5_worst_53 : decode cX5_worst 53 = .ok (.aload_n 0, 1) := by decide +kernel
theorem dX5_worst_54 : decode cX5_worst 54 = .ok (.getfield 47, 3) := by decide +kernel
theorem dX5_worst_57 : decode cX5_worst 57 = .ok (.aload_n 0, 1) := by decide +kernel
theorem dX5_worst_58 : decode cX5_worst 58 = .ok (.getfield 10, 3) := by decide +kernel
theorem dX5_worst_61 : decode cX5_worst 61 = .ok (.aload_n 0, 1) := by decide +kernel
theorem dX5_worst_62 : decode cX5_worst 62 = .ok (.getfield 29, 3) := by decide +kernel
theorem dX5_worst_65 : decode cX5_worst 65 = .ok (.aload_n 0, 1) := by decide +kernel
theorem dX5_worst_66 : decode cX5_worst 66 = .ok (.getfield 29, 3) := by decide +kernel
theorem dX5_worst_69 : decode cX5_worst 69 = .ok (.getfield 112, 3) := by decide +kernel
theorem dX5_worst_72 : decode cX5_worst 72 = .ok (.iload 6, 2) := by decide +kernel
theorem dX5_worst_74 : decode cX5_worst 74 = .ok (.invokevirtual 141, 3) := by decide +kernel
theorem dX5_worst_77 : decode cX5_worst 77 = .ok (.aload_n 0, 1) := by decide +kernel
theorem dX5_worst_78 : decode cX5_worst 78 = .ok (.invokevirtual 175, 3) := by decide +kernel
theorem dX5_worst_81 : decode cX5_worst 81 = .ok (.istore 7, 2) := by decide +kernel
theorem dX5_worst_83 : decode cX5_worst 83 = .ok (.iload 7, 2) := by decide +kernel
theorem dX5_worst_85 : decode cX5_worst 85 = .ok (.iload 4, 2) := by decide +kernel
theorem dX5_worst_87 : decode cX5_worst 87 = .ok (.if_icmp .le 10, 3) := by decide +kernel
theorem dX5_worst_90 : decode cX5_worst 90 = .ok (.iload 6, 2) := by decide +kernel
theorem dX5_worst_92 : decode cX5_worst 92 = .ok (.istore_n 3, 1) := by decide +kernel
theorem dX5_worst_93 : decode cX5_worst 93 = .ok (.iload 7, 2) := by decide +kernel
theorem dX5_worst_95 : decode cX5_worst 95 = .ok (.istore 4, 2) := by decide +kernel
theorem dX5_worst_97 : decode cX5_worst 97 = .ok (.iload 7, 2) := by decide +kernel
theorem dX5_worst_99 : decode cX5_worst 99 = .ok (.ifCond .ne 6, 3) := by decide +kernel
theorem dX5_worst_102 : decode cX5_worst 102 = .ok (.iinc 5 1, 3) := by decide +kernel
theorem dX5_worst_105 : decode cX5_worst 105 = .ok (.iinc 6 1, 3) := by decide +kernel
theorem dX5_worst_108 : decode cX5_worst 108 = .ok (.goto (-67), 3) := by decide +kernel
theorem dX5_worst_111 : decode cX5_worst 111 = .ok (.iload_n 2, 1) := by decide +kernel
theorem dX5_worst_112 : decode cX5_worst 112 = .ok (.ifCond .ne 7, 3) := by decide +kernel
theorem dX5_worst_115 : decode cX5_worst 115 = .ok (.iload_n 3, 1) := by decide +kernel
theorem dX5_worst_116 : decode cX5_worst 116 = .ok (.goto 15, 3) := by decide +kernel
theorem dX5_worst_119 : decode cX5_worst 119 = .ok (.iload_n 2, 1) := by decide +kernel
theorem dX5_worst_120 : decode cX5_worst 120 = .ok (.iconst 1, 1) := by decide +kernel
theorem dX5_worst_121 : decode cX5_worst 121 = .ok (.if_icmp .ne 8, 3) := by decide +kernel
theorem dX5_worst_124 : decode cX5_worst 124 = .ok (.iload 4, 2) := by decide +kernel
theorem dX5_worst_126 : decode cX5_worst 126 = .ok (.goto 5, 3) := by decide +kernel
theorem dX5_worst_129 : decode cX5_worst 129 = .ok (.iload 5, 2) := by decide +kernel
theorem dX5_worst_131 : decode cX5_worst 131 = .ok (.ireturn, 1) := by decide +kernel
theorem dX5_comes_0 : decode cX5_comes 0 = .ok (.iload_n 1, 1) := by decide +kernel
theorem dX5_comes_1 : decode cX5_comes 1 = .ok (.invokestatic 101, 3) := by decide +kernel
theorem dX5_comes_4 : decode cX5_comes 4 = .ok (.ifCond .eq 14, 3) := by decide +kernel
theorem dX5_comes_7 : decode cX5_comes 7 = .ok (.aload_n 0, 1) := by decide +kernel
theorem dX5_comes_8 : decode cX5_comes 8 = .ok (.getfield 10, 3) := by decide +kernel
theorem dX5_comes_11 : decode cX5_comes 11 = .ok (.iload_n 2, 1) := by decide +kernel
theorem dX5_comes_12 : decode cX5_comes 12 = .ok (.invokevirtual 61, 3) := by decide +kernel
theorem dX5_comes_15 : decode cX5_comes 15 = .ok (.ifCond .ne 5, 3) := by decide +kernel
theorem dX5_comes_18 : decode cX5_comes 18 = .ok (.iconst (-1), 1) := by decide +kernel
theorem dX5_comes_19 : decode cX5_comes 19 = .ok (.ireturn, 1) := by decide +kernel
theorem dX5_comes_20 : decode cX5_comes 20 = .ok (.aload_n 0, 1) := by decide +kernel
theorem dX5_comes_21 : decode cX5_comes 21 = .ok (.getfield 10, 3) := by decide +kernel
theorem dX5_comes_24 : decode cX5_comes 24 = .ok (.iload_n 3, 1) := by decide +kernel
theorem dX5_comes_25 : decode cX5_comes 25 = .ok (.invokevirtual 65, 3) := by decide +kernel
theorem dX5_comes_28 : decode cX5_comes 28 = .ok (.ifCond .eq 13, 3) := by decide +kernel
theorem dX5_comes_31 : decode cX5_comes 31 = .ok (.iload 4, 2) := by decide +kernel
theorem dX5_comes_33 : decode cX5_comes 33 = .ok (.iconst 0, 1) := by decide +kernel
theorem dX5_comes_34 : decode cX5_comes 34 = .ok (.iconst 1, 1) := by decide +kernel
theorem dX5_comes_35 : decode cX5_comes 35 = .ok (.invokestatic 50, 3) := by decide +kernel
theorem dX5_comes_38 : decode cX5_comes 38 = .ok (.ifCond .ne 6, 3) := by decide +kernel
theorem dX5_comes_41 : decode cX5_comes 41 = .ok (.bipush (-2), 2) := by decide +kernel
theorem dX5_comes_43 : decode cX5_comes 43 = .ok (.ireturn, 1) := by decide +kernel
theorem dX5_comes_44 : decode cX5_comes 44 = .ok (.aload_n 0, 1) := by decide +kernel
theorem dX5_comes_45 : decode cX5_comes 45 = .ok (.iload_n 1, 1) := by decide +kernel
theorem dX5_comes_46 : decode cX5_comes 46 = .ok (.invokevirtual 104, 3) := by decide +kernel
theorem dX5_comes_49 : decode cX5_comes 49 = .ok (.iconst 0, 1) := by decide +kernel
theorem dX5_comes_50 : decode cX5_comes 50 = .ok (.istore 5, 2) := by decide +kernel
theorem dX5_comes_52 : decode cX5_comes 52 = .ok (.iconst 0, 1) := by decide +kernel
theorem dX5_comes_53 : decode cX5_comes 53 = .ok (.istore 6, 2) := by decide +kernel
theorem dX5_comes_55 : decode cX5_comes 55 = .ok (.iload 6, 2) := by decide +kernel
theorem dX5_comes_57 : decode cX5_comes 57 = .ok (.aload_n 0, 1) := by decide +kernel
theorem dX5_comes_58 : decode cX5_comes 58 = .ok (.getfield 29, 3) := by decide +kernel
theorem dX5_comes_61 : decode cX5_comes 61 = .ok (.getfield 115, 3) := by decide +kernel
theorem dX5_comes_64 : decode cX5_comes 64 = .ok (.if_icmp .ge 76, 3) := by decide +kernel
theorem dX5_comes_67 : decode cX5_comes 67 = .ok (.aload_n 0, 1) := by decide +kernel
theorem dX5_comes_68 : decode cX5_comes 68 = .ok (.getfield 29, 3) := by decide +kernel
theorem dX5_comes_71 : decode cX5_comes 71 = .ok (.iload 6, 2) := by decide +kernel
theorem dX5_comes_73 : decode cX5_comes 73 = .ok (.iconst 5, 1) := by decide +kernel
theorem dX5_comes_74 : decode cX5_comes 74 = .ok (.invokevirtual 138, 3) := by decide +kernel
theorem dX5_comes_77 : decode cX5_comes 77 = .ok (.iconst 2, 1) := by decide +kernel
theorem dX5_comes_78 : decode cX5_comes 78 = .ok (.if_icmp .ne 7, 3) := by decide +kernel
theorem dX5_comes_81 : decode cX5_comes 81 = .ok (.iconst 1, 1) := by decide +kernel
theorem dX5_comes_82 : decode cX5_comes 82 = .ok (.goto 4, 3) := by decide +kernel
theorem dX5_comes_85 : decode cX5_comes 85 = .ok (.iconst 0, 1) := by decide +kernel
theorem dX5_comes_86 : decode cX5_comes 86 = .ok (.istore 7, 2) := by decide +kernel
theorem dX5_comes_88 : decode cX5_comes 88 = .ok (.aload_n 0, 1) := by decide +kernel
theorem dX5_comes_89 : decode cX5_comes 89 = .ok (.getfield 29, 3) := by decide +kernel
theorem dX5_comes_92 : decode cX5_comes 92 = .ok (.iload 6, 2) := by decide +kernel
theorem dX5_comes_94 : decode cX5_comes 94 = .ok (.iconst 2, 1) := by decide +kernel
theorem dX5_comes_95 : decode cX5_comes 95 = .ok (.invokevirtual 138, 3) := by decide +kernel
theorem dX5_comes_98 : decode cX5_comes 98 = .ok (.iload_n 2, 1) := by decide +kernel
theorem dX5_comes_99 : decode cX5_comes 99 = .ok (.if_icmp .ne 35, 3) := by decide +kernel
theorem dX5_comes_102 : decode cX5_comes 102 = .ok (.aload_n 0, 1) := by decide +kernel
theorem dX5_comes_103 : decode cX5_comes 103 = .ok (.getfield 29, 3) := by decide +kernel
theorem dX5_comes_106 : decode cX5_comes 106 = .ok (.iload 6, 2) := by decide +kernel
theorem dX5_comes_108 : decode cX5_comes 108 = .ok (.iload_n 3, 1) := by decide +kernel
theorem dX5_comes_109 : decode cX5_comes 109 = .ok (.invokevirtual 178, 3) := by decide +kernel
theorem dX5_comes_112 : decode cX5_comes 112 = .ok (.ifCond .eq 22, 3) := by decide +kernel
theorem dX5_comes_115 : decode cX5_comes 115 = .ok (.iload 7, 2) := by decide +kernel
theorem dX5_comes_117 : decode cX5_comes 117 = .ok (.iload 4, 2) := by decide +kernel
theorem dX5_comes_119 : decode cX5_comes 119 = .ok (.iconst 1, 1) := by decide +kernel
theorem dX5_comes_120 : decode cX5_comes 120 = .ok (.if_icmp .ne 7, 3) := by decide +kernel
theorem dX5_comes_123 : decode cX5_comes 123 = .ok (.iconst 1, 1) := by decide +kernel
theorem dX5_comes_124 : decode cX5_comes 124 = .ok (.goto 4, 3) := by decide +kernel
theorem dX5_comes_127 : decode cX5_comes 127 = .ok (.iconst 0, 1) := by decide +kernel
theorem dX5_comes_128 : decode cX5_comes 128 = .ok (.if_icmp .ne 6, 3) := by decide +kernel
theorem dX5_comes_131 : decode cX5_comes 131 = .ok (.iinc 5 1, 3) := by decide +kernel
theorem dX5_comes_134 : decode cX5_comes 134 = .ok (.iinc 6 1, 3) := by decide +kernel
theorem dX5_comes_137 : decode cX5_comes 137 = .ok (.goto (-82), 3) := by decide +kernel
theorem dX5_comes_140 : decode cX5_comes 140 = .ok (.iload 5, 2) := by decide +kernel
theorem dX5_comes_142 : decode cX5_comes 142 = .ok (.ireturn, 1) := by decide +kernel
theorem dX5_image_0 : decode cX5_image 0 = .ok (.iload_n 1, 1) := by decide +kernel
theorem dX5_image_1 : decode cX5_image 1 = .ok (.iconst 0, 1) := by decide +kernel
theorem dX5_image_2 : decode cX5_image 2 = .ok (.iconst 1, 1) := by decide +kernel
theorem dX5_image_3 : decode cX5_image 3 = .ok (.invokestatic 50, 3) := by decide +kernel
theorem dX5_image_6 : decode cX5_image 6 = .ok (.ifCond .ne 6, 3) := by decide +kernel
theorem dX5_image_9 : decode cX5_image 9 = .ok (.bipush (-2), 2) := by decide +kernel
theorem dX5_image_11 : decode cX5_image 11 = .ok (.ireturn, 1) := by decide +kernel
theorem dX5_image_12 : decode cX5_image 12 = .ok (.aload_n 0, 1) := by decide +kernel
theorem dX5_image_13 : decode cX5_image 13 = .ok (.iload_n 1, 1) := by decide +kernel
theorem dX5_image_14 : decode cX5_image 14 = .ok (.invokevirtual 182, 3) := by decide +kernel
theorem dX5_image_17 : decode cX5_image 17 = .ok (.aload_n 0, 1) := by decide +kernel
theorem dX5_image_18 : decode cX5_image 18 = .ok (.getfield 10, 3) := by decide +kernel
theorem dX5_image_21 : decode cX5_image 21 = .ok (.invokevirtual 186, 3) := by decide +kernel
theorem dX5_image_24 : decode cX5_image 24 = .ok (.aload_n 0, 1) := by decide +kernel
theorem dX5_image_25 : decode cX5_image 25 = .ok (.dup, 1) := by decide +kernel
theorem dX5_image_26 : decode cX5_image 26 = .ok (.getfield 22, 3) := by decide +kernel
theorem dX5_image_29 : decode cX5_image 29 = .ok (.iconst 1, 1) := by decide +kernel
theorem dX5_image_30 : decode cX5_image 30 = .ok (.iload_n 1, 1) := by decide +kernel
theorem dX5_image_31 : decode cX5_image 31 = .ok (.ishl, 1) := by decide +kernel
theorem dX5_image_32 : decode cX5_image 32 = .ok (.ior, 1) := by decide +kernel
theorem dX5_image_33 : decode cX5_image 33 = .ok (.putfield 22, 3) := by decide +kernel
theorem dX5_image_36 : decode cX5_image 36 = .ok (.iconst 1, 1) := by decide +kernel
theorem dX5_image_37 : decode cX5_image 37 = .ok (.ireturn, 1) := by decide +kernel
theorem dX5_restore_0 : decode cX5_restore 0 = .ok (.iload_n 1, 1) := by decide +kernel
theorem dX5_restore_1 : decode cX5_restore 1 = .ok (.iconst 0, 1) := by decide +kernel
theorem dX5_restore_2 : decode cX5_restore 2 = .ok (.iconst 1, 1) := by decide +kernel
theorem dX5_restore_3 : decode cX5_restore 3 = .ok (.invokestatic 50, 3) := by decide +kernel
theorem dX5_restore_6 : decode cX5_restore 6 = .ok (.ifCond .ne 6, 3) := by decide +kernel
theorem dX5_restore_9 : decode cX5_restore 9 = .ok (.bipush (-2), 2) := by decide +kernel
theorem dX5_restore_11 : decode cX5_restore 11 = .ok (.ireturn, 1) := by decide +kernel
theorem dX5_restore_12 : decode cX5_restore 12 = .ok (.aload_n 0, 1) := by decide +kernel
theorem dX5_restore_13 : decode cX5_restore 13 = .ok (.getfield 22, 3) := by decide +kernel
theorem dX5_restore_16 : decode cX5_restore 16 = .ok (.iconst 1, 1) := by decide +kernel
theorem dX5_restore_17 : decode cX5_restore 17 = .ok (.iload_n 1, 1) := by decide +kernel
theorem dX5_restore_18 : decode cX5_restore 18 = .ok (.ishl, 1) := by decide +kernel
theorem dX5_restore_19 : decode cX5_restore 19 = .ok (.iand, 1) := by decide +kernel
theorem dX5_restore_20 : decode cX5_restore 20 = .ok (.ifCond .ne 6, 3) := by decide +kernel
theorem dX5_restore_23 : decode cX5_restore 23 = .ok (.bipush (-3), 2) := by decide +kernel
theorem dX5_restore_25 : decode cX5_restore 25 = .ok (.ireturn, 1) := by decide +kernel
theorem dX5_restore_26 : decode cX5_restore 26 = .ok (.aload_n 0, 1) := by decide +kernel
theorem dX5_restore_27 : decode cX5_restore 27 = .ok (.getfield 10, 3) := by decide +kernel
theorem dX5_restore_30 : decode cX5_restore 30 = .ok (.aload_n 0, 1) := by decide +kernel
theorem dX5_restore_31 : decode cX5_restore 31 = .ok (.iload_n 1, 1) := by decide +kernel
theorem dX5_restore_32 : decode cX5_restore 32 = .ok (.invokevirtual 182, 3) := by decide +kernel
theorem dX5_restore_35 : decode cX5_restore 35 = .ok (.invokevirtual 186, 3) := by decide +kernel
theorem dX5_restore_38 : decode cX5_restore 38 = .ok (.iconst 1, 1) := by decide +kernel
theorem dX5_restore_39 : decode cX5_restore 39 = .ok (.ireturn, 1) := by decide +kernel
theorem dX5_count_0 : decode cX5_count 0 = .ok (.iload_n 1, 1) := by decide +kernel
theorem dX5_count_1 : decode cX5_count 1 = .ok (.tableswitch 90 0 6 #[43, 51, 59, 65, 71, 77, 85], 43) := by decide +kernel
theorem dX5_count_44 : decode cX5_count 44 = .ok (.aload_n 0, 1) := by decide +kernel
theorem dX5_count_45 : decode cX5_count 45 = .ok (.getfield 10, 3) := by decide +kernel
theorem dX5_count_48 : decode cX5_count 48 = .ok (.getfield 54, 3) := by decide +kernel
theorem dX5_count_51 : decode cX5_count 51 = .ok (.ireturn, 1) := by decide +kernel
theorem dX5_count_52 : decode cX5_count 52 = .ok (.aload_n 0, 1) := by decide +kernel
theorem dX5_count_53 : decode cX5_count 53 = .ok (.getfield 10, 3) := by decide +kernel
theorem dX5_count_56 : decode cX5_count 56 = .ok (.getfield 162, 3) := by decide +kernel
theorem dX5_count_59 : decode cX5_count 59 = .ok (.ireturn, 1) := by decide +kernel
theorem dX5_count_60 : decode cX5_count 60 = .ok (.aload_n 0, 1) := by decide +kernel
theorem dX5_count_61 : decode cX5_count 61 = .ok (.iconst 0, 1) := by decide +kernel
theorem dX5_count_62 : decode cX5_count 62 = .ok (.invokevirtual 82, 3) := by decide +kernel
theorem dX5_count_65 : decode cX5_count 65 = .ok (.ireturn, 1) := by decide +kernel
theorem dX5_count_66 : decode cX5_count 66 = .ok (.aload_n 0, 1) := by decide +kernel
theorem dX5_count_67 : decode cX5_count 67 = .ok (.iconst 1, 1) := by decide +kernel
theorem dX5_count_68 : decode cX5_count 68 = .ok (.invokevirtual 82, 3) := by decide +kernel
theorem dX5_count_71 : decode cX5_count 71 = .ok (.ireturn, 1) := by decide +kernel
theorem dX5_count_72 : decode cX5_count 72 = .ok (.aload_n 0, 1) := by decide +kernel
theorem dX5_count_73 : decode cX5_count 73 = .ok (.iconst 2, 1) := by decide +kernel
theorem dX5_count_74 : decode cX5_count 74 = .ok (.invokevirtual 82, 3) := by decide +kernel
theorem dX5_count_77 : decode cX5_count 77 = .ok (.ireturn, 1) := by decide +kernel
theorem dX5_count_78 : decode cX5_count 78 = .ok (.aload_n 0, 1) := by decide +kernel
theorem dX5_count_79 : decode cX5_count 79 = .ok (.getfield 10, 3) := by decide +kernel
theorem dX5_count_82 : decode cX5_count 82 = .ok (.invokevirtual 190, 3) := by decide +kernel
theorem dX5_count_85 : decode cX5_count 85 = .ok (.ireturn, 1) := by decide +kernel
theorem dX5_count_86 : decode cX5_count 86 = .ok (.aload_n 0, 1) := by decide +kernel
theorem dX5_count_87 : decode cX5_count 87 = .ok (.getfield 22, 3) := by decide +kernel
theorem dX5_count_90 : decode cX5_count 90 = .ok (.ireturn, 1) := by decide +kernel
theorem dX5_count_91 : decode cX5_count 91 = .ok (.bipush (-2), 2) := by decide +kernel
theorem dX5_count_93 : decode cX5_count 93 = .ok (.ireturn, 1) := by decide +kernel
theorem dX5_isWithin_0 : decode cX5_isWithin 0 = .ok (.iload_n 0, 1) := by decide +kernel
theorem dX5_isWithin_1 : decode cX5_isWithin 1 = .ok (.iload_n 1, 1) := by decide +kernel
theorem dX5_isWithin_2 : decode cX5_isWithin 2 = .ok (.if_icmp .lt 12, 3) := by decide +kernel
theorem dX5_isWithin_5 : decode cX5_isWithin 5 = .ok (.iload_n 0, 1) := by decide +kernel
theorem dX5_isWithin_6 : decode cX5_isWithin 6 = .ok (.iload_n 2, 1) := by decide +kernel
theorem dX5_isWithin_7 : decode cX5_isWithin 7 = .ok (.if_icmp .gt 7, 3) := by decide +kernel
theorem dX5_isWithin_10 : decode cX5_isWithin 10 = .ok (.iconst 1, 1) := by decide +kernel
theorem dX5_isWithin_11 : decode cX5_isWithin 11 = .ok (.goto 4, 3) := by decide +kernel
theorem dX5_isWithin_14 : decode cX5_isWithin 14 = .ok (.iconst 0, 1) := by decide +kernel
theorem dX5_isWithin_15 : decode cX5_isWithin 15 = .ok (.ireturn, 1) := by decide +kernel
theorem dX5_isWay_0 : decode cX5_isWay 0 = .ok (.iload_n 0, 1) := by decide +kernel
theorem dX5_isWay_1 : decode cX5_isWay 1 = .ok (.iconst 0, 1) := by decide +kernel
theorem dX5_isWay_2 : decode cX5_isWay 2 = .ok (.iconst 3, 1) := by decide +kernel
theorem dX5_isWay_3 : decode cX5_isWay 3 = .ok (.invokestatic 50, 3) := by decide +kernel
theorem dX5_isWay_6 : decode cX5_isWay 6 = .ok (.ireturn, 1) := by decide +kernel
theorem dX5_asNumber_0 : decode cX5_asNumber 0 = .ok (.iload_n 0, 1) := by decide +kernel
theorem dX5_asNumber_1 : decode cX5_asNumber 1 = .ok (.ifCond .eq 7, 3) := by decide +kernel
theorem dX5_asNumber_4 : decode cX5_asNumber 4 = .ok (.iconst 1, 1) := by decide +kernel
theorem dX5_asNumber_5 : decode cX5_asNumber 5 = .ok (.goto 4, 3) := by decide +kernel
theorem dX5_asNumber_8 : decode cX5_asNumber 8 = .ok (.iconst 0, 1) := by decide +kernel
theorem dX5_asNumber_9 : decode cX5_asNumber 9 = .ok (.ireturn, 1) := by decide +kernel
theorem dX5_imageOf_0 : decode cX5_imageOf 0 = .ok (.iload_n 1, 1) := by decide +kernel
theorem dX5_imageOf_1 : decode cX5_imageOf 1 = .ok (.ifCond .ne 10, 3) := by decide +kernel
theorem dX5_imageOf_4 : decode cX5_imageOf 4 = .ok (.aload_n 0, 1) := by decide +kernel
theorem dX5_imageOf_5 : decode cX5_imageOf 5 = .ok (.getfield 16, 3) := by decide +kernel
theorem dX5_imageOf_8 : decode cX5_imageOf 8 = .ok (.goto 7, 3) := by decide +kernel
theorem dX5_imageOf_11 : decode cX5_imageOf 11 = .ok (.aload_n 0, 1) := by decide +kernel
theorem dX5_imageOf_12 : decode cX5_imageOf 12 = .ok (.getfield 19, 3) := by decide +kernel
theorem dX5_imageOf_15 : decode cX5_imageOf 15 = .ok (.areturn, 1) := by decide +kernel
theorem dX5_ruleNow_0 : decode cX5_ruleNow 0 = .ok (.iload_n 1, 1) := by decide +kernel
theorem dX5_ruleNow_1 : decode cX5_ruleNow 1 = .ok (.ifCond .ne 13, 3) := by decide +kernel
theorem dX5_ruleNow_4 : decode cX5_ruleNow 4 = .ok (.aload_n 0, 1) := by decide +kernel
theorem dX5_ruleNow_5 : decode cX5_ruleNow 5 = .ok (.getfield 10, 3) := by decide +kernel
theorem dX5_ruleNow_8 : decode cX5_ruleNow 8 = .ok (.getfield 86, 3) := by decide +kernel
theorem dX5_ruleNow_11 : decode cX5_ruleNow 11 = .ok (.goto 25, 3) := by decide +kernel
theorem dX5_ruleNow_14 : decode cX5_ruleNow 14 = .ok (.iload_n 1, 1) := by decide +kernel
theorem dX5_ruleNow_15 : decode cX5_ruleNow 15 = .ok (.iconst 1, 1) := by decide +kernel
theorem dX5_ruleNow_16 : decode cX5_ruleNow 16 = .ok (.if_icmp .ne 13, 3) := by decide +kernel
theorem dX5_ruleNow_19 : decode cX5_ruleNow 19 = .ok (.aload_n 0, 1) := by decide +kernel
theorem dX5_ruleNow_20 : decode cX5_ruleNow 20 = .ok (.getfield 10, 3) := by decide +kernel
theorem dX5_ruleNow_23 : decode cX5_ruleNow 23 = .ok (.getfield 89, 3) := by decide +kernel
theorem dX5_ruleNow_26 : decode cX5_ruleNow 26 = .ok (.goto 10, 3) := by decide +kernel
theorem dX5_ruleNow_29 : decode cX5_ruleNow 29 = .ok (.aload_n 0, 1) := by decide +kernel
theorem dX5_ruleNow_30 : decode cX5_ruleNow 30 = .ok (.getfield 10, 3) := by decide +kernel
theorem dX5_ruleNow_33 : decode cX5_ruleNow 33 = .ok (.getfield 92, 3) := by decide +kernel
theorem dX5_ruleNow_36 : decode cX5_ruleNow 36 = .ok (.ireturn, 1) := by decide +kernel
theorem dX5_write_0 : decode cX5_write 0 = .ok (.aload_n 0, 1) := by decide +kernel
theorem dX5_write_1 : decode cX5_write 1 = .ok (.getfield 29, 3) := by decide +kernel
theorem dX5_write_4 : decode cX5_write 4 = .ok (.iload_n 1, 1) := by decide +kernel
theorem dX5_write_5 : decode cX5_write 5 = .ok (.aload_n 0, 1) := by decide +kernel
theorem dX5_write_6 : decode cX5_write 6 = .ok (.getfield 10, 3) := by decide +kernel
theorem dX5_write_9 : decode cX5_write 9 = .ok (.getfield 54, 3) := by decide +kernel
theorem dX5_write_12 : decode cX5_write 12 = .ok (.aload_n 0, 1) := by decide +kernel
theorem dX5_write_13 : decode cX5_write 13 = .ok (.getfield 10, 3) := by decide +kernel
theorem dX5_write_16 : decode cX5_write 16 = .ok (.getfield 162, 3) := by decide +kernel
theorem dX5_write_19 : decode cX5_write 19 = .ok (.invokevirtual 193, 3) := by decide +kernel
theorem dX5_write_22 : decode cX5_write 22 = .ok (.return_, 1) := by decide +kernel
theorem dX5_playToTheEnd_0 : decode cX5_playToTheEnd 0 = .ok (.aload_n 0, 1) := by decide +kernel
theorem dX5_playToTheEnd_1 : decode cX5_playToTheEnd 1 = .ok (.iload_n 2, 1) := by decide +kernel
theorem dX5_playToTheEnd_2 : decode cX5_playToTheEnd 2 = .ok (.invokevirtual 104, 3) := by decide +kernel
theorem dX5_playToTheEnd_5 : decode cX5_playToTheEnd 5 = .ok (.aload_n 1, 1) := by decide +kernel
theorem dX5_playToTheEnd_6 : decode cX5_playToTheEnd 6 = .ok (.aload_n 0, 1) := by decide +kernel
theorem dX5_playToTheEnd_7 : decode cX5_playToTheEnd 7 = .ok (.getfield 10, 3) := by decide +kernel
theorem dX5_playToTheEnd_10 : decode cX5_playToTheEnd 10 = .ok (.aload_n 0, 1) := by decide +kernel
theorem dX5_playToTheEnd_11 : decode cX5_playToTheEnd 11 = .ok (.getfield 29, 3) := by decide +kernel
theorem dX5_playToTheEnd_14 : decode cX5_playToTheEnd 14 = .ok (.aload_n 0, 1) := by decide +kernel
theorem dX5_playToTheEnd_15 : decode cX5_playToTheEnd 15 = .ok (.getfield 29, 3) := by decide +kernel
theorem dX5_playToTheEnd_18 : decode cX5_playToTheEnd 18 = .ok (.getfield 112, 3) := by decide +kernel
theorem dX5_playToTheEnd_21 : decode cX5_playToTheEnd 21 = .ok (.iconst (-1), 1) := by decide +kernel
theorem dX5_playToTheEnd_22 : decode cX5_playToTheEnd 22 = .ok (.invokevirtual 141, 3) := by decide +kernel
theorem dX5_playToTheEnd_25 : decode cX5_playToTheEnd 25 = .ok (.return_, 1) := by decide +kernel
theorem dX5_timeIfSizeWere_0 : decode cX5_timeIfSizeWere 0 = .ok (.aload_n 0, 1) := by decide +kernel
theorem dX5_timeIfSizeWere_1 : decode cX5_timeIfSizeWere 1 = .ok (.getfield 29, 3) := by decide +kernel
theorem dX5_timeIfSizeWere_4 : decode cX5_timeIfSizeWere 4 = .ok (.iload_n 1, 1) := by decide +kernel
theorem dX5_timeIfSizeWere_5 : decode cX5_timeIfSizeWere 5 = .ok (.aload_n 0, 1) := by decide +kernel
theorem dX5_timeIfSizeWere_6 : decode cX5_timeIfSizeWere 6 = .ok (.getfield 10, 3) := by decide +kernel
theorem dX5_timeIfSizeWere_9 : decode cX5_timeIfSizeWere 9 = .ok (.getfield 54, 3) := by decide +kernel
theorem dX5_timeIfSizeWere_12 : decode cX5_timeIfSizeWere 12 = .ok (.iload_n 2, 1) := by decide +kernel
theorem dX5_timeIfSizeWere_13 : decode cX5_timeIfSizeWere 13 = .ok (.invokevirtual 193, 3) := by decide +kernel
theorem dX5_timeIfSizeWere_16 : decode cX5_timeIfSizeWere 16 = .ok (.aload_n 0, 1) := by decide +kernel
theorem dX5_timeIfSizeWere_17 : decode cX5_timeIfSizeWere 17 = .ok (.getfield 36, 3) := by decide +kernel
theorem dX5_timeIfSizeWere_20 : decode cX5_timeIfSizeWere 20 = .ok (.aload_n 0, 1) := by decide +kernel
theorem dX5_timeIfSizeWere_21 : decode cX5_timeIfSizeWere 21 = .ok (.getfield 10, 3) := by decide +kernel
theorem dX5_timeIfSizeWere_24 : decode cX5_timeIfSizeWere 24 = .ok (.aload_n 0, 1) := by decide +kernel
theorem dX5_timeIfSizeWere_25 : decode cX5_timeIfSizeWere 25 = .ok (.getfield 29, 3) := by decide +kernel
theorem dX5_timeIfSizeWere_28 : decode cX5_timeIfSizeWere 28 = .ok (.invokevirtual 108, 3) := by decide +kernel
theorem dX5_timeIfSizeWere_31 : decode cX5_timeIfSizeWere 31 = .ok (.aload_n 0, 1) := by decide +kernel
theorem dX5_timeIfSizeWere_32 : decode cX5_timeIfSizeWere 32 = .ok (.getfield 36, 3) := by decide +kernel
theorem dX5_timeIfSizeWere_35 : decode cX5_timeIfSizeWere 35 = .ok (.getfield 122, 3) := by decide +kernel
theorem dX5_timeIfSizeWere_38 : decode cX5_timeIfSizeWere 38 = .ok (.ireturn, 1) := by decide +kernel
theorem dX5_allRowsAreOne_0 : decode cX5_allRowsAreOne 0 = .ok (.iconst 1, 1) := by decide +kernel
theorem dX5_allRowsAreOne_1 : decode cX5_allRowsAreOne 1 = .ok (.istore_n 2, 1) := by decide +kernel
theorem dX5_allRowsAreOne_2 : decode cX5_allRowsAreOne 2 = .ok (.iload_n 2, 1) := by decide +kernel
theorem dX5_allRowsAreOne_3 : decode cX5_allRowsAreOne 3 = .ok (.aload_n 0, 1) := by decide +kernel
theorem dX5_allRowsAreOne_4 : decode cX5_allRowsAreOne 4 = .ok (.getfield 10, 3) := by decide +kernel
theorem dX5_allRowsAreOne_7 : decode cX5_allRowsAreOne 7 = .ok (.getfield 54, 3) := by decide +kernel
theorem dX5_allRowsAreOne_10 : decode cX5_allRowsAreOne 10 = .ok (.if_icmp .ge 28, 3) := by decide +kernel
theorem dX5_allRowsAreOne_13 : decode cX5_allRowsAreOne 13 = .ok (.aload_n 1, 1) := by decide +kernel
theorem dX5_allRowsAreOne_14 : decode cX5_allRowsAreOne 14 = .ok (.iload_n 2, 1) := by decide +kernel
theorem dX5_allRowsAreOne_15 : decode cX5_allRowsAreOne 15 = .ok (.aload_n 1, 1) := by decide +kernel
theorem dX5_allRowsAreOne_16 : decode cX5_allRowsAreOne 16 = .ok (.iconst 0, 1) := by decide +kernel
theorem dX5_allRowsAreOne_17 : decode cX5_allRowsAreOne 17 = .ok (.aload_n 0, 1) := by decide +kernel
theorem dX5_allRowsAreOne_18 : decode cX5_allRowsAreOne 18 = .ok (.getfield 10, 3) := by decide +kernel
theorem dX5_allRowsAreOne_21 : decode cX5_allRowsAreOne 21 = .ok (.getfield 162, 3) := by decide +kernel
theorem dX5_allRowsAreOne_24 : decode cX5_allRowsAreOne 24 = .ok (.invokevirtual 165, 3) := by decide +kernel
theorem dX5_allRowsAreOne_27 : decode cX5_allRowsAreOne 27 = .ok (.ifCond .le 5, 3) := by decide +kernel
theorem dX5_allRowsAreOne_30 : decode cX5_allRowsAreOne 30 = .ok (.iconst 0, 1) := by decide +kernel
theorem dX5_allRowsAreOne_31 : decode cX5_allRowsAreOne 31 = .ok (.ireturn, 1) := by decide +kernel
theorem dX5_allRowsAreOne_32 : decode cX5_allRowsAreOne 32 = .ok (.iinc 2 1, 3) := by decide +kernel
theorem dX5_allRowsAreOne_35 : decode cX5_allRowsAreOne 35 = .ok (.goto (-33), 3) := by decide +kernel
theorem dX5_allRowsAreOne_38 : decode cX5_allRowsAreOne 38 = .ok (.iconst 1, 1) := by decide +kernel
theorem dX5_allRowsAreOne_39 : decode cX5_allRowsAreOne 39 = .ok (.ireturn, 1) := by decide +kernel
theorem dX5_placesMixedByRising_0 : decode cX5_placesMixedByRising 0 = .ok (.iconst 0, 1) := by decide +kernel
theorem dX5_placesMixedByRising_1 : decode cX5_placesMixedByRising 1 = .ok (.istore_n 2, 1) := by decide +kernel
theorem dX5_placesMixedByRising_2 : decode cX5_placesMixedByRising 2 = .ok (.iconst 0, 1) := by decide +kernel
theorem dX5_placesMixedByRising_3 : decode cX5_placesMixedByRising 3 = .ok (.istore_n 3, 1) := by decide +kernel
theorem dX5_placesMixedByRising_4 : decode cX5_placesMixedByRising 4 = .ok (.iload_n 3, 1) := by decide +kernel
theorem dX5_placesMixedByRising_5 : decode cX5_placesMixedByRising 5 = .ok (.aload_n 0, 1) := by decide +kernel
theorem dX5_placesMixedByRising_6 : decode cX5_placesMixedByRising 6 = .ok (.getfield 10, 3) := by decide +kernel
theorem dX5_placesMixedByRising_9 : decode cX5_placesMixedByRising 9 = .ok (.getfield 162, 3) := by decide +kernel
theorem dX5_placesMixedByRising_12 : decode cX5_placesMixedByRising 12 = .ok (.if_icmp .ge 29, 3) := by decide +kernel
theorem dX5_placesMixedByRising_15 : decode cX5_placesMixedByRising 15 = .ok (.aload_n 1, 1) := by decide +kernel
theorem dX5_placesMixedByRising_16 : decode cX5_placesMixedByRising 16 = .ok (.iconst 0, 1) := by decide +kernel
theorem dX5_placesMixedByRising_17 : decode cX5_placesMixedByRising 17 = .ok (.iload_n 3, 1) := by decide +kernel
theorem dX5_placesMixedByRising_18 : decode cX5_placesMixedByRising 18 = .ok (.invokevirtual 72, 3) := by decide +kernel
theorem dX5_placesMixedByRising_21 : decode cX5_placesMixedByRising 21 = .ok (.aload_n 0, 1) := by decide +kernel
theorem dX5_placesMixedByRising_22 : decode cX5_placesMixedByRising 22 = .ok (.getfield 10, 3) := by decide +kernel
theorem dX5_placesMixedByRising_25 : decode cX5_placesMixedByRising 25 = .ok (.iload_n 3, 1) := by decide +kernel
theorem dX5_placesMixedByRising_26 : decode cX5_placesMixedByRising 26 = .ok (.invokevirtual 195, 3) := by decide +kernel
theorem dX5_placesMixedByRising_29 : decode cX5_placesMixedByRising 29 = .ok (.if_icmp .ne 6, 3) := by decide +kernel
theorem dX5_placesMixedByRising_32 : decode cX5_placesMixedByRising 32 = .ok (.iinc 2 1, 3) := by decide +kernel
theorem dX5_placesMixedByRising_35 : decode cX5_placesMixedByRising 35 = .ok (.iinc 3 1, 3) := by decide +kernel
theorem dX5_placesMixedByRising_38 : decode cX5_placesMixedByRising 38 = .ok (.goto (-34), 3) := by decide +kernel
theorem dX5_placesMixedByRising_41 : decode cX5_placesMixedByRising 41 = .ok (.iload_n 2, 1) := by decide +kernel
theorem dX5_placesMixedByRising_42 : decode cX5_placesMixedByRising 42 = .ok (.ireturn, 1) := by decide +kernel
theorem dX5_machinesThatDiffer_0 : decode cX5_machinesThatDiffer 0 = .ok (.iconst 0, 1) := by decide +kernel
theorem dX5_machinesThatDiffer_1 : decode cX5_machinesThatDiffer 1 = .ok (.istore_n 1, 1) := by decide +kernel
theorem dX5_machinesThatDiffer_2 : decode cX5_machinesThatDiffer 2 = .ok (.iconst 0, 1) := by decide +kernel
theorem dX5_machinesThatDiffer_3 : decode cX5_machinesThatDiffer 3 = .ok (.istore_n 2, 1) := by decide +kernel
theorem dX5_machinesThatDiffer_4 : decode cX5_machinesThatDiffer 4 = .ok (.iload_n 2, 1) := by decide +kernel
theorem dX5_machinesThatDiffer_5 : decode cX5_machinesThatDiffer 5 = .ok (.aload_n 0, 1) := by decide +kernel
theorem dX5_machinesThatDiffer_6 : decode cX5_machinesThatDiffer 6 = .ok (.getfield 10, 3) := by decide +kernel
theorem dX5_machinesThatDiffer_9 : decode cX5_machinesThatDiffer 9 = .ok (.getfield 54, 3) := by decide +kernel
theorem dX5_machinesThatDiffer_12 : decode cX5_machinesThatDiffer 12 = .ok (.if_icmp .ge 44, 3) := by decide +kernel
theorem dX5_machinesThatDiffer_15 : decode cX5_machinesThatDiffer 15 = .ok (.aload_n 0, 1) := by decide +kernel
theorem dX5_machinesThatDiffer_16 : decode cX5_machinesThatDiffer 16 = .ok (.getfield 43, 3) := by decide +kernel
theorem dX5_machinesThatDiffer_19 : decode cX5_machinesThatDiffer 19 = .ok (.getfield 145, 3) := by decide +kernel
theorem dX5_machinesThatDiffer_22 : decode cX5_machinesThatDiffer 22 = .ok (.iload_n 2, 1) := by decide +kernel
theorem dX5_machinesThatDiffer_23 : decode cX5_machinesThatDiffer 23 = .ok (.aload_n 0, 1) := by decide +kernel
theorem dX5_machinesThatDiffer_24 : decode cX5_machinesThatDiffer 24 = .ok (.getfield 47, 3) := by decide +kernel
theorem dX5_machinesThatDiffer_27 : decode cX5_machinesThatDiffer 27 = .ok (.getfield 145, 3) := by decide +kernel
theorem dX5_machinesThatDiffer_30 : decode cX5_machinesThatDiffer 30 = .ok (.iload_n 2, 1) := by decide +kernel
theorem dX5_machinesThatDiffer_31 : decode cX5_machinesThatDiffer 31 = .ok (.aload_n 0, 1) := by decide +kernel
theorem dX5_machinesThatDiffer_32 : decode cX5_machinesThatDiffer 32 = .ok (.getfield 10, 3) := by decide +kernel
theorem dX5_machinesThatDiffer_35 : decode cX5_machinesThatDiffer 35 = .ok (.getfield 162, 3) := by decide +kernel
theorem dX5_machinesThatDiffer_38 : decode cX5_machinesThatDiffer 38 = .ok (.invokevirtual 165, 3) := by decide +kernel
theorem dX5_machinesThatDiffer_41 : decode cX5_machinesThatDiffer 41 = .ok (.ifCond .le 9, 3) := by decide +kernel
theorem dX5_machinesThatDiffer_44 : decode cX5_machinesThatDiffer 44 = .ok (.iload_n 1, 1) := by decide +kernel
theorem dX5_machinesThatDiffer_45 : decode cX5_machinesThatDiffer 45 = .ok (.iconst 1, 1) := by decide +kernel
theorem dX5_machinesThatDiffer_46 : decode cX5_machinesThatDiffer 46 = .ok (.iload_n 2, 1) := by decide +kernel
theorem dX5_machinesThatDiffer_47 : decode cX5_machinesThatDiffer 47 = .ok (.ishl, 1) := by decide +kernel
theorem dX5_machinesThatDiffer_48 : decode cX5_machinesThatDiffer 48 = .ok (.ior, 1) := by decide +kernel
theorem dX5_machinesThatDiffer_49 : decode cX5_machinesThatDiffer 49 = .ok (.istore_n 1, 1) := by decide +kernel
theorem dX5_machinesThatDiffer_50 : decode cX5_machinesThatDiffer 50 = .ok (.iinc 2 1, 3) := by decide +kernel
theorem dX5_machinesThatDiffer_53 : decode cX5_machinesThatDiffer 53 = .ok (.goto (-49), 3) := by decide +kernel
theorem dX5_machinesThatDiffer_56 : decode cX5_machinesThatDiffer 56 = .ok (.iload_n 1, 1) := by decide +kernel
theorem dX5_machinesThatDiffer_57 : decode cX5_machinesThatDiffer 57 = .ok (.ireturn, 1) := by decide +kernel
theorem dX5_numbersThatDiffer_0 : decode cX5_numbersThatDiffer 0 = .ok (.iconst 0, 1) := by decide +kernel
theorem dX5_numbersThatDiffer_1 : decode cX5_numbersThatDiffer 1 = .ok (.istore_n 1, 1) := by decide +kernel
theorem dX5_numbersThatDiffer_2 : decode cX5_numbersThatDiffer 2 = .ok (.iconst 0, 1) := by decide +kernel
theorem dX5_numbersThatDiffer_3 : decode cX5_numbersThatDiffer 3 = .ok (.istore_n 2, 1) := by decide +kernel
theorem dX5_numbersThatDiffer_4 : decode cX5_numbersThatDiffer 4 = .ok (.iload_n 2, 1) := by decide +kernel
theorem dX5_numbersThatDiffer_5 : decode cX5_numbersThatDiffer 5 = .ok (.aload_n 0, 1) := by decide +kernel
theorem dX5_numbersThatDiffer_6 : decode cX5_numbersThatDiffer 6 = .ok (.getfield 10, 3) := by decide +kernel
theorem dX5_numbersThatDiffer_9 : decode cX5_numbersThatDiffer 9 = .ok (.getfield 54, 3) := by decide +kernel
theorem dX5_numbersThatDiffer_12 : decode cX5_numbersThatDiffer 12 = .ok (.if_icmp .ge 38, 3) := by decide +kernel
theorem dX5_numbersThatDiffer_15 : decode cX5_numbersThatDiffer 15 = .ok (.iload_n 1, 1) := by decide +kernel
theorem dX5_numbersThatDiffer_16 : decode cX5_numbersThatDiffer 16 = .ok (.aload_n 0, 1) := by decide +kernel
theorem dX5_numbersThatDiffer_17 : decode cX5_numbersThatDiffer 17 = .ok (.getfield 43, 3) := by decide +kernel
theorem dX5_numbersThatDiffer_20 : decode cX5_numbersThatDiffer 20 = .ok (.getfield 145, 3) := by decide +kernel
theorem dX5_numbersThatDiffer_23 : decode cX5_numbersThatDiffer 23 = .ok (.iload_n 2, 1) := by decide +kernel
theorem dX5_numbersThatDiffer_24 : decode cX5_numbersThatDiffer 24 = .ok (.aload_n 0, 1) := by decide +kernel
theorem dX5_numbersThatDiffer_25 : decode cX5_numbersThatDiffer 25 = .ok (.getfield 47, 3) := by decide +kernel
theorem dX5_numbersThatDiffer_28 : decode cX5_numbersThatDiffer 28 = .ok (.getfield 145, 3) := by decide +kernel
theorem dX5_numbersThatDiffer_31 : decode cX5_numbersThatDiffer 31 = .ok (.iload_n 2, 1) := by decide +kernel
theorem dX5_numbersThatDiffer_32 : decode cX5_numbersThatDiffer 32 = .ok (.aload_n 0, 1) := by decide +kernel
theorem dX5_numbersThatDiffer_33 : decode cX5_numbersThatDiffer 33 = .ok (.getfield 10, 3) := by decide +kernel
theorem dX5_numbersThatDiffer_36 : decode cX5_numbersThatDiffer 36 = .ok (.getfield 162, 3) := by decide +kernel
theorem dX5_numbersThatDiffer_39 : decode cX5_numbersThatDiffer 39 = .ok (.invokevirtual 165, 3) := by decide +kernel
theorem dX5_numbersThatDiffer_42 : decode cX5_numbersThatDiffer 42 = .ok (.iadd, 1) := by decide +kernel
theorem dX5_numbersThatDiffer_43 : decode cX5_numbersThatDiffer 43 = .ok (.istore_n 1, 1) := by decide +kernel
theorem dX5_numbersThatDiffer_44 : decode cX5_numbersThatDiffer 44 = .ok (.iinc 2 1, 3) := by decide +kernel
theorem dX5_numbersThatDiffer_47 : decode cX5_numbersThatDiffer 47 = .ok (.goto (-43), 3) := by decide +kernel
theorem dX5_numbersThatDiffer_50 : decode cX5_numbersThatDiffer 50 = .ok (.iload_n 1, 1) := by decide +kernel
theorem dX5_numbersThatDiffer_51 : decode cX5_numbersThatDiffer 51 = .ok (.ireturn, 1) := by decide +kernel
theorem dJ9_max_7cf53_0 : decode cJ9_max_7cf53 0 = .ok (.iload_n 0, 1) := by decide +kernel
theorem dJ9_max_7cf53_1 : decode cJ9_max_7cf53 1 = .ok (.iload_n 1, 1) := by decide +kernel
theorem dJ9_max_7cf53_2 : decode cJ9_max_7cf53 2 = .ok (.if_icmp .lt 7, 3) := by decide +kernel
theorem dJ9_max_7cf53_5 : decode cJ9_max_7cf53 5 = .ok (.iload_n 0, 1) := by decide +kernel
theorem dJ9_max_7cf53_6 : decode cJ9_max_7cf53 6 = .ok (.goto 4, 3) := by decide +kernel
theorem dJ9_max_7cf53_9 : decode cJ9_max_7cf53 9 = .ok (.iload_n 1, 1) := by decide +kernel
theorem dJ9_max_7cf53_10 : decode cJ9_max_7cf53 10 = .ok (.ireturn, 1) := by decide +kernel
theorem dJ9_min_7cf53_0 : decode cJ9_min_7cf53 0 = .ok (.iload_n 0, 1) := by decide +kernel
theorem dJ9_min_7cf53_1 : decode cJ9_min_7cf53 1 = .ok (.iload_n 1, 1) := by decide +kernel
theorem dJ9_min_7cf53_2 : decode cJ9_min_7cf53 2 = .ok (.if_icmp .gt 7, 3) := by decide +kernel
theorem dJ9_min_7cf53_5 : decode cJ9_min_7cf53 5 = .ok (.iload_n 0, 1) := by decide +kernel
theorem dJ9_min_7cf53_6 : decode cJ9_min_7cf53 6 = .ok (.goto 4, 3) := by decide +kernel
theorem dJ9_min_7cf53_9 : decode cJ9_min_7cf53 9 = .ok (.iload_n 1, 1) := by decide +kernel
theorem dJ9_min_7cf53_10 : decode cJ9_min_7cf53 10 = .ok (.ireturn, 1) := by decide +kernel
theorem dJ7_fill_53178_0 : decode cJ7_fill_53178 0 = .ok (.iconst 0, 1) := by decide +kernel
theorem dJ7_fill_53178_1 : decode cJ7_fill_53178 1 = .ok (.istore_n 2, 1) := by decide +kernel
theorem dJ7_fill_53178_2 : decode cJ7_fill_53178 2 = .ok (.aload_n 0, 1) := by decide +kernel
theorem dJ7_fill_53178_3 : decode cJ7_fill_53178 3 = .ok (.arraylength, 1) := by decide +kernel
theorem dJ7_fill_53178_4 : decode cJ7_fill_53178 4 = .ok (.istore_n 3, 1) := by decide +kernel
theorem dJ7_fill_53178_5 : decode cJ7_fill_53178 5 = .ok (.iload_n 2, 1) := by decide +kernel
theorem dJ7_fill_53178_6 : decode cJ7_fill_53178 6 = .ok (.iload_n 3, 1) := by decide +kernel
theorem dJ7_fill_53178_7 : decode cJ7_fill_53178 7 = .ok (.if_icmp .ge 13, 3) := by decide +kernel
theorem dJ7_fill_53178_10 : decode cJ7_fill_53178 10 = .ok (.aload_n 0, 1) := by decide +kernel
theorem dJ7_fill_53178_11 : decode cJ7_fill_53178 11 = .ok (.iload_n 2, 1) := by decide +kernel
theorem dJ7_fill_53178_12 : decode cJ7_fill_53178 12 = .ok (.iload_n 1, 1) := by decide +kernel
theorem dJ7_fill_53178_13 : decode cJ7_fill_53178 13 = .ok (.iastore, 1) := by decide +kernel
theorem dJ7_fill_53178_14 : decode cJ7_fill_53178 14 = .ok (.iinc 2 1, 3) := by decide +kernel
theorem dJ7_fill_53178_17 : decode cJ7_fill_53178 17 = .ok (.goto (-12), 3) := by decide +kernel
theorem dJ7_fill_53178_20 : decode cJ7_fill_53178 20 = .ok (.return_, 1) := by decide +kernel
