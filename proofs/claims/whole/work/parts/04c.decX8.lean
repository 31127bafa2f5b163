theorem dX8_init_0 : decode cX8_init 0 = .ok (.aload_n 0, 1) := by decide +kernel
theorem dX8_init_1 : decode cX8_init 1 = .ok (.invokespecial 1, 3) := by decide +kernel
theorem dX8_init_4 : decode cX8_init 4 = .ok (.aload_n 0, 1) := by decide +kernel
theorem dX8_init_5 : decode cX8_init 5 = .ok (.sipush 168, 3) := by decide +kernel
theorem dX8_init_8 : decode cX8_init 8 = .ok (.newarray .int, 2) := by decide +kernel
theorem dX8_init_10 : decode cX8_init 10 = .ok (.putfield 7, 3) := by decide +kernel
theorem dX8_init_13 : decode cX8_init 13 = .ok (.aload_n 0, 1) := by decide +kernel
theorem dX8_init_14 : decode cX8_init 14 = .ok (.sipush 1008, 3) := by decide +kernel
theorem dX8_init_17 : decode cX8_init 17 = .ok (.newarray .int, 2) := by decide +kernel
theorem dX8_init_19 : decode cX8_init 19 = .ok (.putfield 13, 3) := by decide +kernel
theorem dX8_init_22 : decode cX8_init 22 = .ok (.aload_n 0, 1) := by decide +kernel
theorem dX8_init_23 : decode cX8_init 23 = .ok (.bipush 60, 2) := by decide +kernel
theorem dX8_init_25 : decode cX8_init 25 = .ok (.newarray .int, 2) := by decide +kernel
theorem dX8_init_27 : decode cX8_init 27 = .ok (.putfield 16, 3) := by decide +kernel
theorem dX8_init_30 : decode cX8_init 30 = .ok (.aload_n 0, 1) := by decide +kernel
theorem dX8_init_31 : decode cX8_init 31 = .ok (.sipush 168, 3) := by decide +kernel
theorem dX8_init_34 : decode cX8_init 34 = .ok (.newarray .int, 2) := by decide +kernel
theorem dX8_init_36 : decode cX8_init 36 = .ok (.putfield 19, 3) := by decide +kernel
theorem dX8_init_39 : decode cX8_init 39 = .ok (.aload_n 0, 1) := by decide +kernel
theorem dX8_init_40 : decode cX8_init 40 = .ok (.bipush 80, 2) := by decide +kernel
theorem dX8_init_42 : decode cX8_init 42 = .ok (.newarray .int, 2) := by decide +kernel
theorem dX8_init_44 : decode cX8_init 44 = .ok (.putfield 22, 3) := by decide +kernel
theorem dX8_init_47 : decode cX8_init 47 = .ok (.aload_n 0, 1) := by decide +kernel
theorem dX8_init_48 : decode cX8_init 48 = .ok (.getfield 7, 3) := by decide +kernel
theorem dX8_init_51 : decode cX8_init 51 = .ok (.iconst 0, 1) := by decide +kernel
theorem dX8_init_52 : decode cX8_init 52 = .ok (.iconst 1, 1) := by decide +kernel
theorem dX8_init_53 : decode cX8_init 53 = .ok (.iastore, 1) := by decide +kernel
theorem dX8_init_54 : decode cX8_init 54 = .ok (.aload_n 0, 1) := by decide +kernel
theorem dX8_init_55 : decode cX8_init 55 = .ok (.getfield 7, 3) := by decide +kernel
theorem dX8_init_58 : decode cX8_init 58 = .ok (.sipush 162, 3) := by decide +kernel
theorem dX8_init_61 : decode cX8_init 61 = .ok (.bipush 10, 2) := by decide +kernel
theorem dX8_init_63 : decode cX8_init 63 = .ok (.iastore, 1) := by decide +kernel
theorem dX8_init_64 : decode cX8_init 64 = .ok (.return_, 1) := by decide +kernel
theorem dX8_thrown_0 : decode cX8_thrown 0 = .ok (.aload_n 0, 1) := by decide +kernel
theorem dX8_thrown_1 : decode cX8_thrown 1 = .ok (.getfield 25, 3) := by decide +kernel
theorem dX8_thrown_4 : decode cX8_thrown 4 = .ok (.ireturn, 1) := by decide +kernel
theorem dX8_within_0 : decode cX8_within 0 = .ok (.iload_n 0, 1) := by decide +kernel
theorem dX8_within_1 : decode cX8_within 1 = .ok (.iload_n 1, 1) := by decide +kernel
theorem dX8_within_2 : decode cX8_within 2 = .ok (.if_icmp .lt 12, 3) := by decide +kernel
theorem dX8_within_5 : decode cX8_within 5 = .ok (.iload_n 0, 1) := by decide +kernel
theorem dX8_within_6 : decode cX8_within 6 = .ok (.iload_n 2, 1) := by decide +kernel
theorem dX8_within_7 : decode cX8_within 7 = .ok (.if_icmp .gt 7, 3) := by decide +kernel
theorem dX8_within_10 : decode cX8_within 10 = .ok (.iconst 1, 1) := by decide +kernel
theorem dX8_within_11 : decode cX8_within 11 = .ok (.goto 4, 3) := by decide +kernel
theorem dX8_within_14 : decode cX8_within 14 = .ok (.iconst 0, 1) := by decide +kernel
theorem dX8_within_15 : decode cX8_within 15 = .ok (.ireturn, 1) := by decide +kernel
theorem dX8_ofBox_0 : decode cX8_ofBox 0 = .ok (.aload_n 0, 1) := by decide +kernel
theorem dX8_ofBox_1 : decode cX8_ofBox 1 = .ok (.getfield 7, 3) := by decide +kernel
theorem dX8_ofBox_4 : decode cX8_ofBox 4 = .ok (.iconst 1, 1) := by decide +kernel
theorem dX8_ofBox_5 : decode cX8_ofBox 5 = .ok (.bipush 7, 2) := by decide +kernel
theorem dX8_ofBox_7 : decode cX8_ofBox 7 = .ok (.iload_n 1, 1) := by decide +kernel
theorem dX8_ofBox_8 : decode cX8_ofBox 8 = .ok (.imul, 1) := by decide +kernel
theorem dX8_ofBox_9 : decode cX8_ofBox 9 = .ok (.iadd, 1) := by decide +kernel
theorem dX8_ofBox_10 : decode cX8_ofBox 10 = .ok (.iload_n 2, 1) := by decide +kernel
theorem dX8_ofBox_11 : decode cX8_ofBox 11 = .ok (.iadd, 1) := by decide +kernel
theorem dX8_ofBox_12 : decode cX8_ofBox 12 = .ok (.iaload, 1) := by decide +kernel
theorem dX8_ofBox_13 : decode cX8_ofBox 13 = .ok (.ireturn, 1) := by decide +kernel
theorem dX8_ofLantern_0 : decode cX8_ofLantern 0 = .ok (.aload_n 0, 1) := by decide +kernel
theorem dX8_ofLantern_1 : decode cX8_ofLantern 1 = .ok (.getfield 7, 3) := by decide +kernel
theorem dX8_ofLantern_4 : decode cX8_ofLantern 4 = .ok (.bipush 86, 2) := by decide +kernel
theorem dX8_ofLantern_6 : decode cX8_ofLantern 6 = .ok (.iconst 3, 1) := by decide +kernel
theorem dX8_ofLantern_7 : decode cX8_ofLantern 7 = .ok (.iload_n 1, 1) := by decide +kernel
theorem dX8_ofLantern_8 : decode cX8_ofLantern 8 = .ok (.imul, 1) := by decide +kernel
theorem dX8_ofLantern_9 : decode cX8_ofLantern 9 = .ok (.iadd, 1) := by decide +kernel
theorem dX8_ofLantern_10 : decode cX8_ofLantern 10 = .ok (.iload_n 2, 1) := by decide +kernel
theorem dX8_ofLantern_11 : decode cX8_ofLantern 11 = .ok (.iadd, 1) := by decide +kernel
theorem dX8_ofLantern_12 : decode cX8_ofLantern 12 = .ok (.iaload, 1) := by decide +kernel
theorem dX8_ofLantern_13 : decode cX8_ofLantern 13 = .ok (.ireturn, 1) := by decide +kernel
theorem dX8_ofFault_0 : decode cX8_ofFault 0 = .ok (.aload_n 0, 1) := by decide +kernel
theorem dX8_ofFault_1 : decode cX8_ofFault 1 = .ok (.getfield 7, 3) := by decide +kernel
theorem dX8_ofFault_4 : decode cX8_ofFault 4 = .ok (.sipush 135, 3) := by decide +kernel
theorem dX8_ofFault_7 : decode cX8_ofFault 7 = .ok (.iconst 3, 1) := by decide +kernel
theorem dX8_ofFault_8 : decode cX8_ofFault 8 = .ok (.iload_n 1, 1) := by decide +kernel
theorem dX8_ofFault_9 : decode cX8_ofFault 9 = .ok (.imul, 1) := by decide +kernel
theorem dX8_ofFault_10 : decode cX8_ofFault 10 = .ok (.iadd, 1) := by decide +kernel
theorem dX8_ofFault_11 : decode cX8_ofFault 11 = .ok (.iload_n 2, 1) := by decide +kernel
theorem dX8_ofFault_12 : decode cX8_ofFault 12 = .ok (.iadd, 1) := by decide +kernel
theorem dX8_ofFault_13 : decode cX8_ofFault 13 = .ok (.iaload, 1) := by decide +kernel
theorem dX8_ofFault_14 : decode cX8_ofFault 14 = .ok (.ireturn, 1) := by decide +kernel
theorem dX8_isBox_0 : decode cX8_isBox 0 = .ok (.iload_n 1, 1) := by decide +kernel
theorem dX8_isBox_1 : decode cX8_isBox 1 = .ok (.iconst 0, 1) := by decide +kernel
theorem dX8_isBox_2 : decode cX8_isBox 2 = .ok (.aload_n 0, 1) := by decide +kernel
theorem dX8_isBox_3 : decode cX8_isBox 3 = .ok (.getfield 7, 3) := by decide +kernel
theorem dX8_isBox_6 : decode cX8_isBox 6 = .ok (.iconst 0, 1) := by decide +kernel
theorem dX8_isBox_7 : decode cX8_isBox 7 = .ok (.iaload, 1) := by decide +kernel
theorem dX8_isBox_8 : decode cX8_isBox 8 = .ok (.iconst 1, 1) := by decide +kernel
theorem dX8_isBox_9 : decode cX8_isBox 9 = .ok (.isub, 1) := by decide +kernel
theorem dX8_isBox_10 : decode cX8_isBox 10 = .ok (.invokestatic 29, 3) := by decide +kernel
theorem dX8_isBox_13 : decode cX8_isBox 13 = .ok (.ireturn, 1) := by decide +kernel
theorem dX8_isFed_0 : decode cX8_isFed 0 = .ok (.iload_n 1, 1) := by decide +kernel
theorem dX8_isFed_1 : decode cX8_isFed 1 = .ok (.iconst 1, 1) := by decide +kernel
theorem dX8_isFed_2 : decode cX8_isFed 2 = .ok (.aload_n 0, 1) := by decide +kernel
theorem dX8_isFed_3 : decode cX8_isFed 3 = .ok (.getfield 7, 3) := by decide +kernel
theorem dX8_isFed_6 : decode cX8_isFed 6 = .ok (.iconst 0, 1) := by decide +kernel
theorem dX8_isFed_7 : decode cX8_isFed 7 = .ok (.iaload, 1) := by decide +kernel
theorem dX8_isFed_8 : decode cX8_isFed 8 = .ok (.iconst 1, 1) := by decide +kernel
theorem dX8_isFed_9 : decode cX8_isFed 9 = .ok (.isub, 1) := by decide +kernel
theorem dX8_isFed_10 : decode cX8_isFed 10 = .ok (.invokestatic 29, 3) := by decide +kernel
theorem dX8_isFed_13 : decode cX8_isFed 13 = .ok (.ireturn, 1) := by decide +kernel
theorem dX8_isTerminal_0 : decode cX8_isTerminal 0 = .ok (.iload_n 0, 1) := by decide +kernel
theorem dX8_isTerminal_1 : decode cX8_isTerminal 1 = .ok (.iconst 0, 1) := by decide +kernel
theorem dX8_isTerminal_2 : decode cX8_isTerminal 2 = .ok (.iconst 1, 1) := by decide +kernel
theorem dX8_isTerminal_3 : decode cX8_isTerminal 3 = .ok (.invokestatic 29, 3) := by decide +kernel
theorem dX8_isTerminal_6 : decode cX8_isTerminal 6 = .ok (.ireturn, 1) := by decide +kernel
theorem dX8_above_0 : decode cX8_above 0 = .ok (.aload_n 0, 1) := by decide +kernel
theorem dX8_above_1 : decode cX8_above 1 = .ok (.iload_n 1, 1) := by decide +kernel
theorem dX8_above_2 : decode cX8_above 2 = .ok (.iconst 1, 1) := by decide +kernel
theorem dX8_above_3 : decode cX8_above 3 = .ok (.invokevirtual 33, 3) := by decide +kernel
theorem dX8_above_6 : decode cX8_above 6 = .ok (.iconst 1, 1) := by decide +kernel
theorem dX8_above_7 : decode cX8_above 7 = .ok (.if_icmp .ne 9, 3) := by decide +kernel
theorem dX8_above_10 : decode cX8_above 10 = .ok (.iconst 1, 1) := by decide +kernel
theorem dX8_above_11 : decode cX8_above 11 = .ok (.iload_n 2, 1) := by decide +kernel
theorem dX8_above_12 : decode cX8_above 12 = .ok (.isub, 1) := by decide +kernel
theorem dX8_above_13 : decode cX8_above 13 = .ok (.goto 4, 3) := by decide +kernel
theorem dX8_above_16 : decode cX8_above 16 = .ok (.iload_n 2, 1) := by decide +kernel
theorem dX8_above_17 : decode cX8_above 17 = .ok (.ireturn, 1) := by decide +kernel
theorem dX8_pole_0 : decode cX8_pole 0 = .ok (.iload_n 2, 1) := by decide +kernel
theorem dX8_pole_1 : decode cX8_pole 1 = .ok (.istore_n 3, 1) := by decide +kernel
theorem dX8_pole_2 : decode cX8_pole 2 = .ok (.iload_n 1, 1) := by decide +kernel
theorem dX8_pole_3 : decode cX8_pole 3 = .ok (.istore 4, 2) := by decide +kernel
theorem dX8_pole_5 : decode cX8_pole 5 = .ok (.iload 4, 2) := by decide +kernel
theorem dX8_pole_7 : decode cX8_pole 7 = .ok (.ifCond .le 23, 3) := by decide +kernel
theorem dX8_pole_10 : decode cX8_pole 10 = .ok (.aload_n 0, 1) := by decide +kernel
theorem dX8_pole_11 : decode cX8_pole 11 = .ok (.iload 4, 2) := by decide +kernel
theorem dX8_pole_13 : decode cX8_pole 13 = .ok (.iload_n 3, 1) := by decide +kernel
theorem dX8_pole_14 : decode cX8_pole 14 = .ok (.invokevirtual 37, 3) := by decide +kernel
theorem dX8_pole_17 : decode cX8_pole 17 = .ok (.istore_n 3, 1) := by decide +kernel
theorem dX8_pole_18 : decode cX8_pole 18 = .ok (.aload_n 0, 1) := by decide +kernel
theorem dX8_pole_19 : decode cX8_pole 19 = .ok (.iload 4, 2) := by decide +kernel
theorem dX8_pole_21 : decode cX8_pole 21 = .ok (.iconst 0, 1) := by decide +kernel
theorem dX8_pole_22 : decode cX8_pole 22 = .ok (.invokevirtual 33, 3) := by decide +kernel
theorem dX8_pole_25 : decode cX8_pole 25 = .ok (.istore 4, 2) := by decide +kernel
theorem dX8_pole_27 : decode cX8_pole 27 = .ok (.goto (-22), 3) := by decide +kernel
theorem dX8_pole_30 : decode cX8_pole 30 = .ok (.iload_n 3, 1) := by decide +kernel
theorem dX8_pole_31 : decode cX8_pole 31 = .ok (.ireturn, 1) := by decide +kernel
theorem dX8_depth_0 : decode cX8_depth 0 = .ok (.iconst 0, 1) := by decide +kernel
theorem dX8_depth_1 : decode cX8_depth 1 = .ok (.istore_n 2, 1) := by decide +kernel
theorem dX8_depth_2 : decode cX8_depth 2 = .ok (.iload_n 1, 1) := by decide +kernel
theorem dX8_depth_3 : decode cX8_depth 3 = .ok (.istore_n 3, 1) := by decide +kernel
theorem dX8_depth_4 : decode cX8_depth 4 = .ok (.iload_n 3, 1) := by decide +kernel
theorem dX8_depth_5 : decode cX8_depth 5 = .ok (.ifCond .le 16, 3) := by decide +kernel
theorem dX8_depth_8 : decode cX8_depth 8 = .ok (.iinc 2 1, 3) := by decide +kernel
theorem dX8_depth_11 : decode cX8_depth 11 = .ok (.aload_n 0, 1) := by decide +kernel
theorem dX8_depth_12 : decode cX8_depth 12 = .ok (.iload_n 3, 1) := by decide +kernel
theorem dX8_depth_13 : decode cX8_depth 13 = .ok (.iconst 0, 1) := by decide +kernel
theorem dX8_depth_14 : decode cX8_depth 14 = .ok (.invokevirtual 33, 3) := by decide +kernel
theorem dX8_depth_17 : decode cX8_depth 17 = .ok (.istore_n 3, 1) := by decide +kernel
theorem dX8_depth_18 : decode cX8_depth 18 = .ok (.goto (-14), 3) := by decide +kernel
theorem dX8_depth_21 : decode cX8_depth 21 = .ok (.iload_n 2, 1) := by decide +kernel
theorem dX8_depth_22 : decode cX8_depth 22 = .ok (.ireturn, 1) := by decide +kernel
theorem dX8_isSwitched_0 : decode cX8_isSwitched 0 = .ok (.iconst 1, 1) := by decide +kernel
theorem dX8_isSwitched_1 : decode cX8_isSwitched 1 = .ok (.istore_n 2, 1) := by decide +kernel
theorem dX8_isSwitched_2 : decode cX8_isSwitched 2 = .ok (.iload_n 1, 1) := by decide +kernel
theorem dX8_isSwitched_3 : decode cX8_isSwitched 3 = .ok (.istore_n 3, 1) := by decide +kernel
theorem dX8_isSwitched_4 : decode cX8_isSwitched 4 = .ok (.iload_n 3, 1) := by decide +kernel
theorem dX8_isSwitched_5 : decode cX8_isSwitched 5 = .ok (.ifCond .le 33, 3) := by decide +kernel
theorem dX8_isSwitched_8 : decode cX8_isSwitched 8 = .ok (.iload_n 2, 1) := by decide +kernel
theorem dX8_isSwitched_9 : decode cX8_isSwitched 9 = .ok (.ifCond .eq 17, 3) := by decide +kernel
theorem dX8_isSwitched_12 : decode cX8_isSwitched 12 = .ok (.aload_n 0, 1) := by decide +kernel
theorem dX8_isSwitched_13 : decode cX8_isSwitched 13 = .ok (.iload_n 3, 1) := by decide +kernel
theorem dX8_isSwitched_14 : decode cX8_isSwitched 14 = .ok (.iconst 2, 1) := by decide +kernel
theorem dX8_isSwitched_15 : decode cX8_isSwitched 15 = .ok (.invokevirtual 33, 3) := by decide +kernel
theorem dX8_isSwitched_18 : decode cX8_isSwitched 18 = .ok (.iconst 1, 1) := by decide +kernel
theorem dX8_isSwitched_19 : decode cX8_isSwitched 19 = .ok (.if_icmp .ne 7, 3) := by decide +kernel
theorem dX8_isSwitched_22 : decode cX8_isSwitched 22 = .ok (.iconst 1, 1) := by decide +kernel
theorem dX8_isSwitched_23 : decode cX8_isSwitched 23 = .ok (.goto 4, 3) := by decide +kernel
theorem dX8_isSwitched_26 : decode cX8_isSwitched 26 = .ok (.iconst 0, 1) := by decide +kernel
theorem dX8_isSwitched_27 : decode cX8_isSwitched 27 = .ok (.istore_n 2, 1) := by decide +kernel
theorem dX8_isSwitched_28 : decode cX8_isSwitched 28 = .ok (.aload_n 0, 1) := by decide +kernel
theorem dX8_isSwitched_29 : decode cX8_isSwitched 29 = .ok (.iload_n 3, 1) := by decide +kernel
theorem dX8_isSwitched_30 : decode cX8_isSwitched 30 = .ok (.iconst 0, 1) := by decide +kernel
theorem dX8_isSwitched_31 : decode cX8_isSwitched 31 = .ok (.invokevirtual 33, 3) := by decide +kernel
theorem dX8_isSwitched_34 : decode cX8_isSwitched 34 = .ok (.istore_n 3, 1) := by decide +kernel
theorem dX8_isSwitched_35 : decode cX8_isSwitched 35 = .ok (.goto (-31), 3) := by decide +kernel
theorem dX8_isSwitched_38 : decode cX8_isSwitched 38 = .ok (.iload_n 2, 1) := by decide +kernel
theorem dX8_isSwitched_39 : decode cX8_isSwitched 39 = .ok (.ireturn, 1) := by decide +kernel
theorem dX8_isWhole_0 : decode cX8_isWhole 0 = .ok (.iconst 1, 1) := by decide +kernel
theorem dX8_isWhole_1 : decode cX8_isWhole 1 = .ok (.istore_n 3, 1) := by decide +kernel
theorem dX8_isWhole_2 : decode cX8_isWhole 2 = .ok (.iload_n 2, 1) := by decide +kernel
theorem dX8_isWhole_3 : decode cX8_isWhole 3 = .ok (.istore 4, 2) := by decide +kernel
theorem dX8_isWhole_5 : decode cX8_isWhole 5 = .ok (.iload_n 1, 1) := by decide +kernel
theorem dX8_isWhole_6 : decode cX8_isWhole 6 = .ok (.istore 5, 2) := by decide +kernel
theorem dX8_isWhole_8 : decode cX8_isWhole 8 = .ok (.iload 5, 2) := by decide +kernel
theorem dX8_isWhole_10 : decode cX8_isWhole 10 = .ok (.ifCond .le 48, 3) := by decide +kernel
theorem dX8_isWhole_13 : decode cX8_isWhole 13 = .ok (.iload_n 3, 1) := by decide +kernel
theorem dX8_isWhole_14 : decode cX8_isWhole 14 = .ok (.ifCond .eq 20, 3) := by decide +kernel
theorem dX8_isWhole_17 : decode cX8_isWhole 17 = .ok (.aload_n 0, 1) := by decide +kernel
theorem dX8_isWhole_18 : decode cX8_isWhole 18 = .ok (.iload 5, 2) := by decide +kernel
theorem dX8_isWhole_20 : decode cX8_isWhole 20 = .ok (.iconst 5, 1) := by decide +kernel
theorem dX8_isWhole_21 : decode cX8_isWhole 21 = .ok (.iload 4, 2) := by decide +kernel
theorem dX8_isWhole_23 : decode cX8_isWhole 23 = .ok (.iadd, 1) := by decide +kernel
theorem dX8_isWhole_24 : decode cX8_isWhole 24 = .ok (.invokevirtual 33, 3) := by decide +kernel
theorem dX8_isWhole_27 : decode cX8_isWhole 27 = .ok (.ifCond .ne 7, 3) := by decide +kernel
theorem dX8_isWhole_30 : decode cX8_isWhole 30 = .ok (.iconst 1, 1) := by decide +kernel
theorem dX8_isWhole_31 : decode cX8_isWhole 31 = .ok (.goto 4, 3) := by decide +kernel
theorem dX8_isWhole_34 : decode cX8_isWhole 34 = .ok (.iconst 0, 1) := by decide +kernel
theorem dX8_isWhole_35 : decode cX8_isWhole 35 = .ok (.istore_n 3, 1) := by decide +kernel
theorem dX8_isWhole_36 : decode cX8_isWhole 36 = .ok (.aload_n 0, 1) := by decide +kernel
theorem dX8_isWhole_37 : decode cX8_isWhole 37 = .ok (.iload 5, 2) := by decide +kernel
theorem dX8_isWhole_39 : decode cX8_isWhole 39 = .ok (.iload 4, 2) := by decide +kernel
theorem dX8_isWhole_41 : decode cX8_isWhole 41 = .ok (.invokevirtual 37, 3) := by decide +kernel
theorem dX8_isWhole_44 : decode cX8_isWhole 44 = .ok (.istore 4, 2) := by decide +kernel
theorem dX8_isWhole_46 : decode cX8_isWhole 46 = .ok (.aload_n 0, 1) := by decide +kernel
theorem dX8_isWhole_47 : decode cX8_isWhole 47 = .ok (.iload 5, 2) := by decide +kernel
theorem dX8_isWhole_49 : decode cX8_isWhole 49 = .ok (.iconst 0, 1) := by decide +kernel
theorem dX8_isWhole_50 : decode cX8_isWhole 50 = .ok (.invokevirtual 33, 3) := by decide +kernel
theorem dX8_isWhole_53 : decode cX8_isWhole 53 = .ok (.istore 5, 2) := by decide +kernel
theorem dX8_isWhole_55 : decode cX8_isWhole 55 = .ok (.goto (-47), 3) := by decide +kernel
theorem dX8_isWhole_58 : decode cX8_isWhole 58 = .ok (.iload_n 3, 1) := by decide +kernel
theorem dX8_isWhole_59 : decode cX8_isWhole 59 = .ok (.ireturn, 1) := by decide +kernel
theorem dX8_isAlive_0 : decode cX8_isAlive 0 = .ok (.aload_n 0, 1) := by decide +kernel
theorem dX8_isAlive_1 : decode cX8_isAlive 1 = .ok (.iload_n 1, 1) := by decide +kernel
theorem dX8_isAlive_2 : decode cX8_isAlive 2 = .ok (.invokevirtual 40, 3) := by decide +kernel
theorem dX8_isAlive_5 : decode cX8_isAlive 5 = .ok (.ifCond .eq 16, 3) := by decide +kernel
theorem dX8_isAlive_8 : decode cX8_isAlive 8 = .ok (.aload_n 0, 1) := by decide +kernel
theorem dX8_isAlive_9 : decode cX8_isAlive 9 = .ok (.iload_n 1, 1) := by decide +kernel
theorem dX8_isAlive_10 : decode cX8_isAlive 10 = .ok (.iload_n 2, 1) := by decide +kernel
theorem dX8_isAlive_11 : decode cX8_isAlive 11 = .ok (.invokevirtual 44, 3) := by decide +kernel
theorem dX8_isAlive_14 : decode cX8_isAlive 14 = .ok (.ifCond .eq 7, 3) := by decide +kernel
theorem dX8_isAlive_17 : decode cX8_isAlive 17 = .ok (.iconst 1, 1) := by decide +kernel
theorem dX8_isAlive_18 : decode cX8_isAlive 18 = .ok (.goto 4, 3) := by decide +kernel
theorem dX8_isAlive_21 : decode cX8_isAlive 21 = .ok (.iconst 0, 1) := by decide +kernel
theorem dX8_isAlive_22 : decode cX8_isAlive 22 = .ok (.ireturn, 1) := by decide +kernel
theorem dX8_comesBy_0 : decode cX8_comesBy 0 = .ok (.iload_n 1, 1) := by decide +kernel
theorem dX8_comesBy_1 : decode cX8_comesBy 1 = .ok (.istore 5, 2) := by decide +kernel
theorem dX8_comesBy_3 : decode cX8_comesBy 3 = .ok (.iload_n 2, 1) := by decide +kernel
theorem dX8_comesBy_4 : decode cX8_comesBy 4 = .ok (.istore 6, 2) := by decide +kernel
theorem dX8_comesBy_6 : decode cX8_comesBy 6 = .ok (.iload 5, 2) := by decide +kernel
theorem dX8_comesBy_8 : decode cX8_comesBy 8 = .ok (.iload_n 3, 1) := by decide +kernel
theorem dX8_comesBy_9 : decode cX8_comesBy 9 = .ok (.if_icmp .le 25, 3) := by decide +kernel
theorem dX8_comesBy_12 : decode cX8_comesBy 12 = .ok (.aload_n 0, 1) := by decide +kernel
theorem dX8_comesBy_13 : decode cX8_comesBy 13 = .ok (.iload 5, 2) := by decide +kernel
theorem dX8_comesBy_15 : decode cX8_comesBy 15 = .ok (.iload 6, 2) := by decide +kernel
theorem dX8_comesBy_17 : decode cX8_comesBy 17 = .ok (.invokevirtual 37, 3) := by decide +kernel
theorem dX8_comesBy_20 : decode cX8_comesBy 20 = .ok (.istore 6, 2) := by decide +kernel
theorem dX8_comesBy_22 : decode cX8_comesBy 22 = .ok (.aload_n 0, 1) := by decide +kernel
theorem dX8_comesBy_23 : decode cX8_comesBy 23 = .ok (.iload 5, 2) := by decide +kernel
theorem dX8_comesBy_25 : decode cX8_comesBy 25 = .ok (.iconst 0, 1) := by decide +kernel
theorem dX8_comesBy_26 : decode cX8_comesBy 26 = .ok (.invokevirtual 33, 3) := by decide +kernel
theorem dX8_comesBy_29 : decode cX8_comesBy 29 = .ok (.istore 5, 2) := by decide +kernel
theorem dX8_comesBy_31 : decode cX8_comesBy 31 = .ok (.goto (-25), 3) := by decide +kernel
theorem dX8_comesBy_34 : decode cX8_comesBy 34 = .ok (.iload 5, 2) := by decide +kernel
theorem dX8_comesBy_36 : decode cX8_comesBy 36 = .ok (.iload_n 3, 1) := by decide +kernel
theorem dX8_comesBy_37 : decode cX8_comesBy 37 = .ok (.if_icmp .ne 14, 3) := by decide +kernel
theorem dX8_comesBy_40 : decode cX8_comesBy 40 = .ok (.iload 6, 2) := by decide +kernel
theorem dX8_comesBy_42 : decode cX8_comesBy 42 = .ok (.iload 4, 2) := by decide +kernel
theorem dX8_comesBy_44 : decode cX8_comesBy 44 = .ok (.if_icmp .ne 7, 3) := by decide +kernel
theorem dX8_comesBy_47 : decode cX8_comesBy 47 = .ok (.iconst 1, 1) := by decide +kernel
theorem dX8_comesBy_48 : decode cX8_comesBy 48 = .ok (.goto 4, 3) := by decide +kernel
theorem dX8_comesBy_51 : decode cX8_comesBy 51 = .ok (.iconst 0, 1) := by decide +kernel
theorem dX8_comesBy_52 : decode cX8_comesBy 52 = .ok (.ireturn, 1) := by decide +kernel
theorem dX8_isBehind_0 : decode cX8_isBehind 0 = .ok (.iload_n 1, 1) := by decide +kernel
theorem dX8_isBehind_1 : decode cX8_isBehind 1 = .ok (.istore_n 3, 1) := by decide +kernel
theorem dX8_isBehind_2 : decode cX8_isBehind 2 = .ok (.iload_n 3, 1) := by decide +kernel
theorem dX8_isBehind_3 : decode cX8_isBehind 3 = .ok (.iload_n 2, 1) := by decide +kernel
theorem dX8_isBehind_4 : decode cX8_isBehind 4 = .ok (.if_icmp .le 13, 3) := by decide +kernel
theorem dX8_isBehind_7 : decode cX8_isBehind 7 = .ok (.aload_n 0, 1) := by decide +kernel
theorem dX8_isBehind_8 : decode cX8_isBehind 8 = .ok (.iload_n 3, 1) := by decide +kernel
theorem dX8_isBehind_9 : decode cX8_isBehind 9 = .ok (.iconst 0, 1) := by decide +kernel
theorem dX8_isBehind_10 : decode cX8_isBehind 10 = .ok (.invokevirtual 33, 3) := by decide +kernel
theorem dX8_isBehind_13 : decode cX8_isBehind 13 = .ok (.istore_n 3, 1) := by decide +kernel
theorem dX8_isBehind_14 : decode cX8_isBehind 14 = .ok (.goto (-12), 3) := by decide +kernel
theorem dX8_isBehind_17 : decode cX8_isBehind 17 = .ok (.iload_n 3, 1) := by decide +kernel
theorem dX8_isBehind_18 : decode cX8_isBehind 18 = .ok (.iload_n 2, 1) := by decide +kernel
theorem dX8_isBehind_19 : decode cX8_isBehind 19 = .ok (.if_icmp .ne 7, 3) := by decide +kernel
theorem dX8_isBehind_22 : decode cX8_isBehind 22 = .ok (.iconst 1, 1) := by decide +kernel
theorem dX8_isBehind_23 : decode cX8_isBehind 23 = .ok (.goto 4, 3) := by decide +kernel
theorem dX8_isBehind_26 : decode cX8_isBehind 26 = .ok (.iconst 0, 1) := by decide +kernel
theorem dX8_isBehind_27 : decode cX8_isBehind 27 = .ok (.ireturn, 1) := by decide +kernel
theorem dX8_dark_0 : decode cX8_dark 0 = .ok (.aload_n 0, 1) := by decide +kernel
theorem dX8_dark_1 : decode cX8_dark 1 = .ok (.iload_n 1, 1) := by decide +kernel
theorem dX8_dark_2 : decode cX8_dark 2 = .ok (.iconst 0, 1) := by decide +kernel
theorem dX8_dark_3 : decode cX8_dark 3 = .ok (.invokevirtual 48, 3) := by decide +kernel
theorem dX8_dark_6 : decode cX8_dark 6 = .ok (.istore_n 2, 1) := by decide +kernel
theorem dX8_dark_7 : decode cX8_dark 7 = .ok (.aload_n 0, 1) := by decide +kernel
theorem dX8_dark_8 : decode cX8_dark 8 = .ok (.iload_n 2, 1) := by decide +kernel
theorem dX8_dark_9 : decode cX8_dark 9 = .ok (.invokevirtual 40, 3) := by decide +kernel
theorem dX8_dark_12 : decode cX8_dark 12 = .ok (.ifCond .ne 5, 3) := by decide +kernel
theorem dX8_dark_15 : decode cX8_dark 15 = .ok (.iconst 1, 1) := by decide +kernel
theorem dX8_dark_16 : decode cX8_dark 16 = .ok (.ireturn, 1) := by decide +kernel
theorem dX8_dark_17 : decode cX8_dark 17 = .ok (.aload_n 0, 1) := by decide +kernel
theorem dX8_dark_18 : decode cX8_dark 18 = .ok (.iload_n 2, 1) := by decide +kernel
theorem dX8_dark_19 : decode cX8_dark 19 = .ok (.iconst 0, 1) := by decide +kernel
theorem dX8_dark_20 : decode cX8_dark 20 = .ok (.invokevirtual 44, 3) := by decide +kernel
theorem dX8_dark_23 : decode cX8_dark 23 = .ok (.ifCond .ne 7, 3) := by decide +kernel
theorem dX8_dark_26 : decode cX8_dark 26 = .ok (.iconst 2, 1) := by decide +kernel
theorem dX8_dark_27 : decode cX8_dark 27 = .ok (.goto 41, 3) := by decide +kernel
theorem dX8_dark_30 : decode cX8_dark 30 = .ok (.aload_n 0, 1) := by decide +kernel
theorem dX8_dark_31 : decode cX8_dark 31 = .ok (.iload_n 2, 1) := by decide +kernel
theorem dX8_dark_32 : decode cX8_dark 32 = .ok (.iconst 1, 1) := by decide +kernel
theorem dX8_dark_33 : decode cX8_dark 33 = .ok (.invokevirtual 44, 3) := by decide +kernel
theorem dX8_dark_36 : decode cX8_dark 36 = .ok (.ifCond .ne 7, 3) := by decide +kernel
theorem dX8_dark_39 : decode cX8_dark 39 = .ok (.iconst 3, 1) := by decide +kernel
theorem dX8_dark_40 : decode cX8_dark 40 = .ok (.goto 28, 3) := by decide +kernel
theorem dX8_dark_43 : decode cX8_dark 43 = .ok (.aload_n 0, 1) := by decide +kernel
theorem dX8_dark_44 : decode cX8_dark 44 = .ok (.iload_n 1, 1) := by decide +kernel
theorem dX8_dark_45 : decode cX8_dark 45 = .ok (.iconst 2, 1) := by decide +kernel
theorem dX8_dark_46 : decode cX8_dark 46 = .ok (.invokevirtual 48, 3) := by decide +kernel
theorem dX8_dark_49 : decode cX8_dark 49 = .ok (.iconst 1, 1) := by decide +kernel
theorem dX8_dark_50 : decode cX8_dark 50 = .ok (.if_icmp .ne 17, 3) := by decide +kernel
theorem dX8_dark_53 : decode cX8_dark 53 = .ok (.aload_n 0, 1) := by decide +kernel
theorem dX8_dark_54 : decode cX8_dark 54 = .ok (.iload_n 2, 1) := by decide +kernel
theorem dX8_dark_55 : decode cX8_dark 55 = .ok (.iconst 0, 1) := by decide +kernel
theorem dX8_dark_56 : decode cX8_dark 56 = .ok (.invokevirtual 51, 3) := by decide +kernel
theorem dX8_dark_59 : decode cX8_dark 59 = .ok (.iconst 1, 1) := by decide +kernel
theorem dX8_dark_60 : decode cX8_dark 60 = .ok (.if_icmp .ne 7, 3) := by decide +kernel
theorem dX8_dark_63 : decode cX8_dark 63 = .ok (.iconst 4, 1) := by decide +kernel
theorem dX8_dark_64 : decode cX8_dark 64 = .ok (.goto 4, 3) := by decide +kernel
theorem dX8_dark_67 : decode cX8_dark 67 = .ok (.iconst 0, 1) := by decide +kernel
theorem dX8_dark_68 : decode cX8_dark 68 = .ok (.ireturn, 1) := by decide +kernel
theorem dX8_burning_0 : decode cX8_burning 0 = .ok (.iconst 0, 1) := by decide +kernel
theorem dX8_burning_1 : decode cX8_burning 1 = .ok (.istore_n 1, 1) := by decide +kernel
theorem dX8_burning_2 : decode cX8_burning 2 = .ok (.iconst 0, 1) := by decide +kernel
theorem dX8_burning_3 : decode cX8_burning 3 = .ok (.istore_n 2, 1) := by decide +kernel
theorem dX8_burning_4 : decode cX8_burning 4 = .ok (.iload_n 2, 1) := by decide +kernel
theorem dX8_burning_5 : decode cX8_burning 5 = .ok (.aload_n 0, 1) := by decide +kernel
theorem dX8_burning_6 : decode cX8_burning 6 = .ok (.getfield 7, 3) := by decide +kernel
theorem dX8_burning_9 : decode cX8_burning 9 = .ok (.bipush 85, 2) := by decide +kernel
theorem dX8_burning_11 : decode cX8_burning 11 = .ok (.iaload, 1) := by decide +kernel
theorem dX8_burning_12 : decode cX8_burning 12 = .ok (.if_icmp .ge 25, 3) := by decide +kernel
theorem dX8_burning_15 : decode cX8_burning 15 = .ok (.iload_n 1, 1) := by decide +kernel
theorem dX8_burning_16 : decode cX8_burning 16 = .ok (.aload_n 0, 1) := by decide +kernel
theorem dX8_burning_17 : decode cX8_burning 17 = .ok (.iload_n 2, 1) := by decide +kernel
theorem dX8_burning_18 : decode cX8_burning 18 = .ok (.invokevirtual 54, 3) := by decide +kernel
theorem dX8_burning_21 : decode cX8_burning 21 = .ok (.ifCond .ne 7, 3) := by decide +kernel
theorem dX8_burning_24 : decode cX8_burning 24 = .ok (.iconst 1, 1) := by decide +kernel
theorem dX8_burning_25 : decode cX8_burning 25 = .ok (.goto 4, 3) := by decide +kernel
theorem dX8_burning_28 : decode cX8_burning 28 = .ok (.iconst 0, 1) := by decide +kernel
theorem dX8_burning_29 : decode cX8_burning 29 = .ok (.iadd, 1) := by decide +kernel
theorem dX8_burning_30 : decode cX8_burning 30 = .ok (.istore_n 1, 1) := by decide +kernel
theorem dX8_burning_31 : decode cX8_burning 31 = .ok (.iinc 2 1, 3) := by decide +kernel
theorem dX8_burning_34 : decode cX8_burning 34 = .ok (.goto (-30), 3) := by decide +kernel
theorem dX8_burning_37 : decode cX8_burning 37 = .ok (.iload_n 1, 1) := by decide +kernel
theorem dX8_burning_38 : decode cX8_burning 38 = .ok (.ireturn, 1) := by decide +kernel
theorem dX8_drawn_0 : decode cX8_drawn 0 = .ok (.iconst 0, 1) := by decide +kernel
theorem dX8_drawn_1 : decode cX8_drawn 1 = .ok (.istore_n 1, 1) := by decide +kernel
theorem dX8_drawn_2 : decode cX8_drawn 2 = .ok (.iconst 0, 1) := by decide +kernel
theorem dX8_drawn_3 : decode cX8_drawn 3 = .ok (.istore_n 2, 1) := by decide +kernel
theorem dX8_drawn_4 : decode cX8_drawn 4 = .ok (.iload_n 2, 1) := by decide +kernel
theorem dX8_drawn_5 : decode cX8_drawn 5 = .ok (.aload_n 0, 1) := by decide +kernel
theorem dX8_drawn_6 : decode cX8_drawn 6 = .ok (.getfield 7, 3) := by decide +kernel
theorem dX8_drawn_9 : decode cX8_drawn 9 = .ok (.bipush 85, 2) := by decide +kernel
theorem dX8_drawn_11 : decode cX8_drawn 11 = .ok (.iaload, 1) := by decide +kernel
theorem dX8_drawn_12 : decode cX8_drawn 12 = .ok (.if_icmp .ge 30, 3) := by decide +kernel
theorem dX8_drawn_15 : decode cX8_drawn 15 = .ok (.iload_n 1, 1) := by decide +kernel
theorem dX8_drawn_16 : decode cX8_drawn 16 = .ok (.aload_n 0, 1) := by decide +kernel
theorem dX8_drawn_17 : decode cX8_drawn 17 = .ok (.iload_n 2, 1) := by decide +kernel
theorem dX8_drawn_18 : decode cX8_drawn 18 = .ok (.invokevirtual 54, 3) := by decide +kernel
theorem dX8_drawn_21 : decode cX8_drawn 21 = .ok (.ifCond .ne 12, 3) := by decide +kernel
theorem dX8_drawn_24 : decode cX8_drawn 24 = .ok (.aload_n 0, 1) := by decide +kernel
theorem dX8_drawn_25 : decode cX8_drawn 25 = .ok (.iload_n 2, 1) := by decide +kernel
theorem dX8_drawn_26 : decode cX8_drawn 26 = .ok (.iconst 1, 1) := by decide +kernel
theorem dX8_drawn_27 : decode cX8_drawn 27 = .ok (.invokevirtual 48, 3) := by decide +kernel
theorem dX8_drawn_30 : decode cX8_drawn 30 = .ok (.goto 4, 3) := by decide +kernel
theorem dX8_drawn_33 : decode cX8_drawn 33 = .ok (.iconst 0, 1) := by decide +kernel
theorem dX8_drawn_34 : decode cX8_drawn 34 = .ok (.iadd, 1) := by decide +kernel
theorem dX8_drawn_35 : decode cX8_drawn 35 = .ok (.istore_n 1, 1) := by decide +kernel
theorem dX8_drawn_36 : decode cX8_drawn 36 = .ok (.iinc 2 1, 3) := by decide +kernel
theorem dX8_drawn_39 : decode cX8_drawn 39 = .ok (.goto (-35), 3) := by decide +kernel
theorem dX8_drawn_42 : decode cX8_drawn 42 = .ok (.iload_n 1, 1) := by decide +kernel
theorem dX8_drawn_43 : decode cX8_drawn 43 = .ok (.ireturn, 1) := by decide +kernel
theorem dX8_isLive_0 : decode cX8_isLive 0 = .ok (.aload_n 0, 1) := by decide +kernel
theorem dX8_isLive_1 : decode cX8_isLive 1 = .ok (.aload_n 0, 1) := by decide +kernel
theorem dX8_isLive_2 : decode cX8_isLive 2 = .ok (.iload_n 1, 1) := by decide +kernel
theorem dX8_isLive_3 : decode cX8_isLive 3 = .ok (.iconst 0, 1) := by decide +kernel
theorem dX8_isLive_4 : decode cX8_isLive 4 = .ok (.invokevirtual 58, 3) := by decide +kernel
theorem dX8_isLive_7 : decode cX8_isLive 7 = .ok (.aload_n 0, 1) := by decide +kernel
theorem dX8_isLive_8 : decode cX8_isLive 8 = .ok (.iload_n 1, 1) := by decide +kernel
theorem dX8_isLive_9 : decode cX8_isLive 9 = .ok (.iconst 1, 1) := by decide +kernel
theorem dX8_isLive_10 : decode cX8_isLive 10 = .ok (.invokevirtual 58, 3) := by decide +kernel
theorem dX8_isLive_13 : decode cX8_isLive 13 = .ok (.invokevirtual 61, 3) := by decide +kernel
theorem dX8_isLive_16 : decode cX8_isLive 16 = .ok (.ireturn, 1) := by decide +kernel
theorem dX8_faultPole_0 : decode cX8_faultPole 0 = .ok (.aload_n 0, 1) := by decide +kernel
theorem dX8_faultPole_1 : decode cX8_faultPole 1 = .ok (.aload_n 0, 1) := by decide +kernel
theorem dX8_faultPole_2 : decode cX8_faultPole 2 = .ok (.iload_n 1, 1) := by decide +kernel
theorem dX8_faultPole_3 : decode cX8_faultPole 3 = .ok (.iconst 0, 1) := by decide +kernel
theorem dX8_faultPole_4 : decode cX8_faultPole 4 = .ok (.invokevirtual 58, 3) := by decide +kernel
theorem dX8_faultPole_7 : decode cX8_faultPole 7 = .ok (.aload_n 0, 1) := by decide +kernel
theorem dX8_faultPole_8 : decode cX8_faultPole 8 = .ok (.iload_n 1, 1) := by decide +kernel
theorem dX8_faultPole_9 : decode cX8_faultPole 9 = .ok (.iconst 1, 1) := by decide +kernel
theorem dX8_faultPole_10 : decode cX8_faultPole 10 = .ok (.invokevirtual 58, 3) := by decide +kernel
theorem dX8_faultPole_13 : decode cX8_faultPole 13 = .ok (.invokevirtual 51, 3) := by decide +kernel
theorem dX8_faultPole_16 : decode cX8_faultPole 16 = .ok (.ireturn, 1) := by decide +kernel
theorem dX8_lampOf_0 : decode cX8_lampOf 0 = .ok (.iconst 0, 1) := by decide +kernel
theorem dX8_lampOf_1 : decode cX8_lampOf 1 = .ok (.istore_n 2, 1) := by decide +kernel
theorem dX8_lampOf_2 : decode cX8_lampOf 2 = .ok (.iconst 0, 1) := by decide +kernel
theorem dX8_lampOf_3 : decode cX8_lampOf 3 = .ok (.istore_n 3, 1) := by decide +kernel
theorem dX8_lampOf_4 : decode cX8_lampOf 4 = .ok (.iload_n 3, 1) := by decide +kernel
theorem dX8_lampOf_5 : decode cX8_lampOf 5 = .ok (.aload_n 0, 1) := by decide +kernel
theorem dX8_lampOf_6 : decode cX8_lampOf 6 = .ok (.getfield 7, 3) := by decide +kernel
theorem dX8_lampOf_9 : decode cX8_lampOf 9 = .ok (.sipush 134, 3) := by decide +kernel
theorem dX8_lampOf_12 : decode cX8_lampOf 12 = .ok (.iaload, 1) := by decide +kernel
theorem dX8_lampOf_13 : decode cX8_lampOf 13 = .ok (.if_icmp .ge 39, 3) := by decide +kernel
theorem dX8_lampOf_16 : decode cX8_lampOf 16 = .ok (.iload_n 2, 1) := by decide +kernel
theorem dX8_lampOf_17 : decode cX8_lampOf 17 = .ok (.aload_n 0, 1) := by decide +kernel
theorem dX8_lampOf_18 : decode cX8_lampOf 18 = .ok (.iload_n 3, 1) := by decide +kernel
theorem dX8_lampOf_19 : decode cX8_lampOf 19 = .ok (.invokevirtual 64, 3) := by decide +kernel
theorem dX8_lampOf_22 : decode cX8_lampOf 22 = .ok (.ifCond .eq 21, 3) := by decide +kernel
theorem dX8_lampOf_25 : decode cX8_lampOf 25 = .ok (.aload_n 0, 1) := by decide +kernel
theorem dX8_lampOf_26 : decode cX8_lampOf 26 = .ok (.iload_n 3, 1) := by decide +kernel
theorem dX8_lampOf_27 : decode cX8_lampOf 27 = .ok (.invokevirtual 67, 3) := by decide +kernel
theorem dX8_lampOf_30 : decode cX8_lampOf 30 = .ok (.iload_n 1, 1) := by decide +kernel
theorem dX8_lampOf_31 : decode cX8_lampOf 31 = .ok (.if_icmp .ne 12, 3) := by decide +kernel
theorem dX8_lampOf_34 : decode cX8_lampOf 34 = .ok (.aload_n 0, 1) := by decide +kernel
theorem dX8_lampOf_35 : decode cX8_lampOf 35 = .ok (.iload_n 3, 1) := by decide +kernel
theorem dX8_lampOf_36 : decode cX8_lampOf 36 = .ok (.iconst 2, 1) := by decide +kernel
theorem dX8_lampOf_37 : decode cX8_lampOf 37 = .ok (.invokevirtual 58, 3) := by decide +kernel
theorem dX8_lampOf_40 : decode cX8_lampOf 40 = .ok (.goto 4, 3) := by decide +kernel
theorem dX8_lampOf_43 : decode cX8_lampOf 43 = .ok (.iconst 0, 1) := by decide +kernel
theorem dX8_lampOf_44 : decode cX8_lampOf 44 = .ok (.iadd, 1) := by decide +kernel
theorem dX8_lampOf_45 : decode cX8_lampOf 45 = .ok (.istore_n 2, 1) := by decide +kernel
theorem dX8_lampOf_46 : decode cX8_lampOf 46 = .ok (.iinc 3 1, 3) := by decide +kernel
theorem dX8_lampOf_49 : decode cX8_lampOf 49 = .ok (.goto (-45), 3) := by decide +kernel
theorem dX8_lampOf_52 : decode cX8_lampOf 52 = .ok (.iload_n 2, 1) := by decide +kernel
theorem dX8_lampOf_53 : decode cX8_lampOf 53 = .ok (.ireturn, 1) := by decide +kernel
theorem dX8_leak_0 : decode cX8_leak 0 = .ok (.aload_n 0, 1) := by decide +kernel
theorem dX8_leak_1 : decode cX8_leak 1 = .ok (.iconst 0, 1) := by decide +kernel
theorem dX8_leak_2 : decode cX8_leak 2 = .ok (.invokevirtual 70, 3) := by decide +kernel
theorem dX8_leak_5 : decode cX8_leak 5 = .ok (.aload_n 0, 1) := by decide +kernel
theorem dX8_leak_6 : decode cX8_leak 6 = .ok (.iconst 1, 1) := by decide +kernel
theorem dX8_leak_7 : decode cX8_leak 7 = .ok (.invokevirtual 70, 3) := by decide +kernel
theorem dX8_leak_10 : decode cX8_leak 10 = .ok (.if_icmp .ge 11, 3) := by decide +kernel
theorem dX8_leak_13 : decode cX8_leak 13 = .ok (.aload_n 0, 1) := by decide +kernel
theorem dX8_leak_14 : decode cX8_leak 14 = .ok (.iconst 0, 1) := by decide +kernel
theorem dX8_leak_15 : decode cX8_leak 15 = .ok (.invokevirtual 70, 3) := by decide +kernel
theorem dX8_leak_18 : decode cX8_leak 18 = .ok (.goto 8, 3) := by decide +kernel
theorem dX8_leak_21 : decode cX8_leak 21 = .ok (.aload_n 0, 1) := by decide +kernel
theorem dX8_leak_22 : decode cX8_leak 22 = .ok (.iconst 1, 1) := by decide +kernel
theorem dX8_leak_23 : decode cX8_leak 23 = .ok (.invokevirtual 70, 3) := by decide +kernel
theorem dX8_leak_26 : decode cX8_leak 26 = .ok (.ireturn, 1) := by decide +kernel
theorem dX8_flow_0 : decode cX8_flow 0 = .ok (.aload_n 0, 1) := by decide +kernel
theorem dX8_flow_1 : decode cX8_flow 1 = .ok (.iload_n 1, 1) := by decide +kernel
theorem dX8_flow_2 : decode cX8_flow 2 = .ok (.invokevirtual 64, 3) := by decide +kernel
theorem dX8_flow_5 : decode cX8_flow 5 = .ok (.ifCond .ne 5, 3) := by decide +kernel
theorem dX8_flow_8 : decode cX8_flow 8 = .ok (.iconst 0, 1) := by decide +kernel
theorem dX8_flow_9 : decode cX8_flow 9 = .ok (.ireturn, 1) := by decide +kernel
theorem dX8_flow_10 : decode cX8_flow 10 = .ok (.aload_n 0, 1) := by decide +kernel
theorem dX8_flow_11 : decode cX8_flow 11 = .ok (.invokevirtual 73, 3) := by decide +kernel
theorem dX8_flow_14 : decode cX8_flow 14 = .ok (.istore_n 2, 1) := by decide +kernel
theorem dX8_flow_15 : decode cX8_flow 15 = .ok (.iconst 0, 1) := by decide +kernel
theorem dX8_flow_16 : decode cX8_flow 16 = .ok (.istore_n 3, 1) := by decide +kernel
theorem dX8_flow_17 : decode cX8_flow 17 = .ok (.iload_n 3, 1) := by decide +kernel
theorem dX8_flow_18 : decode cX8_flow 18 = .ok (.iload_n 1, 1) := by decide +kernel
theorem dX8_flow_19 : decode cX8_flow 19 = .ok (.if_icmp .ge 43, 3) := by decide +kernel
theorem dX8_flow_22 : decode cX8_flow 22 = .ok (.iload_n 2, 1) := by decide +kernel
theorem dX8_flow_23 : decode cX8_flow 23 = .ok (.aload_n 0, 1) := by decide +kernel
theorem dX8_flow_24 : decode cX8_flow 24 = .ok (.iload_n 3, 1) := by decide +kernel
theorem dX8_flow_25 : decode cX8_flow 25 = .ok (.invokevirtual 64, 3) := by decide +kernel
theorem dX8_flow_28 : decode cX8_flow 28 = .ok (.ifCond .eq 25, 3) := by decide +kernel
theorem dX8_flow_31 : decode cX8_flow 31 = .ok (.aload_n 0, 1) := by decide +kernel
theorem dX8_flow_32 : decode cX8_flow 32 = .ok (.iload_n 3, 1) := by decide +kernel
theorem dX8_flow_33 : decode cX8_flow 33 = .ok (.invokevirtual 67, 3) := by decide +kernel
theorem dX8_flow_36 : decode cX8_flow 36 = .ok (.aload_n 0, 1) := by decide +kernel
theorem dX8_flow_37 : decode cX8_flow 37 = .ok (.iload_n 1, 1) := by decide +kernel
theorem dX8_flow_38 : decode cX8_flow 38 = .ok (.invokevirtual 67, 3) := by decide +kernel
theorem dX8_flow_41 : decode cX8_flow 41 = .ok (.if_icmp .ne 12, 3) := by decide +kernel
theorem dX8_flow_44 : decode cX8_flow 44 = .ok (.aload_n 0, 1) := by decide +kernel
theorem dX8_flow_45 : decode cX8_flow 45 = .ok (.iload_n 3, 1) := by decide +kernel
theorem dX8_flow_46 : decode cX8_flow 46 = .ok (.iconst 2, 1) := by decide +kernel
theorem dX8_flow_47 : decode cX8_flow 47 = .ok (.invokevirtual 58, 3) := by decide +kernel
theorem dX8_flow_50 : decode cX8_flow 50 = .ok (.goto 4, 3) := by decide +kernel
theorem dX8_flow_53 : decode cX8_flow 53 = .ok (.iconst 0, 1) := by decide +kernel
theorem dX8_flow_54 : decode cX8_flow 54 = .ok (.isub, 1) := by decide +kernel
theorem dX8_flow_55 : decode cX8_flow 55 = .ok (.istore_n 2, 1) := by decide +kernel
theorem dX8_flow_56 : decode cX8_flow 56 = .ok (.iinc 3 1, 3) := by decide +kernel
theorem dX8_flow_59 : decode cX8_flow 59 = .ok (.goto (-42), 3) := by decide +kernel
theorem dX8_flow_62 : decode cX8_flow 62 = .ok (.iload_n 2, 1) := by decide +kernel
theorem dX8_flow_63 : decode cX8_flow 63 = .ok (.ifCond .ge 7, 3) := by decide +kernel
theorem dX8_flow_66 : decode cX8_flow 66 = .ok (.iconst 0, 1) := by decide +kernel
theorem dX8_flow_67 : decode cX8_flow 67 = .ok (.goto 4, 3) := by decide +kernel
theorem dX8_flow_70 : decode cX8_flow 70 = .ok (.iload_n 2, 1) := by decide +kernel
theorem dX8_flow_71 : decode cX8_flow 71 = .ok (.istore_n 2, 1) := by decide +kernel
theorem dX8_flow_72 : decode cX8_flow 72 = .ok (.iload_n 2, 1) := by decide +kernel
theorem dX8_flow_73 : decode cX8_flow 73 = .ok (.aload_n 0, 1) := by decide +kernel
theorem dX8_flow_74 : decode cX8_flow 74 = .ok (.iload_n 1, 1) := by decide +kernel
theorem dX8_flow_75 : decode cX8_flow 75 = .ok (.iconst 2, 1) := by decide +kernel
theorem dX8_flow_76 : decode cX8_flow 76 = .ok (.invokevirtual 58, 3) := by decide +kernel
theorem dX8_flow_79 : decode cX8_flow 79 = .ok (.if_icmp .ge 7, 3) := by decide +kernel
theorem dX8_flow_82 : decode cX8_flow 82 = .ok (.iload_n 2, 1) := by decide +kernel
theorem dX8_flow_83 : decode cX8_flow 83 = .ok (.goto 9, 3) := by decide +kernel
theorem dX8_flow_86 : decode cX8_flow 86 = .ok (.aload_n 0, 1) := by decide +kernel
theorem dX8_flow_87 : decode cX8_flow 87 = .ok (.iload_n 1, 1) := by decide +kernel
theorem dX8_flow_88 : decode cX8_flow 88 = .ok (.iconst 2, 1) := by decide +kernel
theorem dX8_flow_89 : decode cX8_flow 89 = .ok (.invokevirtual 58, 3) := by decide +kernel
theorem dX8_flow_92 : decode cX8_flow 92 = .ok (.ireturn, 1) := by decide +kernel
theorem dX8_current_0 : decode cX8_current 0 = .ok (.aload_n 0, 1) := by decide +kernel
theorem dX8_current_1 : decode cX8_current 1 = .ok (.iload_n 1, 1) := by decide +kernel
theorem dX8_current_2 : decode cX8_current 2 = .ok (.iload_n 2, 1) := by decide +kernel
theorem dX8_current_3 : decode cX8_current 3 = .ok (.invokevirtual 61, 3) := by decide +kernel
theorem dX8_current_6 : decode cX8_current 6 = .ok (.ifCond .ne 5, 3) := by decide +kernel
theorem dX8_current_9 : decode cX8_current 9 = .ok (.iconst 0, 1) := by decide +kernel
theorem dX8_current_10 : decode cX8_current 10 = .ok (.ireturn, 1) := by decide +kernel
theorem dX8_current_11 : decode cX8_current 11 = .ok (.iconst 0, 1) := by decide +kernel
theorem dX8_current_12 : decode cX8_current 12 = .ok (.istore_n 3, 1) := by decide +kernel
theorem dX8_current_13 : decode cX8_current 13 = .ok (.iconst 0, 1) := by decide +kernel
theorem dX8_current_14 : decode cX8_current 14 = .ok (.istore 4, 2) := by decide +kernel
theorem dX8_current_16 : decode cX8_current 16 = .ok (.iload 4, 2) := by decide +kernel
theorem dX8_current_18 : decode cX8_current 18 = .ok (.aload_n 0, 1) := by decide +kernel
theorem dX8_current_19 : decode cX8_current 19 = .ok (.getfield 7, 3) := by decide +kernel
theorem dX8_current_22 : decode cX8_current 22 = .ok (.bipush 85, 2) := by decide +kernel
theorem dX8_current_24 : decode cX8_current 24 = .ok (.iaload, 1) := by decide +kernel
theorem dX8_current_25 : decode cX8_current 25 = .ok (.if_icmp .ge 47, 3) := by decide +kernel
theorem dX8_current_28 : decode cX8_current 28 = .ok (.iload_n 3, 1) := by decide +kernel
theorem dX8_current_29 : decode cX8_current 29 = .ok (.aload_n 0, 1) := by decide +kernel
theorem dX8_current_30 : decode cX8_current 30 = .ok (.iload 4, 2) := by decide +kernel
theorem dX8_current_32 : decode cX8_current 32 = .ok (.invokevirtual 54, 3) := by decide +kernel
theorem dX8_current_35 : decode cX8_current 35 = .ok (.ifCond .ne 28, 3) := by decide +kernel
theorem dX8_current_38 : decode cX8_current 38 = .ok (.aload_n 0, 1) := by decide +kernel
theorem dX8_current_39 : decode cX8_current 39 = .ok (.aload_n 0, 1) := by decide +kernel
theorem dX8_current_40 : decode cX8_current 40 = .ok (.iload 4, 2) := by decide +kernel
theorem dX8_current_42 : decode cX8_current 42 = .ok (.iconst 0, 1) := by decide +kernel
theorem dX8_current_43 : decode cX8_current 43 = .ok (.invokevirtual 48, 3) := by decide +kernel
theorem dX8_current_46 : decode cX8_current 46 = .ok (.iload_n 1, 1) := by decide +kernel
theorem dX8_current_47 : decode cX8_current 47 = .ok (.invokevirtual 77, 3) := by decide +kernel
theorem dX8_current_50 : decode cX8_current 50 = .ok (.ifCond .eq 13, 3) := by decide +kernel
theorem dX8_current_53 : decode cX8_current 53 = .ok (.aload_n 0, 1) := by decide +kernel
theorem dX8_current_54 : decode cX8_current 54 = .ok (.iload 4, 2) := by decide +kernel
theorem dX8_current_56 : decode cX8_current 56 = .ok (.iconst 1, 1) := by decide +kernel
theorem dX8_current_57 : decode cX8_current 57 = .ok (.invokevirtual 48, 3) := by decide +kernel
theorem dX8_current_60 : decode cX8_current 60 = .ok (.goto 4, 3) := by decide +kernel
theorem dX8_current_63 : decode cX8_current 63 = .ok (.iconst 0, 1) := by decide +kernel
theorem dX8_current_64 : decode cX8_current 64 = .ok (.iadd, 1) := by decide +kernel
theorem dX8_current_65 : decode cX8_current 65 = .ok (.istore_n 3, 1) := by decide +kernel
theorem dX8_current_66 : decode cX8_current 66 = .ok (.iinc 4 1, 3) := by decide +kernel
theorem dX8_current_69 : decode cX8_current 69 = .ok (.goto (-53), 3) := by decide +kernel
theorem dX8_current_72 : decode cX8_current 72 = .ok (.iconst 0, 1) := by decide +kernel
theorem dX8_current_73 : decode cX8_current 73 = .ok (.istore 4, 2) := by decide +kernel
theorem dX8_current_75 : decode cX8_current 75 = .ok (.iload 4, 2) := by decide +kernel
theorem dX8_current_77 : decode cX8_current 77 = .ok (.aload_n 0, 1) := by decide +kernel
theorem dX8_current_78 : decode cX8_current 78 = .ok (.getfield 7, 3) := by decide +kernel
theorem dX8_current_81 : decode cX8_current 81 = .ok (.sipush 134, 3) := by decide +kernel
theorem dX8_current_84 : decode cX8_current 84 = .ok (.iaload, 1) := by decide +kernel
theorem dX8_current_85 : decode cX8_current 85 = .ok (.if_icmp .ge 45, 3) := by decide +kernel
theorem dX8_current_88 : decode cX8_current 88 = .ok (.iload_n 3, 1) := by decide +kernel
theorem dX8_current_89 : decode cX8_current 89 = .ok (.aload_n 0, 1) := by decide +kernel
theorem dX8_current_90 : decode cX8_current 90 = .ok (.aload_n 0, 1) := by decide +kernel
theorem dX8_current_91 : decode cX8_current 91 = .ok (.iload 4, 2) := by decide +kernel
theorem dX8_current_93 : decode cX8_current 93 = .ok (.iconst 0, 1) := by decide +kernel
theorem dX8_current_94 : decode cX8_current 94 = .ok (.invokevirtual 58, 3) := by decide +kernel
theorem dX8_current_97 : decode cX8_current 97 = .ok (.aload_n 0, 1) := by decide +kernel
theorem dX8_current_98 : decode cX8_current 98 = .ok (.iload 4, 2) := by decide +kernel
theorem dX8_current_100 : decode cX8_current 100 = .ok (.iconst 1, 1) := by decide +kernel
theorem dX8_current_101 : decode cX8_current 101 = .ok (.invokevirtual 58, 3) := by decide +kernel
theorem dX8_current_104 : decode cX8_current 104 = .ok (.iload_n 1, 1) := by decide +kernel
theorem dX8_current_105 : decode cX8_current 105 = .ok (.iload_n 2, 1) := by decide +kernel
theorem dX8_current_106 : decode cX8_current 106 = .ok (.invokevirtual 80, 3) := by decide +kernel
theorem dX8_current_109 : decode cX8_current 109 = .ok (.ifCond .eq 12, 3) := by decide +kernel
theorem dX8_current_112 : decode cX8_current 112 = .ok (.aload_n 0, 1) := by decide +kernel
theorem dX8_current_113 : decode cX8_current 113 = .ok (.iload 4, 2) := by decide +kernel
theorem dX8_current_115 : decode cX8_current 115 = .ok (.invokevirtual 84, 3) := by decide +kernel
theorem dX8_current_118 : decode cX8_current 118 = .ok (.goto 4, 3) := by decide +kernel
theorem dX8_current_121 : decode cX8_current 121 = .ok (.iconst 0, 1) := by decide +kernel
theorem dX8_current_122 : decode cX8_current 122 = .ok (.iadd, 1) := by decide +kernel
theorem dX8_current_123 : decode cX8_current 123 = .ok (.istore_n 3, 1) := by decide +kernel
theorem dX8_current_124 : decode cX8_current 124 = .ok (.iinc 4 1, 3) := by decide +kernel
theorem dX8_current_127 : decode cX8_current 127 = .ok (.goto (-52), 3) := by decide +kernel
theorem dX8_current_130 : decode cX8_current 130 = .ok (.iload_n 3, 1) := by decide +kernel
theorem dX8_current_131 : decode cX8_current 131 = .ok (.ireturn, 1) := by decide +kernel
theorem dX8_nextToBlow_0 : decode cX8_nextToBlow 0 = .ok (.iconst (-1), 1) := by decide +kernel
theorem dX8_nextToBlow_1 : decode cX8_nextToBlow 1 = .ok (.istore_n 1, 1) := by decide +kernel
theorem dX8_nextToBlow_2 : decode cX8_nextToBlow 2 = .ok (.iconst 2, 1) := by decide +kernel
theorem dX8_nextToBlow_3 : decode cX8_nextToBlow 3 = .ok (.istore_n 2, 1) := by decide +kernel
theorem dX8_nextToBlow_4 : decode cX8_nextToBlow 4 = .ok (.iload_n 2, 1) := by decide +kernel
theorem dX8_nextToBlow_5 : decode cX8_nextToBlow 5 = .ok (.iconst 2, 1) := by decide +kernel
theorem dX8_nextToBlow_6 : decode cX8_nextToBlow 6 = .ok (.aload_n 0, 1) := by decide +kernel
theorem dX8_nextToBlow_7 : decode cX8_nextToBlow 7 = .ok (.getfield 7, 3) := by decide +kernel
theorem dX8_nextToBlow_10 : decode cX8_nextToBlow 10 = .ok (.iconst 0, 1) := by decide +kernel
theorem dX8_nextToBlow_11 : decode cX8_nextToBlow 11 = .ok (.iaload, 1) := by decide +kernel
theorem dX8_nextToBlow_12 : decode cX8_nextToBlow 12 = .ok (.imul, 1) := by decide +kernel
theorem dX8_nextToBlow_13 : decode cX8_nextToBlow 13 = .ok (.if_icmp .ge 85, 3) := by decide +kernel
theorem dX8_nextToBlow_16 : decode cX8_nextToBlow 16 = .ok (.aload_n 0, 1) := by decide +kernel
theorem dX8_nextToBlow_17 : decode cX8_nextToBlow 17 = .ok (.iload_n 2, 1) := by decide +kernel
theorem dX8_nextToBlow_18 : decode cX8_nextToBlow 18 = .ok (.iconst 2, 1) := by decide +kernel
theorem dX8_nextToBlow_19 : decode cX8_nextToBlow 19 = .ok (.idiv, 1) := by decide +kernel
theorem dX8_nextToBlow_20 : decode cX8_nextToBlow 20 = .ok (.iload_n 2, 1) := by decide +kernel
theorem dX8_nextToBlow_21 : decode cX8_nextToBlow 21 = .ok (.iconst 2, 1) := by decide +kernel
theorem dX8_nextToBlow_22 : decode cX8_nextToBlow 22 = .ok (.irem, 1) := by decide +kernel
theorem dX8_nextToBlow_23 : decode cX8_nextToBlow 23 = .ok (.invokevirtual 87, 3) := by decide +kernel
theorem dX8_nextToBlow_26 : decode cX8_nextToBlow 26 = .ok (.aload_n 0, 1) := by decide +kernel
theorem dX8_nextToBlow_27 : decode cX8_nextToBlow 27 = .ok (.iload_n 2, 1) := by decide +kernel
theorem dX8_nextToBlow_28 : decode cX8_nextToBlow 28 = .ok (.iconst 2, 1) := by decide +kernel
theorem dX8_nextToBlow_29 : decode cX8_nextToBlow 29 = .ok (.idiv, 1) := by decide +kernel
theorem dX8_nextToBlow_30 : decode cX8_nextToBlow 30 = .ok (.iconst 3, 1) := by decide +kernel
theorem dX8_nextToBlow_31 : decode cX8_nextToBlow 31 = .ok (.iload_n 2, 1) := by decide +kernel
theorem dX8_nextToBlow_32 : decode cX8_nextToBlow 32 = .ok (.iconst 2, 1) := by decide +kernel
theorem dX8_nextToBlow_33 : decode cX8_nextToBlow 33 = .ok (.irem, 1) := by decide +kernel
theorem dX8_nextToBlow_34 : decode cX8_nextToBlow 34 = .ok (.iadd, 1) := by decide +kernel
theorem dX8_nextToBlow_35 : decode cX8_nextToBlow 35 = .ok (.invokevirtual 33, 3) := by decide +kernel
theorem dX8_nextToBlow_38 : decode cX8_nextToBlow 38 = .ok (.if_icmp .le 20, 3) := by decide +kernel
theorem dX8_nextToBlow_41 : decode cX8_nextToBlow 41 = .ok (.aload_n 0, 1) := by decide +kernel
theorem dX8_nextToBlow_42 : decode cX8_nextToBlow 42 = .ok (.iload_n 2, 1) := by decide +kernel
theorem dX8_nextToBlow_43 : decode cX8_nextToBlow 43 = .ok (.iconst 2, 1) := by decide +kernel
theorem dX8_nextToBlow_44 : decode cX8_nextToBlow 44 = .ok (.idiv, 1) := by decide +kernel
theorem dX8_nextToBlow_45 : decode cX8_nextToBlow 45 = .ok (.iload_n 2, 1) := by decide +kernel
theorem dX8_nextToBlow_46 : decode cX8_nextToBlow 46 = .ok (.iconst 2, 1) := by decide +kernel
theorem dX8_nextToBlow_47 : decode cX8_nextToBlow 47 = .ok (.irem, 1) := by decide +kernel
theorem dX8_nextToBlow_48 : decode cX8_nextToBlow 48 = .ok (.invokevirtual 61, 3) := by decide +kernel
theorem dX8_nextToBlow_51 : decode cX8_nextToBlow 51 = .ok (.ifCond .eq 7, 3) := by decide +kernel
theorem dX8_nextToBlow_54 : decode cX8_nextToBlow 54 = .ok (.iconst 1, 1) := by decide +kernel
theorem dX8_nextToBlow_55 : decode cX8_nextToBlow 55 = .ok (.goto 4, 3) := by decide +kernel
theorem dX8_nextToBlow_58 : decode cX8_nextToBlow 58 = .ok (.iconst 0, 1) := by decide +kernel
theorem dX8_nextToBlow_59 : decode cX8_nextToBlow 59 = .ok (.istore_n 3, 1) := by decide +kernel
theorem dX8_nextToBlow_60 : decode cX8_nextToBlow 60 = .ok (.iload_n 3, 1) := by decide +kernel
theorem dX8_nextToBlow_61 : decode cX8_nextToBlow 61 = .ok (.ifCond .eq 29, 3) := by decide +kernel
theorem dX8_nextToBlow_64 : decode cX8_nextToBlow 64 = .ok (.iload_n 1, 1) := by decide +kernel
theorem dX8_nextToBlow_65 : decode cX8_nextToBlow 65 = .ok (.iconst (-1), 1) := by decide +kernel
theorem dX8_nextToBlow_66 : decode cX8_nextToBlow 66 = .ok (.if_icmp .eq 20, 3) := by decide +kernel
theorem dX8_nextToBlow_69 : decode cX8_nextToBlow 69 = .ok (.aload_n 0, 1) := by decide +kernel
theorem dX8_nextToBlow_70 : decode cX8_nextToBlow 70 = .ok (.iload_n 2, 1) := by decide +kernel
theorem dX8_nextToBlow_71 : decode cX8_nextToBlow 71 = .ok (.iconst 2, 1) := by decide +kernel
theorem dX8_nextToBlow_72 : decode cX8_nextToBlow 72 = .ok (.idiv, 1) := by decide +kernel
theorem dX8_nextToBlow_73 : decode cX8_nextToBlow 73 = .ok (.invokevirtual 90, 3) := by decide +kernel
theorem dX8_nextToBlow_76 : decode cX8_nextToBlow 76 = .ok (.aload_n 0, 1) := by decide +kernel
theorem dX8_nextToBlow_77 : decode cX8_nextToBlow 77 = .ok (.iload_n 1, 1) := by decide +kernel
theorem dX8_nextToBlow_78 : decode cX8_nextToBlow 78 = .ok (.iconst 2, 1) := by decide +kernel
theorem dX8_nextToBlow_79 : decode cX8_nextToBlow 79 = .ok (.idiv, 1) := by decide +kernel
theorem dX8_nextToBlow_80 : decode cX8_nextToBlow 80 = .ok (.invokevirtual 90, 3) := by decide +kernel
theorem dX8_nextToBlow_83 : decode cX8_nextToBlow 83 = .ok (.if_icmp .le 7, 3) := by decide +kernel
theorem dX8_nextToBlow_86 : decode cX8_nextToBlow 86 = .ok (.iload_n 2, 1) := by decide +kernel
theorem dX8_nextToBlow_87 : decode cX8_nextToBlow 87 = .ok (.goto 4, 3) := by decide +kernel
theorem dX8_nextToBlow_90 : decode cX8_nextToBlow 90 = .ok (.iload_n 1, 1) := by decide +kernel
theorem dX8_nextToBlow_91 : decode cX8_nextToBlow 91 = .ok (.istore_n 1, 1) := by decide +kernel
theorem dX8_nextToBlow_92 : decode cX8_nextToBlow 92 = .ok (.iinc 2 1, 3) := by decide +kernel
theorem dX8_nextToBlow_95 : decode cX8_nextToBlow 95 = .ok (.goto (-91), 3) := by decide +kernel
theorem dX8_nextToBlow_98 : decode cX8_nextToBlow 98 = .ok (.iload_n 1, 1) := by decide +kernel
theorem dX8_nextToBlow_99 : decode cX8_nextToBlow 99 = .ok (.ireturn, 1) := by decide +kernel
theorem dX8_settle_0 : decode cX8_settle 0 = .ok (.aload_n 0, 1) := by decide +kernel
theorem dX8_settle_1 : decode cX8_settle 1 = .ok (.iconst 0, 1) := by decide +kernel
theorem dX8_settle_2 : decode cX8_settle 2 = .ok (.putfield 93, 3) := by decide +kernel
theorem dX8_settle_5 : decode cX8_settle 5 = .ok (.aload_n 0, 1) := by decide +kernel
theorem dX8_settle_6 : decode cX8_settle 6 = .ok (.iconst (-1), 1) := by decide +kernel
theorem dX8_settle_7 : decode cX8_settle 7 = .ok (.putfield 96, 3) := by decide +kernel
theorem dX8_settle_10 : decode cX8_settle 10 = .ok (.aload_n 0, 1) := by decide +kernel
theorem dX8_settle_11 : decode cX8_settle 11 = .ok (.invokevirtual 99, 3) := by decide +kernel
theorem dX8_settle_14 : decode cX8_settle 14 = .ok (.istore_n 1, 1) := by decide +kernel
theorem dX8_settle_15 : decode cX8_settle 15 = .ok (.iload_n 1, 1) := by decide +kernel
theorem dX8_settle_16 : decode cX8_settle 16 = .ok (.iconst (-1), 1) := by decide +kernel
theorem dX8_settle_17 : decode cX8_settle 17 = .ok (.if_icmp .eq 72, 3) := by decide +kernel
theorem dX8_settle_20 : decode cX8_settle 20 = .ok (.aload_n 0, 1) := by decide +kernel
theorem dX8_settle_21 : decode cX8_settle 21 = .ok (.aload_n 0, 1) := by decide +kernel
theorem dX8_settle_22 : decode cX8_settle 22 = .ok (.getfield 93, 3) := by decide +kernel
theorem dX8_settle_25 : decode cX8_settle 25 = .ok (.ifCond .ne 7, 3) := by decide +kernel
theorem dX8_settle_28 : decode cX8_settle 28 = .ok (.iload_n 1, 1) := by decide +kernel
theorem dX8_settle_29 : decode cX8_settle 29 = .ok (.goto 7, 3) := by decide +kernel
theorem dX8_settle_32 : decode cX8_settle 32 = .ok (.aload_n 0, 1) := by decide +kernel
theorem dX8_settle_33 : decode cX8_settle 33 = .ok (.getfield 96, 3) := by decide +kernel
theorem dX8_settle_36 : decode cX8_settle 36 = .ok (.putfield 96, 3) := by decide +kernel
theorem dX8_settle_39 : decode cX8_settle 39 = .ok (.aload_n 0, 1) := by decide +kernel
theorem dX8_settle_40 : decode cX8_settle 40 = .ok (.getfield 7, 3) := by decide +kernel
theorem dX8_settle_43 : decode cX8_settle 43 = .ok (.iconst 1, 1) := by decide +kernel
theorem dX8_settle_44 : decode cX8_settle 44 = .ok (.bipush 7, 2) := by decide +kernel
theorem dX8_settle_46 : decode cX8_settle 46 = .ok (.iload_n 1, 1) := by decide +kernel
theorem dX8_settle_47 : decode cX8_settle 47 = .ok (.iconst 2, 1) := by decide +kernel
theorem dX8_settle_48 : decode cX8_settle 48 = .ok (.idiv, 1) := by decide +kernel
theorem dX8_settle_49 : decode cX8_settle 49 = .ok (.imul, 1) := by decide +kernel
theorem dX8_settle_50 : decode cX8_settle 50 = .ok (.iadd, 1) := by decide +kernel
theorem dX8_settle_51 : decode cX8_settle 51 = .ok (.iconst 5, 1) := by decide +kernel
theorem dX8_settle_52 : decode cX8_settle 52 = .ok (.iadd, 1) := by decide +kernel
theorem dX8_settle_53 : decode cX8_settle 53 = .ok (.iload_n 1, 1) := by decide +kernel
theorem dX8_settle_54 : decode cX8_settle 54 = .ok (.iconst 2, 1) := by decide +kernel
theorem dX8_settle_55 : decode cX8_settle 55 = .ok (.irem, 1) := by decide +kernel
theorem dX8_settle_56 : decode cX8_settle 56 = .ok (.iadd, 1) := by decide +kernel
theorem dX8_settle_57 : decode cX8_settle 57 = .ok (.iconst 1, 1) := by decide +kernel
theorem dX8_settle_58 : decode cX8_settle 58 = .ok (.iastore, 1) := by decide +kernel
theorem dX8_settle_59 : decode cX8_settle 59 = .ok (.aload_n 0, 1) := by decide +kernel
theorem dX8_settle_60 : decode cX8_settle 60 = .ok (.getfield 7, 3) := by decide +kernel
theorem dX8_settle_63 : decode cX8_settle 63 = .ok (.sipush 163, 3) := by decide +kernel
theorem dX8_settle_66 : decode cX8_settle 66 = .ok (.dup2, 1) := by decide +kernel
theorem dX8_settle_67 : decode cX8_settle 67 = .ok (.iaload, 1) := by decide +kernel
theorem dX8_settle_68 : decode cX8_settle 68 = .ok (.iconst 1, 1) := by decide +kernel
theorem dX8_settle_69 : decode cX8_settle 69 = .ok (.iadd, 1) := by decide +kernel
theorem dX8_settle_70 : decode cX8_settle 70 = .ok (.iastore, 1) := by decide +kernel
theorem dX8_settle_71 : decode cX8_settle 71 = .ok (.aload_n 0, 1) := by decide +kernel
theorem dX8_settle_72 : decode cX8_settle 72 = .ok (.dup, 1) := by decide +kernel
theorem dX8_settle_73 : decode cX8_settle 73 = .ok (.getfield 93, 3) := by decide +kernel
theorem dX8_settle_76 : decode cX8_settle 76 = .ok (.iconst 1, 1) := by decide +kernel
theorem dX8_settle_77 : decode cX8_settle 77 = .ok (.iadd, 1) := by decide +kernel
theorem dX8_settle_78 : decode cX8_settle 78 = .ok (.putfield 93, 3) := by decide +kernel
theorem dX8_settle_81 : decode cX8_settle 81 = .ok (.aload_n 0, 1) := by decide +kernel
theorem dX8_settle_82 : decode cX8_settle 82 = .ok (.invokevirtual 99, 3) := by decide +kernel
theorem dX8_settle_85 : decode cX8_settle 85 = .ok (.istore_n 1, 1) := by decide +kernel
theorem dX8_settle_86 : decode cX8_settle 86 = .ok (.goto (-71), 3) := by decide +kernel
theorem dX8_settle_89 : decode cX8_settle 89 = .ok (.return_, 1) := by decide +kernel
theorem dX8_save_0 : decode cX8_save 0 = .ok (.aload_n 0, 1) := by decide +kernel
theorem dX8_save_1 : decode cX8_save 1 = .ok (.getfield 102, 3) := by decide +kernel
theorem dX8_save_4 : decode cX8_save 4 = .ok (.bipush 6, 2) := by decide +kernel
theorem dX8_save_6 : decode cX8_save 6 = .ok (.if_icmp .ne 46, 3) := by decide +kernel
theorem dX8_save_9 : decode cX8_save 9 = .ok (.sipush 168, 3) := by decide +kernel
theorem dX8_save_12 : decode cX8_save 12 = .ok (.istore_n 1, 1) := by decide +kernel
theorem dX8_save_13 : decode cX8_save 13 = .ok (.iload_n 1, 1) := by decide +kernel
theorem dX8_save_14 : decode cX8_save 14 = .ok (.sipush 1008, 3) := by decide +kernel
theorem dX8_save_17 : decode cX8_save 17 = .ok (.if_icmp .ge 25, 3) := by decide +kernel
theorem dX8_save_20 : decode cX8_save 20 = .ok (.aload_n 0, 1) := by decide +kernel
theorem dX8_save_21 : decode cX8_save 21 = .ok (.getfield 13, 3) := by decide +kernel
theorem dX8_save_24 : decode cX8_save 24 = .ok (.iload_n 1, 1) := by decide +kernel
theorem dX8_save_25 : decode cX8_save 25 = .ok (.sipush 168, 3) := by decide +kernel
theorem dX8_save_28 : decode cX8_save 28 = .ok (.isub, 1) := by decide +kernel
theorem dX8_save_29 : decode cX8_save 29 = .ok (.aload_n 0, 1) := by decide +kernel
theorem dX8_save_30 : decode cX8_save 30 = .ok (.getfield 13, 3) := by decide +kernel
theorem dX8_save_33 : decode cX8_save 33 = .ok (.iload_n 1, 1) := by decide +kernel
theorem dX8_save_34 : decode cX8_save 34 = .ok (.iaload, 1) := by decide +kernel
theorem dX8_save_35 : decode cX8_save 35 = .ok (.iastore, 1) := by decide +kernel
theorem dX8_save_36 : decode cX8_save 36 = .ok (.iinc 1 1, 3) := by decide +kernel
theorem dX8_save_39 : decode cX8_save 39 = .ok (.goto (-26), 3) := by decide +kernel
theorem dX8_save_42 : decode cX8_save 42 = .ok (.aload_n 0, 1) := by decide +kernel
theorem dX8_save_43 : decode cX8_save 43 = .ok (.dup, 1) := by decide +kernel
theorem dX8_save_44 : decode cX8_save 44 = .ok (.getfield 102, 3) := by decide +kernel
theorem dX8_save_47 : decode cX8_save 47 = .ok (.iconst 1, 1) := by decide +kernel
theorem dX8_save_48 : decode cX8_save 48 = .ok (.isub, 1) := by decide +kernel
theorem dX8_save_49 : decode cX8_save 49 = .ok (.putfield 102, 3) := by decide +kernel
theorem dX8_save_52 : decode cX8_save 52 = .ok (.iconst 0, 1) := by decide +kernel
theorem dX8_save_53 : decode cX8_save 53 = .ok (.istore_n 1, 1) := by decide +kernel
theorem dX8_save_54 : decode cX8_save 54 = .ok (.iload_n 1, 1) := by decide +kernel
theorem dX8_save_55 : decode cX8_save 55 = .ok (.sipush 168, 3) := by decide +kernel
theorem dX8_save_58 : decode cX8_save 58 = .ok (.if_icmp .ge 30, 3) := by decide +kernel
theorem dX8_save_61 : decode cX8_save 61 = .ok (.aload_n 0, 1) := by decide +kernel
theorem dX8_save_62 : decode cX8_save 62 = .ok (.getfield 13, 3) := by decide +kernel
theorem dX8_save_65 : decode cX8_save 65 = .ok (.sipush 168, 3) := by decide +kernel
theorem dX8_save_68 : decode cX8_save 68 = .ok (.aload_n 0, 1) := by decide +kernel
theorem dX8_save_69 : decode cX8_save 69 = .ok (.getfield 102, 3) := by decide +kernel
theorem dX8_save_72 : decode cX8_save 72 = .ok (.imul, 1) := by decide +kernel
theorem dX8_save_73 : decode cX8_save 73 = .ok (.iload_n 1, 1) := by decide +kernel
theorem dX8_save_74 : decode cX8_save 74 = .ok (.iadd, 1) := by decide +kernel
theorem dX8_save_75 : decode cX8_save 75 = .ok (.aload_n 0, 1) := by decide +kernel
theorem dX8_save_76 : decode cX8_save 76 = .ok (.getfield 7, 3) := by decide +kernel
theorem dX8_save_79 : decode cX8_save 79 = .ok (.iload_n 1, 1) := by decide +kernel
theorem dX8_save_80 : decode cX8_save 80 = .ok (.iaload, 1) := by decide +kernel
theorem dX8_save_81 : decode cX8_save 81 = .ok (.iastore, 1) := by decide +kernel
theorem dX8_save_82 : decode cX8_save 82 = .ok (.iinc 1 1, 3) := by decide +kernel
theorem dX8_save_85 : decode cX8_save 85 = .ok (.goto (-31), 3) := by decide +kernel
theorem dX8_save_88 : decode cX8_save 88 = .ok (.aload_n 0, 1) := by decide +kernel
theorem dX8_save_89 : decode cX8_save 89 = .ok (.dup, 1) := by decide +kernel
theorem dX8_save_90 : decode cX8_save 90 = .ok (.getfield 102, 3) := by decide +kernel
theorem dX8_save_93 : decode cX8_save 93 = .ok (.iconst 1, 1) := by decide +kernel
theorem dX8_save_94 : decode cX8_save 94 = .ok (.iadd, 1) := by decide +kernel
theorem dX8_save_95 : decode cX8_save 95 = .ok (.putfield 102, 3) := by decide +kernel
theorem dX8_save_98 : decode cX8_save 98 = .ok (.return_, 1) := by decide +kernel
theorem dX8_undo_0 : decode cX8_undo 0 = .ok (.aload_n 0, 1) := by decide +kernel
theorem dX8_undo_1 : decode cX8_undo 1 = .ok (.aload_n 0, 1) := by decide +kernel
theorem dX8_undo_2 : decode cX8_undo 2 = .ok (.getfield 102, 3) := by decide +kernel
theorem dX8_undo_5 : decode cX8_undo 5 = .ok (.ifCond .le 7, 3) := by decide +kernel
theorem dX8_undo_8 : decode cX8_undo 8 = .ok (.iconst 0, 1) := by decide +kernel
theorem dX8_undo_9 : decode cX8_undo 9 = .ok (.goto 4, 3) := by decide +kernel
theorem dX8_undo_12 : decode cX8_undo 12 = .ok (.iconst 1, 1) := by decide +kernel
theorem dX8_undo_13 : decode cX8_undo 13 = .ok (.putfield 25, 3) := by decide +kernel
theorem dX8_undo_16 : decode cX8_undo 16 = .ok (.aload_n 0, 1) := by decide +kernel
theorem dX8_undo_17 : decode cX8_undo 17 = .ok (.getfield 25, 3) := by decide +kernel
theorem dX8_undo_20 : decode cX8_undo 20 = .ok (.ifCond .le 5, 3) := by decide +kernel
theorem dX8_undo_23 : decode cX8_undo 23 = .ok (.iconst 0, 1) := by decide +kernel
theorem dX8_undo_24 : decode cX8_undo 24 = .ok (.ireturn, 1) := by decide +kernel
theorem dX8_undo_25 : decode cX8_undo 25 = .ok (.aload_n 0, 1) := by decide +kernel
theorem dX8_undo_26 : decode cX8_undo 26 = .ok (.dup, 1) := by decide +kernel
theorem dX8_undo_27 : decode cX8_undo 27 = .ok (.getfield 102, 3) := by decide +kernel
theorem dX8_undo_30 : decode cX8_undo 30 = .ok (.iconst 1, 1) := by decide +kernel
theorem dX8_undo_31 : decode cX8_undo 31 = .ok (.isub, 1) := by decide +kernel
theorem dX8_undo_32 : decode cX8_undo 32 = .ok (.putfield 102, 3) := by decide +kernel
theorem dX8_undo_35 : decode cX8_undo 35 = .ok (.iconst 0, 1) := by decide +kernel
theorem dX8_undo_36 : decode cX8_undo 36 = .ok (.istore_n 1, 1) := by decide +kernel
theorem dX8_undo_37 : decode cX8_undo 37 = .ok (.iload_n 1, 1) := by decide +kernel
theorem dX8_undo_38 : decode cX8_undo 38 = .ok (.sipush 168, 3) := by decide +kernel
theorem dX8_undo_41 : decode cX8_undo 41 = .ok (.if_icmp .ge 30, 3) := by decide +kernel
theorem dX8_undo_44 : decode cX8_undo 44 = .ok (.aload_n 0, 1) := by decide +kernel
theorem dX8_undo_45 : decode cX8_undo 45 = .ok (.getfield 7, 3) := by decide +kernel
theorem dX8_undo_48 : decode cX8_undo 48 = .ok (.iload_n 1, 1) := by decide +kernel
theorem dX8_undo_49 : decode cX8_undo 49 = .ok (.aload_n 0, 1) := by decide +kernel
theorem dX8_undo_50 : decode cX8_undo 50 = .ok (.getfield 13, 3) := by decide +kernel
theorem dX8_undo_53 : decode cX8_undo 53 = .ok (.sipush 168, 3) := by decide +kernel
theorem dX8_undo_56 : decode cX8_undo 56 = .ok (.aload_n 0, 1) := by decide +kernel
theorem dX8_undo_57 : decode cX8_undo 57 = .ok (.getfield 102, 3) := by decide +kernel
theorem dX8_undo_60 : decode cX8_undo 60 = .ok (.imul, 1) := by decide +kernel
theorem dX8_undo_61 : decode cX8_undo 61 = .ok (.iload_n 1, 1) := by decide +kernel
theorem dX8_undo_62 : decode cX8_undo 62 = .ok (.iadd, 1) := by decide +kernel
theorem dX8_undo_63 : decode cX8_undo 63 = .ok (.iaload, 1) := by decide +kernel
theorem dX8_undo_64 : decode cX8_undo 64 = .ok (.iastore, 1) := by decide +kernel
theorem dX8_undo_65 : decode cX8_undo 65 = .ok (.iinc 1 1, 3) := by decide +kernel
theorem dX8_undo_68 : decode cX8_undo 68 = .ok (.goto (-31), 3) := by decide +kernel
theorem dX8_undo_71 : decode cX8_undo 71 = .ok (.aload_n 0, 1) := by decide +kernel
theorem dX8_undo_72 : decode cX8_undo 72 = .ok (.getfield 102, 3) := by decide +kernel
theorem dX8_undo_75 : decode cX8_undo 75 = .ok (.ireturn, 1) := by decide +kernel
theorem dX8_keepAside_0 : decode cX8_keepAside 0 = .ok (.iconst 0, 1) := by decide +kernel
theorem dX8_keepAside_1 : decode cX8_keepAside 1 = .ok (.istore_n 1, 1) := by decide +kernel
theorem dX8_keepAside_2 : decode cX8_keepAside 2 = .ok (.iload_n 1, 1) := by decide +kernel
theorem dX8_keepAside_3 : decode cX8_keepAside 3 = .ok (.sipush 168, 3) := by decide +kernel
theorem dX8_keepAside_6 : decode cX8_keepAside 6 = .ok (.if_icmp .ge 21, 3) := by decide +kernel
theorem dX8_keepAside_9 : decode cX8_keepAside 9 = .ok (.aload_n 0, 1) := by decide +kernel
theorem dX8_keepAside_10 : decode cX8_keepAside 10 = .ok (.getfield 19, 3) := by decide +kernel
theorem dX8_keepAside_13 : decode cX8_keepAside 13 = .ok (.iload_n 1, 1) := by decide +kernel
theorem dX8_keepAside_14 : decode cX8_keepAside 14 = .ok (.aload_n 0, 1) := by decide +kernel
theorem dX8_keepAside_15 : decode cX8_keepAside 15 = .ok (.getfield 7, 3) := by decide +kernel
theorem dX8_keepAside_18 : decode cX8_keepAside 18 = .ok (.iload_n 1, 1) := by decide +kernel
theorem dX8_keepAside_19 : decode cX8_keepAside 19 = .ok (.iaload, 1) := by decide +kernel
theorem dX8_keepAside_20 : decode cX8_keepAside 20 = .ok (.iastore, 1) := by decide +kernel
theorem dX8_keepAside_21 : decode cX8_keepAside 21 = .ok (.iinc 1 1, 3) := by decide +kernel
theorem dX8_keepAside_24 : decode cX8_keepAside 24 = .ok (.goto (-22), 3) := by decide +kernel
theorem dX8_keepAside_27 : decode cX8_keepAside 27 = .ok (.return_, 1) := by decide +kernel
theorem dX8_takeBack_0 : decode cX8_takeBack 0 = .ok (.iconst 0, 1) := by decide +kernel
theorem dX8_takeBack_1 : decode cX8_takeBack 1 = .ok (.istore_n 1, 1) := by decide +kernel
theorem dX8_takeBack_2 : decode cX8_takeBack 2 = .ok (.iload_n 1, 1) := by decide +kernel
theorem dX8_takeBack_3 : decode cX8_takeBack 3 = .ok (.sipush 168, 3) := by decide +kernel
theorem dX8_takeBack_6 : decode cX8_takeBack 6 = .ok (.if_icmp .ge 21, 3) := by decide +kernel
theorem dX8_takeBack_9 : decode cX8_takeBack 9 = .ok (.aload_n 0, 1) := by decide +kernel
theorem dX8_takeBack_10 : decode cX8_takeBack 10 = .ok (.getfield 7, 3) := by decide +kernel
theorem dX8_takeBack_13 : decode cX8_takeBack 13 = .ok (.iload_n 1, 1) := by decide +kernel
theorem dX8_takeBack_14 : decode cX8_takeBack 14 = .ok (.aload_n 0, 1) := by decide +kernel
theorem dX8_takeBack_15 : decode cX8_takeBack 15 = .ok (.getfield 19, 3) := by decide +kernel
theorem dX8_takeBack_18 : decode cX8_takeBack 18 = .ok (.iload_n 1, 1) := by decide +kernel
theorem dX8_takeBack_19 : decode cX8_takeBack 19 = .ok (.iaload, 1) := by decide +kernel
theorem dX8_takeBack_20 : decode cX8_takeBack 20 = .ok (.iastore, 1) := by decide +kernel
theorem dX8_takeBack_21 : decode cX8_takeBack 21 = .ok (.iinc 1 1, 3) := by decide +kernel
theorem dX8_takeBack_24 : decode cX8_takeBack 24 = .ok (.goto (-22), 3) := by decide +kernel
theorem dX8_takeBack_27 : decode cX8_takeBack 27 = .ok (.return_, 1) := by decide +kernel
theorem dX8_isRating_0 : decode cX8_isRating 0 = .ok (.iload_n 0, 1) := by decide +kernel
theorem dX8_isRating_1 : decode cX8_isRating 1 = .ok (.iconst 1, 1) := by decide +kernel
theorem dX8_isRating_2 : decode cX8_isRating 2 = .ok (.bipush 60, 2) := by decide +kernel
theorem dX8_isRating_4 : decode cX8_isRating 4 = .ok (.invokestatic 29, 3) := by decide +kernel
theorem dX8_isRating_7 : decode cX8_isRating 7 = .ok (.ireturn, 1) := by decide +kernel
theorem dX8_whyNoBox_0 : decode cX8_whyNoBox 0 = .ok (.aload_n 0, 1) := by decide +kernel
theorem dX8_whyNoBox_1 : decode cX8_whyNoBox 1 = .ok (.iload_n 1, 1) := by decide +kernel
theorem dX8_whyNoBox_2 : decode cX8_whyNoBox 2 = .ok (.invokevirtual 105, 3) := by decide +kernel
theorem dX8_whyNoBox_5 : decode cX8_whyNoBox 5 = .ok (.ifCond .ne 7, 3) := by decide +kernel
theorem dX8_whyNoBox_8 : decode cX8_whyNoBox 8 = .ok (.iconst 1, 1) := by decide +kernel
theorem dX8_whyNoBox_9 : decode cX8_whyNoBox 9 = .ok (.goto 37, 3) := by decide +kernel
theorem dX8_whyNoBox_12 : decode cX8_whyNoBox 12 = .ok (.iload_n 2, 1) := by decide +kernel
theorem dX8_whyNoBox_13 : decode cX8_whyNoBox 13 = .ok (.invokestatic 108, 3) := by decide +kernel
theorem dX8_whyNoBox_16 : decode cX8_whyNoBox 16 = .ok (.ifCond .eq 10, 3) := by decide +kernel
theorem dX8_whyNoBox_19 : decode cX8_whyNoBox 19 = .ok (.iload_n 3, 1) := by decide +kernel
theorem dX8_whyNoBox_20 : decode cX8_whyNoBox 20 = .ok (.invokestatic 108, 3) := by decide +kernel
theorem dX8_whyNoBox_23 : decode cX8_whyNoBox 23 = .ok (.ifCond .ne 7, 3) := by decide +kernel
theorem dX8_whyNoBox_26 : decode cX8_whyNoBox 26 = .ok (.iconst 2, 1) := by decide +kernel
theorem dX8_whyNoBox_27 : decode cX8_whyNoBox 27 = .ok (.goto 19, 3) := by decide +kernel
theorem dX8_whyNoBox_30 : decode cX8_whyNoBox 30 = .ok (.aload_n 0, 1) := by decide +kernel
theorem dX8_whyNoBox_31 : decode cX8_whyNoBox 31 = .ok (.getfield 7, 3) := by decide +kernel
theorem dX8_whyNoBox_34 : decode cX8_whyNoBox 34 = .ok (.iconst 0, 1) := by decide +kernel
theorem dX8_whyNoBox_35 : decode cX8_whyNoBox 35 = .ok (.iaload, 1) := by decide +kernel
theorem dX8_whyNoBox_36 : decode cX8_whyNoBox 36 = .ok (.bipush 12, 2) := by decide +kernel
theorem dX8_whyNoBox_38 : decode cX8_whyNoBox 38 = .ok (.if_icmp .ne 7, 3) := by decide +kernel
theorem dX8_whyNoBox_41 : decode cX8_whyNoBox 41 = .ok (.iconst 3, 1) := by decide +kernel
theorem dX8_whyNoBox_42 : decode cX8_whyNoBox 42 = .ok (.goto 4, 3) := by decide +kernel
theorem dX8_whyNoBox_45 : decode cX8_whyNoBox 45 = .ok (.iconst 0, 1) := by decide +kernel
theorem dX8_whyNoBox_46 : decode cX8_whyNoBox 46 = .ok (.ireturn, 1) := by decide +kernel
theorem dX8_bringBox_0 : decode cX8_bringBox 0 = .ok (.iconst 1, 1) := by decide +kernel
theorem dX8_bringBox_1 : decode cX8_bringBox 1 = .ok (.bipush 7, 2) := by decide +kernel
theorem dX8_bringBox_3 : decode cX8_bringBox 3 = .ok (.aload_n 0, 1) := by decide +kernel
theorem dX8_bringBox_4 : decode cX8_bringBox 4 = .ok (.getfield 7, 3) := by decide +kernel
theorem dX8_bringBox_7 : decode cX8_bringBox 7 = .ok (.iconst 0, 1) := by decide +kernel
theorem dX8_bringBox_8 : decode cX8_bringBox 8 = .ok (.iaload, 1) := by decide +kernel
theorem dX8_bringBox_9 : decode cX8_bringBox 9 = .ok (.imul, 1) := by decide +kernel
theorem dX8_bringBox_10 : decode cX8_bringBox 10 = .ok (.iadd, 1) := by decide +kernel
theorem dX8_bringBox_11 : decode cX8_bringBox 11 = .ok (.istore 5, 2) := by decide +kernel
theorem dX8_bringBox_13 : decode cX8_bringBox 13 = .ok (.aload_n 0, 1) := by decide +kernel
theorem dX8_bringBox_14 : decode cX8_bringBox 14 = .ok (.getfield 7, 3) := by decide +kernel
theorem dX8_bringBox_17 : decode cX8_bringBox 17 = .ok (.iload 5, 2) := by decide +kernel
theorem dX8_bringBox_19 : decode cX8_bringBox 19 = .ok (.iconst 0, 1) := by decide +kernel
theorem dX8_bringBox_20 : decode cX8_bringBox 20 = .ok (.iadd, 1) := by decide +kernel
theorem dX8_bringBox_21 : decode cX8_bringBox 21 = .ok (.iload_n 1, 1) := by decide +kernel
theorem dX8_bringBox_22 : decode cX8_bringBox 22 = .ok (.iastore, 1) := by decide +kernel
theorem dX8_bringBox_23 : decode cX8_bringBox 23 = .ok (.aload_n 0, 1) := by decide +kernel
theorem dX8_bringBox_24 : decode cX8_bringBox 24 = .ok (.getfield 7, 3) := by decide +kernel
theorem dX8_bringBox_27 : decode cX8_bringBox 27 = .ok (.iload 5, 2) := by decide +kernel
theorem dX8_bringBox_29 : decode cX8_bringBox 29 = .ok (.iconst 1, 1) := by decide +kernel
theorem dX8_bringBox_30 : decode cX8_bringBox 30 = .ok (.iadd, 1) := by decide +kernel
theorem dX8_bringBox_31 : decode cX8_bringBox 31 = .ok (.iload 4, 2) := by decide +kernel
theorem dX8_bringBox_33 : decode cX8_bringBox 33 = .ok (.ifCond .eq 7, 3) := by decide +kernel
theorem dX8_bringBox_36 : decode cX8_bringBox 36 = .ok (.iconst 1, 1) := by decide +kernel
theorem dX8_bringBox_37 : decode cX8_bringBox 37 = .ok (.goto 4, 3) := by decide +kernel
theorem dX8_bringBox_40 : decode cX8_bringBox 40 = .ok (.iconst 0, 1) := by decide +kernel
theorem dX8_bringBox_41 : decode cX8_bringBox 41 = .ok (.iastore, 1) := by decide +kernel
theorem dX8_bringBox_42 : decode cX8_bringBox 42 = .ok (.aload_n 0, 1) := by decide +kernel
theorem dX8_bringBox_43 : decode cX8_bringBox 43 = .ok (.getfield 7, 3) := by decide +kernel
theorem dX8_bringBox_46 : decode cX8_bringBox 46 = .ok (.iload 5, 2) := by decide +kernel
theorem dX8_bringBox_48 : decode cX8_bringBox 48 = .ok (.iconst 2, 1) := by decide +kernel
theorem dX8_bringBox_49 : decode cX8_bringBox 49 = .ok (.iadd, 1) := by decide +kernel
theorem dX8_bringBox_50 : decode cX8_bringBox 50 = .ok (.iconst 1, 1) := by decide +kernel
theorem dX8_bringBox_51 : decode cX8_bringBox 51 = .ok (.iastore, 1) := by decide +kernel
theorem dX8_bringBox_52 : decode cX8_bringBox 52 = .ok (.aload_n 0, 1) := by decide +kernel
theorem dX8_bringBox_53 : decode cX8_bringBox 53 = .ok (.getfield 7, 3) := by decide +kernel
theorem dX8_bringBox_56 : decode cX8_bringBox 56 = .ok (.iload 5, 2) := by decide +kernel
theorem dX8_bringBox_58 : decode cX8_bringBox 58 = .ok (.iconst 3, 1) := by decide +kernel
theorem dX8_bringBox_59 : decode cX8_bringBox 59 = .ok (.iadd, 1) := by decide +kernel
theorem dX8_bringBox_60 : decode cX8_bringBox 60 = .ok (.iload_n 2, 1) := by decide +kernel
theorem dX8_bringBox_61 : decode cX8_bringBox 61 = .ok (.iastore, 1) := by decide +kernel
theorem dX8_bringBox_62 : decode cX8_bringBox 62 = .ok (.aload_n 0, 1) := by decide +kernel
theorem dX8_bringBox_63 : decode cX8_bringBox 63 = .ok (.getfield 7, 3) := by decide +kernel
theorem dX8_bringBox_66 : decode cX8_bringBox 66 = .ok (.iload 5, 2) := by decide +kernel
theorem dX8_bringBox_68 : decode cX8_bringBox 68 = .ok (.iconst 3, 1) := by decide +kernel
theorem dX8_bringBox_69 : decode cX8_bringBox 69 = .ok (.iadd, 1) := by decide +kernel
theorem dX8_bringBox_70 : decode cX8_bringBox 70 = .ok (.iconst 1, 1) := by decide +kernel
theorem dX8_bringBox_71 : decode cX8_bringBox 71 = .ok (.iadd, 1) := by decide +kernel
theorem dX8_bringBox_72 : decode cX8_bringBox 72 = .ok (.iload_n 3, 1) := by decide +kernel
theorem dX8_bringBox_73 : decode cX8_bringBox 73 = .ok (.iastore, 1) := by decide +kernel
theorem dX8_bringBox_74 : decode cX8_bringBox 74 = .ok (.aload_n 0, 1) := by decide +kernel
theorem dX8_bringBox_75 : decode cX8_bringBox 75 = .ok (.getfield 7, 3) := by decide +kernel
theorem dX8_bringBox_78 : decode cX8_bringBox 78 = .ok (.iload 5, 2) := by decide +kernel
theorem dX8_bringBox_80 : decode cX8_bringBox 80 = .ok (.iconst 5, 1) := by decide +kernel
theorem dX8_bringBox_81 : decode cX8_bringBox 81 = .ok (.iadd, 1) := by decide +kernel
theorem dX8_bringBox_82 : decode cX8_bringBox 82 = .ok (.iconst 0, 1) := by decide +kernel
theorem dX8_bringBox_83 : decode cX8_bringBox 83 = .ok (.iastore, 1) := by decide +kernel
theorem dX8_bringBox_84 : decode cX8_bringBox 84 = .ok (.aload_n 0, 1) := by decide +kernel
theorem dX8_bringBox_85 : decode cX8_bringBox 85 = .ok (.getfield 7, 3) := by decide +kernel
theorem dX8_bringBox_88 : decode cX8_bringBox 88 = .ok (.iload 5, 2) := by decide +kernel
theorem dX8_bringBox_90 : decode cX8_bringBox 90 = .ok (.iconst 5, 1) := by decide +kernel
theorem dX8_bringBox_91 : decode cX8_bringBox 91 = .ok (.iadd, 1) := by decide +kernel
theorem dX8_bringBox_92 : decode cX8_bringBox 92 = .ok (.iconst 1, 1) := by decide +kernel
theorem dX8_bringBox_93 : decode cX8_bringBox 93 = .ok (.iadd, 1) := by decide +kernel
theorem dX8_bringBox_94 : decode cX8_bringBox 94 = .ok (.iconst 0, 1) := by decide +kernel
theorem dX8_bringBox_95 : decode cX8_bringBox 95 = .ok (.iastore, 1) := by decide +kernel
theorem dX8_bringBox_96 : decode cX8_bringBox 96 = .ok (.aload_n 0, 1) := by decide +kernel
theorem dX8_bringBox_97 : decode cX8_bringBox 97 = .ok (.getfield 7, 3) := by decide +kernel
theorem dX8_bringBox_100 : decode cX8_bringBox 100 = .ok (.iconst 0, 1) := by decide +kernel
theorem dX8_bringBox_101 : decode cX8_bringBox 101 = .ok (.dup2, 1) := by decide +kernel
theorem dX8_bringBox_102 : decode cX8_bringBox 102 = .ok (.iaload, 1) := by decide +kernel
theorem dX8_bringBox_103 : decode cX8_bringBox 103 = .ok (.iconst 1, 1) := by decide +kernel
theorem dX8_bringBox_104 : decode cX8_bringBox 104 = .ok (.iadd, 1) := by decide +kernel
theorem dX8_bringBox_105 : decode cX8_bringBox 105 = .ok (.iastore, 1) := by decide +kernel
theorem dX8_bringBox_106 : decode cX8_bringBox 106 = .ok (.aload_n 0, 1) := by decide +kernel
theorem dX8_bringBox_107 : decode cX8_bringBox 107 = .ok (.invokevirtual 111, 3) := by decide +kernel
theorem dX8_bringBox_110 : decode cX8_bringBox 110 = .ok (.return_, 1) := by decide +kernel
theorem dX8_addBox_0 : decode cX8_addBox 0 = .ok (.aload_n 0, 1) := by decide +kernel
theorem dX8_addBox_1 : decode cX8_addBox 1 = .ok (.aload_n 0, 1) := by decide +kernel
theorem dX8_addBox_2 : decode cX8_addBox 2 = .ok (.iload_n 1, 1) := by decide +kernel
theorem dX8_addBox_3 : decode cX8_addBox 3 = .ok (.iload_n 2, 1) := by decide +kernel
theorem dX8_addBox_4 : decode cX8_addBox 4 = .ok (.iload_n 3, 1) := by decide +kernel
theorem dX8_addBox_5 : decode cX8_addBox 5 = .ok (.invokevirtual 114, 3) := by decide +kernel
theorem dX8_addBox_8 : decode cX8_addBox 8 = .ok (.putfield 25, 3) := by decide +kernel
theorem dX8_addBox_11 : decode cX8_addBox 11 = .ok (.aload_n 0, 1) := by decide +kernel
theorem dX8_addBox_12 : decode cX8_addBox 12 = .ok (.getfield 25, 3) := by decide +kernel
theorem dX8_addBox_15 : decode cX8_addBox 15 = .ok (.ifCond .le 5, 3) := by decide +kernel
theorem dX8_addBox_18 : decode cX8_addBox 18 = .ok (.iconst 0, 1) := by decide +kernel
theorem dX8_addBox_19 : decode cX8_addBox 19 = .ok (.ireturn, 1) := by decide +kernel
theorem dX8_addBox_20 : decode cX8_addBox 20 = .ok (.aload_n 0, 1) := by decide +kernel
theorem dX8_addBox_21 : decode cX8_addBox 21 = .ok (.invokevirtual 118, 3) := by decide +kernel
theorem dX8_addBox_24 : decode cX8_addBox 24 = .ok (.aload_n 0, 1) := by decide +kernel
theorem dX8_addBox_25 : decode cX8_addBox 25 = .ok (.iload_n 1, 1) := by decide +kernel
theorem dX8_addBox_26 : decode cX8_addBox 26 = .ok (.iload_n 2, 1) := by decide +kernel
theorem dX8_addBox_27 : decode cX8_addBox 27 = .ok (.iload_n 3, 1) := by decide +kernel
theorem dX8_addBox_28 : decode cX8_addBox 28 = .ok (.iload 4, 2) := by decide +kernel
theorem dX8_addBox_30 : decode cX8_addBox 30 = .ok (.invokevirtual 121, 3) := by decide +kernel
theorem dX8_addBox_33 : decode cX8_addBox 33 = .ok (.aload_n 0, 1) := by decide +kernel
theorem dX8_addBox_34 : decode cX8_addBox 34 = .ok (.getfield 7, 3) := by decide +kernel
theorem dX8_addBox_37 : decode cX8_addBox 37 = .ok (.iconst 0, 1) := by decide +kernel
theorem dX8_addBox_38 : decode cX8_addBox 38 = .ok (.iaload, 1) := by decide +kernel
theorem dX8_addBox_39 : decode cX8_addBox 39 = .ok (.iconst 1, 1) := by decide +kernel
theorem dX8_addBox_40 : decode cX8_addBox 40 = .ok (.isub, 1) := by decide +kernel
theorem dX8_addBox_41 : decode cX8_addBox 41 = .ok (.ireturn, 1) := by decide +kernel
theorem dX8_turn_0 : decode cX8_turn 0 = .ok (.aload_n 0, 1) := by decide +kernel
theorem dX8_turn_1 : decode cX8_turn 1 = .ok (.getfield 7, 3) := by decide +kernel
theorem dX8_turn_4 : decode cX8_turn 4 = .ok (.iconst 1, 1) := by decide +kernel
theorem dX8_turn_5 : decode cX8_turn 5 = .ok (.bipush 7, 2) := by decide +kernel
theorem dX8_turn_7 : decode cX8_turn 7 = .ok (.iload_n 1, 1) := by decide +kernel
theorem dX8_turn_8 : decode cX8_turn 8 = .ok (.imul, 1) := by decide +kernel
theorem dX8_turn_9 : decode cX8_turn 9 = .ok (.iadd, 1) := by decide +kernel
theorem dX8_turn_10 : decode cX8_turn 10 = .ok (.iload_n 2, 1) := by decide +kernel
theorem dX8_turn_11 : decode cX8_turn 11 = .ok (.iadd, 1) := by decide +kernel
theorem dX8_turn_12 : decode cX8_turn 12 = .ok (.iconst 1, 1) := by decide +kernel
theorem dX8_turn_13 : decode cX8_turn 13 = .ok (.aload_n 0, 1) := by decide +kernel
theorem dX8_turn_14 : decode cX8_turn 14 = .ok (.iload_n 1, 1) := by decide +kernel
theorem dX8_turn_15 : decode cX8_turn 15 = .ok (.iload_n 2, 1) := by decide +kernel
theorem dX8_turn_16 : decode cX8_turn 16 = .ok (.invokevirtual 33, 3) := by decide +kernel
theorem dX8_turn_19 : decode cX8_turn 19 = .ok (.isub, 1) := by decide +kernel
theorem dX8_turn_20 : decode cX8_turn 20 = .ok (.iastore, 1) := by decide +kernel
theorem dX8_turn_21 : decode cX8_turn 21 = .ok (.aload_n 0, 1) := by decide +kernel
theorem dX8_turn_22 : decode cX8_turn 22 = .ok (.invokevirtual 111, 3) := by decide +kernel
theorem dX8_turn_25 : decode cX8_turn 25 = .ok (.return_, 1) := by decide +kernel
theorem dX8_toggle_0 : decode cX8_toggle 0 = .ok (.aload_n 0, 1) := by decide +kernel
theorem dX8_toggle_1 : decode cX8_toggle 1 = .ok (.aload_n 0, 1) := by decide +kernel
theorem dX8_toggle_2 : decode cX8_toggle 2 = .ok (.iload_n 1, 1) := by decide +kernel
theorem dX8_toggle_3 : decode cX8_toggle 3 = .ok (.invokevirtual 125, 3) := by decide +kernel
theorem dX8_toggle_6 : decode cX8_toggle 6 = .ok (.ifCond .eq 7, 3) := by decide +kernel
theorem dX8_toggle_9 : decode cX8_toggle 9 = .ok (.iconst 0, 1) := by decide +kernel
theorem dX8_toggle_10 : decode cX8_toggle 10 = .ok (.goto 4, 3) := by decide +kernel
theorem dX8_toggle_13 : decode cX8_toggle 13 = .ok (.iconst 1, 1) := by decide +kernel
theorem dX8_toggle_14 : decode cX8_toggle 14 = .ok (.putfield 25, 3) := by decide +kernel
theorem dX8_toggle_17 : decode cX8_toggle 17 = .ok (.aload_n 0, 1) := by decide +kernel
theorem dX8_toggle_18 : decode cX8_toggle 18 = .ok (.getfield 25, 3) := by decide +kernel
theorem dX8_toggle_21 : decode cX8_toggle 21 = .ok (.ifCond .le 5, 3) := by decide +kernel
theorem dX8_toggle_24 : decode cX8_toggle 24 = .ok (.iconst 0, 1) := by decide +kernel
theorem dX8_toggle_25 : decode cX8_toggle 25 = .ok (.ireturn, 1) := by decide +kernel
theorem dX8_toggle_26 : decode cX8_toggle 26 = .ok (.aload_n 0, 1) := by decide +kernel
theorem dX8_toggle_27 : decode cX8_toggle 27 = .ok (.invokevirtual 118, 3) := by decide +kernel
theorem dX8_toggle_30 : decode cX8_toggle 30 = .ok (.aload_n 0, 1) := by decide +kernel
theorem dX8_toggle_31 : decode cX8_toggle 31 = .ok (.iload_n 1, 1) := by decide +kernel
theorem dX8_toggle_32 : decode cX8_toggle 32 = .ok (.iconst 2, 1) := by decide +kernel
theorem dX8_toggle_33 : decode cX8_toggle 33 = .ok (.invokevirtual 128, 3) := by decide +kernel
theorem dX8_toggle_36 : decode cX8_toggle 36 = .ok (.aload_n 0, 1) := by decide +kernel
theorem dX8_toggle_37 : decode cX8_toggle 37 = .ok (.iload_n 1, 1) := by decide +kernel
theorem dX8_toggle_38 : decode cX8_toggle 38 = .ok (.iconst 2, 1) := by decide +kernel
theorem dX8_toggle_39 : decode cX8_toggle 39 = .ok (.invokevirtual 33, 3) := by decide +kernel
theorem dX8_toggle_42 : decode cX8_toggle 42 = .ok (.ireturn, 1) := by decide +kernel
theorem dX8_cross_0 : decode cX8_cross 0 = .ok (.aload_n 0, 1) := by decide +kernel
theorem dX8_cross_1 : decode cX8_cross 1 = .ok (.aload_n 0, 1) := by decide +kernel
theorem dX8_cross_2 : decode cX8_cross 2 = .ok (.iload_n 1, 1) := by decide +kernel
theorem dX8_cross_3 : decode cX8_cross 3 = .ok (.invokevirtual 125, 3) := by decide +kernel
theorem dX8_cross_6 : decode cX8_cross 6 = .ok (.ifCond .eq 7, 3) := by decide +kernel
theorem dX8_cross_9 : decode cX8_cross 9 = .ok (.iconst 0, 1) := by decide +kernel
theorem dX8_cross_10 : decode cX8_cross 10 = .ok (.goto 4, 3) := by decide +kernel
theorem dX8_cross_13 : decode cX8_cross 13 = .ok (.iconst 1, 1) := by decide +kernel
theorem dX8_cross_14 : decode cX8_cross 14 = .ok (.putfield 25, 3) := by decide +kernel
theorem dX8_cross_17 : decode cX8_cross 17 = .ok (.aload_n 0, 1) := by decide +kernel
theorem dX8_cross_18 : decode cX8_cross 18 = .ok (.getfield 25, 3) := by decide +kernel
theorem dX8_cross_21 : decode cX8_cross 21 = .ok (.ifCond .le 5, 3) := by decide +kernel
theorem dX8_cross_24 : decode cX8_cross 24 = .ok (.iconst 0, 1) := by decide +kernel
theorem dX8_cross_25 : decode cX8_cross 25 = .ok (.ireturn, 1) := by decide +kernel
theorem dX8_cross_26 : decode cX8_cross 26 = .ok (.aload_n 0, 1) := by decide +kernel
theorem dX8_cross_27 : decode cX8_cross 27 = .ok (.invokevirtual 118, 3) := by decide +kernel
theorem dX8_cross_30 : decode cX8_cross 30 = .ok (.aload_n 0, 1) := by decide +kernel
theorem dX8_cross_31 : decode cX8_cross 31 = .ok (.iload_n 1, 1) := by decide +kernel
theorem dX8_cross_32 : decode cX8_cross 32 = .ok (.iconst 1, 1) := by decide +kernel
theorem dX8_cross_33 : decode cX8_cross 33 = .ok (.invokevirtual 128, 3) := by decide +kernel
theorem dX8_cross_36 : decode cX8_cross 36 = .ok (.aload_n 0, 1) := by decide +kernel
theorem dX8_cross_37 : decode cX8_cross 37 = .ok (.invokevirtual 132, 3) := by decide +kernel
theorem dX8_cross_40 : decode cX8_cross 40 = .ok (.ireturn, 1) := by decide +kernel
theorem dX8_replace_0 : decode cX8_replace 0 = .ok (.aload_n 0, 1) := by decide +kernel
theorem dX8_replace_1 : decode cX8_replace 1 = .ok (.iload_n 1, 1) := by decide +kernel
theorem dX8_replace_2 : decode cX8_replace 2 = .ok (.invokevirtual 125, 3) := by decide +kernel
theorem dX8_replace_5 : decode cX8_replace 5 = .ok (.ifCond .eq 14, 3) := by decide +kernel
theorem dX8_replace_8 : decode cX8_replace 8 = .ok (.iload_n 2, 1) := by decide +kernel
theorem dX8_replace_9 : decode cX8_replace 9 = .ok (.invokestatic 135, 3) := by decide +kernel
theorem dX8_replace_12 : decode cX8_replace 12 = .ok (.ifCond .eq 7, 3) := by decide +kernel
theorem dX8_replace_15 : decode cX8_replace 15 = .ok (.iconst 1, 1) := by decide +kernel
theorem dX8_replace_16 : decode cX8_replace 16 = .ok (.goto 4, 3) := by decide +kernel
theorem dX8_replace_19 : decode cX8_replace 19 = .ok (.iconst 0, 1) := by decide +kernel
theorem dX8_replace_20 : decode cX8_replace 20 = .ok (.istore 4, 2) := by decide +kernel
theorem dX8_replace_22 : decode cX8_replace 22 = .ok (.aload_n 0, 1) := by decide +kernel
theorem dX8_replace_23 : decode cX8_replace 23 = .ok (.iload 4, 2) := by decide +kernel
theorem dX8_replace_25 : decode cX8_replace 25 = .ok (.ifCond .ne 7, 3) := by decide +kernel
theorem dX8_replace_28 : decode cX8_replace 28 = .ok (.iconst 1, 1) := by decide +kernel
theorem dX8_replace_29 : decode cX8_replace 29 = .ok (.goto 30, 3) := by decide +kernel
theorem dX8_replace_32 : decode cX8_replace 32 = .ok (.iload_n 3, 1) := by decide +kernel
theorem dX8_replace_33 : decode cX8_replace 33 = .ok (.invokestatic 108, 3) := by decide +kernel
theorem dX8_replace_36 : decode cX8_replace 36 = .ok (.ifCond .ne 7, 3) := by decide +kernel
theorem dX8_replace_39 : decode cX8_replace 39 = .ok (.iconst 2, 1) := by decide +kernel
theorem dX8_replace_40 : decode cX8_replace 40 = .ok (.goto 19, 3) := by decide +kernel
theorem dX8_replace_43 : decode cX8_replace 43 = .ok (.aload_n 0, 1) := by decide +kernel
theorem dX8_replace_44 : decode cX8_replace 44 = .ok (.getfield 7, 3) := by decide +kernel
theorem dX8_replace_47 : decode cX8_replace 47 = .ok (.sipush 162, 3) := by decide +kernel
theorem dX8_replace_50 : decode cX8_replace 50 = .ok (.iaload, 1) := by decide +kernel
theorem dX8_replace_51 : decode cX8_replace 51 = .ok (.ifCond .ne 7, 3) := by decide +kernel
theorem dX8_replace_54 : decode cX8_replace 54 = .ok (.iconst 3, 1) := by decide +kernel
theorem dX8_replace_55 : decode cX8_replace 55 = .ok (.goto 4, 3) := by decide +kernel
theorem dX8_replace_58 : decode cX8_replace 58 = .ok (.iconst 0, 1) := by decide +kernel
theorem dX8_replace_59 : decode cX8_replace 59 = .ok (.putfield 25, 3) := by decide +kernel
theorem dX8_replace_62 : decode cX8_replace 62 = .ok (.aload_n 0, 1) := by decide +kernel
theorem dX8_replace_63 : decode cX8_replace 63 = .ok (.getfield 25, 3) := by decide +kernel
theorem dX8_replace_66 : decode cX8_replace 66 = .ok (.ifCond .le 5, 3) := by decide +kernel
theorem dX8_replace_69 : decode cX8_replace 69 = .ok (.iconst 0, 1) := by decide +kernel
theorem dX8_replace_70 : decode cX8_replace 70 = .ok (.ireturn, 1) := by decide +kernel
theorem dX8_replace_71 : decode cX8_replace 71 = .ok (.aload_n 0, 1) := by decide +kernel
theorem dX8_replace_72 : decode cX8_replace 72 = .ok (.invokevirtual 118, 3) := by decide +kernel
theorem dX8_replace_75 : decode cX8_replace 75 = .ok (.aload_n 0, 1) := by decide +kernel
theorem dX8_replace_76 : decode cX8_replace 76 = .ok (.getfield 7, 3) := by decide +kernel
theorem dX8_replace_79 : decode cX8_replace 79 = .ok (.sipush 162, 3) := by decide +kernel
theorem dX8_replace_82 : decode cX8_replace 82 = .ok (.dup2, 1) := by decide +kernel
theorem dX8_replace_83 : decode cX8_replace 83 = .ok (.iaload, 1) := by decide +kernel
theorem dX8_replace_84 : decode cX8_replace 84 = .ok (.iconst 1, 1) := by decide +kernel
theorem dX8_replace_85 : decode cX8_replace 85 = .ok (.isub, 1) := by decide +kernel
theorem dX8_replace_86 : decode cX8_replace 86 = .ok (.iastore, 1) := by decide +kernel
theorem dX8_replace_87 : decode cX8_replace 87 = .ok (.aload_n 0, 1) := by decide +kernel
theorem dX8_replace_88 : decode cX8_replace 88 = .ok (.getfield 7, 3) := by decide +kernel
theorem dX8_replace_91 : decode cX8_replace 91 = .ok (.iconst 1, 1) := by decide +kernel
theorem dX8_replace_92 : decode cX8_replace 92 = .ok (.bipush 7, 2) := by decide +kernel
theorem dX8_replace_94 : decode cX8_replace 94 = .ok (.iload_n 1, 1) := by decide +kernel
theorem dX8_replace_95 : decode cX8_replace 95 = .ok (.imul, 1) := by decide +kernel
theorem dX8_replace_96 : decode cX8_replace 96 = .ok (.iadd, 1) := by decide +kernel
theorem dX8_replace_97 : decode cX8_replace 97 = .ok (.iconst 3, 1) := by decide +kernel
theorem dX8_replace_98 : decode cX8_replace 98 = .ok (.iadd, 1) := by decide +kernel
theorem dX8_replace_99 : decode cX8_replace 99 = .ok (.iload_n 2, 1) := by decide +kernel
theorem dX8_replace_100 : decode cX8_replace 100 = .ok (.iadd, 1) := by decide +kernel
theorem dX8_replace_101 : decode cX8_replace 101 = .ok (.iload_n 3, 1) := by decide +kernel
theorem dX8_replace_102 : decode cX8_replace 102 = .ok (.iastore, 1) := by decide +kernel
theorem dX8_replace_103 : decode cX8_replace 103 = .ok (.aload_n 0, 1) := by decide +kernel
theorem dX8_replace_104 : decode cX8_replace 104 = .ok (.getfield 7, 3) := by decide +kernel
theorem dX8_replace_107 : decode cX8_replace 107 = .ok (.iconst 1, 1) := by decide +kernel
theorem dX8_replace_108 : decode cX8_replace 108 = .ok (.bipush 7, 2) := by decide +kernel
theorem dX8_replace_110 : decode cX8_replace 110 = .ok (.iload_n 1, 1) := by decide +kernel
theorem dX8_replace_111 : decode cX8_replace 111 = .ok (.imul, 1) := by decide +kernel
theorem dX8_replace_112 : decode cX8_replace 112 = .ok (.iadd, 1) := by decide +kernel
theorem dX8_replace_113 : decode cX8_replace 113 = .ok (.iconst 5, 1) := by decide +kernel
theorem dX8_replace_114 : decode cX8_replace 114 = .ok (.iadd, 1) := by decide +kernel
theorem dX8_replace_115 : decode cX8_replace 115 = .ok (.iload_n 2, 1) := by decide +kernel
theorem dX8_replace_116 : decode cX8_replace 116 = .ok (.iadd, 1) := by decide +kernel
theorem dX8_replace_117 : decode cX8_replace 117 = .ok (.iconst 0, 1) := by decide +kernel
theorem dX8_replace_118 : decode cX8_replace 118 = .ok (.iastore, 1) := by decide +kernel
theorem dX8_replace_119 : decode cX8_replace 119 = .ok (.aload_n 0, 1) := by decide +kernel
theorem dX8_replace_120 : decode cX8_replace 120 = .ok (.invokevirtual 111, 3) := by decide +kernel
theorem dX8_replace_123 : decode cX8_replace 123 = .ok (.iconst 1, 1) := by decide +kernel
theorem dX8_replace_124 : decode cX8_replace 124 = .ok (.aload_n 0, 1) := by decide +kernel
theorem dX8_replace_125 : decode cX8_replace 125 = .ok (.iload_n 1, 1) := by decide +kernel
theorem dX8_replace_126 : decode cX8_replace 126 = .ok (.iconst 5, 1) := by decide +kernel
theorem dX8_replace_127 : decode cX8_replace 127 = .ok (.iload_n 2, 1) := by decide +kernel
theorem dX8_replace_128 : decode cX8_replace 128 = .ok (.iadd, 1) := by decide +kernel
theorem dX8_replace_129 : decode cX8_replace 129 = .ok (.invokevirtual 33, 3) := by decide +kernel
theorem dX8_replace_132 : decode cX8_replace 132 = .ok (.isub, 1) := by decide +kernel
theorem dX8_replace_133 : decode cX8_replace 133 = .ok (.ireturn, 1) := by decide +kernel
theorem dX8_buyFuses_0 : decode cX8_buyFuses 0 = .ok (.aload_n 0, 1) := by decide +kernel
theorem dX8_buyFuses_1 : decode cX8_buyFuses 1 = .ok (.iload_n 1, 1) := by decide +kernel
theorem dX8_buyFuses_2 : decode cX8_buyFuses 2 = .ok (.iconst 1, 1) := by decide +kernel
theorem dX8_buyFuses_3 : decode cX8_buyFuses 3 = .ok (.bipush 20, 2) := by decide +kernel
theorem dX8_buyFuses_5 : decode cX8_buyFuses 5 = .ok (.invokestatic 29, 3) := by decide +kernel
theorem dX8_buyFuses_8 : decode cX8_buyFuses 8 = .ok (.ifCond .ne 7, 3) := by decide +kernel
theorem dX8_buyFuses_11 : decode cX8_buyFuses 11 = .ok (.iconst 1, 1) := by decide +kernel
theorem dX8_buyFuses_12 : decode cX8_buyFuses 12 = .ok (.goto 23, 3) := by decide +kernel
theorem dX8_buyFuses_15 : decode cX8_buyFuses 15 = .ok (.aload_n 0, 1) := by decide +kernel
theorem dX8_buyFuses_16 : decode cX8_buyFuses 16 = .ok (.getfield 7, 3) := by decide +kernel
theorem dX8_buyFuses_19 : decode cX8_buyFuses 19 = .ok (.sipush 162, 3) := by decide +kernel
theorem dX8_buyFuses_22 : decode cX8_buyFuses 22 = .ok (.iaload, 1) := by decide +kernel
theorem dX8_buyFuses_23 : decode cX8_buyFuses 23 = .ok (.iload_n 1, 1) := by decide +kernel
theorem dX8_buyFuses_24 : decode cX8_buyFuses 24 = .ok (.iadd, 1) := by decide +kernel
theorem dX8_buyFuses_25 : decode cX8_buyFuses 25 = .ok (.bipush 50, 2) := by decide +kernel
theorem dX8_buyFuses_27 : decode cX8_buyFuses 27 = .ok (.if_icmp .le 7, 3) := by decide +kernel
theorem dX8_buyFuses_30 : decode cX8_buyFuses 30 = .ok (.iconst 2, 1) := by decide +kernel
theorem dX8_buyFuses_31 : decode cX8_buyFuses 31 = .ok (.goto 4, 3) := by decide +kernel
theorem dX8_buyFuses_34 : decode cX8_buyFuses 34 = .ok (.iconst 0, 1) := by decide +kernel
theorem dX8_buyFuses_35 : decode cX8_buyFuses 35 = .ok (.putfield 25, 3) := by decide +kernel
theorem dX8_buyFuses_38 : decode cX8_buyFuses 38 = .ok (.aload_n 0, 1) := by decide +kernel
theorem dX8_buyFuses_39 : decode cX8_buyFuses 39 = .ok (.getfield 25, 3) := by decide +kernel
theorem dX8_buyFuses_42 : decode cX8_buyFuses 42 = .ok (.ifCond .le 5, 3) := by decide +kernel
theorem dX8_buyFuses_45 : decode cX8_buyFuses 45 = .ok (.iconst 0, 1) := by decide +kernel
theorem dX8_buyFuses_46 : decode cX8_buyFuses 46 = .ok (.ireturn, 1) := by decide +kernel
theorem dX8_buyFuses_47 : decode cX8_buyFuses 47 = .ok (.aload_n 0, 1) := by decide +kernel
theorem dX8_buyFuses_48 : decode cX8_buyFuses 48 = .ok (.invokevirtual 118, 3) := by decide +kernel
theorem dX8_buyFuses_51 : decode cX8_buyFuses 51 = .ok (.aload_n 0, 1) := by decide +kernel
theorem dX8_buyFuses_52 : decode cX8_buyFuses 52 = .ok (.getfield 7, 3) := by decide +kernel
theorem dX8_buyFuses_55 : decode cX8_buyFuses 55 = .ok (.sipush 162, 3) := by decide +kernel
theorem dX8_buyFuses_58 : decode cX8_buyFuses 58 = .ok (.dup2, 1) := by decide +kernel
theorem dX8_buyFuses_59 : decode cX8_buyFuses 59 = .ok (.iaload, 1) := by decide +kernel
theorem dX8_buyFuses_60 : decode cX8_buyFuses 60 = .ok (.iload_n 1, 1) := by decide +kernel
theorem dX8_buyFuses_61 : decode cX8_buyFuses 61 = .ok (.iadd, 1) := by decide +kernel
theorem dX8_buyFuses_62 : decode cX8_buyFuses 62 = .ok (.iastore, 1) := by decide +kernel
theorem dX8_buyFuses_63 : decode cX8_buyFuses 63 = .ok (.aload_n 0, 1) := by decide +kernel
theorem dX8_buyFuses_64 : decode cX8_buyFuses 64 = .ok (.getfield 7, 3) := by decide +kernel
theorem dX8_buyFuses_67 : decode cX8_buyFuses 67 = .ok (.sipush 162, 3) := by decide +kernel
theorem dX8_buyFuses_70 : decode cX8_buyFuses 70 = .ok (.iaload, 1) := by decide +kernel
theorem dX8_buyFuses_71 : decode cX8_buyFuses 71 = .ok (.ireturn, 1) := by decide +kernel
theorem dX8_whyNoLantern_0 : decode cX8_whyNoLantern 0 = .ok (.aload_n 0, 1) := by decide +kernel
theorem dX8_whyNoLantern_1 : decode cX8_whyNoLantern 1 = .ok (.iload_n 1, 1) := by decide +kernel
theorem dX8_whyNoLantern_2 : decode cX8_whyNoLantern 2 = .ok (.invokevirtual 105, 3) := by decide +kernel
theorem dX8_whyNoLantern_5 : decode cX8_whyNoLantern 5 = .ok (.ifCond .ne 7, 3) := by decide +kernel
theorem dX8_whyNoLantern_8 : decode cX8_whyNoLantern 8 = .ok (.iconst 1, 1) := by decide +kernel
theorem dX8_whyNoLantern_9 : decode cX8_whyNoLantern 9 = .ok (.goto 34, 3) := by decide +kernel
theorem dX8_whyNoLantern_12 : decode cX8_whyNoLantern 12 = .ok (.iload_n 2, 1) := by decide +kernel
theorem dX8_whyNoLantern_13 : decode cX8_whyNoLantern 13 = .ok (.iconst 1, 1) := by decide +kernel
theorem dX8_whyNoLantern_14 : decode cX8_whyNoLantern 14 = .ok (.bipush 9, 2) := by decide +kernel
theorem dX8_whyNoLantern_16 : decode cX8_whyNoLantern 16 = .ok (.invokestatic 29, 3) := by decide +kernel
theorem dX8_whyNoLantern_19 : decode cX8_whyNoLantern 19 = .ok (.ifCond .ne 7, 3) := by decide +kernel
theorem dX8_whyNoLantern_22 : decode cX8_whyNoLantern 22 = .ok (.iconst 2, 1) := by decide +kernel
theorem dX8_whyNoLantern_23 : decode cX8_whyNoLantern 23 = .ok (.goto 20, 3) := by decide +kernel
theorem dX8_whyNoLantern_26 : decode cX8_whyNoLantern 26 = .ok (.aload_n 0, 1) := by decide +kernel
theorem dX8_whyNoLantern_27 : decode cX8_whyNoLantern 27 = .ok (.getfield 7, 3) := by decide +kernel
theorem dX8_whyNoLantern_30 : decode cX8_whyNoLantern 30 = .ok (.bipush 85, 2) := by decide +kernel
theorem dX8_whyNoLantern_32 : decode cX8_whyNoLantern 32 = .ok (.iaload, 1) := by decide +kernel
theorem dX8_whyNoLantern_33 : decode cX8_whyNoLantern 33 = .ok (.bipush 16, 2) := by decide +kernel
theorem dX8_whyNoLantern_35 : decode cX8_whyNoLantern 35 = .ok (.if_icmp .ne 7, 3) := by decide +kernel
theorem dX8_whyNoLantern_38 : decode cX8_whyNoLantern 38 = .ok (.iconst 3, 1) := by decide +kernel
theorem dX8_whyNoLantern_39 : decode cX8_whyNoLantern 39 = .ok (.goto 4, 3) := by decide +kernel
theorem dX8_whyNoLantern_42 : decode cX8_whyNoLantern 42 = .ok (.iconst 0, 1) := by decide +kernel
theorem dX8_whyNoLantern_43 : decode cX8_whyNoLantern 43 = .ok (.ireturn, 1) := by decide +kernel
theorem dX8_bringLantern_0 : decode cX8_bringLantern 0 = .ok (.bipush 86, 2) := by decide +kernel
theorem dX8_bringLantern_2 : decode cX8_bringLantern 2 = .ok (.iconst 3, 1) := by decide +kernel
theorem dX8_bringLantern_3 : decode cX8_bringLantern 3 = .ok (.aload_n 0, 1) := by decide +kernel
theorem dX8_bringLantern_4 : decode cX8_bringLantern 4 = .ok (.getfield 7, 3) := by decide +kernel
theorem dX8_bringLantern_7 : decode cX8_bringLantern 7 = .ok (.bipush 85, 2) := by decide +kernel
theorem dX8_bringLantern_9 : decode cX8_bringLantern 9 = .ok (.iaload, 1) := by decide +kernel
theorem dX8_bringLantern_10 : decode cX8_bringLantern 10 = .ok (.imul, 1) := by decide +kernel
theorem dX8_bringLantern_11 : decode cX8_bringLantern 11 = .ok (.iadd, 1) := by decide +kernel
theorem dX8_bringLantern_12 : decode cX8_bringLantern 12 = .ok (.istore 4, 2) := by decide +kernel
theorem dX8_bringLantern_14 : decode cX8_bringLantern 14 = .ok (.aload_n 0, 1) := by decide +kernel
theorem dX8_bringLantern_15 : decode cX8_bringLantern 15 = .ok (.getfield 7, 3) := by decide +kernel
theorem dX8_bringLantern_18 : decode cX8_bringLantern 18 = .ok (.iload 4, 2) := by decide +kernel
theorem dX8_bringLantern_20 : decode cX8_bringLantern 20 = .ok (.iload_n 1, 1) := by decide +kernel
theorem dX8_bringLantern_21 : decode cX8_bringLantern 21 = .ok (.iastore, 1) := by decide +kernel
theorem dX8_bringLantern_22 : decode cX8_bringLantern 22 = .ok (.aload_n 0, 1) := by decide +kernel
theorem dX8_bringLantern_23 : decode cX8_bringLantern 23 = .ok (.getfield 7, 3) := by decide +kernel
theorem dX8_bringLantern_26 : decode cX8_bringLantern 26 = .ok (.iload 4, 2) := by decide +kernel
theorem dX8_bringLantern_28 : decode cX8_bringLantern 28 = .ok (.iconst 1, 1) := by decide +kernel
theorem dX8_bringLantern_29 : decode cX8_bringLantern 29 = .ok (.iadd, 1) := by decide +kernel
theorem dX8_bringLantern_30 : decode cX8_bringLantern 30 = .ok (.iload_n 2, 1) := by decide +kernel
theorem dX8_bringLantern_31 : decode cX8_bringLantern 31 = .ok (.iastore, 1) := by decide +kernel
theorem dX8_bringLantern_32 : decode cX8_bringLantern 32 = .ok (.aload_n 0, 1) := by decide +kernel
theorem dX8_bringLantern_33 : decode cX8_bringLantern 33 = .ok (.getfield 7, 3) := by decide +kernel
theorem dX8_bringLantern_36 : decode cX8_bringLantern 36 = .ok (.iload 4, 2) := by decide +kernel
theorem dX8_bringLantern_38 : decode cX8_bringLantern 38 = .ok (.iconst 2, 1) := by decide +kernel
theorem dX8_bringLantern_39 : decode cX8_bringLantern 39 = .ok (.iadd, 1) := by decide +kernel
theorem dX8_bringLantern_40 : decode cX8_bringLantern 40 = .ok (.iload_n 3, 1) := by decide +kernel
theorem dX8_bringLantern_41 : decode cX8_bringLantern 41 = .ok (.ifCond .eq 7, 3) := by decide +kernel
theorem dX8_bringLantern_44 : decode cX8_bringLantern 44 = .ok (.iconst 1, 1) := by decide +kernel
theorem dX8_bringLantern_45 : decode cX8_bringLantern 45 = .ok (.goto 4, 3) := by decide +kernel
theorem dX8_bringLantern_48 : decode cX8_bringLantern 48 = .ok (.iconst 0, 1) := by decide +kernel
theorem dX8_bringLantern_49 : decode cX8_bringLantern 49 = .ok (.iastore, 1) := by decide +kernel
theorem dX8_bringLantern_50 : decode cX8_bringLantern 50 = .ok (.aload_n 0, 1) := by decide +kernel
theorem dX8_bringLantern_51 : decode cX8_bringLantern 51 = .ok (.getfield 7, 3) := by decide +kernel
theorem dX8_bringLantern_54 : decode cX8_bringLantern 54 = .ok (.bipush 85, 2) := by decide +kernel
theorem dX8_bringLantern_56 : decode cX8_bringLantern 56 = .ok (.dup2, 1) := by decide +kernel
theorem dX8_bringLantern_57 : decode cX8_bringLantern 57 = .ok (.iaload, 1) := by decide +kernel
theorem dX8_bringLantern_58 : decode cX8_bringLantern 58 = .ok (.iconst 1, 1) := by decide +kernel
theorem dX8_bringLantern_59 : decode cX8_bringLantern 59 = .ok (.iadd, 1) := by decide +kernel
theorem dX8_bringLantern_60 : decode cX8_bringLantern 60 = .ok (.iastore, 1) := by decide +kernel
theorem dX8_bringLantern_61 : decode cX8_bringLantern 61 = .ok (.aload_n 0, 1) := by decide +kernel
theorem dX8_bringLantern_62 : decode cX8_bringLantern 62 = .ok (.invokevirtual 111, 3) := by decide +kernel
theorem dX8_bringLantern_65 : decode cX8_bringLantern 65 = .ok (.return_, 1) := by decide +kernel
theorem dX8_hang_0 : decode cX8_hang 0 = .ok (.aload_n 0, 1) := by decide +kernel
theorem dX8_hang_1 : decode cX8_hang 1 = .ok (.aload_n 0, 1) := by decide +kernel
theorem dX8_hang_2 : decode cX8_hang 2 = .ok (.iload_n 1, 1) := by decide +kernel
theorem dX8_hang_3 : decode cX8_hang 3 = .ok (.iload_n 2, 1) := by decide +kernel
theorem dX8_hang_4 : decode cX8_hang 4 = .ok (.invokevirtual 138, 3) := by decide +kernel
theorem dX8_hang_7 : decode cX8_hang 7 = .ok (.putfield 25, 3) := by decide +kernel
theorem dX8_hang_10 : decode cX8_hang 10 = .ok (.aload_n 0, 1) := by decide +kernel
theorem dX8_hang_11 : decode cX8_hang 11 = .ok (.getfield 25, 3) := by decide +kernel
theorem dX8_hang_14 : decode cX8_hang 14 = .ok (.ifCond .le 5, 3) := by decide +kernel
theorem dX8_hang_17 : decode cX8_hang 17 = .ok (.iconst 0, 1) := by decide +kernel
theorem dX8_hang_18 : decode cX8_hang 18 = .ok (.ireturn, 1) := by decide +kernel
theorem dX8_hang_19 : decode cX8_hang 19 = .ok (.aload_n 0, 1) := by decide +kernel
theorem dX8_hang_20 : decode cX8_hang 20 = .ok (.invokevirtual 118, 3) := by decide +kernel
theorem dX8_hang_23 : decode cX8_hang 23 = .ok (.aload_n 0, 1) := by decide +kernel
theorem dX8_hang_24 : decode cX8_hang 24 = .ok (.iload_n 1, 1) := by decide +kernel
theorem dX8_hang_25 : decode cX8_hang 25 = .ok (.iload_n 2, 1) := by decide +kernel
theorem dX8_hang_26 : decode cX8_hang 26 = .ok (.iload_n 3, 1) := by decide +kernel
theorem dX8_hang_27 : decode cX8_hang 27 = .ok (.invokevirtual 141, 3) := by decide +kernel
theorem dX8_hang_30 : decode cX8_hang 30 = .ok (.aload_n 0, 1) := by decide +kernel
theorem dX8_hang_31 : decode cX8_hang 31 = .ok (.getfield 7, 3) := by decide +kernel
theorem dX8_hang_34 : decode cX8_hang 34 = .ok (.bipush 85, 2) := by decide +kernel
theorem dX8_hang_36 : decode cX8_hang 36 = .ok (.iaload, 1) := by decide +kernel
theorem dX8_hang_37 : decode cX8_hang 37 = .ok (.iconst 1, 1) := by decide +kernel
theorem dX8_hang_38 : decode cX8_hang 38 = .ok (.isub, 1) := by decide +kernel
theorem dX8_hang_39 : decode cX8_hang 39 = .ok (.ireturn, 1) := by decide +kernel
theorem dX8_isLantern_0 : decode cX8_isLantern 0 = .ok (.iload_n 1, 1) := by decide +kernel
theorem dX8_isLantern_1 : decode cX8_isLantern 1 = .ok (.iconst 0, 1) := by decide +kernel
theorem dX8_isLantern_2 : decode cX8_isLantern 2 = .ok (.aload_n 0, 1) := by decide +kernel
theorem dX8_isLantern_3 : decode cX8_isLantern 3 = .ok (.getfield 7, 3) := by decide +kernel
theorem dX8_isLantern_6 : decode cX8_isLantern 6 = .ok (.bipush 85, 2) := by decide +kernel
theorem dX8_isLantern_8 : decode cX8_isLantern 8 = .ok (.iaload, 1) := by decide +kernel
theorem dX8_isLantern_9 : decode cX8_isLantern 9 = .ok (.iconst 1, 1) := by decide +kernel
theorem dX8_isLantern_10 : decode cX8_isLantern 10 = .ok (.isub, 1) := by decide +kernel
theorem dX8_isLantern_11 : decode cX8_isLantern 11 = .ok (.invokestatic 29, 3) := by decide +kernel
theorem dX8_isLantern_14 : decode cX8_isLantern 14 = .ok (.ireturn, 1) := by decide +kernel
theorem dX8_takeDown_0 : decode cX8_takeDown 0 = .ok (.aload_n 0, 1) := by decide +kernel
theorem dX8_takeDown_1 : decode cX8_takeDown 1 = .ok (.aload_n 0, 1) := by decide +kernel
theorem dX8_takeDown_2 : decode cX8_takeDown 2 = .ok (.iload_n 1, 1) := by decide +kernel
theorem dX8_takeDown_3 : decode cX8_takeDown 3 = .ok (.invokevirtual 145, 3) := by decide +kernel
theorem dX8_takeDown_6 : decode cX8_takeDown 6 = .ok (.ifCond .eq 7, 3) := by decide +kernel
theorem dX8_takeDown_9 : decode cX8_takeDown 9 = .ok (.iconst 0, 1) := by decide +kernel
theorem dX8_takeDown_10 : decode cX8_takeDown 10 = .ok (.goto 4, 3) := by decide +kernel
theorem dX8_takeDown_13 : decode cX8_takeDown 13 = .ok (.iconst 1, 1) := by decide +kernel
theorem dX8_takeDown_14 : decode cX8_takeDown 14 = .ok (.putfield 25, 3) := by decide +kernel
theorem dX8_takeDown_17 : decode cX8_takeDown 17 = .ok (.aload_n 0, 1) := by decide +kernel
theorem dX8_takeDown_18 : decode cX8_takeDown 18 = .ok (.getfield 25, 3) := by decide +kernel
theorem dX8_takeDown_21 : decode cX8_takeDown 21 = .ok (.ifCond .le 5, 3) := by decide +kernel
theorem dX8_takeDown_24 : decode cX8_takeDown 24 = .ok (.iconst 0, 1) := by decide +kernel
theorem dX8_takeDown_25 : decode cX8_takeDown 25 = .ok (.ireturn, 1) := by decide +kernel
theorem dX8_takeDown_26 : decode cX8_takeDown 26 = .ok (.aload_n 0, 1) := by decide +kernel
theorem dX8_takeDown_27 : decode cX8_takeDown 27 = .ok (.invokevirtual 118, 3) := by decide +kernel
theorem dX8_takeDown_30 : decode cX8_takeDown 30 = .ok (.aload_n 0, 1) := by decide +kernel
theorem dX8_takeDown_31 : decode cX8_takeDown 31 = .ok (.iload_n 1, 1) := by decide +kernel
theorem dX8_takeDown_32 : decode cX8_takeDown 32 = .ok (.invokevirtual 54, 3) := by decide +kernel
theorem dX8_takeDown_35 : decode cX8_takeDown 35 = .ok (.ifCond .ne 7, 3) := by decide +kernel
theorem dX8_takeDown_38 : decode cX8_takeDown 38 = .ok (.iconst 1, 1) := by decide +kernel
theorem dX8_takeDown_39 : decode cX8_takeDown 39 = .ok (.goto 4, 3) := by decide +kernel
theorem dX8_takeDown_42 : decode cX8_takeDown 42 = .ok (.iconst 0, 1) := by decide +kernel
theorem dX8_takeDown_43 : decode cX8_takeDown 43 = .ok (.istore_n 2, 1) := by decide +kernel
theorem dX8_takeDown_44 : decode cX8_takeDown 44 = .ok (.aload_n 0, 1) := by decide +kernel
theorem dX8_takeDown_45 : decode cX8_takeDown 45 = .ok (.getfield 7, 3) := by decide +kernel
theorem dX8_takeDown_48 : decode cX8_takeDown 48 = .ok (.bipush 85, 2) := by decide +kernel
theorem dX8_takeDown_50 : decode cX8_takeDown 50 = .ok (.dup2, 1) := by decide +kernel
theorem dX8_takeDown_51 : decode cX8_takeDown 51 = .ok (.iaload, 1) := by decide +kernel
theorem dX8_takeDown_52 : decode cX8_takeDown 52 = .ok (.iconst 1, 1) := by decide +kernel
theorem dX8_takeDown_53 : decode cX8_takeDown 53 = .ok (.isub, 1) := by decide +kernel
theorem dX8_takeDown_54 : decode cX8_takeDown 54 = .ok (.iastore, 1) := by decide +kernel
theorem dX8_takeDown_55 : decode cX8_takeDown 55 = .ok (.bipush 86, 2) := by decide +kernel
theorem dX8_takeDown_57 : decode cX8_takeDown 57 = .ok (.iconst 3, 1) := by decide +kernel
theorem dX8_takeDown_58 : decode cX8_takeDown 58 = .ok (.iload_n 1, 1) := by decide +kernel
theorem dX8_takeDown_59 : decode cX8_takeDown 59 = .ok (.imul, 1) := by decide +kernel
theorem dX8_takeDown_60 : decode cX8_takeDown 60 = .ok (.iadd, 1) := by decide +kernel
theorem dX8_takeDown_61 : decode cX8_takeDown 61 = .ok (.istore_n 3, 1) := by decide +kernel
theorem dX8_takeDown_62 : decode cX8_takeDown 62 = .ok (.iload_n 3, 1) := by decide +kernel
theorem dX8_takeDown_63 : decode cX8_takeDown 63 = .ok (.bipush 86, 2) := by decide +kernel
theorem dX8_takeDown_65 : decode cX8_takeDown 65 = .ok (.iconst 3, 1) := by decide +kernel
theorem dX8_takeDown_66 : decode cX8_takeDown 66 = .ok (.aload_n 0, 1) := by decide +kernel
theorem dX8_takeDown_67 : decode cX8_takeDown 67 = .ok (.getfield 7, 3) := by decide +kernel
theorem dX8_takeDown_70 : decode cX8_takeDown 70 = .ok (.bipush 85, 2) := by decide +kernel
theorem dX8_takeDown_72 : decode cX8_takeDown 72 = .ok (.iaload, 1) := by decide +kernel
theorem dX8_takeDown_73 : decode cX8_takeDown 73 = .ok (.imul, 1) := by decide +kernel
theorem dX8_takeDown_74 : decode cX8_takeDown 74 = .ok (.iadd, 1) := by decide +kernel
theorem dX8_takeDown_75 : decode cX8_takeDown 75 = .ok (.if_icmp .ge 23, 3) := by decide +kernel
theorem dX8_takeDown_78 : decode cX8_takeDown 78 = .ok (.aload_n 0, 1) := by decide +kernel
theorem dX8_takeDown_79 : decode cX8_takeDown 79 = .ok (.getfield 7, 3) := by decide +kernel
theorem dX8_takeDown_82 : decode cX8_takeDown 82 = .ok (.iload_n 3, 1) := by decide +kernel
theorem dX8_takeDown_83 : decode cX8_takeDown 83 = .ok (.aload_n 0, 1) := by decide +kernel
theorem dX8_takeDown_84 : decode cX8_takeDown 84 = .ok (.getfield 7, 3) := by decide +kernel
theorem dX8_takeDown_87 : decode cX8_takeDown 87 = .ok (.iload_n 3, 1) := by decide +kernel
theorem dX8_takeDown_88 : decode cX8_takeDown 88 = .ok (.iconst 3, 1) := by decide +kernel
theorem dX8_takeDown_89 : decode cX8_takeDown 89 = .ok (.iadd, 1) := by decide +kernel
theorem dX8_takeDown_90 : decode cX8_takeDown 90 = .ok (.iaload, 1) := by decide +kernel
theorem dX8_takeDown_91 : decode cX8_takeDown 91 = .ok (.iastore, 1) := by decide +kernel
theorem dX8_takeDown_92 : decode cX8_takeDown 92 = .ok (.iinc 3 1, 3) := by decide +kernel
theorem dX8_takeDown_95 : decode cX8_takeDown 95 = .ok (.goto (-33), 3) := by decide +kernel
theorem dX8_takeDown_98 : decode cX8_takeDown 98 = .ok (.aload_n 0, 1) := by decide +kernel
theorem dX8_takeDown_99 : decode cX8_takeDown 99 = .ok (.invokevirtual 111, 3) := by decide +kernel
theorem dX8_takeDown_102 : decode cX8_takeDown 102 = .ok (.iload_n 2, 1) := by decide +kernel
theorem dX8_takeDown_103 : decode cX8_takeDown 103 = .ok (.ireturn, 1) := by decide +kernel
theorem dX8_whyNoFault_0 : decode cX8_whyNoFault 0 = .ok (.aload_n 0, 1) := by decide +kernel
theorem dX8_whyNoFault_1 : decode cX8_whyNoFault 1 = .ok (.iload_n 1, 1) := by decide +kernel
theorem dX8_whyNoFault_2 : decode cX8_whyNoFault 2 = .ok (.invokevirtual 105, 3) := by decide +kernel
theorem dX8_whyNoFault_5 : decode cX8_whyNoFault 5 = .ok (.ifCond .eq 10, 3) := by decide +kernel
theorem dX8_whyNoFault_8 : decode cX8_whyNoFault 8 = .ok (.iload_n 2, 1) := by decide +kernel
theorem dX8_whyNoFault_9 : decode cX8_whyNoFault 9 = .ok (.invokestatic 135, 3) := by decide +kernel
theorem dX8_whyNoFault_12 : decode cX8_whyNoFault 12 = .ok (.ifCond .ne 7, 3) := by decide +kernel
theorem dX8_whyNoFault_15 : decode cX8_whyNoFault 15 = .ok (.iconst 1, 1) := by decide +kernel
theorem dX8_whyNoFault_16 : decode cX8_whyNoFault 16 = .ok (.goto 35, 3) := by decide +kernel
theorem dX8_whyNoFault_19 : decode cX8_whyNoFault 19 = .ok (.iload_n 3, 1) := by decide +kernel
theorem dX8_whyNoFault_20 : decode cX8_whyNoFault 20 = .ok (.iconst 1, 1) := by decide +kernel
theorem dX8_whyNoFault_21 : decode cX8_whyNoFault 21 = .ok (.bipush 30, 2) := by decide +kernel
theorem dX8_whyNoFault_23 : decode cX8_whyNoFault 23 = .ok (.invokestatic 29, 3) := by decide +kernel
theorem dX8_whyNoFault_26 : decode cX8_whyNoFault 26 = .ok (.ifCond .ne 7, 3) := by decide +kernel
theorem dX8_whyNoFault_29 : decode cX8_whyNoFault 29 = .ok (.iconst 2, 1) := by decide +kernel
theorem dX8_whyNoFault_30 : decode cX8_whyNoFault 30 = .ok (.goto 21, 3) := by decide +kernel
theorem dX8_whyNoFault_33 : decode cX8_whyNoFault 33 = .ok (.aload_n 0, 1) := by decide +kernel
theorem dX8_whyNoFault_34 : decode cX8_whyNoFault 34 = .ok (.getfield 7, 3) := by decide +kernel
theorem dX8_whyNoFault_37 : decode cX8_whyNoFault 37 = .ok (.sipush 134, 3) := by decide +kernel
theorem dX8_whyNoFault_40 : decode cX8_whyNoFault 40 = .ok (.iaload, 1) := by decide +kernel
theorem dX8_whyNoFault_41 : decode cX8_whyNoFault 41 = .ok (.bipush 8, 2) := by decide +kernel
theorem dX8_whyNoFault_43 : decode cX8_whyNoFault 43 = .ok (.if_icmp .ne 7, 3) := by decide +kernel
theorem dX8_whyNoFault_46 : decode cX8_whyNoFault 46 = .ok (.iconst 3, 1) := by decide +kernel
theorem dX8_whyNoFault_47 : decode cX8_whyNoFault 47 = .ok (.goto 4, 3) := by decide +kernel
theorem dX8_whyNoFault_50 : decode cX8_whyNoFault 50 = .ok (.iconst 0, 1) := by decide +kernel
theorem dX8_whyNoFault_51 : decode cX8_whyNoFault 51 = .ok (.ireturn, 1) := by decide +kernel
theorem dX8_bringFault_0 : decode cX8_bringFault 0 = .ok (.sipush 135, 3) := by decide +kernel
theorem dX8_bringFault_3 : decode cX8_bringFault 3 = .ok (.iconst 3, 1) := by decide +kernel
theorem dX8_bringFault_4 : decode cX8_bringFault 4 = .ok (.aload_n 0, 1) := by decide +kernel
theorem dX8_bringFault_5 : decode cX8_bringFault 5 = .ok (.getfield 7, 3) := by decide +kernel
theorem dX8_bringFault_8 : decode cX8_bringFault 8 = .ok (.sipush 134, 3) := by decide +kernel
theorem dX8_bringFault_11 : decode cX8_bringFault 11 = .ok (.iaload, 1) := by decide +kernel
theorem dX8_bringFault_12 : decode cX8_bringFault 12 = .ok (.imul, 1) := by decide +kernel
theorem dX8_bringFault_13 : decode cX8_bringFault 13 = .ok (.iadd, 1) := by decide +kernel
theorem dX8_bringFault_14 : decode cX8_bringFault 14 = .ok (.istore 4, 2) := by decide +kernel
theorem dX8_bringFault_16 : decode cX8_bringFault 16 = .ok (.aload_n 0, 1) := by decide +kernel
theorem dX8_bringFault_17 : decode cX8_bringFault 17 = .ok (.getfield 7, 3) := by decide +kernel
theorem dX8_bringFault_20 : decode cX8_bringFault 20 = .ok (.iload 4, 2) := by decide +kernel
theorem dX8_bringFault_22 : decode cX8_bringFault 22 = .ok (.iload_n 1, 1) := by decide +kernel
theorem dX8_bringFault_23 : decode cX8_bringFault 23 = .ok (.iastore, 1) := by decide +kernel
theorem dX8_bringFault_24 : decode cX8_bringFault 24 = .ok (.aload_n 0, 1) := by decide +kernel
theorem dX8_bringFault_25 : decode cX8_bringFault 25 = .ok (.getfield 7, 3) := by decide +kernel
theorem dX8_bringFault_28 : decode cX8_bringFault 28 = .ok (.iload 4, 2) := by decide +kernel
theorem dX8_bringFault_30 : decode cX8_bringFault 30 = .ok (.iconst 1, 1) := by decide +kernel
theorem dX8_bringFault_31 : decode cX8_bringFault 31 = .ok (.iadd, 1) := by decide +kernel
theorem dX8_bringFault_32 : decode cX8_bringFault 32 = .ok (.iload_n 2, 1) := by decide +kernel
theorem dX8_bringFault_33 : decode cX8_bringFault 33 = .ok (.iastore, 1) := by decide +kernel
theorem dX8_bringFault_34 : decode cX8_bringFault 34 = .ok (.aload_n 0, 1) := by decide +kernel
theorem dX8_bringFault_35 : decode cX8_bringFault 35 = .ok (.getfield 7, 3) := by decide +kernel
theorem dX8_bringFault_38 : decode cX8_bringFault 38 = .ok (.iload 4, 2) := by decide +kernel
theorem dX8_bringFault_40 : decode cX8_bringFault 40 = .ok (.iconst 2, 1) := by decide +kernel
theorem dX8_bringFault_41 : decode cX8_bringFault 41 = .ok (.iadd, 1) := by decide +kernel
theorem dX8_bringFault_42 : decode cX8_bringFault 42 = .ok (.iload_n 3, 1) := by decide +kernel
theorem dX8_bringFault_43 : decode cX8_bringFault 43 = .ok (.iastore, 1) := by decide +kernel
theorem dX8_bringFault_44 : decode cX8_bringFault 44 = .ok (.aload_n 0, 1) := by decide +kernel
theorem dX8_bringFault_45 : decode cX8_bringFault 45 = .ok (.getfield 7, 3) := by decide +kernel
theorem dX8_bringFault_48 : decode cX8_bringFault 48 = .ok (.sipush 134, 3) := by decide +kernel
theorem dX8_bringFault_51 : decode cX8_bringFault 51 = .ok (.dup2, 1) := by decide +kernel
theorem dX8_bringFault_52 : decode cX8_bringFault 52 = .ok (.iaload, 1) := by decide +kernel
theorem dX8_bringFault_53 : decode cX8_bringFault 53 = .ok (.iconst 1, 1) := by decide +kernel
theorem dX8_bringFault_54 : decode cX8_bringFault 54 = .ok (.iadd, 1) := by decide +kernel
theorem dX8_bringFault_55 : decode cX8_bringFault 55 = .ok (.iastore, 1) := by decide +kernel
theorem dX8_bringFault_56 : decode cX8_bringFault 56 = .ok (.aload_n 0, 1) := by decide +kernel
theorem dX8_bringFault_57 : decode cX8_bringFault 57 = .ok (.invokevirtual 111, 3) := by decide +kernel
theorem dX8_bringFault_60 : decode cX8_bringFault 60 = .ok (.return_, 1) := by decide +kernel
theorem dX8_fault_0 : decode cX8_fault 0 = .ok (.aload_n 0, 1) := by decide +kernel
theorem dX8_fault_1 : decode cX8_fault 1 = .ok (.aload_n 0, 1) := by decide +kernel
theorem dX8_fault_2 : decode cX8_fault 2 = .ok (.iload_n 1, 1) := by decide +kernel
theorem dX8_fault_3 : decode cX8_fault 3 = .ok (.iload_n 2, 1) := by decide +kernel
theorem dX8_fault_4 : decode cX8_fault 4 = .ok (.iload_n 3, 1) := by decide +kernel
theorem dX8_fault_5 : decode cX8_fault 5 = .ok (.invokevirtual 148, 3) := by decide +kernel
theorem dX8_fault_8 : decode cX8_fault 8 = .ok (.putfield 25, 3) := by decide +kernel
theorem dX8_fault_11 : decode cX8_fault 11 = .ok (.aload_n 0, 1) := by decide +kernel
theorem dX8_fault_12 : decode cX8_fault 12 = .ok (.getfield 25, 3) := by decide +kernel
theorem dX8_fault_15 : decode cX8_fault 15 = .ok (.ifCond .le 5, 3) := by decide +kernel
theorem dX8_fault_18 : decode cX8_fault 18 = .ok (.iconst 0, 1) := by decide +kernel
theorem dX8_fault_19 : decode cX8_fault 19 = .ok (.ireturn, 1) := by decide +kernel
theorem dX8_fault_20 : decode cX8_fault 20 = .ok (.aload_n 0, 1) := by decide +kernel
theorem dX8_fault_21 : decode cX8_fault 21 = .ok (.invokevirtual 118, 3) := by decide +kernel
theorem dX8_fault_24 : decode cX8_fault 24 = .ok (.aload_n 0, 1) := by decide +kernel
theorem dX8_fault_25 : decode cX8_fault 25 = .ok (.iload_n 1, 1) := by decide +kernel
theorem dX8_fault_26 : decode cX8_fault 26 = .ok (.iload_n 2, 1) := by decide +kernel
theorem dX8_fault_27 : decode cX8_fault 27 = .ok (.iload_n 3, 1) := by decide +kernel
theorem dX8_fault_28 : decode cX8_fault 28 = .ok (.invokevirtual 151, 3) := by decide +kernel
theorem dX8_fault_31 : decode cX8_fault 31 = .ok (.aload_n 0, 1) := by decide +kernel
theorem dX8_fault_32 : decode cX8_fault 32 = .ok (.getfield 93, 3) := by decide +kernel
theorem dX8_fault_35 : decode cX8_fault 35 = .ok (.ireturn, 1) := by decide +kernel
theorem dX8_isFault_0 : decode cX8_isFault 0 = .ok (.iload_n 1, 1) := by decide +kernel
theorem dX8_isFault_1 : decode cX8_isFault 1 = .ok (.iconst 0, 1) := by decide +kernel
theorem dX8_isFault_2 : decode cX8_isFault 2 = .ok (.aload_n 0, 1) := by decide +kernel
theorem dX8_isFault_3 : decode cX8_isFault 3 = .ok (.getfield 7, 3) := by decide +kernel
theorem dX8_isFault_6 : decode cX8_isFault 6 = .ok (.sipush 134, 3) := by decide +kernel
theorem dX8_isFault_9 : decode cX8_isFault 9 = .ok (.iaload, 1) := by decide +kernel
theorem dX8_isFault_10 : decode cX8_isFault 10 = .ok (.iconst 1, 1) := by decide +kernel
theorem dX8_isFault_11 : decode cX8_isFault 11 = .ok (.isub, 1) := by decide +kernel
theorem dX8_isFault_12 : decode cX8_isFault 12 = .ok (.invokestatic 29, 3) := by decide +kernel
theorem dX8_isFault_15 : decode cX8_isFault 15 = .ok (.ireturn, 1) := by decide +kernel
theorem dX8_mend_0 : decode cX8_mend 0 = .ok (.aload_n 0, 1) := by decide +kernel
theorem dX8_mend_1 : decode cX8_mend 1 = .ok (.aload_n 0, 1) := by decide +kernel
theorem dX8_mend_2 : decode cX8_mend 2 = .ok (.iload_n 1, 1) := by decide +kernel
theorem dX8_mend_3 : decode cX8_mend 3 = .ok (.invokevirtual 155, 3) := by decide +kernel
theorem dX8_mend_6 : decode cX8_mend 6 = .ok (.ifCond .eq 7, 3) := by decide +kernel
theorem dX8_mend_9 : decode cX8_mend 9 = .ok (.iconst 0, 1) := by decide +kernel
theorem dX8_mend_10 : decode cX8_mend 10 = .ok (.goto 4, 3) := by decide +kernel
theorem dX8_mend_13 : decode cX8_mend 13 = .ok (.iconst 1, 1) := by decide +kernel
theorem dX8_mend_14 : decode cX8_mend 14 = .ok (.putfield 25, 3) := by decide +kernel
theorem dX8_mend_17 : decode cX8_mend 17 = .ok (.aload_n 0, 1) := by decide +kernel
theorem dX8_mend_18 : decode cX8_mend 18 = .ok (.getfield 25, 3) := by decide +kernel
theorem dX8_mend_21 : decode cX8_mend 21 = .ok (.ifCond .le 5, 3) := by decide +kernel
theorem dX8_mend_24 : decode cX8_mend 24 = .ok (.iconst 0, 1) := by decide +kernel
theorem dX8_mend_25 : decode cX8_mend 25 = .ok (.ireturn, 1) := by decide +kernel
theorem dX8_mend_26 : decode cX8_mend 26 = .ok (.aload_n 0, 1) := by decide +kernel
theorem dX8_mend_27 : decode cX8_mend 27 = .ok (.invokevirtual 118, 3) := by decide +kernel
theorem dX8_mend_30 : decode cX8_mend 30 = .ok (.aload_n 0, 1) := by decide +kernel
theorem dX8_mend_31 : decode cX8_mend 31 = .ok (.iload_n 1, 1) := by decide +kernel
theorem dX8_mend_32 : decode cX8_mend 32 = .ok (.iconst 2, 1) := by decide +kernel
theorem dX8_mend_33 : decode cX8_mend 33 = .ok (.invokevirtual 58, 3) := by decide +kernel
theorem dX8_mend_36 : decode cX8_mend 36 = .ok (.istore_n 2, 1) := by decide +kernel
theorem dX8_mend_37 : decode cX8_mend 37 = .ok (.aload_n 0, 1) := by decide +kernel
theorem dX8_mend_38 : decode cX8_mend 38 = .ok (.getfield 7, 3) := by decide +kernel
theorem dX8_mend_41 : decode cX8_mend 41 = .ok (.sipush 134, 3) := by decide +kernel
theorem dX8_mend_44 : decode cX8_mend 44 = .ok (.dup2, 1) := by decide +kernel
theorem dX8_mend_45 : decode cX8_mend 45 = .ok (.iaload, 1) := by decide +kernel
theorem dX8_mend_46 : decode cX8_mend 46 = .ok (.iconst 1, 1) := by decide +kernel
theorem dX8_mend_47 : decode cX8_mend 47 = .ok (.isub, 1) := by decide +kernel
theorem dX8_mend_48 : decode cX8_mend 48 = .ok (.iastore, 1) := by decide +kernel
theorem dX8_mend_49 : decode cX8_mend 49 = .ok (.sipush 135, 3) := by decide +kernel
theorem dX8_mend_52 : decode cX8_mend 52 = .ok (.iconst 3, 1) := by decide +kernel
theorem dX8_mend_53 : decode cX8_mend 53 = .ok (.iload_n 1, 1) := by decide +kernel
theorem dX8_mend_54 : decode cX8_mend 54 = .ok (.imul, 1) := by decide +kernel
theorem dX8_mend_55 : decode cX8_mend 55 = .ok (.iadd, 1) := by decide +kernel
theorem dX8_mend_56 : decode cX8_mend 56 = .ok (.istore_n 3, 1) := by decide +kernel
theorem dX8_mend_57 : decode cX8_mend 57 = .ok (.iload_n 3, 1) := by decide +kernel
theorem dX8_mend_58 : decode cX8_mend 58 = .ok (.sipush 135, 3) := by decide +kernel
theorem dX8_mend_61 : decode cX8_mend 61 = .ok (.iconst 3, 1) := by decide +kernel
theorem dX8_mend_62 : decode cX8_mend 62 = .ok (.aload_n 0, 1) := by decide +kernel
theorem dX8_mend_63 : decode cX8_mend 63 = .ok (.getfield 7, 3) := by decide +kernel
theorem dX8_mend_66 : decode cX8_mend 66 = .ok (.sipush 134, 3) := by decide +kernel
theorem dX8_mend_69 : decode cX8_mend 69 = .ok (.iaload, 1) := by decide +kernel
theorem dX8_mend_70 : decode cX8_mend 70 = .ok (.imul, 1) := by decide +kernel
theorem dX8_mend_71 : decode cX8_mend 71 = .ok (.iadd, 1) := by decide +kernel
theorem dX8_mend_72 : decode cX8_mend 72 = .ok (.if_icmp .ge 23, 3) := by decide +kernel
theorem dX8_mend_75 : decode cX8_mend 75 = .ok (.aload_n 0, 1) := by decide +kernel
theorem dX8_mend_76 : decode cX8_mend 76 = .ok (.getfield 7, 3) := by decide +kernel
theorem dX8_mend_79 : decode cX8_mend 79 = .ok (.iload_n 3, 1) := by decide +kernel
theorem dX8_mend_80 : decode cX8_mend 80 = .ok (.aload_n 0, 1) := by decide +kernel
theorem dX8_mend_81 : decode cX8_mend 81 = .ok (.getfield 7, 3) := by decide +kernel
theorem dX8_mend_84 : decode cX8_mend 84 = .ok (.iload_n 3, 1) := by decide +kernel
theorem dX8_mend_85 : decode cX8_mend 85 = .ok (.iconst 3, 1) := by decide +kernel
theorem dX8_mend_86 : decode cX8_mend 86 = .ok (.iadd, 1) := by decide +kernel
theorem dX8_mend_87 : decode cX8_mend 87 = .ok (.iaload, 1) := by decide +kernel
theorem dX8_mend_88 : decode cX8_mend 88 = .ok (.iastore, 1) := by decide +kernel
theorem dX8_mend_89 : decode cX8_mend 89 = .ok (.iinc 3 1, 3) := by decide +kernel
theorem dX8_mend_92 : decode cX8_mend 92 = .ok (.goto (-35), 3) := by decide +kernel
theorem dX8_mend_95 : decode cX8_mend 95 = .ok (.aload_n 0, 1) := by decide +kernel
theorem dX8_mend_96 : decode cX8_mend 96 = .ok (.invokevirtual 111, 3) := by decide +kernel
theorem dX8_mend_99 : decode cX8_mend 99 = .ok (.iload_n 2, 1) := by decide +kernel
theorem dX8_mend_100 : decode cX8_mend 100 = .ok (.ireturn, 1) := by decide +kernel
theorem dX8_burn_0 : decode cX8_burn 0 = .ok (.aload_n 0, 1) := by decide +kernel
theorem dX8_burn_1 : decode cX8_burn 1 = .ok (.iload_n 1, 1) := by decide +kernel
theorem dX8_burn_2 : decode cX8_burn 2 = .ok (.iconst 1, 1) := by decide +kernel
theorem dX8_burn_3 : decode cX8_burn 3 = .ok (.sipush 1000, 3) := by decide +kernel
theorem dX8_burn_6 : decode cX8_burn 6 = .ok (.invokestatic 29, 3) := by decide +kernel
theorem dX8_burn_9 : decode cX8_burn 9 = .ok (.ifCond .ne 7, 3) := by decide +kernel
theorem dX8_burn_12 : decode cX8_burn 12 = .ok (.iconst 1, 1) := by decide +kernel
theorem dX8_burn_13 : decode cX8_burn 13 = .ok (.goto 23, 3) := by decide +kernel
theorem dX8_burn_16 : decode cX8_burn 16 = .ok (.aload_n 0, 1) := by decide +kernel
theorem dX8_burn_17 : decode cX8_burn 17 = .ok (.getfield 7, 3) := by decide +kernel
theorem dX8_burn_20 : decode cX8_burn 20 = .ok (.sipush 164, 3) := by decide +kernel
theorem dX8_burn_23 : decode cX8_burn 23 = .ok (.iaload, 1) := by decide +kernel
theorem dX8_burn_24 : decode cX8_burn 24 = .ok (.iload_n 1, 1) := by decide +kernel
theorem dX8_burn_25 : decode cX8_burn 25 = .ok (.iadd, 1) := by decide +kernel
theorem dX8_burn_26 : decode cX8_burn 26 = .ok (.ldc 158, 2) := by decide +kernel
theorem dX8_burn_28 : decode cX8_burn 28 = .ok (.if_icmp .le 7, 3) := by decide +kernel
theorem dX8_burn_31 : decode cX8_burn 31 = .ok (.iconst 2, 1) := by decide +kernel
theorem dX8_burn_32 : decode cX8_burn 32 = .ok (.goto 4, 3) := by decide +kernel
theorem dX8_burn_35 : decode cX8_burn 35 = .ok (.iconst 0, 1) := by decide +kernel
theorem dX8_burn_36 : decode cX8_burn 36 = .ok (.putfield 25, 3) := by decide +kernel
theorem dX8_burn_39 : decode cX8_burn 39 = .ok (.aload_n 0, 1) := by decide +kernel
theorem dX8_burn_40 : decode cX8_burn 40 = .ok (.getfield 25, 3) := by decide +kernel
theorem dX8_burn_43 : decode cX8_burn 43 = .ok (.ifCond .le 5, 3) := by decide +kernel
theorem dX8_burn_46 : decode cX8_burn 46 = .ok (.iconst 0, 1) := by decide +kernel
theorem dX8_burn_47 : decode cX8_burn 47 = .ok (.ireturn, 1) := by decide +kernel
theorem dX8_burn_48 : decode cX8_burn 48 = .ok (.aload_n 0, 1) := by decide +kernel
theorem dX8_burn_49 : decode cX8_burn 49 = .ok (.invokevirtual 118, 3) := by decide +kernel
theorem dX8_burn_52 : decode cX8_burn 52 = .ok (.iload_n 1, 1) := by decide +kernel
theorem dX8_burn_53 : decode cX8_burn 53 = .ok (.aload_n 0, 1) := by decide +kernel
theorem dX8_burn_54 : decode cX8_burn 54 = .ok (.invokevirtual 159, 3) := by decide +kernel
theorem dX8_burn_57 : decode cX8_burn 57 = .ok (.imul, 1) := by decide +kernel
theorem dX8_burn_58 : decode cX8_burn 58 = .ok (.istore_n 2, 1) := by decide +kernel
theorem dX8_burn_59 : decode cX8_burn 59 = .ok (.aload_n 0, 1) := by decide +kernel
theorem dX8_burn_60 : decode cX8_burn 60 = .ok (.getfield 7, 3) := by decide +kernel
theorem dX8_burn_63 : decode cX8_burn 63 = .ok (.sipush 164, 3) := by decide +kernel
theorem dX8_burn_66 : decode cX8_burn 66 = .ok (.dup2, 1) := by decide +kernel
theorem dX8_burn_67 : decode cX8_burn 67 = .ok (.iaload, 1) := by decide +kernel
theorem dX8_burn_68 : decode cX8_burn 68 = .ok (.iload_n 1, 1) := by decide +kernel
theorem dX8_burn_69 : decode cX8_burn 69 = .ok (.iadd, 1) := by decide +kernel
theorem dX8_burn_70 : decode cX8_burn 70 = .ok (.iastore, 1) := by decide +kernel
theorem dX8_burn_71 : decode cX8_burn 71 = .ok (.aload_n 0, 1) := by decide +kernel
theorem dX8_burn_72 : decode cX8_burn 72 = .ok (.getfield 7, 3) := by decide +kernel
theorem dX8_burn_75 : decode cX8_burn 75 = .ok (.sipush 165, 3) := by decide +kernel
theorem dX8_burn_78 : decode cX8_burn 78 = .ok (.dup2, 1) := by decide +kernel
theorem dX8_burn_79 : decode cX8_burn 79 = .ok (.iaload, 1) := by decide +kernel
theorem dX8_burn_80 : decode cX8_burn 80 = .ok (.iload_n 2, 1) := by decide +kernel
theorem dX8_burn_81 : decode cX8_burn 81 = .ok (.iadd, 1) := by decide +kernel
theorem dX8_burn_82 : decode cX8_burn 82 = .ok (.iastore, 1) := by decide +kernel
theorem dX8_burn_83 : decode cX8_burn 83 = .ok (.aload_n 0, 1) := by decide +kernel
theorem dX8_burn_84 : decode cX8_burn 84 = .ok (.getfield 7, 3) := by decide +kernel
theorem dX8_burn_87 : decode cX8_burn 87 = .ok (.sipush 166, 3) := by decide +kernel
theorem dX8_burn_90 : decode cX8_burn 90 = .ok (.dup2, 1) := by decide +kernel
theorem dX8_burn_91 : decode cX8_burn 91 = .ok (.iaload, 1) := by decide +kernel
theorem dX8_burn_92 : decode cX8_burn 92 = .ok (.iload_n 1, 1) := by decide +kernel
theorem dX8_burn_93 : decode cX8_burn 93 = .ok (.aload_n 0, 1) := by decide +kernel
theorem dX8_burn_94 : decode cX8_burn 94 = .ok (.invokevirtual 73, 3) := by decide +kernel
theorem dX8_burn_97 : decode cX8_burn 97 = .ok (.imul, 1) := by decide +kernel
theorem dX8_burn_98 : decode cX8_burn 98 = .ok (.iadd, 1) := by decide +kernel
theorem dX8_burn_99 : decode cX8_burn 99 = .ok (.iastore, 1) := by decide +kernel
theorem dX8_burn_100 : decode cX8_burn 100 = .ok (.iload_n 2, 1) := by decide +kernel
theorem dX8_burn_101 : decode cX8_burn 101 = .ok (.ireturn, 1) := by decide +kernel
theorem dX8_append_0 : decode cX8_append 0 = .ok (.aload_n 0, 1) := by decide +kernel
theorem dX8_append_1 : decode cX8_append 1 = .ok (.iload_n 1, 1) := by decide +kernel
theorem dX8_append_2 : decode cX8_append 2 = .ok (.bipush 33, 2) := by decide +kernel
theorem dX8_append_4 : decode cX8_append 4 = .ok (.bipush 126, 2) := by decide +kernel
theorem dX8_append_6 : decode cX8_append 6 = .ok (.invokestatic 29, 3) := by decide +kernel
theorem dX8_append_9 : decode cX8_append 9 = .ok (.ifCond .ne 7, 3) := by decide +kernel
theorem dX8_append_12 : decode cX8_append 12 = .ok (.iconst 1, 1) := by decide +kernel
theorem dX8_append_13 : decode cX8_append 13 = .ok (.goto 17, 3) := by decide +kernel
theorem dX8_append_16 : decode cX8_append 16 = .ok (.aload_n 0, 1) := by decide +kernel
theorem dX8_append_17 : decode cX8_append 17 = .ok (.getfield 162, 3) := by decide +kernel
theorem dX8_append_20 : decode cX8_append 20 = .ok (.bipush 60, 2) := by decide +kernel
theorem dX8_append_22 : decode cX8_append 22 = .ok (.if_icmp .ne 7, 3) := by decide +kernel
theorem dX8_append_25 : decode cX8_append 25 = .ok (.iconst 2, 1) := by decide +kernel
theorem dX8_append_26 : decode cX8_append 26 = .ok (.goto 4, 3) := by decide +kernel
theorem dX8_append_29 : decode cX8_append 29 = .ok (.iconst 0, 1) := by decide +kernel
theorem dX8_append_30 : decode cX8_append 30 = .ok (.putfield 25, 3) := by decide +kernel
theorem dX8_append_33 : decode cX8_append 33 = .ok (.aload_n 0, 1) := by decide +kernel
theorem dX8_append_34 : decode cX8_append 34 = .ok (.getfield 25, 3) := by decide +kernel
theorem dX8_append_37 : decode cX8_append 37 = .ok (.ifCond .le 5, 3) := by decide +kernel
theorem dX8_append_40 : decode cX8_append 40 = .ok (.iconst 0, 1) := by decide +kernel
theorem dX8_append_41 : decode cX8_append 41 = .ok (.ireturn, 1) := by decide +kernel
theorem dX8_append_42 : decode cX8_append 42 = .ok (.aload_n 0, 1) := by decide +kernel
theorem dX8_append_43 : decode cX8_append 43 = .ok (.getfield 16, 3) := by decide +kernel
theorem dX8_append_46 : decode cX8_append 46 = .ok (.aload_n 0, 1) := by decide +kernel
theorem dX8_append_47 : decode cX8_append 47 = .ok (.getfield 162, 3) := by decide +kernel
theorem dX8_append_50 : decode cX8_append 50 = .ok (.iload_n 1, 1) := by decide +kernel
theorem dX8_append_51 : decode cX8_append 51 = .ok (.iastore, 1) := by decide +kernel
theorem dX8_append_52 : decode cX8_append 52 = .ok (.aload_n 0, 1) := by decide +kernel
theorem dX8_append_53 : decode cX8_append 53 = .ok (.dup, 1) := by decide +kernel
theorem dX8_append_54 : decode cX8_append 54 = .ok (.getfield 162, 3) := by decide +kernel
theorem dX8_append_57 : decode cX8_append 57 = .ok (.iconst 1, 1) := by decide +kernel
theorem dX8_append_58 : decode cX8_append 58 = .ok (.iadd, 1) := by decide +kernel
theorem dX8_append_59 : decode cX8_append 59 = .ok (.putfield 162, 3) := by decide +kernel
theorem dX8_append_62 : decode cX8_append 62 = .ok (.aload_n 0, 1) := by decide +kernel
theorem dX8_append_63 : decode cX8_append 63 = .ok (.getfield 162, 3) := by decide +kernel
theorem dX8_append_66 : decode cX8_append 66 = .ok (.ireturn, 1) := by decide +kernel
theorem dX8_clearBuffer_0 : decode cX8_clearBuffer 0 = .ok (.aload_n 0, 1) := by decide +kernel
theorem dX8_clearBuffer_1 : decode cX8_clearBuffer 1 = .ok (.iconst 0, 1) := by decide +kernel
theorem dX8_clearBuffer_2 : decode cX8_clearBuffer 2 = .ok (.putfield 25, 3) := by decide +kernel
theorem dX8_clearBuffer_5 : decode cX8_clearBuffer 5 = .ok (.aload_n 0, 1) := by decide +kernel
theorem dX8_clearBuffer_6 : decode cX8_clearBuffer 6 = .ok (.getfield 162, 3) := by decide +kernel
theorem dX8_clearBuffer_9 : decode cX8_clearBuffer 9 = .ok (.istore_n 1, 1) := by decide +kernel
theorem dX8_clearBuffer_10 : decode cX8_clearBuffer 10 = .ok (.aload_n 0, 1) := by decide +kernel
theorem dX8_clearBuffer_11 : decode cX8_clearBuffer 11 = .ok (.iconst 0, 1) := by decide +kernel
theorem dX8_clearBuffer_12 : decode cX8_clearBuffer 12 = .ok (.putfield 162, 3) := by decide +kernel
theorem dX8_clearBuffer_15 : decode cX8_clearBuffer 15 = .ok (.iload_n 1, 1) := by decide +kernel
theorem dX8_clearBuffer_16 : decode cX8_clearBuffer 16 = .ok (.ireturn, 1) := by decide +kernel
theorem dX8_least_0 : decode cX8_least 0 = .ok (.aload_n 0, 1) := by decide +kernel
theorem dX8_least_1 : decode cX8_least 1 = .ok (.getfield 165, 3) := by decide +kernel
theorem dX8_least_4 : decode cX8_least 4 = .ok (.ifCond .eq 20, 3) := by decide +kernel
theorem dX8_least_7 : decode cX8_least 7 = .ok (.aload_n 0, 1) := by decide +kernel
theorem dX8_least_8 : decode cX8_least 8 = .ok (.getfield 168, 3) := by decide +kernel
theorem dX8_least_11 : decode cX8_least 11 = .ok (.bipush 35, 2) := by decide +kernel
theorem dX8_least_13 : decode cX8_least 13 = .ok (.if_icmp .ne 15, 3) := by decide +kernel
theorem dX8_least_16 : decode cX8_least 16 = .ok (.aload_n 0, 1) := by decide +kernel
theorem dX8_least_17 : decode cX8_least 17 = .ok (.getfield 165, 3) := by decide +kernel
theorem dX8_least_20 : decode cX8_least 20 = .ok (.iconst 1, 1) := by decide +kernel
theorem dX8_least_21 : decode cX8_least 21 = .ok (.if_icmp .ne 7, 3) := by decide +kernel
theorem dX8_least_24 : decode cX8_least 24 = .ok (.iconst 0, 1) := by decide +kernel
theorem dX8_least_25 : decode cX8_least 25 = .ok (.goto 4, 3) := by decide +kernel
theorem dX8_least_28 : decode cX8_least 28 = .ok (.iconst 1, 1) := by decide +kernel
theorem dX8_least_29 : decode cX8_least 29 = .ok (.ireturn, 1) := by decide +kernel
theorem dX8_greatest_0 : decode cX8_greatest 0 = .ok (.aload_n 0, 1) := by decide +kernel
theorem dX8_greatest_1 : decode cX8_greatest 1 = .ok (.getfield 165, 3) := by decide +kernel
theorem dX8_greatest_4 : decode cX8_greatest 4 = .ok (.ifCond .ne 6, 3) := by decide +kernel
theorem dX8_greatest_7 : decode cX8_greatest 7 = .ok (.bipush 11, 2) := by decide +kernel
theorem dX8_greatest_9 : decode cX8_greatest 9 = .ok (.ireturn, 1) := by decide +kernel
theorem dX8_greatest_10 : decode cX8_greatest 10 = .ok (.aload_n 0, 1) := by decide +kernel
theorem dX8_greatest_11 : decode cX8_greatest 11 = .ok (.getfield 168, 3) := by decide +kernel
theorem dX8_greatest_14 : decode cX8_greatest 14 = .ok (.bipush 42, 2) := by decide +kernel
theorem dX8_greatest_16 : decode cX8_greatest 16 = .ok (.if_icmp .eq 12, 3) := by decide +kernel
theorem dX8_greatest_19 : decode cX8_greatest 19 = .ok (.aload_n 0, 1) := by decide +kernel
theorem dX8_greatest_20 : decode cX8_greatest 20 = .ok (.getfield 168, 3) := by decide +kernel
theorem dX8_greatest_23 : decode cX8_greatest 23 = .ok (.bipush 33, 2) := by decide +kernel
theorem dX8_greatest_25 : decode cX8_greatest 25 = .ok (.if_icmp .ne 8, 3) := by decide +kernel
theorem dX8_greatest_28 : decode cX8_greatest 28 = .ok (.bipush 9, 2) := by decide +kernel
theorem dX8_greatest_30 : decode cX8_greatest 30 = .ok (.goto 31, 3) := by decide +kernel
theorem dX8_greatest_33 : decode cX8_greatest 33 = .ok (.aload_n 0, 1) := by decide +kernel
theorem dX8_greatest_34 : decode cX8_greatest 34 = .ok (.getfield 168, 3) := by decide +kernel
theorem dX8_greatest_37 : decode cX8_greatest 37 = .ok (.bipush 35, 2) := by decide +kernel
theorem dX8_greatest_39 : decode cX8_greatest 39 = .ok (.if_icmp .ne 20, 3) := by decide +kernel
theorem dX8_greatest_42 : decode cX8_greatest 42 = .ok (.aload_n 0, 1) := by decide +kernel
theorem dX8_greatest_43 : decode cX8_greatest 43 = .ok (.getfield 165, 3) := by decide +kernel
theorem dX8_greatest_46 : decode cX8_greatest 46 = .ok (.iconst 1, 1) := by decide +kernel
theorem dX8_greatest_47 : decode cX8_greatest 47 = .ok (.if_icmp .ne 7, 3) := by decide +kernel
theorem dX8_greatest_50 : decode cX8_greatest 50 = .ok (.iconst 1, 1) := by decide +kernel
theorem dX8_greatest_51 : decode cX8_greatest 51 = .ok (.goto 10, 3) := by decide +kernel
theorem dX8_greatest_54 : decode cX8_greatest 54 = .ok (.bipush 30, 2) := by decide +kernel
theorem dX8_greatest_56 : decode cX8_greatest 56 = .ok (.goto 5, 3) := by decide +kernel
theorem dX8_greatest_59 : decode cX8_greatest 59 = .ok (.bipush 60, 2) := by decide +kernel
theorem dX8_greatest_61 : decode cX8_greatest 61 = .ok (.ireturn, 1) := by decide +kernel
theorem dX8_takesDigit_0 : decode cX8_takesDigit 0 = .ok (.iconst 4, 1) := by decide +kernel
theorem dX8_takesDigit_1 : decode cX8_takesDigit 1 = .ok (.aload_n 0, 1) := by decide +kernel
theorem dX8_takesDigit_2 : decode cX8_takesDigit 2 = .ok (.getfield 171, 3) := by decide +kernel
theorem dX8_takesDigit_5 : decode cX8_takesDigit 5 = .ok (.imul, 1) := by decide +kernel
theorem dX8_takesDigit_6 : decode cX8_takesDigit 6 = .ok (.iconst 1, 1) := by decide +kernel
theorem dX8_takesDigit_7 : decode cX8_takesDigit 7 = .ok (.iadd, 1) := by decide +kernel
theorem dX8_takesDigit_8 : decode cX8_takesDigit 8 = .ok (.aload_n 0, 1) := by decide +kernel
theorem dX8_takesDigit_9 : decode cX8_takesDigit 9 = .ok (.getfield 165, 3) := by decide +kernel
theorem dX8_takesDigit_12 : decode cX8_takesDigit 12 = .ok (.iadd, 1) := by decide +kernel
theorem dX8_takesDigit_13 : decode cX8_takesDigit 13 = .ok (.istore_n 2, 1) := by decide +kernel
theorem dX8_takesDigit_14 : decode cX8_takesDigit 14 = .ok (.aload_n 0, 1) := by decide +kernel
theorem dX8_takesDigit_15 : decode cX8_takesDigit 15 = .ok (.getfield 174, 3) := by decide +kernel
theorem dX8_takesDigit_18 : decode cX8_takesDigit 18 = .ok (.ifCond .ne 7, 3) := by decide +kernel
theorem dX8_takesDigit_21 : decode cX8_takesDigit 21 = .ok (.iload_n 1, 1) := by decide +kernel
theorem dX8_takesDigit_22 : decode cX8_takesDigit 22 = .ok (.goto 14, 3) := by decide +kernel
theorem dX8_takesDigit_25 : decode cX8_takesDigit 25 = .ok (.bipush 10, 2) := by decide +kernel
theorem dX8_takesDigit_27 : decode cX8_takesDigit 27 = .ok (.aload_n 0, 1) := by decide +kernel
theorem dX8_takesDigit_28 : decode cX8_takesDigit 28 = .ok (.getfield 22, 3) := by decide +kernel
theorem dX8_takesDigit_31 : decode cX8_takesDigit 31 = .ok (.iload_n 2, 1) := by decide +kernel
theorem dX8_takesDigit_32 : decode cX8_takesDigit 32 = .ok (.iaload, 1) := by decide +kernel
theorem dX8_takesDigit_33 : decode cX8_takesDigit 33 = .ok (.imul, 1) := by decide +kernel
theorem dX8_takesDigit_34 : decode cX8_takesDigit 34 = .ok (.iload_n 1, 1) := by decide +kernel
theorem dX8_takesDigit_35 : decode cX8_takesDigit 35 = .ok (.iadd, 1) := by decide +kernel
theorem dX8_takesDigit_36 : decode cX8_takesDigit 36 = .ok (.istore_n 3, 1) := by decide +kernel
theorem dX8_takesDigit_37 : decode cX8_takesDigit 37 = .ok (.aload_n 0, 1) := by decide +kernel
theorem dX8_takesDigit_38 : decode cX8_takesDigit 38 = .ok (.getfield 174, 3) := by decide +kernel
theorem dX8_takesDigit_41 : decode cX8_takesDigit 41 = .ok (.ifCond .ne 27, 3) := by decide +kernel
theorem dX8_takesDigit_44 : decode cX8_takesDigit 44 = .ok (.iload_n 3, 1) := by decide +kernel
theorem dX8_takesDigit_45 : decode cX8_takesDigit 45 = .ok (.aload_n 0, 1) := by decide +kernel
theorem dX8_takesDigit_46 : decode cX8_takesDigit 46 = .ok (.invokevirtual 177, 3) := by decide +kernel
theorem dX8_takesDigit_49 : decode cX8_takesDigit 49 = .ok (.if_icmp .lt 15, 3) := by decide +kernel
theorem dX8_takesDigit_52 : decode cX8_takesDigit 52 = .ok (.iload_n 3, 1) := by decide +kernel
theorem dX8_takesDigit_53 : decode cX8_takesDigit 53 = .ok (.aload_n 0, 1) := by decide +kernel
theorem dX8_takesDigit_54 : decode cX8_takesDigit 54 = .ok (.invokevirtual 180, 3) := by decide +kernel
theorem dX8_takesDigit_57 : decode cX8_takesDigit 57 = .ok (.if_icmp .gt 7, 3) := by decide +kernel
theorem dX8_takesDigit_60 : decode cX8_takesDigit 60 = .ok (.iconst 1, 1) := by decide +kernel
theorem dX8_takesDigit_61 : decode cX8_takesDigit 61 = .ok (.goto 29, 3) := by decide +kernel
theorem dX8_takesDigit_64 : decode cX8_takesDigit 64 = .ok (.iconst 0, 1) := by decide +kernel
theorem dX8_takesDigit_65 : decode cX8_takesDigit 65 = .ok (.goto 25, 3) := by decide +kernel
theorem dX8_takesDigit_68 : decode cX8_takesDigit 68 = .ok (.aload_n 0, 1) := by decide +kernel
theorem dX8_takesDigit_69 : decode cX8_takesDigit 69 = .ok (.getfield 22, 3) := by decide +kernel
theorem dX8_takesDigit_72 : decode cX8_takesDigit 72 = .ok (.iload_n 2, 1) := by decide +kernel
theorem dX8_takesDigit_73 : decode cX8_takesDigit 73 = .ok (.iaload, 1) := by decide +kernel
theorem dX8_takesDigit_74 : decode cX8_takesDigit 74 = .ok (.ifCond .le 15, 3) := by decide +kernel
theorem dX8_takesDigit_77 : decode cX8_takesDigit 77 = .ok (.iload_n 3, 1) := by decide +kernel
theorem dX8_takesDigit_78 : decode cX8_takesDigit 78 = .ok (.aload_n 0, 1) := by decide +kernel
theorem dX8_takesDigit_79 : decode cX8_takesDigit 79 = .ok (.invokevirtual 180, 3) := by decide +kernel
theorem dX8_takesDigit_82 : decode cX8_takesDigit 82 = .ok (.if_icmp .gt 7, 3) := by decide +kernel
theorem dX8_takesDigit_85 : decode cX8_takesDigit 85 = .ok (.iconst 1, 1) := by decide +kernel
theorem dX8_takesDigit_86 : decode cX8_takesDigit 86 = .ok (.goto 4, 3) := by decide +kernel
theorem dX8_takesDigit_89 : decode cX8_takesDigit 89 = .ok (.iconst 0, 1) := by decide +kernel
theorem dX8_takesDigit_90 : decode cX8_takesDigit 90 = .ok (.istore 4, 2) := by decide +kernel
theorem dX8_takesDigit_92 : decode cX8_takesDigit 92 = .ok (.aload_n 0, 1) := by decide +kernel
theorem dX8_takesDigit_93 : decode cX8_takesDigit 93 = .ok (.getfield 22, 3) := by decide +kernel
theorem dX8_takesDigit_96 : decode cX8_takesDigit 96 = .ok (.iload_n 2, 1) := by decide +kernel
theorem dX8_takesDigit_97 : decode cX8_takesDigit 97 = .ok (.iload 4, 2) := by decide +kernel
theorem dX8_takesDigit_99 : decode cX8_takesDigit 99 = .ok (.ifCond .eq 7, 3) := by decide +kernel
theorem dX8_takesDigit_102 : decode cX8_takesDigit 102 = .ok (.iload_n 3, 1) := by decide +kernel
theorem dX8_takesDigit_103 : decode cX8_takesDigit 103 = .ok (.goto 9, 3) := by decide +kernel
theorem dX8_takesDigit_106 : decode cX8_takesDigit 106 = .ok (.aload_n 0, 1) := by decide +kernel
theorem dX8_takesDigit_107 : decode cX8_takesDigit 107 = .ok (.getfield 22, 3) := by decide +kernel
theorem dX8_takesDigit_110 : decode cX8_takesDigit 110 = .ok (.iload_n 2, 1) := by decide +kernel
theorem dX8_takesDigit_111 : decode cX8_takesDigit 111 = .ok (.iaload, 1) := by decide +kernel
theorem dX8_takesDigit_112 : decode cX8_takesDigit 112 = .ok (.iastore, 1) := by decide +kernel
theorem dX8_takesDigit_113 : decode cX8_takesDigit 113 = .ok (.aload_n 0, 1) := by decide +kernel
theorem dX8_takesDigit_114 : decode cX8_takesDigit 114 = .ok (.dup, 1) := by decide +kernel
theorem dX8_takesDigit_115 : decode cX8_takesDigit 115 = .ok (.getfield 174, 3) := by decide +kernel
theorem dX8_takesDigit_118 : decode cX8_takesDigit 118 = .ok (.iload 4, 2) := by decide +kernel
theorem dX8_takesDigit_120 : decode cX8_takesDigit 120 = .ok (.ifCond .eq 7, 3) := by decide +kernel
theorem dX8_takesDigit_123 : decode cX8_takesDigit 123 = .ok (.iconst 1, 1) := by decide +kernel
theorem dX8_takesDigit_124 : decode cX8_takesDigit 124 = .ok (.goto 4, 3) := by decide +kernel
theorem dX8_takesDigit_127 : decode cX8_takesDigit 127 = .ok (.iconst 0, 1) := by decide +kernel
theorem dX8_takesDigit_128 : decode cX8_takesDigit 128 = .ok (.iadd, 1) := by decide +kernel
theorem dX8_takesDigit_129 : decode cX8_takesDigit 129 = .ok (.putfield 174, 3) := by decide +kernel
theorem dX8_takesDigit_132 : decode cX8_takesDigit 132 = .ok (.iload 4, 2) := by decide +kernel
theorem dX8_takesDigit_134 : decode cX8_takesDigit 134 = .ok (.ireturn, 1) := by decide +kernel
theorem dX8_isSign_0 : decode cX8_isSign 0 = .ok (.iload_n 1, 1) := by decide +kernel
theorem dX8_isSign_1 : decode cX8_isSign 1 = .ok (.bipush 62, 2) := by decide +kernel
theorem dX8_isSign_3 : decode cX8_isSign 3 = .ok (.if_icmp .eq 27, 3) := by decide +kernel
theorem dX8_isSign_6 : decode cX8_isSign 6 = .ok (.iload_n 1, 1) := by decide +kernel
theorem dX8_isSign_7 : decode cX8_isSign 7 = .ok (.bipush 37, 2) := by decide +kernel
theorem dX8_isSign_9 : decode cX8_isSign 9 = .ok (.if_icmp .eq 21, 3) := by decide +kernel
theorem dX8_isSign_12 : decode cX8_isSign 12 = .ok (.iload_n 1, 1) := by decide +kernel
theorem dX8_isSign_13 : decode cX8_isSign 13 = .ok (.bipush 42, 2) := by decide +kernel
theorem dX8_isSign_15 : decode cX8_isSign 15 = .ok (.if_icmp .eq 15, 3) := by decide +kernel
theorem dX8_isSign_18 : decode cX8_isSign 18 = .ok (.iload_n 1, 1) := by decide +kernel
theorem dX8_isSign_19 : decode cX8_isSign 19 = .ok (.bipush 33, 2) := by decide +kernel
theorem dX8_isSign_21 : decode cX8_isSign 21 = .ok (.if_icmp .eq 9, 3) := by decide +kernel
theorem dX8_isSign_24 : decode cX8_isSign 24 = .ok (.iload_n 1, 1) := by decide +kernel
theorem dX8_isSign_25 : decode cX8_isSign 25 = .ok (.bipush 35, 2) := by decide +kernel
theorem dX8_isSign_27 : decode cX8_isSign 27 = .ok (.if_icmp .ne 7, 3) := by decide +kernel
theorem dX8_isSign_30 : decode cX8_isSign 30 = .ok (.iconst 1, 1) := by decide +kernel
theorem dX8_isSign_31 : decode cX8_isSign 31 = .ok (.goto 4, 3) := by decide +kernel
theorem dX8_isSign_34 : decode cX8_isSign 34 = .ok (.iconst 0, 1) := by decide +kernel
theorem dX8_isSign_35 : decode cX8_isSign 35 = .ok (.ireturn, 1) := by decide +kernel
theorem dX8_isPartOver_0 : decode cX8_isPartOver 0 = .ok (.aload_n 0, 1) := by decide +kernel
theorem dX8_isPartOver_1 : decode cX8_isPartOver 1 = .ok (.getfield 174, 3) := by decide +kernel
theorem dX8_isPartOver_4 : decode cX8_isPartOver 4 = .ok (.ifCond .le 44, 3) := by decide +kernel
theorem dX8_isPartOver_7 : decode cX8_isPartOver 7 = .ok (.aload_n 0, 1) := by decide +kernel
theorem dX8_isPartOver_8 : decode cX8_isPartOver 8 = .ok (.getfield 168, 3) := by decide +kernel
theorem dX8_isPartOver_11 : decode cX8_isPartOver 11 = .ok (.bipush 42, 2) := by decide +kernel
theorem dX8_isPartOver_13 : decode cX8_isPartOver 13 = .ok (.if_icmp .eq 12, 3) := by decide +kernel
theorem dX8_isPartOver_16 : decode cX8_isPartOver 16 = .ok (.aload_n 0, 1) := by decide +kernel
theorem dX8_isPartOver_17 : decode cX8_isPartOver 17 = .ok (.getfield 168, 3) := by decide +kernel
theorem dX8_isPartOver_20 : decode cX8_isPartOver 20 = .ok (.bipush 33, 2) := by decide +kernel
theorem dX8_isPartOver_22 : decode cX8_isPartOver 22 = .ok (.if_icmp .ne 14, 3) := by decide +kernel
theorem dX8_isPartOver_25 : decode cX8_isPartOver 25 = .ok (.aload_n 0, 1) := by decide +kernel
theorem dX8_isPartOver_26 : decode cX8_isPartOver 26 = .ok (.getfield 165, 3) := by decide +kernel
theorem dX8_isPartOver_29 : decode cX8_isPartOver 29 = .ok (.iconst 1, 1) := by decide +kernel
theorem dX8_isPartOver_30 : decode cX8_isPartOver 30 = .ok (.if_icmp .ne 18, 3) := by decide +kernel
theorem dX8_isPartOver_33 : decode cX8_isPartOver 33 = .ok (.goto 11, 3) := by decide +kernel
theorem dX8_isPartOver_36 : decode cX8_isPartOver 36 = .ok (.aload_n 0, 1) := by decide +kernel
theorem dX8_isPartOver_37 : decode cX8_isPartOver 37 = .ok (.getfield 165, 3) := by decide +kernel
theorem dX8_isPartOver_40 : decode cX8_isPartOver 40 = .ok (.iconst 2, 1) := by decide +kernel
theorem dX8_isPartOver_41 : decode cX8_isPartOver 41 = .ok (.if_icmp .ne 7, 3) := by decide +kernel
theorem dX8_isPartOver_44 : decode cX8_isPartOver 44 = .ok (.iconst 1, 1) := by decide +kernel
theorem dX8_isPartOver_45 : decode cX8_isPartOver 45 = .ok (.goto 4, 3) := by decide +kernel
theorem dX8_isPartOver_48 : decode cX8_isPartOver 48 = .ok (.iconst 0, 1) := by decide +kernel
theorem dX8_isPartOver_49 : decode cX8_isPartOver 49 = .ok (.ireturn, 1) := by decide +kernel
theorem dX8_endPart_0 : decode cX8_endPart 0 = .ok (.aload_n 0, 1) := by decide +kernel
theorem dX8_endPart_1 : decode cX8_endPart 1 = .ok (.getfield 22, 3) := by decide +kernel
theorem dX8_endPart_4 : decode cX8_endPart 4 = .ok (.iconst 4, 1) := by decide +kernel
theorem dX8_endPart_5 : decode cX8_endPart 5 = .ok (.aload_n 0, 1) := by decide +kernel
theorem dX8_endPart_6 : decode cX8_endPart 6 = .ok (.getfield 171, 3) := by decide +kernel
theorem dX8_endPart_9 : decode cX8_endPart 9 = .ok (.imul, 1) := by decide +kernel
theorem dX8_endPart_10 : decode cX8_endPart 10 = .ok (.aload_n 0, 1) := by decide +kernel
theorem dX8_endPart_11 : decode cX8_endPart 11 = .ok (.getfield 168, 3) := by decide +kernel
theorem dX8_endPart_14 : decode cX8_endPart 14 = .ok (.iastore, 1) := by decide +kernel
theorem dX8_endPart_15 : decode cX8_endPart 15 = .ok (.aload_n 0, 1) := by decide +kernel
theorem dX8_endPart_16 : decode cX8_endPart 16 = .ok (.dup, 1) := by decide +kernel
theorem dX8_endPart_17 : decode cX8_endPart 17 = .ok (.getfield 171, 3) := by decide +kernel
theorem dX8_endPart_20 : decode cX8_endPart 20 = .ok (.iconst 1, 1) := by decide +kernel
theorem dX8_endPart_21 : decode cX8_endPart 21 = .ok (.iadd, 1) := by decide +kernel
theorem dX8_endPart_22 : decode cX8_endPart 22 = .ok (.putfield 171, 3) := by decide +kernel
theorem dX8_endPart_25 : decode cX8_endPart 25 = .ok (.aload_n 0, 1) := by decide +kernel
theorem dX8_endPart_26 : decode cX8_endPart 26 = .ok (.iconst 0, 1) := by decide +kernel
theorem dX8_endPart_27 : decode cX8_endPart 27 = .ok (.putfield 168, 3) := by decide +kernel
theorem dX8_endPart_30 : decode cX8_endPart 30 = .ok (.aload_n 0, 1) := by decide +kernel
theorem dX8_endPart_31 : decode cX8_endPart 31 = .ok (.iconst 0, 1) := by decide +kernel
theorem dX8_endPart_32 : decode cX8_endPart 32 = .ok (.putfield 165, 3) := by decide +kernel
theorem dX8_endPart_35 : decode cX8_endPart 35 = .ok (.aload_n 0, 1) := by decide +kernel
theorem dX8_endPart_36 : decode cX8_endPart 36 = .ok (.iconst 0, 1) := by decide +kernel
theorem dX8_endPart_37 : decode cX8_endPart 37 = .ok (.putfield 174, 3) := by decide +kernel
theorem dX8_endPart_40 : decode cX8_endPart 40 = .ok (.return_, 1) := by decide +kernel
theorem dX8_takes_0 : decode cX8_takes 0 = .ok (.iload_n 1, 1) := by decide +kernel
theorem dX8_takes_1 : decode cX8_takes 1 = .ok (.bipush 48, 2) := by decide +kernel
theorem dX8_takes_3 : decode cX8_takes 3 = .ok (.bipush 57, 2) := by decide +kernel
theorem dX8_takes_5 : decode cX8_takes 5 = .ok (.invokestatic 29, 3) := by decide +kernel
theorem dX8_takes_8 : decode cX8_takes 8 = .ok (.ifCond .eq 12, 3) := by decide +kernel
theorem dX8_takes_11 : decode cX8_takes 11 = .ok (.aload_n 0, 1) := by decide +kernel
theorem dX8_takes_12 : decode cX8_takes 12 = .ok (.iload_n 1, 1) := by decide +kernel
theorem dX8_takes_13 : decode cX8_takes 13 = .ok (.bipush 48, 2) := by decide +kernel
theorem dX8_takes_15 : decode cX8_takes 15 = .ok (.isub, 1) := by decide +kernel
theorem dX8_takes_16 : decode cX8_takes 16 = .ok (.invokevirtual 183, 3) := by decide +kernel
theorem dX8_takes_19 : decode cX8_takes 19 = .ok (.ireturn, 1) := by decide +kernel
theorem dX8_takes_20 : decode cX8_takes 20 = .ok (.aload_n 0, 1) := by decide +kernel
theorem dX8_takes_21 : decode cX8_takes 21 = .ok (.getfield 174, 3) := by decide +kernel
theorem dX8_takes_24 : decode cX8_takes 24 = .ok (.ifCond .le 35, 3) := by decide +kernel
theorem dX8_takes_27 : decode cX8_takes 27 = .ok (.aload_n 0, 1) := by decide +kernel
theorem dX8_takes_28 : decode cX8_takes 28 = .ok (.getfield 165, 3) := by decide +kernel
theorem dX8_takes_31 : decode cX8_takes 31 = .ok (.ifCond .ne 28, 3) := by decide +kernel
theorem dX8_takes_34 : decode cX8_takes 34 = .ok (.aload_n 0, 1) := by decide +kernel
theorem dX8_takes_35 : decode cX8_takes 35 = .ok (.iload_n 1, 1) := by decide +kernel
theorem dX8_takes_36 : decode cX8_takes 36 = .ok (.invokevirtual 186, 3) := by decide +kernel
theorem dX8_takes_39 : decode cX8_takes 39 = .ok (.ifCond .eq 20, 3) := by decide +kernel
theorem dX8_takes_42 : decode cX8_takes 42 = .ok (.aload_n 0, 1) := by decide +kernel
theorem dX8_takes_43 : decode cX8_takes 43 = .ok (.iload_n 1, 1) := by decide +kernel
theorem dX8_takes_44 : decode cX8_takes 44 = .ok (.putfield 168, 3) := by decide +kernel
theorem dX8_takes_47 : decode cX8_takes 47 = .ok (.aload_n 0, 1) := by decide +kernel
theorem dX8_takes_48 : decode cX8_takes 48 = .ok (.iconst 1, 1) := by decide +kernel
theorem dX8_takes_49 : decode cX8_takes 49 = .ok (.putfield 165, 3) := by decide +kernel
theorem dX8_takes_52 : decode cX8_takes 52 = .ok (.aload_n 0, 1) := by decide +kernel
theorem dX8_takes_53 : decode cX8_takes 53 = .ok (.iconst 0, 1) := by decide +kernel
theorem dX8_takes_54 : decode cX8_takes 54 = .ok (.putfield 174, 3) := by decide +kernel
theorem dX8_takes_57 : decode cX8_takes 57 = .ok (.iconst 1, 1) := by decide +kernel
theorem dX8_takes_58 : decode cX8_takes 58 = .ok (.ireturn, 1) := by decide +kernel
theorem dX8_takes_59 : decode cX8_takes 59 = .ok (.aload_n 0, 1) := by decide +kernel
theorem dX8_takes_60 : decode cX8_takes 60 = .ok (.getfield 168, 3) := by decide +kernel
theorem dX8_takes_63 : decode cX8_takes 63 = .ok (.bipush 62, 2) := by decide +kernel
theorem dX8_takes_65 : decode cX8_takes 65 = .ok (.if_icmp .eq 21, 3) := by decide +kernel
theorem dX8_takes_68 : decode cX8_takes 68 = .ok (.aload_n 0, 1) := by decide +kernel
theorem dX8_takes_69 : decode cX8_takes 69 = .ok (.getfield 168, 3) := by decide +kernel
theorem dX8_takes_72 : decode cX8_takes 72 = .ok (.bipush 37, 2) := by decide +kernel
theorem dX8_takes_74 : decode cX8_takes 74 = .ok (.if_icmp .eq 12, 3) := by decide +kernel
theorem dX8_takes_77 : decode cX8_takes 77 = .ok (.aload_n 0, 1) := by decide +kernel
theorem dX8_takes_78 : decode cX8_takes 78 = .ok (.getfield 168, 3) := by decide +kernel
theorem dX8_takes_81 : decode cX8_takes 81 = .ok (.bipush 35, 2) := by decide +kernel
theorem dX8_takes_83 : decode cX8_takes 83 = .ok (.if_icmp .ne 7, 3) := by decide +kernel
theorem dX8_takes_86 : decode cX8_takes 86 = .ok (.iconst 1, 1) := by decide +kernel
theorem dX8_takes_87 : decode cX8_takes 87 = .ok (.goto 4, 3) := by decide +kernel
theorem dX8_takes_90 : decode cX8_takes 90 = .ok (.iconst 0, 1) := by decide +kernel
theorem dX8_takes_91 : decode cX8_takes 91 = .ok (.istore_n 2, 1) := by decide +kernel
theorem dX8_takes_92 : decode cX8_takes 92 = .ok (.aload_n 0, 1) := by decide +kernel
theorem dX8_takes_93 : decode cX8_takes 93 = .ok (.getfield 174, 3) := by decide +kernel
theorem dX8_takes_96 : decode cX8_takes 96 = .ok (.ifCond .le 33, 3) := by decide +kernel
theorem dX8_takes_99 : decode cX8_takes 99 = .ok (.aload_n 0, 1) := by decide +kernel
theorem dX8_takes_100 : decode cX8_takes 100 = .ok (.getfield 165, 3) := by decide +kernel
theorem dX8_takes_103 : decode cX8_takes 103 = .ok (.iconst 1, 1) := by decide +kernel
theorem dX8_takes_104 : decode cX8_takes 104 = .ok (.if_icmp .ne 25, 3) := by decide +kernel
theorem dX8_takes_107 : decode cX8_takes 107 = .ok (.iload_n 2, 1) := by decide +kernel
theorem dX8_takes_108 : decode cX8_takes 108 = .ok (.ifCond .eq 21, 3) := by decide +kernel
theorem dX8_takes_111 : decode cX8_takes 111 = .ok (.iload_n 1, 1) := by decide +kernel
theorem dX8_takes_112 : decode cX8_takes 112 = .ok (.bipush 44, 2) := by decide +kernel
theorem dX8_takes_114 : decode cX8_takes 114 = .ok (.if_icmp .ne 15, 3) := by decide +kernel
theorem dX8_takes_117 : decode cX8_takes 117 = .ok (.aload_n 0, 1) := by decide +kernel
theorem dX8_takes_118 : decode cX8_takes 118 = .ok (.iconst 2, 1) := by decide +kernel
theorem dX8_takes_119 : decode cX8_takes 119 = .ok (.putfield 165, 3) := by decide +kernel
theorem dX8_takes_122 : decode cX8_takes 122 = .ok (.aload_n 0, 1) := by decide +kernel
theorem dX8_takes_123 : decode cX8_takes 123 = .ok (.iconst 0, 1) := by decide +kernel
theorem dX8_takes_124 : decode cX8_takes 124 = .ok (.putfield 174, 3) := by decide +kernel
theorem dX8_takes_127 : decode cX8_takes 127 = .ok (.iconst 1, 1) := by decide +kernel
theorem dX8_takes_128 : decode cX8_takes 128 = .ok (.ireturn, 1) := by decide +kernel
theorem dX8_takes_129 : decode cX8_takes 129 = .ok (.iload_n 1, 1) := by decide +kernel
theorem dX8_takes_130 : decode cX8_takes 130 = .ok (.bipush 59, 2) := by decide +kernel
theorem dX8_takes_132 : decode cX8_takes 132 = .ok (.if_icmp .ne 16, 3) := by decide +kernel
theorem dX8_takes_135 : decode cX8_takes 135 = .ok (.aload_n 0, 1) := by decide +kernel
theorem dX8_takes_136 : decode cX8_takes 136 = .ok (.invokevirtual 189, 3) := by decide +kernel
theorem dX8_takes_139 : decode cX8_takes 139 = .ok (.ifCond .eq 9, 3) := by decide +kernel
theorem dX8_takes_142 : decode cX8_takes 142 = .ok (.aload_n 0, 1) := by decide +kernel
theorem dX8_takes_143 : decode cX8_takes 143 = .ok (.invokevirtual 193, 3) := by decide +kernel
theorem dX8_takes_146 : decode cX8_takes 146 = .ok (.iconst 1, 1) := by decide +kernel
theorem dX8_takes_147 : decode cX8_takes 147 = .ok (.ireturn, 1) := by decide +kernel
theorem dX8_takes_148 : decode cX8_takes 148 = .ok (.iconst 0, 1) := by decide +kernel
theorem dX8_takes_149 : decode cX8_takes 149 = .ok (.ireturn, 1) := by decide +kernel
theorem dX8_readText_0 : decode cX8_readText 0 = .ok (.aload_n 0, 1) := by decide +kernel
theorem dX8_readText_1 : decode cX8_readText 1 = .ok (.iconst 0, 1) := by decide +kernel
theorem dX8_readText_2 : decode cX8_readText 2 = .ok (.putfield 171, 3) := by decide +kernel
theorem dX8_readText_5 : decode cX8_readText 5 = .ok (.aload_n 0, 1) := by decide +kernel
theorem dX8_readText_6 : decode cX8_readText 6 = .ok (.iconst 0, 1) := by decide +kernel
theorem dX8_readText_7 : decode cX8_readText 7 = .ok (.putfield 168, 3) := by decide +kernel
theorem dX8_readText_10 : decode cX8_readText 10 = .ok (.aload_n 0, 1) := by decide +kernel
theorem dX8_readText_11 : decode cX8_readText 11 = .ok (.iconst 0, 1) := by decide +kernel
theorem dX8_readText_12 : decode cX8_readText 12 = .ok (.putfield 165, 3) := by decide +kernel
theorem dX8_readText_15 : decode cX8_readText 15 = .ok (.aload_n 0, 1) := by decide +kernel
theorem dX8_readText_16 : decode cX8_readText 16 = .ok (.iconst 0, 1) := by decide +kernel
theorem dX8_readText_17 : decode cX8_readText 17 = .ok (.putfield 174, 3) := by decide +kernel
theorem dX8_readText_20 : decode cX8_readText 20 = .ok (.iconst 0, 1) := by decide +kernel
theorem dX8_readText_21 : decode cX8_readText 21 = .ok (.istore_n 1, 1) := by decide +kernel
theorem dX8_readText_22 : decode cX8_readText 22 = .ok (.iload_n 1, 1) := by decide +kernel
theorem dX8_readText_23 : decode cX8_readText 23 = .ok (.aload_n 0, 1) := by decide +kernel
theorem dX8_readText_24 : decode cX8_readText 24 = .ok (.getfield 162, 3) := by decide +kernel
theorem dX8_readText_27 : decode cX8_readText 27 = .ok (.if_icmp .ge 22, 3) := by decide +kernel
theorem dX8_readText_30 : decode cX8_readText 30 = .ok (.aload_n 0, 1) := by decide +kernel
theorem dX8_readText_31 : decode cX8_readText 31 = .ok (.aload_n 0, 1) := by decide +kernel
theorem dX8_readText_32 : decode cX8_readText 32 = .ok (.getfield 16, 3) := by decide +kernel
theorem dX8_readText_35 : decode cX8_readText 35 = .ok (.iload_n 1, 1) := by decide +kernel
theorem dX8_readText_36 : decode cX8_readText 36 = .ok (.iaload, 1) := by decide +kernel
theorem dX8_readText_37 : decode cX8_readText 37 = .ok (.invokevirtual 196, 3) := by decide +kernel
theorem dX8_readText_40 : decode cX8_readText 40 = .ok (.ifCond .eq 9, 3) := by decide +kernel
theorem dX8_readText_43 : decode cX8_readText 43 = .ok (.iinc 1 1, 3) := by decide +kernel
theorem dX8_readText_46 : decode cX8_readText 46 = .ok (.goto (-24), 3) := by decide +kernel
theorem dX8_readText_49 : decode cX8_readText 49 = .ok (.iload_n 1, 1) := by decide +kernel
theorem dX8_readText_50 : decode cX8_readText 50 = .ok (.ireturn, 1) := by decide +kernel
theorem dX8_firstError_0 : decode cX8_firstError 0 = .ok (.aload_n 0, 1) := by decide +kernel
theorem dX8_firstError_1 : decode cX8_firstError 1 = .ok (.iconst 0, 1) := by decide +kernel
theorem dX8_firstError_2 : decode cX8_firstError 2 = .ok (.putfield 25, 3) := by decide +kernel
theorem dX8_firstError_5 : decode cX8_firstError 5 = .ok (.aload_n 0, 1) := by decide +kernel
theorem dX8_firstError_6 : decode cX8_firstError 6 = .ok (.invokevirtual 199, 3) := by decide +kernel
theorem dX8_firstError_9 : decode cX8_firstError 9 = .ok (.ireturn, 1) := by decide +kernel
theorem dX8_whyNoPart_0 : decode cX8_whyNoPart 0 = .ok (.iconst 4, 1) := by decide +kernel
theorem dX8_whyNoPart_1 : decode cX8_whyNoPart 1 = .ok (.iload_n 1, 1) := by decide +kernel
theorem dX8_whyNoPart_2 : decode cX8_whyNoPart 2 = .ok (.imul, 1) := by decide +kernel
theorem dX8_whyNoPart_3 : decode cX8_whyNoPart 3 = .ok (.istore_n 2, 1) := by decide +kernel
theorem dX8_whyNoPart_4 : decode cX8_whyNoPart 4 = .ok (.aload_n 0, 1) := by decide +kernel
theorem dX8_whyNoPart_5 : decode cX8_whyNoPart 5 = .ok (.getfield 22, 3) := by decide +kernel
theorem dX8_whyNoPart_8 : decode cX8_whyNoPart 8 = .ok (.iload_n 2, 1) := by decide +kernel
theorem dX8_whyNoPart_9 : decode cX8_whyNoPart 9 = .ok (.iaload, 1) := by decide +kernel
theorem dX8_whyNoPart_10 : decode cX8_whyNoPart 10 = .ok (.lookupswitch 84 #[(33, 34), (35, 55), (42, 34)], 34) := by decide +kernel
theorem dX8_whyNoPart_44 : decode cX8_whyNoPart 44 = .ok (.aload_n 0, 1) := by decide +kernel
theorem dX8_whyNoPart_45 : decode cX8_whyNoPart 45 = .ok (.aload_n 0, 1) := by decide +kernel
theorem dX8_whyNoPart_46 : decode cX8_whyNoPart 46 = .ok (.getfield 22, 3) := by decide +kernel
theorem dX8_whyNoPart_49 : decode cX8_whyNoPart 49 = .ok (.iload_n 2, 1) := by decide +kernel
theorem dX8_whyNoPart_50 : decode cX8_whyNoPart 50 = .ok (.iconst 1, 1) := by decide +kernel
theorem dX8_whyNoPart_51 : decode cX8_whyNoPart 51 = .ok (.iadd, 1) := by decide +kernel
theorem dX8_whyNoPart_52 : decode cX8_whyNoPart 52 = .ok (.iaload, 1) := by decide +kernel
theorem dX8_whyNoPart_53 : decode cX8_whyNoPart 53 = .ok (.aload_n 0, 1) := by decide +kernel
theorem dX8_whyNoPart_54 : decode cX8_whyNoPart 54 = .ok (.getfield 22, 3) := by decide +kernel
theorem dX8_whyNoPart_57 : decode cX8_whyNoPart 57 = .ok (.iload_n 2, 1) := by decide +kernel
theorem dX8_whyNoPart_58 : decode cX8_whyNoPart 58 = .ok (.iconst 2, 1) := by decide +kernel
theorem dX8_whyNoPart_59 : decode cX8_whyNoPart 59 = .ok (.iadd, 1) := by decide +kernel
theorem dX8_whyNoPart_60 : decode cX8_whyNoPart 60 = .ok (.iaload, 1) := by decide +kernel
theorem dX8_whyNoPart_61 : decode cX8_whyNoPart 61 = .ok (.invokevirtual 138, 3) := by decide +kernel
theorem dX8_whyNoPart_64 : decode cX8_whyNoPart 64 = .ok (.ireturn, 1) := by decide +kernel
theorem dX8_whyNoPart_65 : decode cX8_whyNoPart 65 = .ok (.aload_n 0, 1) := by decide +kernel
theorem dX8_whyNoPart_66 : decode cX8_whyNoPart 66 = .ok (.aload_n 0, 1) := by decide +kernel
theorem dX8_whyNoPart_67 : decode cX8_whyNoPart 67 = .ok (.getfield 22, 3) := by decide +kernel
theorem dX8_whyNoPart_70 : decode cX8_whyNoPart 70 = .ok (.iload_n 2, 1) := by decide +kernel
theorem dX8_whyNoPart_71 : decode cX8_whyNoPart 71 = .ok (.iconst 1, 1) := by decide +kernel
theorem dX8_whyNoPart_72 : decode cX8_whyNoPart 72 = .ok (.iadd, 1) := by decide +kernel
theorem dX8_whyNoPart_73 : decode cX8_whyNoPart 73 = .ok (.iaload, 1) := by decide +kernel
theorem dX8_whyNoPart_74 : decode cX8_whyNoPart 74 = .ok (.aload_n 0, 1) := by decide +kernel
theorem dX8_whyNoPart_75 : decode cX8_whyNoPart 75 = .ok (.getfield 22, 3) := by decide +kernel
theorem dX8_whyNoPart_78 : decode cX8_whyNoPart 78 = .ok (.iload_n 2, 1) := by decide +kernel
theorem dX8_whyNoPart_79 : decode cX8_whyNoPart 79 = .ok (.iconst 2, 1) := by decide +kernel
theorem dX8_whyNoPart_80 : decode cX8_whyNoPart 80 = .ok (.iadd, 1) := by decide +kernel
theorem dX8_whyNoPart_81 : decode cX8_whyNoPart 81 = .ok (.iaload, 1) := by decide +kernel
theorem dX8_whyNoPart_82 : decode cX8_whyNoPart 82 = .ok (.aload_n 0, 1) := by decide +kernel
theorem dX8_whyNoPart_83 : decode cX8_whyNoPart 83 = .ok (.getfield 22, 3) := by decide +kernel
theorem dX8_whyNoPart_86 : decode cX8_whyNoPart 86 = .ok (.iload_n 2, 1) := by decide +kernel
theorem dX8_whyNoPart_87 : decode cX8_whyNoPart 87 = .ok (.iconst 3, 1) := by decide +kernel
theorem dX8_whyNoPart_88 : decode cX8_whyNoPart 88 = .ok (.iadd, 1) := by decide +kernel
theorem dX8_whyNoPart_89 : decode cX8_whyNoPart 89 = .ok (.iaload, 1) := by decide +kernel
theorem dX8_whyNoPart_90 : decode cX8_whyNoPart 90 = .ok (.invokevirtual 148, 3) := by decide +kernel
theorem dX8_whyNoPart_93 : decode cX8_whyNoPart 93 = .ok (.ireturn, 1) := by decide +kernel
theorem dX8_whyNoPart_94 : decode cX8_whyNoPart 94 = .ok (.aload_n 0, 1) := by decide +kernel
theorem dX8_whyNoPart_95 : decode cX8_whyNoPart 95 = .ok (.aload_n 0, 1) := by decide +kernel
theorem dX8_whyNoPart_96 : decode cX8_whyNoPart 96 = .ok (.getfield 22, 3) := by decide +kernel
theorem dX8_whyNoPart_99 : decode cX8_whyNoPart 99 = .ok (.iload_n 2, 1) := by decide +kernel
theorem dX8_whyNoPart_100 : decode cX8_whyNoPart 100 = .ok (.iconst 1, 1) := by decide +kernel
theorem dX8_whyNoPart_101 : decode cX8_whyNoPart 101 = .ok (.iadd, 1) := by decide +kernel
theorem dX8_whyNoPart_102 : decode cX8_whyNoPart 102 = .ok (.iaload, 1) := by decide +kernel
theorem dX8_whyNoPart_103 : decode cX8_whyNoPart 103 = .ok (.aload_n 0, 1) := by decide +kernel
theorem dX8_whyNoPart_104 : decode cX8_whyNoPart 104 = .ok (.getfield 22, 3) := by decide +kernel
theorem dX8_whyNoPart_107 : decode cX8_whyNoPart 107 = .ok (.iload_n 2, 1) := by decide +kernel
theorem dX8_whyNoPart_108 : decode cX8_whyNoPart 108 = .ok (.iconst 2, 1) := by decide +kernel
theorem dX8_whyNoPart_109 : decode cX8_whyNoPart 109 = .ok (.iadd, 1) := by decide +kernel
theorem dX8_whyNoPart_110 : decode cX8_whyNoPart 110 = .ok (.iaload, 1) := by decide +kernel
theorem dX8_whyNoPart_111 : decode cX8_whyNoPart 111 = .ok (.aload_n 0, 1) := by decide +kernel
theorem dX8_whyNoPart_112 : decode cX8_whyNoPart 112 = .ok (.getfield 22, 3) := by decide +kernel
theorem dX8_whyNoPart_115 : decode cX8_whyNoPart 115 = .ok (.iload_n 2, 1) := by decide +kernel
theorem dX8_whyNoPart_116 : decode cX8_whyNoPart 116 = .ok (.iconst 3, 1) := by decide +kernel
theorem dX8_whyNoPart_117 : decode cX8_whyNoPart 117 = .ok (.iadd, 1) := by decide +kernel
theorem dX8_whyNoPart_118 : decode cX8_whyNoPart 118 = .ok (.iaload, 1) := by decide +kernel
theorem dX8_whyNoPart_119 : decode cX8_whyNoPart 119 = .ok (.invokevirtual 114, 3) := by decide +kernel
theorem dX8_whyNoPart_122 : decode cX8_whyNoPart 122 = .ok (.ireturn, 1) := by decide +kernel
theorem dX8_bringPart_0 : decode cX8_bringPart 0 = .ok (.iconst 4, 1) := by decide +kernel
theorem dX8_bringPart_1 : decode cX8_bringPart 1 = .ok (.iload_n 1, 1) := by decide +kernel
theorem dX8_bringPart_2 : decode cX8_bringPart 2 = .ok (.imul, 1) := by decide +kernel
theorem dX8_bringPart_3 : decode cX8_bringPart 3 = .ok (.istore_n 2, 1) := by decide +kernel
theorem dX8_bringPart_4 : decode cX8_bringPart 4 = .ok (.aload_n 0, 1) := by decide +kernel
theorem dX8_bringPart_5 : decode cX8_bringPart 5 = .ok (.getfield 22, 3) := by decide +kernel
theorem dX8_bringPart_8 : decode cX8_bringPart 8 = .ok (.iload_n 2, 1) := by decide +kernel
theorem dX8_bringPart_9 : decode cX8_bringPart 9 = .ok (.iaload, 1) := by decide +kernel
theorem dX8_bringPart_10 : decode cX8_bringPart 10 = .ok (.lookupswitch 104 #[(33, 34), (35, 73), (42, 34)], 34) := by decide +kernel
theorem dX8_bringPart_44 : decode cX8_bringPart 44 = .ok (.aload_n 0, 1) := by decide +kernel
theorem dX8_bringPart_45 : decode cX8_bringPart 45 = .ok (.aload_n 0, 1) := by decide +kernel
theorem dX8_bringPart_46 : decode cX8_bringPart 46 = .ok (.getfield 22, 3) := by decide +kernel
theorem dX8_bringPart_49 : decode cX8_bringPart 49 = .ok (.iload_n 2, 1) := by decide +kernel
theorem dX8_bringPart_50 : decode cX8_bringPart 50 = .ok (.iconst 1, 1) := by decide +kernel
theorem dX8_bringPart_51 : decode cX8_bringPart 51 = .ok (.iadd, 1) := by decide +kernel
theorem dX8_bringPart_52 : decode cX8_bringPart 52 = .ok (.iaload, 1) := by decide +kernel
theorem dX8_bringPart_53 : decode cX8_bringPart 53 = .ok (.aload_n 0, 1) := by decide +kernel
theorem dX8_bringPart_54 : decode cX8_bringPart 54 = .ok (.getfield 22, 3) := by decide +kernel
theorem dX8_bringPart_57 : decode cX8_bringPart 57 = .ok (.iload_n 2, 1) := by decide +kernel
theorem dX8_bringPart_58 : decode cX8_bringPart 58 = .ok (.iconst 2, 1) := by decide +kernel
theorem dX8_bringPart_59 : decode cX8_bringPart 59 = .ok (.iadd, 1) := by decide +kernel
theorem dX8_bringPart_60 : decode cX8_bringPart 60 = .ok (.iaload, 1) := by decide +kernel
theorem dX8_bringPart_61 : decode cX8_bringPart 61 = .ok (.aload_n 0, 1) := by decide +kernel
theorem dX8_bringPart_62 : decode cX8_bringPart 62 = .ok (.getfield 22, 3) := by decide +kernel
theorem dX8_bringPart_65 : decode cX8_bringPart 65 = .ok (.iload_n 2, 1) := by decide +kernel
theorem dX8_bringPart_66 : decode cX8_bringPart 66 = .ok (.iaload, 1) := by decide +kernel
theorem dX8_bringPart_67 : decode cX8_bringPart 67 = .ok (.bipush 33, 2) := by decide +kernel
theorem dX8_bringPart_69 : decode cX8_bringPart 69 = .ok (.if_icmp .ne 7, 3) := by decide +kernel
theorem dX8_bringPart_72 : decode cX8_bringPart 72 = .ok (.iconst 1, 1) := by decide +kernel
theorem dX8_bringPart_73 : decode cX8_bringPart 73 = .ok (.goto 4, 3) := by decide +kernel
theorem dX8_bringPart_76 : decode cX8_bringPart 76 = .ok (.iconst 0, 1) := by decide +kernel
theorem dX8_bringPart_77 : decode cX8_bringPart 77 = .ok (.invokevirtual 141, 3) := by decide +kernel
theorem dX8_bringPart_80 : decode cX8_bringPart 80 = .ok (.goto 78, 3) := by decide +kernel
theorem dX8_bringPart_83 : decode cX8_bringPart 83 = .ok (.aload_n 0, 1) := by decide +kernel
theorem dX8_bringPart_84 : decode cX8_bringPart 84 = .ok (.aload_n 0, 1) := by decide +kernel
theorem dX8_bringPart_85 : decode cX8_bringPart 85 = .ok (.getfield 22, 3) := by decide +kernel
theorem dX8_bringPart_88 : decode cX8_bringPart 88 = .ok (.iload_n 2, 1) := by decide +kernel
theorem dX8_bringPart_89 : decode cX8_bringPart 89 = .ok (.iconst 1, 1) := by decide +kernel
theorem dX8_bringPart_90 : decode cX8_bringPart 90 = .ok (.iadd, 1) := by decide +kernel
theorem dX8_bringPart_91 : decode cX8_bringPart 91 = .ok (.iaload, 1) := by decide +kernel
theorem dX8_bringPart_92 : decode cX8_bringPart 92 = .ok (.aload_n 0, 1) := by decide +kernel
theorem dX8_bringPart_93 : decode cX8_bringPart 93 = .ok (.getfield 22, 3) := by decide +kernel
theorem dX8_bringPart_96 : decode cX8_bringPart 96 = .ok (.iload_n 2, 1) := by decide +kernel
theorem dX8_bringPart_97 : decode cX8_bringPart 97 = .ok (.iconst 2, 1) := by decide +kernel
theorem dX8_bringPart_98 : decode cX8_bringPart 98 = .ok (.iadd, 1) := by decide +kernel
theorem dX8_bringPart_99 : decode cX8_bringPart 99 = .ok (.iaload, 1) := by decide +kernel
theorem dX8_bringPart_100 : decode cX8_bringPart 100 = .ok (.aload_n 0, 1) := by decide +kernel
theorem dX8_bringPart_101 : decode cX8_bringPart 101 = .ok (.getfield 22, 3) := by decide +kernel
theorem dX8_bringPart_104 : decode cX8_bringPart 104 = .ok (.iload_n 2, 1) := by decide +kernel
theorem dX8_bringPart_105 : decode cX8_bringPart 105 = .ok (.iconst 3, 1) := by decide +kernel
theorem dX8_bringPart_106 : decode cX8_bringPart 106 = .ok (.iadd, 1) := by decide +kernel
theorem dX8_bringPart_107 : decode cX8_bringPart 107 = .ok (.iaload, 1) := by decide +kernel
theorem dX8_bringPart_108 : decode cX8_bringPart 108 = .ok (.invokevirtual 151, 3) := by decide +kernel
theorem dX8_bringPart_111 : decode cX8_bringPart 111 = .ok (.goto 47, 3) := by decide +kernel
theorem dX8_bringPart_114 : decode cX8_bringPart 114 = .ok (.aload_n 0, 1) := by decide +kernel
theorem dX8_bringPart_115 : decode cX8_bringPart 115 = .ok (.aload_n 0, 1) := by decide +kernel
theorem dX8_bringPart_116 : decode cX8_bringPart 116 = .ok (.getfield 22, 3) := by decide +kernel
theorem dX8_bringPart_119 : decode cX8_bringPart 119 = .ok (.iload_n 2, 1) := by decide +kernel
theorem dX8_bringPart_120 : decode cX8_bringPart 120 = .ok (.iconst 1, 1) := by decide +kernel
theorem dX8_bringPart_121 : decode cX8_bringPart 121 = .ok (.iadd, 1) := by decide +kernel
theorem dX8_bringPart_122 : decode cX8_bringPart 122 = .ok (.iaload, 1) := by decide +kernel
theorem dX8_bringPart_123 : decode cX8_bringPart 123 = .ok (.aload_n 0, 1) := by decide +kernel
theorem dX8_bringPart_124 : decode cX8_bringPart 124 = .ok (.getfield 22, 3) := by decide +kernel
theorem dX8_bringPart_127 : decode cX8_bringPart 127 = .ok (.iload_n 2, 1) := by decide +kernel
theorem dX8_bringPart_128 : decode cX8_bringPart 128 = .ok (.iconst 2, 1) := by decide +kernel
theorem dX8_bringPart_129 : decode cX8_bringPart 129 = .ok (.iadd, 1) := by decide +kernel
theorem dX8_bringPart_130 : decode cX8_bringPart 130 = .ok (.iaload, 1) := by decide +kernel
theorem dX8_bringPart_131 : decode cX8_bringPart 131 = .ok (.aload_n 0, 1) := by decide +kernel
theorem dX8_bringPart_132 : decode cX8_bringPart 132 = .ok (.getfield 22, 3) := by decide +kernel
theorem dX8_bringPart_135 : decode cX8_bringPart 135 = .ok (.iload_n 2, 1) := by decide +kernel
theorem dX8_bringPart_136 : decode cX8_bringPart 136 = .ok (.iconst 3, 1) := by decide +kernel
theorem dX8_bringPart_137 : decode cX8_bringPart 137 = .ok (.iadd, 1) := by decide +kernel
theorem dX8_bringPart_138 : decode cX8_bringPart 138 = .ok (.iaload, 1) := by decide +kernel
theorem dX8_bringPart_139 : decode cX8_bringPart 139 = .ok (.aload_n 0, 1) := by decide +kernel
theorem dX8_bringPart_140 : decode cX8_bringPart 140 = .ok (.getfield 22, 3) := by decide +kernel
theorem dX8_bringPart_143 : decode cX8_bringPart 143 = .ok (.iload_n 2, 1) := by decide +kernel
theorem dX8_bringPart_144 : decode cX8_bringPart 144 = .ok (.iaload, 1) := by decide +kernel
theorem dX8_bringPart_145 : decode cX8_bringPart 145 = .ok (.bipush 37, 2) := by decide +kernel
theorem dX8_bringPart_147 : decode cX8_bringPart 147 = .ok (.if_icmp .ne 7, 3) := by decide +kernel
theorem dX8_bringPart_150 : decode cX8_bringPart 150 = .ok (.iconst 1, 1) := by decide +kernel
theorem dX8_bringPart_151 : decode cX8_bringPart 151 = .ok (.goto 4, 3) := by decide +kernel
theorem dX8_bringPart_154 : decode cX8_bringPart 154 = .ok (.iconst 0, 1) := by decide +kernel
theorem dX8_bringPart_155 : decode cX8_bringPart 155 = .ok (.invokevirtual 121, 3) := by decide +kernel
theorem dX8_bringPart_158 : decode cX8_bringPart 158 = .ok (.return_, 1) := by decide +kernel
theorem dX8_load_0 : decode cX8_load 0 = .ok (.aload_n 0, 1) := by decide +kernel
theorem dX8_load_1 : decode cX8_load 1 = .ok (.invokevirtual 199, 3) := by decide +kernel
theorem dX8_load_4 : decode cX8_load 4 = .ok (.aload_n 0, 1) := by decide +kernel
theorem dX8_load_5 : decode cX8_load 5 = .ok (.getfield 162, 3) := by decide +kernel
theorem dX8_load_8 : decode cX8_load 8 = .ok (.if_icmp .ne 14, 3) := by decide +kernel
theorem dX8_load_11 : decode cX8_load 11 = .ok (.aload_n 0, 1) := by decide +kernel
theorem dX8_load_12 : decode cX8_load 12 = .ok (.invokevirtual 189, 3) := by decide +kernel
theorem dX8_load_15 : decode cX8_load 15 = .ok (.ifCond .eq 7, 3) := by decide +kernel
theorem dX8_load_18 : decode cX8_load 18 = .ok (.iconst 1, 1) := by decide +kernel
theorem dX8_load_19 : decode cX8_load 19 = .ok (.goto 4, 3) := by decide +kernel
theorem dX8_load_22 : decode cX8_load 22 = .ok (.iconst 0, 1) := by decide +kernel
theorem dX8_load_23 : decode cX8_load 23 = .ok (.istore_n 1, 1) := by decide +kernel
theorem dX8_load_24 : decode cX8_load 24 = .ok (.aload_n 0, 1) := by decide +kernel
theorem dX8_load_25 : decode cX8_load 25 = .ok (.iload_n 1, 1) := by decide +kernel
theorem dX8_load_26 : decode cX8_load 26 = .ok (.ifCond .eq 7, 3) := by decide +kernel
theorem dX8_load_29 : decode cX8_load 29 = .ok (.iconst 0, 1) := by decide +kernel
theorem dX8_load_30 : decode cX8_load 30 = .ok (.goto 4, 3) := by decide +kernel
theorem dX8_load_33 : decode cX8_load 33 = .ok (.iconst 1, 1) := by decide +kernel
theorem dX8_load_34 : decode cX8_load 34 = .ok (.putfield 25, 3) := by decide +kernel
theorem dX8_load_37 : decode cX8_load 37 = .ok (.aload_n 0, 1) := by decide +kernel
theorem dX8_load_38 : decode cX8_load 38 = .ok (.getfield 25, 3) := by decide +kernel
theorem dX8_load_41 : decode cX8_load 41 = .ok (.ifCond .le 5, 3) := by decide +kernel
theorem dX8_load_44 : decode cX8_load 44 = .ok (.iconst 0, 1) := by decide +kernel
theorem dX8_load_45 : decode cX8_load 45 = .ok (.ireturn, 1) := by decide +kernel
theorem dX8_load_46 : decode cX8_load 46 = .ok (.aload_n 0, 1) := by decide +kernel
theorem dX8_load_47 : decode cX8_load 47 = .ok (.invokevirtual 193, 3) := by decide +kernel
theorem dX8_load_50 : decode cX8_load 50 = .ok (.aload_n 0, 1) := by decide +kernel
theorem dX8_load_51 : decode cX8_load 51 = .ok (.invokevirtual 118, 3) := by decide +kernel
theorem dX8_load_54 : decode cX8_load 54 = .ok (.iconst 0, 1) := by decide +kernel
theorem dX8_load_55 : decode cX8_load 55 = .ok (.istore_n 2, 1) := by decide +kernel
theorem dX8_load_56 : decode cX8_load 56 = .ok (.iload_n 2, 1) := by decide +kernel
theorem dX8_load_57 : decode cX8_load 57 = .ok (.aload_n 0, 1) := by decide +kernel
theorem dX8_load_58 : decode cX8_load 58 = .ok (.getfield 171, 3) := by decide +kernel
theorem dX8_load_61 : decode cX8_load 61 = .ok (.if_icmp .ge 22, 3) := by decide +kernel
theorem dX8_load_64 : decode cX8_load 64 = .ok (.aload_n 0, 1) := by decide +kernel
theorem dX8_load_65 : decode cX8_load 65 = .ok (.iload_n 2, 1) := by decide +kernel
theorem dX8_load_66 : decode cX8_load 66 = .ok (.invokevirtual 202, 3) := by decide +kernel
theorem dX8_load_69 : decode cX8_load 69 = .ok (.ifCond .ne 14, 3) := by decide +kernel
theorem dX8_load_72 : decode cX8_load 72 = .ok (.aload_n 0, 1) := by decide +kernel
theorem dX8_load_73 : decode cX8_load 73 = .ok (.iload_n 2, 1) := by decide +kernel
theorem dX8_load_74 : decode cX8_load 74 = .ok (.invokevirtual 205, 3) := by decide +kernel
theorem dX8_load_77 : decode cX8_load 77 = .ok (.iinc 2 1, 3) := by decide +kernel
theorem dX8_load_80 : decode cX8_load 80 = .ok (.goto (-24), 3) := by decide +kernel
theorem dX8_load_83 : decode cX8_load 83 = .ok (.aload_n 0, 1) := by decide +kernel
theorem dX8_load_84 : decode cX8_load 84 = .ok (.iconst 0, 1) := by decide +kernel
theorem dX8_load_85 : decode cX8_load 85 = .ok (.putfield 162, 3) := by decide +kernel
theorem dX8_load_88 : decode cX8_load 88 = .ok (.iload_n 2, 1) := by decide +kernel
theorem dX8_load_89 : decode cX8_load 89 = .ok (.ireturn, 1) := by decide +kernel
theorem dX8_behind_0 : decode cX8_behind 0 = .ok (.iconst 0, 1) := by decide +kernel
theorem dX8_behind_1 : decode cX8_behind 1 = .ok (.istore_n 2, 1) := by decide +kernel
theorem dX8_behind_2 : decode cX8_behind 2 = .ok (.iload_n 1, 1) := by decide +kernel
theorem dX8_behind_3 : decode cX8_behind 3 = .ok (.iconst 1, 1) := by decide +kernel
theorem dX8_behind_4 : decode cX8_behind 4 = .ok (.iadd, 1) := by decide +kernel
theorem dX8_behind_5 : decode cX8_behind 5 = .ok (.istore_n 3, 1) := by decide +kernel
theorem dX8_behind_6 : decode cX8_behind 6 = .ok (.iload_n 3, 1) := by decide +kernel
theorem dX8_behind_7 : decode cX8_behind 7 = .ok (.aload_n 0, 1) := by decide +kernel
theorem dX8_behind_8 : decode cX8_behind 8 = .ok (.getfield 7, 3) := by decide +kernel
theorem dX8_behind_11 : decode cX8_behind 11 = .ok (.iconst 0, 1) := by decide +kernel
theorem dX8_behind_12 : decode cX8_behind 12 = .ok (.iaload, 1) := by decide +kernel
theorem dX8_behind_13 : decode cX8_behind 13 = .ok (.if_icmp .ge 26, 3) := by decide +kernel
theorem dX8_behind_16 : decode cX8_behind 16 = .ok (.iload_n 2, 1) := by decide +kernel
theorem dX8_behind_17 : decode cX8_behind 17 = .ok (.aload_n 0, 1) := by decide +kernel
theorem dX8_behind_18 : decode cX8_behind 18 = .ok (.iload_n 3, 1) := by decide +kernel
theorem dX8_behind_19 : decode cX8_behind 19 = .ok (.iload_n 1, 1) := by decide +kernel
theorem dX8_behind_20 : decode cX8_behind 20 = .ok (.invokevirtual 77, 3) := by decide +kernel
theorem dX8_behind_23 : decode cX8_behind 23 = .ok (.ifCond .eq 7, 3) := by decide +kernel
theorem dX8_behind_26 : decode cX8_behind 26 = .ok (.iconst 1, 1) := by decide +kernel
theorem dX8_behind_27 : decode cX8_behind 27 = .ok (.goto 4, 3) := by decide +kernel
theorem dX8_behind_30 : decode cX8_behind 30 = .ok (.iconst 0, 1) := by decide +kernel
theorem dX8_behind_31 : decode cX8_behind 31 = .ok (.iadd, 1) := by decide +kernel
theorem dX8_behind_32 : decode cX8_behind 32 = .ok (.istore_n 2, 1) := by decide +kernel
theorem dX8_behind_33 : decode cX8_behind 33 = .ok (.iinc 3 1, 3) := by decide +kernel
theorem dX8_behind_36 : decode cX8_behind 36 = .ok (.goto (-30), 3) := by decide +kernel
theorem dX8_behind_39 : decode cX8_behind 39 = .ok (.iload_n 2, 1) := by decide +kernel
theorem dX8_behind_40 : decode cX8_behind 40 = .ok (.ireturn, 1) := by decide +kernel
theorem dX8_lanternsAt_0 : decode cX8_lanternsAt 0 = .ok (.iconst 0, 1) := by decide +kernel
theorem dX8_lanternsAt_1 : decode cX8_lanternsAt 1 = .ok (.istore_n 3, 1) := by decide +kernel
theorem dX8_lanternsAt_2 : decode cX8_lanternsAt 2 = .ok (.iconst 0, 1) := by decide +kernel
theorem dX8_lanternsAt_3 : decode cX8_lanternsAt 3 = .ok (.istore 4, 2) := by decide +kernel
theorem dX8_lanternsAt_5 : decode cX8_lanternsAt 5 = .ok (.iload 4, 2) := by decide +kernel
theorem dX8_lanternsAt_7 : decode cX8_lanternsAt 7 = .ok (.aload_n 0, 1) := by decide +kernel
theorem dX8_lanternsAt_8 : decode cX8_lanternsAt 8 = .ok (.getfield 7, 3) := by decide +kernel
theorem dX8_lanternsAt_11 : decode cX8_lanternsAt 11 = .ok (.bipush 85, 2) := by decide +kernel
theorem dX8_lanternsAt_13 : decode cX8_lanternsAt 13 = .ok (.iaload, 1) := by decide +kernel
theorem dX8_lanternsAt_14 : decode cX8_lanternsAt 14 = .ok (.if_icmp .ge 59, 3) := by decide +kernel
theorem dX8_lanternsAt_17 : decode cX8_lanternsAt 17 = .ok (.iload_n 2, 1) := by decide +kernel
theorem dX8_lanternsAt_18 : decode cX8_lanternsAt 18 = .ok (.ifCond .eq 13, 3) := by decide +kernel
theorem dX8_lanternsAt_21 : decode cX8_lanternsAt 21 = .ok (.aload_n 0, 1) := by decide +kernel
theorem dX8_lanternsAt_22 : decode cX8_lanternsAt 22 = .ok (.iload 4, 2) := by decide +kernel
theorem dX8_lanternsAt_24 : decode cX8_lanternsAt 24 = .ok (.iconst 1, 1) := by decide +kernel
theorem dX8_lanternsAt_25 : decode cX8_lanternsAt 25 = .ok (.invokevirtual 48, 3) := by decide +kernel
theorem dX8_lanternsAt_28 : decode cX8_lanternsAt 28 = .ok (.goto 17, 3) := by decide +kernel
theorem dX8_lanternsAt_31 : decode cX8_lanternsAt 31 = .ok (.aload_n 0, 1) := by decide +kernel
theorem dX8_lanternsAt_32 : decode cX8_lanternsAt 32 = .ok (.iload 4, 2) := by decide +kernel
theorem dX8_lanternsAt_34 : decode cX8_lanternsAt 34 = .ok (.invokevirtual 54, 3) := by decide +kernel
theorem dX8_lanternsAt_37 : decode cX8_lanternsAt 37 = .ok (.ifCond .ne 7, 3) := by decide +kernel
theorem dX8_lanternsAt_40 : decode cX8_lanternsAt 40 = .ok (.iconst 1, 1) := by decide +kernel
theorem dX8_lanternsAt_41 : decode cX8_lanternsAt 41 = .ok (.goto 4, 3) := by decide +kernel
theorem dX8_lanternsAt_44 : decode cX8_lanternsAt 44 = .ok (.iconst 0, 1) := by decide +kernel
theorem dX8_lanternsAt_45 : decode cX8_lanternsAt 45 = .ok (.istore 5, 2) := by decide +kernel
theorem dX8_lanternsAt_47 : decode cX8_lanternsAt 47 = .ok (.iload_n 3, 1) := by decide +kernel
theorem dX8_lanternsAt_48 : decode cX8_lanternsAt 48 = .ok (.aload_n 0, 1) := by decide +kernel
theorem dX8_lanternsAt_49 : decode cX8_lanternsAt 49 = .ok (.iload 4, 2) := by decide +kernel
theorem dX8_lanternsAt_51 : decode cX8_lanternsAt 51 = .ok (.iconst 0, 1) := by decide +kernel
theorem dX8_lanternsAt_52 : decode cX8_lanternsAt 52 = .ok (.invokevirtual 48, 3) := by decide +kernel
theorem dX8_lanternsAt_55 : decode cX8_lanternsAt 55 = .ok (.iload_n 1, 1) := by decide +kernel
theorem dX8_lanternsAt_56 : decode cX8_lanternsAt 56 = .ok (.if_icmp .ne 8, 3) := by decide +kernel
theorem dX8_lanternsAt_59 : decode cX8_lanternsAt 59 = .ok (.iload 5, 2) := by decide +kernel
theorem dX8_lanternsAt_61 : decode cX8_lanternsAt 61 = .ok (.goto 4, 3) := by decide +kernel
theorem dX8_lanternsAt_64 : decode cX8_lanternsAt 64 = .ok (.iconst 0, 1) := by decide +kernel
theorem dX8_lanternsAt_65 : decode cX8_lanternsAt 65 = .ok (.iadd, 1) := by decide +kernel
theorem dX8_lanternsAt_66 : decode cX8_lanternsAt 66 = .ok (.istore_n 3, 1) := by decide +kernel
theorem dX8_lanternsAt_67 : decode cX8_lanternsAt 67 = .ok (.iinc 4 1, 3) := by decide +kernel
theorem dX8_lanternsAt_70 : decode cX8_lanternsAt 70 = .ok (.goto (-65), 3) := by decide +kernel
theorem dX8_lanternsAt_73 : decode cX8_lanternsAt 73 = .ok (.iload_n 3, 1) := by decide +kernel
theorem dX8_lanternsAt_74 : decode cX8_lanternsAt 74 = .ok (.ireturn, 1) := by decide +kernel
theorem dX8_boxNow_0 : decode cX8_boxNow 0 = .ok (.iload_n 2, 1) := by decide +kernel
theorem dX8_boxNow_1 : decode cX8_boxNow 1 = .ok (.tableswitch 57 3 6 #[31, 37, 43, 50], 31) := by decide +kernel
theorem dX8_boxNow_32 : decode cX8_boxNow 32 = .ok (.aload_n 0, 1) := by decide +kernel
theorem dX8_boxNow_33 : decode cX8_boxNow 33 = .ok (.iload_n 1, 1) := by decide +kernel
theorem dX8_boxNow_34 : decode cX8_boxNow 34 = .ok (.invokevirtual 90, 3) := by decide +kernel
theorem dX8_boxNow_37 : decode cX8_boxNow 37 = .ok (.ireturn, 1) := by decide +kernel
theorem dX8_boxNow_38 : decode cX8_boxNow 38 = .ok (.aload_n 0, 1) := by decide +kernel
theorem dX8_boxNow_39 : decode cX8_boxNow 39 = .ok (.iload_n 1, 1) := by decide +kernel
theorem dX8_boxNow_40 : decode cX8_boxNow 40 = .ok (.invokevirtual 209, 3) := by decide +kernel
theorem dX8_boxNow_43 : decode cX8_boxNow 43 = .ok (.ireturn, 1) := by decide +kernel
theorem dX8_boxNow_44 : decode cX8_boxNow 44 = .ok (.aload_n 0, 1) := by decide +kernel
theorem dX8_boxNow_45 : decode cX8_boxNow 45 = .ok (.iload_n 1, 1) := by decide +kernel
theorem dX8_boxNow_46 : decode cX8_boxNow 46 = .ok (.iconst 0, 1) := by decide +kernel
theorem dX8_boxNow_47 : decode cX8_boxNow 47 = .ok (.invokevirtual 212, 3) := by decide +kernel
theorem dX8_boxNow_50 : decode cX8_boxNow 50 = .ok (.ireturn, 1) := by decide +kernel
theorem dX8_boxNow_51 : decode cX8_boxNow 51 = .ok (.aload_n 0, 1) := by decide +kernel
theorem dX8_boxNow_52 : decode cX8_boxNow 52 = .ok (.iload_n 1, 1) := by decide +kernel
theorem dX8_boxNow_53 : decode cX8_boxNow 53 = .ok (.iconst 1, 1) := by decide +kernel
theorem dX8_boxNow_54 : decode cX8_boxNow 54 = .ok (.invokevirtual 212, 3) := by decide +kernel
theorem dX8_boxNow_57 : decode cX8_boxNow 57 = .ok (.ireturn, 1) := by decide +kernel
theorem dX8_boxNow_58 : decode cX8_boxNow 58 = .ok (.iload_n 1, 1) := by decide +kernel
theorem dX8_boxNow_59 : decode cX8_boxNow 59 = .ok (.ifCond .ne 7, 3) := by decide +kernel
theorem dX8_boxNow_62 : decode cX8_boxNow 62 = .ok (.iconst (-1), 1) := by decide +kernel
theorem dX8_boxNow_63 : decode cX8_boxNow 63 = .ok (.goto 9, 3) := by decide +kernel
theorem dX8_boxNow_66 : decode cX8_boxNow 66 = .ok (.aload_n 0, 1) := by decide +kernel
theorem dX8_boxNow_67 : decode cX8_boxNow 67 = .ok (.iload_n 1, 1) := by decide +kernel
theorem dX8_boxNow_68 : decode cX8_boxNow 68 = .ok (.iload_n 2, 1) := by decide +kernel
theorem dX8_boxNow_69 : decode cX8_boxNow 69 = .ok (.invokevirtual 33, 3) := by decide +kernel
theorem dX8_boxNow_72 : decode cX8_boxNow 72 = .ok (.ireturn, 1) := by decide +kernel
theorem dX8_box_0 : decode cX8_box 0 = .ok (.aload_n 0, 1) := by decide +kernel
theorem dX8_box_1 : decode cX8_box 1 = .ok (.aload_n 0, 1) := by decide +kernel
theorem dX8_box_2 : decode cX8_box 2 = .ok (.iload_n 1, 1) := by decide +kernel
theorem dX8_box_3 : decode cX8_box 3 = .ok (.invokevirtual 105, 3) := by decide +kernel
theorem dX8_box_6 : decode cX8_box 6 = .ok (.ifCond .ne 7, 3) := by decide +kernel
theorem dX8_box_9 : decode cX8_box 9 = .ok (.iconst 1, 1) := by decide +kernel
theorem dX8_box_10 : decode cX8_box 10 = .ok (.goto 18, 3) := by decide +kernel
theorem dX8_box_13 : decode cX8_box 13 = .ok (.iload_n 2, 1) := by decide +kernel
theorem dX8_box_14 : decode cX8_box 14 = .ok (.iconst 0, 1) := by decide +kernel
theorem dX8_box_15 : decode cX8_box 15 = .ok (.bipush 6, 2) := by decide +kernel
theorem dX8_box_17 : decode cX8_box 17 = .ok (.invokestatic 29, 3) := by decide +kernel
theorem dX8_box_20 : decode cX8_box 20 = .ok (.ifCond .eq 7, 3) := by decide +kernel
theorem dX8_box_23 : decode cX8_box 23 = .ok (.iconst 0, 1) := by decide +kernel
theorem dX8_box_24 : decode cX8_box 24 = .ok (.goto 4, 3) := by decide +kernel
theorem dX8_box_27 : decode cX8_box 27 = .ok (.iconst 2, 1) := by decide +kernel
theorem dX8_box_28 : decode cX8_box 28 = .ok (.putfield 25, 3) := by decide +kernel
theorem dX8_box_31 : decode cX8_box 31 = .ok (.aload_n 0, 1) := by decide +kernel
theorem dX8_box_32 : decode cX8_box 32 = .ok (.getfield 25, 3) := by decide +kernel
theorem dX8_box_35 : decode cX8_box 35 = .ok (.ifCond .le 7, 3) := by decide +kernel
theorem dX8_box_38 : decode cX8_box 38 = .ok (.iconst 0, 1) := by decide +kernel
theorem dX8_box_39 : decode cX8_box 39 = .ok (.goto 9, 3) := by decide +kernel
theorem dX8_box_42 : decode cX8_box 42 = .ok (.aload_n 0, 1) := by decide +kernel
theorem dX8_box_43 : decode cX8_box 43 = .ok (.iload_n 1, 1) := by decide +kernel
theorem dX8_box_44 : decode cX8_box 44 = .ok (.iload_n 2, 1) := by decide +kernel
theorem dX8_box_45 : decode cX8_box 45 = .ok (.invokevirtual 216, 3) := by decide +kernel
theorem dX8_box_48 : decode cX8_box 48 = .ok (.ireturn, 1) := by decide +kernel
theorem dX8_faultsAt_0 : decode cX8_faultsAt 0 = .ok (.iconst 0, 1) := by decide +kernel
theorem dX8_faultsAt_1 : decode cX8_faultsAt 1 = .ok (.istore_n 3, 1) := by decide +kernel
theorem dX8_faultsAt_2 : decode cX8_faultsAt 2 = .ok (.iconst 0, 1) := by decide +kernel
theorem dX8_faultsAt_3 : decode cX8_faultsAt 3 = .ok (.istore 4, 2) := by decide +kernel
theorem dX8_faultsAt_5 : decode cX8_faultsAt 5 = .ok (.iload 4, 2) := by decide +kernel
theorem dX8_faultsAt_7 : decode cX8_faultsAt 7 = .ok (.aload_n 0, 1) := by decide +kernel
theorem dX8_faultsAt_8 : decode cX8_faultsAt 8 = .ok (.getfield 7, 3) := by decide +kernel
theorem dX8_faultsAt_11 : decode cX8_faultsAt 11 = .ok (.sipush 134, 3) := by decide +kernel
theorem dX8_faultsAt_14 : decode cX8_faultsAt 14 = .ok (.iaload, 1) := by decide +kernel
theorem dX8_faultsAt_15 : decode cX8_faultsAt 15 = .ok (.if_icmp .ge 45, 3) := by decide +kernel
theorem dX8_faultsAt_18 : decode cX8_faultsAt 18 = .ok (.iload_n 3, 1) := by decide +kernel
theorem dX8_faultsAt_19 : decode cX8_faultsAt 19 = .ok (.aload_n 0, 1) := by decide +kernel
theorem dX8_faultsAt_20 : decode cX8_faultsAt 20 = .ok (.iload 4, 2) := by decide +kernel
theorem dX8_faultsAt_22 : decode cX8_faultsAt 22 = .ok (.iconst 0, 1) := by decide +kernel
theorem dX8_faultsAt_23 : decode cX8_faultsAt 23 = .ok (.invokevirtual 58, 3) := by decide +kernel
theorem dX8_faultsAt_26 : decode cX8_faultsAt 26 = .ok (.iload_n 1, 1) := by decide +kernel
theorem dX8_faultsAt_27 : decode cX8_faultsAt 27 = .ok (.if_icmp .ne 24, 3) := by decide +kernel
theorem dX8_faultsAt_30 : decode cX8_faultsAt 30 = .ok (.aload_n 0, 1) := by decide +kernel
theorem dX8_faultsAt_31 : decode cX8_faultsAt 31 = .ok (.iload 4, 2) := by decide +kernel
theorem dX8_faultsAt_33 : decode cX8_faultsAt 33 = .ok (.iconst 1, 1) := by decide +kernel
theorem dX8_faultsAt_34 : decode cX8_faultsAt 34 = .ok (.invokevirtual 58, 3) := by decide +kernel
theorem dX8_faultsAt_37 : decode cX8_faultsAt 37 = .ok (.iload_n 2, 1) := by decide +kernel
theorem dX8_faultsAt_38 : decode cX8_faultsAt 38 = .ok (.if_icmp .ne 13, 3) := by decide +kernel
theorem dX8_faultsAt_41 : decode cX8_faultsAt 41 = .ok (.aload_n 0, 1) := by decide +kernel
theorem dX8_faultsAt_42 : decode cX8_faultsAt 42 = .ok (.iload 4, 2) := by decide +kernel
theorem dX8_faultsAt_44 : decode cX8_faultsAt 44 = .ok (.iconst 2, 1) := by decide +kernel
theorem dX8_faultsAt_45 : decode cX8_faultsAt 45 = .ok (.invokevirtual 58, 3) := by decide +kernel
theorem dX8_faultsAt_48 : decode cX8_faultsAt 48 = .ok (.goto 4, 3) := by decide +kernel
theorem dX8_faultsAt_51 : decode cX8_faultsAt 51 = .ok (.iconst 0, 1) := by decide +kernel
theorem dX8_faultsAt_52 : decode cX8_faultsAt 52 = .ok (.iadd, 1) := by decide +kernel
theorem dX8_faultsAt_53 : decode cX8_faultsAt 53 = .ok (.istore_n 3, 1) := by decide +kernel
theorem dX8_faultsAt_54 : decode cX8_faultsAt 54 = .ok (.iinc 4 1, 3) := by decide +kernel
theorem dX8_faultsAt_57 : decode cX8_faultsAt 57 = .ok (.goto (-52), 3) := by decide +kernel
theorem dX8_faultsAt_60 : decode cX8_faultsAt 60 = .ok (.iload_n 3, 1) := by decide +kernel
theorem dX8_faultsAt_61 : decode cX8_faultsAt 61 = .ok (.ireturn, 1) := by decide +kernel
theorem dX8_terminalNow_0 : decode cX8_terminalNow 0 = .ok (.iload_n 3, 1) := by decide +kernel
theorem dX8_terminalNow_1 : decode cX8_terminalNow 1 = .ok (.tableswitch 98 0 4 #[35, 42, 57, 64, 81], 35) := by decide +kernel
theorem dX8_terminalNow_36 : decode cX8_terminalNow 36 = .ok (.aload_n 0, 1) := by decide +kernel
theorem dX8_terminalNow_37 : decode cX8_terminalNow 37 = .ok (.iload_n 1, 1) := by decide +kernel
theorem dX8_terminalNow_38 : decode cX8_terminalNow 38 = .ok (.iload_n 2, 1) := by decide +kernel
theorem dX8_terminalNow_39 : decode cX8_terminalNow 39 = .ok (.invokevirtual 51, 3) := by decide +kernel
theorem dX8_terminalNow_42 : decode cX8_terminalNow 42 = .ok (.ireturn, 1) := by decide +kernel
theorem dX8_terminalNow_43 : decode cX8_terminalNow 43 = .ok (.aload_n 0, 1) := by decide +kernel
theorem dX8_terminalNow_44 : decode cX8_terminalNow 44 = .ok (.iload_n 1, 1) := by decide +kernel
theorem dX8_terminalNow_45 : decode cX8_terminalNow 45 = .ok (.iload_n 2, 1) := by decide +kernel
theorem dX8_terminalNow_46 : decode cX8_terminalNow 46 = .ok (.invokevirtual 61, 3) := by decide +kernel
theorem dX8_terminalNow_49 : decode cX8_terminalNow 49 = .ok (.ifCond .eq 7, 3) := by decide +kernel
theorem dX8_terminalNow_52 : decode cX8_terminalNow 52 = .ok (.iconst 1, 1) := by decide +kernel
theorem dX8_terminalNow_53 : decode cX8_terminalNow 53 = .ok (.goto 4, 3) := by decide +kernel
theorem dX8_terminalNow_56 : decode cX8_terminalNow 56 = .ok (.iconst 0, 1) := by decide +kernel
theorem dX8_terminalNow_57 : decode cX8_terminalNow 57 = .ok (.ireturn, 1) := by decide +kernel
theorem dX8_terminalNow_58 : decode cX8_terminalNow 58 = .ok (.aload_n 0, 1) := by decide +kernel
theorem dX8_terminalNow_59 : decode cX8_terminalNow 59 = .ok (.iload_n 1, 1) := by decide +kernel
theorem dX8_terminalNow_60 : decode cX8_terminalNow 60 = .ok (.iload_n 2, 1) := by decide +kernel
theorem dX8_terminalNow_61 : decode cX8_terminalNow 61 = .ok (.invokevirtual 87, 3) := by decide +kernel
theorem dX8_terminalNow_64 : decode cX8_terminalNow 64 = .ok (.ireturn, 1) := by decide +kernel
theorem dX8_terminalNow_65 : decode cX8_terminalNow 65 = .ok (.iload_n 1, 1) := by decide +kernel
theorem dX8_terminalNow_66 : decode cX8_terminalNow 66 = .ok (.ifCond .ne 7, 3) := by decide +kernel
theorem dX8_terminalNow_69 : decode cX8_terminalNow 69 = .ok (.iconst (-1), 1) := by decide +kernel
theorem dX8_terminalNow_70 : decode cX8_terminalNow 70 = .ok (.goto 11, 3) := by decide +kernel
theorem dX8_terminalNow_73 : decode cX8_terminalNow 73 = .ok (.aload_n 0, 1) := by decide +kernel
theorem dX8_terminalNow_74 : decode cX8_terminalNow 74 = .ok (.iload_n 1, 1) := by decide +kernel
theorem dX8_terminalNow_75 : decode cX8_terminalNow 75 = .ok (.iconst 3, 1) := by decide +kernel
theorem dX8_terminalNow_76 : decode cX8_terminalNow 76 = .ok (.iload_n 2, 1) := by decide +kernel
theorem dX8_terminalNow_77 : decode cX8_terminalNow 77 = .ok (.iadd, 1) := by decide +kernel
theorem dX8_terminalNow_78 : decode cX8_terminalNow 78 = .ok (.invokevirtual 33, 3) := by decide +kernel
theorem dX8_terminalNow_81 : decode cX8_terminalNow 81 = .ok (.ireturn, 1) := by decide +kernel
theorem dX8_terminalNow_82 : decode cX8_terminalNow 82 = .ok (.iload_n 1, 1) := by decide +kernel
theorem dX8_terminalNow_83 : decode cX8_terminalNow 83 = .ok (.ifCond .ne 7, 3) := by decide +kernel
theorem dX8_terminalNow_86 : decode cX8_terminalNow 86 = .ok (.iconst (-1), 1) := by decide +kernel
theorem dX8_terminalNow_87 : decode cX8_terminalNow 87 = .ok (.goto 11, 3) := by decide +kernel
theorem dX8_terminalNow_90 : decode cX8_terminalNow 90 = .ok (.aload_n 0, 1) := by decide +kernel
theorem dX8_terminalNow_91 : decode cX8_terminalNow 91 = .ok (.iload_n 1, 1) := by decide +kernel
theorem dX8_terminalNow_92 : decode cX8_terminalNow 92 = .ok (.iconst 5, 1) := by decide +kernel
theorem dX8_terminalNow_93 : decode cX8_terminalNow 93 = .ok (.iload_n 2, 1) := by decide +kernel
theorem dX8_terminalNow_94 : decode cX8_terminalNow 94 = .ok (.iadd, 1) := by decide +kernel
theorem dX8_terminalNow_95 : decode cX8_terminalNow 95 = .ok (.invokevirtual 33, 3) := by decide +kernel
theorem dX8_terminalNow_98 : decode cX8_terminalNow 98 = .ok (.ireturn, 1) := by decide +kernel
theorem dX8_terminalNow_99 : decode cX8_terminalNow 99 = .ok (.aload_n 0, 1) := by decide +kernel
theorem dX8_terminalNow_100 : decode cX8_terminalNow 100 = .ok (.iload_n 1, 1) := by decide +kernel
theorem dX8_terminalNow_101 : decode cX8_terminalNow 101 = .ok (.iload_n 2, 1) := by decide +kernel
theorem dX8_terminalNow_102 : decode cX8_terminalNow 102 = .ok (.invokevirtual 219, 3) := by decide +kernel
theorem dX8_terminalNow_105 : decode cX8_terminalNow 105 = .ok (.ireturn, 1) := by decide +kernel
theorem dX8_terminal_0 : decode cX8_terminal 0 = .ok (.aload_n 0, 1) := by decide +kernel
theorem dX8_terminal_1 : decode cX8_terminal 1 = .ok (.iload_n 1, 1) := by decide +kernel
theorem dX8_terminal_2 : decode cX8_terminal 2 = .ok (.invokevirtual 105, 3) := by decide +kernel
theorem dX8_terminal_5 : decode cX8_terminal 5 = .ok (.ifCond .eq 14, 3) := by decide +kernel
theorem dX8_terminal_8 : decode cX8_terminal 8 = .ok (.iload_n 2, 1) := by decide +kernel
theorem dX8_terminal_9 : decode cX8_terminal 9 = .ok (.invokestatic 135, 3) := by decide +kernel
theorem dX8_terminal_12 : decode cX8_terminal 12 = .ok (.ifCond .eq 7, 3) := by decide +kernel
theorem dX8_terminal_15 : decode cX8_terminal 15 = .ok (.iconst 1, 1) := by decide +kernel
theorem dX8_terminal_16 : decode cX8_terminal 16 = .ok (.goto 4, 3) := by decide +kernel
theorem dX8_terminal_19 : decode cX8_terminal 19 = .ok (.iconst 0, 1) := by decide +kernel
theorem dX8_terminal_20 : decode cX8_terminal 20 = .ok (.istore 4, 2) := by decide +kernel
theorem dX8_terminal_22 : decode cX8_terminal 22 = .ok (.aload_n 0, 1) := by decide +kernel
theorem dX8_terminal_23 : decode cX8_terminal 23 = .ok (.iload 4, 2) := by decide +kernel
theorem dX8_terminal_25 : decode cX8_terminal 25 = .ok (.ifCond .ne 7, 3) := by decide +kernel
theorem dX8_terminal_28 : decode cX8_terminal 28 = .ok (.iconst 1, 1) := by decide +kernel
theorem dX8_terminal_29 : decode cX8_terminal 29 = .ok (.goto 17, 3) := by decide +kernel
theorem dX8_terminal_32 : decode cX8_terminal 32 = .ok (.iload_n 3, 1) := by decide +kernel
theorem dX8_terminal_33 : decode cX8_terminal 33 = .ok (.iconst 0, 1) := by decide +kernel
theorem dX8_terminal_34 : decode cX8_terminal 34 = .ok (.iconst 5, 1) := by decide +kernel
theorem dX8_terminal_35 : decode cX8_terminal 35 = .ok (.invokestatic 29, 3) := by decide +kernel
theorem dX8_terminal_38 : decode cX8_terminal 38 = .ok (.ifCond .eq 7, 3) := by decide +kernel
theorem dX8_terminal_41 : decode cX8_terminal 41 = .ok (.iconst 0, 1) := by decide +kernel
theorem dX8_terminal_42 : decode cX8_terminal 42 = .ok (.goto 4, 3) := by decide +kernel
theorem dX8_terminal_45 : decode cX8_terminal 45 = .ok (.iconst 2, 1) := by decide +kernel
theorem dX8_terminal_46 : decode cX8_terminal 46 = .ok (.putfield 25, 3) := by decide +kernel
theorem dX8_terminal_49 : decode cX8_terminal 49 = .ok (.aload_n 0, 1) := by decide +kernel
theorem dX8_terminal_50 : decode cX8_terminal 50 = .ok (.getfield 25, 3) := by decide +kernel
theorem dX8_terminal_53 : decode cX8_terminal 53 = .ok (.ifCond .le 7, 3) := by decide +kernel
theorem dX8_terminal_56 : decode cX8_terminal 56 = .ok (.iconst 0, 1) := by decide +kernel
theorem dX8_terminal_57 : decode cX8_terminal 57 = .ok (.goto 10, 3) := by decide +kernel
theorem dX8_terminal_60 : decode cX8_terminal 60 = .ok (.aload_n 0, 1) := by decide +kernel
theorem dX8_terminal_61 : decode cX8_terminal 61 = .ok (.iload_n 1, 1) := by decide +kernel
theorem dX8_terminal_62 : decode cX8_terminal 62 = .ok (.iload_n 2, 1) := by decide +kernel
theorem dX8_terminal_63 : decode cX8_terminal 63 = .ok (.iload_n 3, 1) := by decide +kernel
theorem dX8_terminal_64 : decode cX8_terminal 64 = .ok (.invokevirtual 222, 3) := by decide +kernel
theorem dX8_terminal_67 : decode cX8_terminal 67 = .ok (.ireturn, 1) := by decide +kernel
theorem dX8_lanternNow_0 : decode cX8_lanternNow 0 = .ok (.iload_n 2, 1) := by decide +kernel
theorem dX8_lanternNow_1 : decode cX8_lanternNow 1 = .ok (.iconst 3, 1) := by decide +kernel
theorem dX8_lanternNow_2 : decode cX8_lanternNow 2 = .ok (.if_icmp .ne 11, 3) := by decide +kernel
theorem dX8_lanternNow_5 : decode cX8_lanternNow 5 = .ok (.aload_n 0, 1) := by decide +kernel
theorem dX8_lanternNow_6 : decode cX8_lanternNow 6 = .ok (.iload_n 1, 1) := by decide +kernel
theorem dX8_lanternNow_7 : decode cX8_lanternNow 7 = .ok (.invokevirtual 54, 3) := by decide +kernel
theorem dX8_lanternNow_10 : decode cX8_lanternNow 10 = .ok (.goto 9, 3) := by decide +kernel
theorem dX8_lanternNow_13 : decode cX8_lanternNow 13 = .ok (.aload_n 0, 1) := by decide +kernel
theorem dX8_lanternNow_14 : decode cX8_lanternNow 14 = .ok (.iload_n 1, 1) := by decide +kernel
theorem dX8_lanternNow_15 : decode cX8_lanternNow 15 = .ok (.iload_n 2, 1) := by decide +kernel
theorem dX8_lanternNow_16 : decode cX8_lanternNow 16 = .ok (.invokevirtual 48, 3) := by decide +kernel
theorem dX8_lanternNow_19 : decode cX8_lanternNow 19 = .ok (.ireturn, 1) := by decide +kernel
theorem dX8_lantern_0 : decode cX8_lantern 0 = .ok (.aload_n 0, 1) := by decide +kernel
theorem dX8_lantern_1 : decode cX8_lantern 1 = .ok (.aload_n 0, 1) := by decide +kernel
theorem dX8_lantern_2 : decode cX8_lantern 2 = .ok (.iload_n 1, 1) := by decide +kernel
theorem dX8_lantern_3 : decode cX8_lantern 3 = .ok (.invokevirtual 145, 3) := by decide +kernel
theorem dX8_lantern_6 : decode cX8_lantern 6 = .ok (.ifCond .ne 7, 3) := by decide +kernel
theorem dX8_lantern_9 : decode cX8_lantern 9 = .ok (.iconst 1, 1) := by decide +kernel
theorem dX8_lantern_10 : decode cX8_lantern 10 = .ok (.goto 17, 3) := by decide +kernel
theorem dX8_lantern_13 : decode cX8_lantern 13 = .ok (.iload_n 2, 1) := by decide +kernel
theorem dX8_lantern_14 : decode cX8_lantern 14 = .ok (.iconst 0, 1) := by decide +kernel
theorem dX8_lantern_15 : decode cX8_lantern 15 = .ok (.iconst 3, 1) := by decide +kernel
theorem dX8_lantern_16 : decode cX8_lantern 16 = .ok (.invokestatic 29, 3) := by decide +kernel
theorem dX8_lantern_19 : decode cX8_lantern 19 = .ok (.ifCond .eq 7, 3) := by decide +kernel
theorem dX8_lantern_22 : decode cX8_lantern 22 = .ok (.iconst 0, 1) := by decide +kernel
theorem dX8_lantern_23 : decode cX8_lantern 23 = .ok (.goto 4, 3) := by decide +kernel
theorem dX8_lantern_26 : decode cX8_lantern 26 = .ok (.iconst 2, 1) := by decide +kernel
theorem dX8_lantern_27 : decode cX8_lantern 27 = .ok (.putfield 25, 3) := by decide +kernel
theorem dX8_lantern_30 : decode cX8_lantern 30 = .ok (.aload_n 0, 1) := by decide +kernel
theorem dX8_lantern_31 : decode cX8_lantern 31 = .ok (.getfield 25, 3) := by decide +kernel
theorem dX8_lantern_34 : decode cX8_lantern 34 = .ok (.ifCond .le 7, 3) := by decide +kernel
theorem dX8_lantern_37 : decode cX8_lantern 37 = .ok (.iconst 0, 1) := by decide +kernel
theorem dX8_lantern_38 : decode cX8_lantern 38 = .ok (.goto 9, 3) := by decide +kernel
theorem dX8_lantern_41 : decode cX8_lantern 41 = .ok (.aload_n 0, 1) := by decide +kernel
theorem dX8_lantern_42 : decode cX8_lantern 42 = .ok (.iload_n 1, 1) := by decide +kernel
theorem dX8_lantern_43 : decode cX8_lantern 43 = .ok (.iload_n 2, 1) := by decide +kernel
theorem dX8_lantern_44 : decode cX8_lantern 44 = .ok (.invokevirtual 225, 3) := by decide +kernel
theorem dX8_lantern_47 : decode cX8_lantern 47 = .ok (.ireturn, 1) := by decide +kernel
theorem dX8_faultNow_0 : decode cX8_faultNow 0 = .ok (.iload_n 2, 1) := by decide +kernel
theorem dX8_faultNow_1 : decode cX8_faultNow 1 = .ok (.iconst 3, 1) := by decide +kernel
theorem dX8_faultNow_2 : decode cX8_faultNow 2 = .ok (.if_icmp .ge 12, 3) := by decide +kernel
theorem dX8_faultNow_5 : decode cX8_faultNow 5 = .ok (.aload_n 0, 1) := by decide +kernel
theorem dX8_faultNow_6 : decode cX8_faultNow 6 = .ok (.iload_n 1, 1) := by decide +kernel
theorem dX8_faultNow_7 : decode cX8_faultNow 7 = .ok (.iload_n 2, 1) := by decide +kernel
theorem dX8_faultNow_8 : decode cX8_faultNow 8 = .ok (.invokevirtual 58, 3) := by decide +kernel
theorem dX8_faultNow_11 : decode cX8_faultNow 11 = .ok (.goto 21, 3) := by decide +kernel
theorem dX8_faultNow_14 : decode cX8_faultNow 14 = .ok (.iload_n 2, 1) := by decide +kernel
theorem dX8_faultNow_15 : decode cX8_faultNow 15 = .ok (.iconst 3, 1) := by decide +kernel
theorem dX8_faultNow_16 : decode cX8_faultNow 16 = .ok (.if_icmp .ne 11, 3) := by decide +kernel
theorem dX8_faultNow_19 : decode cX8_faultNow 19 = .ok (.aload_n 0, 1) := by decide +kernel
theorem dX8_faultNow_20 : decode cX8_faultNow 20 = .ok (.iload_n 1, 1) := by decide +kernel
theorem dX8_faultNow_21 : decode cX8_faultNow 21 = .ok (.invokevirtual 67, 3) := by decide +kernel
theorem dX8_faultNow_24 : decode cX8_faultNow 24 = .ok (.goto 8, 3) := by decide +kernel
theorem dX8_faultNow_27 : decode cX8_faultNow 27 = .ok (.aload_n 0, 1) := by decide +kernel
theorem dX8_faultNow_28 : decode cX8_faultNow 28 = .ok (.iload_n 1, 1) := by decide +kernel
theorem dX8_faultNow_29 : decode cX8_faultNow 29 = .ok (.invokevirtual 84, 3) := by decide +kernel
theorem dX8_faultNow_32 : decode cX8_faultNow 32 = .ok (.ireturn, 1) := by decide +kernel
theorem dX8_faultAt_0 : decode cX8_faultAt 0 = .ok (.aload_n 0, 1) := by decide +kernel
theorem dX8_faultAt_1 : decode cX8_faultAt 1 = .ok (.aload_n 0, 1) := by decide +kernel
theorem dX8_faultAt_2 : decode cX8_faultAt 2 = .ok (.iload_n 1, 1) := by decide +kernel
theorem dX8_faultAt_3 : decode cX8_faultAt 3 = .ok (.invokevirtual 155, 3) := by decide +kernel
theorem dX8_faultAt_6 : decode cX8_faultAt 6 = .ok (.ifCond .ne 7, 3) := by decide +kernel
theorem dX8_faultAt_9 : decode cX8_faultAt 9 = .ok (.iconst 1, 1) := by decide +kernel
theorem dX8_faultAt_10 : decode cX8_faultAt 10 = .ok (.goto 17, 3) := by decide +kernel
theorem dX8_faultAt_13 : decode cX8_faultAt 13 = .ok (.iload_n 2, 1) := by decide +kernel
theorem dX8_faultAt_14 : decode cX8_faultAt 14 = .ok (.iconst 0, 1) := by decide +kernel
theorem dX8_faultAt_15 : decode cX8_faultAt 15 = .ok (.iconst 4, 1) := by decide +kernel
theorem dX8_faultAt_16 : decode cX8_faultAt 16 = .ok (.invokestatic 29, 3) := by decide +kernel
theorem dX8_faultAt_19 : decode cX8_faultAt 19 = .ok (.ifCond .eq 7, 3) := by decide +kernel
theorem dX8_faultAt_22 : decode cX8_faultAt 22 = .ok (.iconst 0, 1) := by decide +kernel
theorem dX8_faultAt_23 : decode cX8_faultAt 23 = .ok (.goto 4, 3) := by decide +kernel
theorem dX8_faultAt_26 : decode cX8_faultAt 26 = .ok (.iconst 2, 1) := by decide +kernel
theorem dX8_faultAt_27 : decode cX8_faultAt 27 = .ok (.putfield 25, 3) := by decide +kernel
theorem dX8_faultAt_30 : decode cX8_faultAt 30 = .ok (.aload_n 0, 1) := by decide +kernel
theorem dX8_faultAt_31 : decode cX8_faultAt 31 = .ok (.getfield 25, 3) := by decide +kernel
theorem dX8_faultAt_34 : decode cX8_faultAt 34 = .ok (.ifCond .le 7, 3) := by decide +kernel
theorem dX8_faultAt_37 : decode cX8_faultAt 37 = .ok (.iconst 0, 1) := by decide +kernel
theorem dX8_faultAt_38 : decode cX8_faultAt 38 = .ok (.goto 9, 3) := by decide +kernel
theorem dX8_faultAt_41 : decode cX8_faultAt 41 = .ok (.aload_n 0, 1) := by decide +kernel
theorem dX8_faultAt_42 : decode cX8_faultAt 42 = .ok (.iload_n 1, 1) := by decide +kernel
theorem dX8_faultAt_43 : decode cX8_faultAt 43 = .ok (.iload_n 2, 1) := by decide +kernel
theorem dX8_faultAt_44 : decode cX8_faultAt 44 = .ok (.invokevirtual 228, 3) := by decide +kernel
theorem dX8_faultAt_47 : decode cX8_faultAt 47 = .ok (.ireturn, 1) := by decide +kernel
theorem dX8_blownNow_0 : decode cX8_blownNow 0 = .ok (.iconst 0, 1) := by decide +kernel
theorem dX8_blownNow_1 : decode cX8_blownNow 1 = .ok (.istore_n 1, 1) := by decide +kernel
theorem dX8_blownNow_2 : decode cX8_blownNow 2 = .ok (.iconst 2, 1) := by decide +kernel
theorem dX8_blownNow_3 : decode cX8_blownNow 3 = .ok (.istore_n 2, 1) := by decide +kernel
theorem dX8_blownNow_4 : decode cX8_blownNow 4 = .ok (.iload_n 2, 1) := by decide +kernel
theorem dX8_blownNow_5 : decode cX8_blownNow 5 = .ok (.iconst 2, 1) := by decide +kernel
theorem dX8_blownNow_6 : decode cX8_blownNow 6 = .ok (.aload_n 0, 1) := by decide +kernel
theorem dX8_blownNow_7 : decode cX8_blownNow 7 = .ok (.getfield 7, 3) := by decide +kernel
theorem dX8_blownNow_10 : decode cX8_blownNow 10 = .ok (.iconst 0, 1) := by decide +kernel
theorem dX8_blownNow_11 : decode cX8_blownNow 11 = .ok (.iaload, 1) := by decide +kernel
theorem dX8_blownNow_12 : decode cX8_blownNow 12 = .ok (.imul, 1) := by decide +kernel
theorem dX8_blownNow_13 : decode cX8_blownNow 13 = .ok (.if_icmp .ge 24, 3) := by decide +kernel
theorem dX8_blownNow_16 : decode cX8_blownNow 16 = .ok (.iload_n 1, 1) := by decide +kernel
theorem dX8_blownNow_17 : decode cX8_blownNow 17 = .ok (.aload_n 0, 1) := by decide +kernel
theorem dX8_blownNow_18 : decode cX8_blownNow 18 = .ok (.iload_n 2, 1) := by decide +kernel
theorem dX8_blownNow_19 : decode cX8_blownNow 19 = .ok (.iconst 2, 1) := by decide +kernel
theorem dX8_blownNow_20 : decode cX8_blownNow 20 = .ok (.idiv, 1) := by decide +kernel
theorem dX8_blownNow_21 : decode cX8_blownNow 21 = .ok (.iconst 5, 1) := by decide +kernel
theorem dX8_blownNow_22 : decode cX8_blownNow 22 = .ok (.iload_n 2, 1) := by decide +kernel
theorem dX8_blownNow_23 : decode cX8_blownNow 23 = .ok (.iconst 2, 1) := by decide +kernel
theorem dX8_blownNow_24 : decode cX8_blownNow 24 = .ok (.irem, 1) := by decide +kernel
theorem dX8_blownNow_25 : decode cX8_blownNow 25 = .ok (.iadd, 1) := by decide +kernel
theorem dX8_blownNow_26 : decode cX8_blownNow 26 = .ok (.invokevirtual 33, 3) := by decide +kernel
theorem dX8_blownNow_29 : decode cX8_blownNow 29 = .ok (.iadd, 1) := by decide +kernel
theorem dX8_blownNow_30 : decode cX8_blownNow 30 = .ok (.istore_n 1, 1) := by decide +kernel
theorem dX8_blownNow_31 : decode cX8_blownNow 31 = .ok (.iinc 2 1, 3) := by decide +kernel
theorem dX8_blownNow_34 : decode cX8_blownNow 34 = .ok (.goto (-30), 3) := by decide +kernel
theorem dX8_blownNow_37 : decode cX8_blownNow 37 = .ok (.iload_n 1, 1) := by decide +kernel
theorem dX8_blownNow_38 : decode cX8_blownNow 38 = .ok (.ireturn, 1) := by decide +kernel
theorem dX8_counted_0 : decode cX8_counted 0 = .ok (.iload_n 1, 1) := by decide +kernel
theorem dX8_counted_1 : decode cX8_counted 1 = .ok (.tableswitch 143 0 10 #[59, 66, 74, 79, 88, 93, 98, 107, 116, 125, 134], 59) := by decide +kernel
theorem dX8_counted_60 : decode cX8_counted 60 = .ok (.aload_n 0, 1) := by decide +kernel
theorem dX8_counted_61 : decode cX8_counted 61 = .ok (.getfield 7, 3) := by decide +kernel
theorem dX8_counted_64 : decode cX8_counted 64 = .ok (.iconst 0, 1) := by decide +kernel
theorem dX8_counted_65 : decode cX8_counted 65 = .ok (.iaload, 1) := by decide +kernel
theorem dX8_counted_66 : decode cX8_counted 66 = .ok (.ireturn, 1) := by decide +kernel
theorem dX8_counted_67 : decode cX8_counted 67 = .ok (.aload_n 0, 1) := by decide +kernel
theorem dX8_counted_68 : decode cX8_counted 68 = .ok (.getfield 7, 3) := by decide +kernel
theorem dX8_counted_71 : decode cX8_counted 71 = .ok (.bipush 85, 2) := by decide +kernel
theorem dX8_counted_73 : decode cX8_counted 73 = .ok (.iaload, 1) := by decide +kernel
theorem dX8_counted_74 : decode cX8_counted 74 = .ok (.ireturn, 1) := by decide +kernel
theorem dX8_counted_75 : decode cX8_counted 75 = .ok (.aload_n 0, 1) := by decide +kernel
theorem dX8_counted_76 : decode cX8_counted 76 = .ok (.invokevirtual 132, 3) := by decide +kernel
theorem dX8_counted_79 : decode cX8_counted 79 = .ok (.ireturn, 1) := by decide +kernel
theorem dX8_counted_80 : decode cX8_counted 80 = .ok (.aload_n 0, 1) := by decide +kernel
theorem dX8_counted_81 : decode cX8_counted 81 = .ok (.getfield 7, 3) := by decide +kernel
theorem dX8_counted_84 : decode cX8_counted 84 = .ok (.sipush 134, 3) := by decide +kernel
theorem dX8_counted_87 : decode cX8_counted 87 = .ok (.iaload, 1) := by decide +kernel
theorem dX8_counted_88 : decode cX8_counted 88 = .ok (.ireturn, 1) := by decide +kernel
theorem dX8_counted_89 : decode cX8_counted 89 = .ok (.aload_n 0, 1) := by decide +kernel
theorem dX8_counted_90 : decode cX8_counted 90 = .ok (.invokevirtual 73, 3) := by decide +kernel
theorem dX8_counted_93 : decode cX8_counted 93 = .ok (.ireturn, 1) := by decide +kernel
theorem dX8_counted_94 : decode cX8_counted 94 = .ok (.aload_n 0, 1) := by decide +kernel
theorem dX8_counted_95 : decode cX8_counted 95 = .ok (.invokevirtual 231, 3) := by decide +kernel
theorem dX8_counted_98 : decode cX8_counted 98 = .ok (.ireturn, 1) := by decide +kernel
theorem dX8_counted_99 : decode cX8_counted 99 = .ok (.aload_n 0, 1) := by decide +kernel
theorem dX8_counted_100 : decode cX8_counted 100 = .ok (.getfield 7, 3) := by decide +kernel
theorem dX8_counted_103 : decode cX8_counted 103 = .ok (.sipush 162, 3) := by decide +kernel
theorem dX8_counted_106 : decode cX8_counted 106 = .ok (.iaload, 1) := by decide +kernel
theorem dX8_counted_107 : decode cX8_counted 107 = .ok (.ireturn, 1) := by decide +kernel
theorem dX8_counted_108 : decode cX8_counted 108 = .ok (.aload_n 0, 1) := by decide +kernel
theorem dX8_counted_109 : decode cX8_counted 109 = .ok (.getfield 7, 3) := by decide +kernel
theorem dX8_counted_112 : decode cX8_counted 112 = .ok (.sipush 163, 3) := by decide +kernel
theorem dX8_counted_115 : decode cX8_counted 115 = .ok (.iaload, 1) := by decide +kernel
theorem dX8_counted_116 : decode cX8_counted 116 = .ok (.ireturn, 1) := by decide +kernel
theorem dX8_counted_117 : decode cX8_counted 117 = .ok (.aload_n 0, 1) := by decide +kernel
theorem dX8_counted_118 : decode cX8_counted 118 = .ok (.getfield 7, 3) := by decide +kernel
theorem dX8_counted_121 : decode cX8_counted 121 = .ok (.sipush 164, 3) := by decide +kernel
theorem dX8_counted_124 : decode cX8_counted 124 = .ok (.iaload, 1) := by decide +kernel
theorem dX8_counted_125 : decode cX8_counted 125 = .ok (.ireturn, 1) := by decide +kernel
theorem dX8_counted_126 : decode cX8_counted 126 = .ok (.aload_n 0, 1) := by decide +kernel
theorem dX8_counted_127 : decode cX8_counted 127 = .ok (.getfield 7, 3) := by decide +kernel
theorem dX8_counted_130 : decode cX8_counted 130 = .ok (.sipush 165, 3) := by decide +kernel
theorem dX8_counted_133 : decode cX8_counted 133 = .ok (.iaload, 1) := by decide +kernel
theorem dX8_counted_134 : decode cX8_counted 134 = .ok (.ireturn, 1) := by decide +kernel
theorem dX8_counted_135 : decode cX8_counted 135 = .ok (.aload_n 0, 1) := by decide +kernel
theorem dX8_counted_136 : decode cX8_counted 136 = .ok (.getfield 7, 3) := by decide +kernel
theorem dX8_counted_139 : decode cX8_counted 139 = .ok (.sipush 166, 3) := by decide +kernel
theorem dX8_counted_142 : decode cX8_counted 142 = .ok (.iaload, 1) := by decide +kernel
theorem dX8_counted_143 : decode cX8_counted 143 = .ok (.ireturn, 1) := by decide +kernel
theorem dX8_counted_144 : decode cX8_counted 144 = .ok (.aload_n 0, 1) := by decide +kernel
theorem dX8_counted_145 : decode cX8_counted 145 = .ok (.getfield 102, 3) := by decide +kernel
theorem dX8_counted_148 : decode cX8_counted 148 = .ok (.ireturn, 1) := by decide +kernel
theorem dX8_count_0 : decode cX8_count 0 = .ok (.aload_n 0, 1) := by decide +kernel
theorem dX8_count_1 : decode cX8_count 1 = .ok (.iload_n 1, 1) := by decide +kernel
theorem dX8_count_2 : decode cX8_count 2 = .ok (.iconst 0, 1) := by decide +kernel
theorem dX8_count_3 : decode cX8_count 3 = .ok (.bipush 11, 2) := by decide +kernel
theorem dX8_count_5 : decode cX8_count 5 = .ok (.invokestatic 29, 3) := by decide +kernel
theorem dX8_count_8 : decode cX8_count 8 = .ok (.ifCond .eq 7, 3) := by decide +kernel
theorem dX8_count_11 : decode cX8_count 11 = .ok (.iconst 0, 1) := by decide +kernel
theorem dX8_count_12 : decode cX8_count 12 = .ok (.goto 4, 3) := by decide +kernel
theorem dX8_count_15 : decode cX8_count 15 = .ok (.iconst 1, 1) := by decide +kernel
theorem dX8_count_16 : decode cX8_count 16 = .ok (.putfield 25, 3) := by decide +kernel
theorem dX8_count_19 : decode cX8_count 19 = .ok (.aload_n 0, 1) := by decide +kernel
theorem dX8_count_20 : decode cX8_count 20 = .ok (.getfield 25, 3) := by decide +kernel
theorem dX8_count_23 : decode cX8_count 23 = .ok (.ifCond .le 7, 3) := by decide +kernel
theorem dX8_count_26 : decode cX8_count 26 = .ok (.iconst 0, 1) := by decide +kernel
theorem dX8_count_27 : decode cX8_count 27 = .ok (.goto 8, 3) := by decide +kernel
theorem dX8_count_30 : decode cX8_count 30 = .ok (.aload_n 0, 1) := by decide +kernel
theorem dX8_count_31 : decode cX8_count 31 = .ok (.iload_n 1, 1) := by decide +kernel
theorem dX8_count_32 : decode cX8_count 32 = .ok (.invokevirtual 234, 3) := by decide +kernel
theorem dX8_count_35 : decode cX8_count 35 = .ok (.ireturn, 1) := by decide +kernel
theorem dX8_lamp_0 : decode cX8_lamp 0 = .ok (.aload_n 0, 1) := by decide +kernel
theorem dX8_lamp_1 : decode cX8_lamp 1 = .ok (.iload_n 1, 1) := by decide +kernel
theorem dX8_lamp_2 : decode cX8_lamp 2 = .ok (.invokestatic 135, 3) := by decide +kernel
theorem dX8_lamp_5 : decode cX8_lamp 5 = .ok (.ifCond .eq 7, 3) := by decide +kernel
theorem dX8_lamp_8 : decode cX8_lamp 8 = .ok (.iconst 0, 1) := by decide +kernel
theorem dX8_lamp_9 : decode cX8_lamp 9 = .ok (.goto 4, 3) := by decide +kernel
theorem dX8_lamp_12 : decode cX8_lamp 12 = .ok (.iconst 1, 1) := by decide +kernel
theorem dX8_lamp_13 : decode cX8_lamp 13 = .ok (.putfield 25, 3) := by decide +kernel
theorem dX8_lamp_16 : decode cX8_lamp 16 = .ok (.aload_n 0, 1) := by decide +kernel
theorem dX8_lamp_17 : decode cX8_lamp 17 = .ok (.getfield 25, 3) := by decide +kernel
theorem dX8_lamp_20 : decode cX8_lamp 20 = .ok (.ifCond .le 7, 3) := by decide +kernel
theorem dX8_lamp_23 : decode cX8_lamp 23 = .ok (.iconst 0, 1) := by decide +kernel
theorem dX8_lamp_24 : decode cX8_lamp 24 = .ok (.goto 8, 3) := by decide +kernel
theorem dX8_lamp_27 : decode cX8_lamp 27 = .ok (.aload_n 0, 1) := by decide +kernel
theorem dX8_lamp_28 : decode cX8_lamp 28 = .ok (.iload_n 1, 1) := by decide +kernel
theorem dX8_lamp_29 : decode cX8_lamp 29 = .ok (.invokevirtual 70, 3) := by decide +kernel
theorem dX8_lamp_32 : decode cX8_lamp 32 = .ok (.ireturn, 1) := by decide +kernel
theorem dX8_located_0 : decode cX8_located 0 = .ok (.aload_n 0, 1) := by decide +kernel
theorem dX8_located_1 : decode cX8_located 1 = .ok (.iload_n 1, 1) := by decide +kernel
theorem dX8_located_2 : decode cX8_located 2 = .ok (.invokevirtual 70, 3) := by decide +kernel
theorem dX8_located_5 : decode cX8_located 5 = .ok (.istore_n 2, 1) := by decide +kernel
theorem dX8_located_6 : decode cX8_located 6 = .ok (.iconst 0, 1) := by decide +kernel
theorem dX8_located_7 : decode cX8_located 7 = .ok (.istore_n 3, 1) := by decide +kernel
theorem dX8_located_8 : decode cX8_located 8 = .ok (.iconst 1, 1) := by decide +kernel
theorem dX8_located_9 : decode cX8_located 9 = .ok (.istore 4, 2) := by decide +kernel
theorem dX8_located_11 : decode cX8_located 11 = .ok (.iload 4, 2) := by decide +kernel
theorem dX8_located_13 : decode cX8_located 13 = .ok (.aload_n 0, 1) := by decide +kernel
theorem dX8_located_14 : decode cX8_located 14 = .ok (.getfield 7, 3) := by decide +kernel
theorem dX8_located_17 : decode cX8_located 17 = .ok (.iconst 0, 1) := by decide +kernel
theorem dX8_located_18 : decode cX8_located 18 = .ok (.iaload, 1) := by decide +kernel
theorem dX8_located_19 : decode cX8_located 19 = .ok (.if_icmp .ge 70, 3) := by decide +kernel
theorem dX8_located_22 : decode cX8_located 22 = .ok (.aload_n 0, 1) := by decide +kernel
theorem dX8_located_23 : decode cX8_located 23 = .ok (.iload 4, 2) := by decide +kernel
theorem dX8_located_25 : decode cX8_located 25 = .ok (.iconst 2, 1) := by decide +kernel
theorem dX8_located_26 : decode cX8_located 26 = .ok (.invokevirtual 33, 3) := by decide +kernel
theorem dX8_located_29 : decode cX8_located 29 = .ok (.iconst 1, 1) := by decide +kernel
theorem dX8_located_30 : decode cX8_located 30 = .ok (.if_icmp .ne 53, 3) := by decide +kernel
theorem dX8_located_33 : decode cX8_located 33 = .ok (.aload_n 0, 1) := by decide +kernel
theorem dX8_located_34 : decode cX8_located 34 = .ok (.getfield 7, 3) := by decide +kernel
theorem dX8_located_37 : decode cX8_located 37 = .ok (.iconst 1, 1) := by decide +kernel
theorem dX8_located_38 : decode cX8_located 38 = .ok (.bipush 7, 2) := by decide +kernel
theorem dX8_located_40 : decode cX8_located 40 = .ok (.iload 4, 2) := by decide +kernel
theorem dX8_located_42 : decode cX8_located 42 = .ok (.imul, 1) := by decide +kernel
theorem dX8_located_43 : decode cX8_located 43 = .ok (.iadd, 1) := by decide +kernel
theorem dX8_located_44 : decode cX8_located 44 = .ok (.iconst 2, 1) := by decide +kernel
theorem dX8_located_45 : decode cX8_located 45 = .ok (.iadd, 1) := by decide +kernel
theorem dX8_located_46 : decode cX8_located 46 = .ok (.iconst 0, 1) := by decide +kernel
theorem dX8_located_47 : decode cX8_located 47 = .ok (.iastore, 1) := by decide +kernel
theorem dX8_located_48 : decode cX8_located 48 = .ok (.iload_n 3, 1) := by decide +kernel
theorem dX8_located_49 : decode cX8_located 49 = .ok (.aload_n 0, 1) := by decide +kernel
theorem dX8_located_50 : decode cX8_located 50 = .ok (.iload_n 1, 1) := by decide +kernel
theorem dX8_located_51 : decode cX8_located 51 = .ok (.invokevirtual 70, 3) := by decide +kernel
theorem dX8_located_54 : decode cX8_located 54 = .ok (.iload_n 2, 1) := by decide +kernel
theorem dX8_located_55 : decode cX8_located 55 = .ok (.if_icmp .eq 10, 3) := by decide +kernel
theorem dX8_located_58 : decode cX8_located 58 = .ok (.iconst 1, 1) := by decide +kernel
theorem dX8_located_59 : decode cX8_located 59 = .ok (.iload 4, 2) := by decide +kernel
theorem dX8_located_61 : decode cX8_located 61 = .ok (.ishl, 1) := by decide +kernel
theorem dX8_located_62 : decode cX8_located 62 = .ok (.goto 4, 3) := by decide +kernel
theorem dX8_located_65 : decode cX8_located 65 = .ok (.iconst 0, 1) := by decide +kernel
theorem dX8_located_66 : decode cX8_located 66 = .ok (.ior, 1) := by decide +kernel
theorem dX8_located_67 : decode cX8_located 67 = .ok (.istore_n 3, 1) := by decide +kernel
theorem dX8_located_68 : decode cX8_located 68 = .ok (.aload_n 0, 1) := by decide +kernel
theorem dX8_located_69 : decode cX8_located 69 = .ok (.getfield 7, 3) := by decide +kernel
theorem dX8_located_72 : decode cX8_located 72 = .ok (.iconst 1, 1) := by decide +kernel
theorem dX8_located_73 : decode cX8_located 73 = .ok (.bipush 7, 2) := by decide +kernel
theorem dX8_located_75 : decode cX8_located 75 = .ok (.iload 4, 2) := by decide +kernel
theorem dX8_located_77 : decode cX8_located 77 = .ok (.imul, 1) := by decide +kernel
theorem dX8_located_78 : decode cX8_located 78 = .ok (.iadd, 1) := by decide +kernel
theorem dX8_located_79 : decode cX8_located 79 = .ok (.iconst 2, 1) := by decide +kernel
theorem dX8_located_80 : decode cX8_located 80 = .ok (.iadd, 1) := by decide +kernel
theorem dX8_located_81 : decode cX8_located 81 = .ok (.iconst 1, 1) := by decide +kernel
theorem dX8_located_82 : decode cX8_located 82 = .ok (.iastore, 1) := by decide +kernel
theorem dX8_located_83 : decode cX8_located 83 = .ok (.iinc 4 1, 3) := by decide +kernel
theorem dX8_located_86 : decode cX8_located 86 = .ok (.goto (-75), 3) := by decide +kernel
theorem dX8_located_89 : decode cX8_located 89 = .ok (.iload_n 3, 1) := by decide +kernel
theorem dX8_located_90 : decode cX8_located 90 = .ok (.ireturn, 1) := by decide +kernel
theorem dX8_locate_0 : decode cX8_locate 0 = .ok (.aload_n 0, 1) := by decide +kernel
theorem dX8_locate_1 : decode cX8_locate 1 = .ok (.iload_n 1, 1) := by decide +kernel
theorem dX8_locate_2 : decode cX8_locate 2 = .ok (.invokestatic 135, 3) := by decide +kernel
theorem dX8_locate_5 : decode cX8_locate 5 = .ok (.ifCond .eq 7, 3) := by decide +kernel
theorem dX8_locate_8 : decode cX8_locate 8 = .ok (.iconst 0, 1) := by decide +kernel
theorem dX8_locate_9 : decode cX8_locate 9 = .ok (.goto 4, 3) := by decide +kernel
theorem dX8_locate_12 : decode cX8_locate 12 = .ok (.iconst 1, 1) := by decide +kernel
theorem dX8_locate_13 : decode cX8_locate 13 = .ok (.putfield 25, 3) := by decide +kernel
theorem dX8_locate_16 : decode cX8_locate 16 = .ok (.aload_n 0, 1) := by decide +kernel
theorem dX8_locate_17 : decode cX8_locate 17 = .ok (.getfield 25, 3) := by decide +kernel
theorem dX8_locate_20 : decode cX8_locate 20 = .ok (.ifCond .le 7, 3) := by decide +kernel
theorem dX8_locate_23 : decode cX8_locate 23 = .ok (.iconst 0, 1) := by decide +kernel
theorem dX8_locate_24 : decode cX8_locate 24 = .ok (.goto 8, 3) := by decide +kernel
theorem dX8_locate_27 : decode cX8_locate 27 = .ok (.aload_n 0, 1) := by decide +kernel
theorem dX8_locate_28 : decode cX8_locate 28 = .ok (.iload_n 1, 1) := by decide +kernel
theorem dX8_locate_29 : decode cX8_locate 29 = .ok (.invokevirtual 237, 3) := by decide +kernel
theorem dX8_locate_32 : decode cX8_locate 32 = .ok (.ireturn, 1) := by decide +kernel
theorem dX8_faultAnswer_0 : decode cX8_faultAnswer 0 = .ok (.iload_n 1, 1) := by decide +kernel
theorem dX8_faultAnswer_1 : decode cX8_faultAnswer 1 = .ok (.tableswitch 42 0 2 #[27, 32, 37], 27) := by decide +kernel
theorem dX8_faultAnswer_28 : decode cX8_faultAnswer 28 = .ok (.aload_n 0, 1) := by decide +kernel
theorem dX8_faultAnswer_29 : decode cX8_faultAnswer 29 = .ok (.getfield 93, 3) := by decide +kernel
theorem dX8_faultAnswer_32 : decode cX8_faultAnswer 32 = .ok (.ireturn, 1) := by decide +kernel
theorem dX8_faultAnswer_33 : decode cX8_faultAnswer 33 = .ok (.aload_n 0, 1) := by decide +kernel
theorem dX8_faultAnswer_34 : decode cX8_faultAnswer 34 = .ok (.invokevirtual 132, 3) := by decide +kernel
theorem dX8_faultAnswer_37 : decode cX8_faultAnswer 37 = .ok (.ireturn, 1) := by decide +kernel
theorem dX8_faultAnswer_38 : decode cX8_faultAnswer 38 = .ok (.aload_n 0, 1) := by decide +kernel
theorem dX8_faultAnswer_39 : decode cX8_faultAnswer 39 = .ok (.invokevirtual 73, 3) := by decide +kernel
theorem dX8_faultAnswer_42 : decode cX8_faultAnswer 42 = .ok (.ireturn, 1) := by decide +kernel
theorem dX8_faultAnswer_43 : decode cX8_faultAnswer 43 = .ok (.aload_n 0, 1) := by decide +kernel
theorem dX8_faultAnswer_44 : decode cX8_faultAnswer 44 = .ok (.getfield 96, 3) := by decide +kernel
theorem dX8_faultAnswer_47 : decode cX8_faultAnswer 47 = .ok (.iconst (-1), 1) := by decide +kernel
theorem dX8_faultAnswer_48 : decode cX8_faultAnswer 48 = .ok (.if_icmp .ne 7, 3) := by decide +kernel
theorem dX8_faultAnswer_51 : decode cX8_faultAnswer 51 = .ok (.iconst (-1), 1) := by decide +kernel
theorem dX8_faultAnswer_52 : decode cX8_faultAnswer 52 = .ok (.goto 22, 3) := by decide +kernel
theorem dX8_faultAnswer_55 : decode cX8_faultAnswer 55 = .ok (.bipush 100, 2) := by decide +kernel
theorem dX8_faultAnswer_57 : decode cX8_faultAnswer 57 = .ok (.aload_n 0, 1) := by decide +kernel
theorem dX8_faultAnswer_58 : decode cX8_faultAnswer 58 = .ok (.getfield 96, 3) := by decide +kernel
theorem dX8_faultAnswer_61 : decode cX8_faultAnswer 61 = .ok (.iconst 2, 1) := by decide +kernel
theorem dX8_faultAnswer_62 : decode cX8_faultAnswer 62 = .ok (.idiv, 1) := by decide +kernel
theorem dX8_faultAnswer_63 : decode cX8_faultAnswer 63 = .ok (.imul, 1) := by decide +kernel
theorem dX8_faultAnswer_64 : decode cX8_faultAnswer 64 = .ok (.bipush 10, 2) := by decide +kernel
theorem dX8_faultAnswer_66 : decode cX8_faultAnswer 66 = .ok (.aload_n 0, 1) := by decide +kernel
theorem dX8_faultAnswer_67 : decode cX8_faultAnswer 67 = .ok (.getfield 96, 3) := by decide +kernel
theorem dX8_faultAnswer_70 : decode cX8_faultAnswer 70 = .ok (.iconst 2, 1) := by decide +kernel
theorem dX8_faultAnswer_71 : decode cX8_faultAnswer 71 = .ok (.irem, 1) := by decide +kernel
theorem dX8_faultAnswer_72 : decode cX8_faultAnswer 72 = .ok (.imul, 1) := by decide +kernel
theorem dX8_faultAnswer_73 : decode cX8_faultAnswer 73 = .ok (.iadd, 1) := by decide +kernel
theorem dX8_faultAnswer_74 : decode cX8_faultAnswer 74 = .ok (.ireturn, 1) := by decide +kernel
theorem dX8_ifFault_0 : decode cX8_ifFault 0 = .ok (.aload_n 0, 1) := by decide +kernel
theorem dX8_ifFault_1 : decode cX8_ifFault 1 = .ok (.iload_n 1, 1) := by decide +kernel
theorem dX8_ifFault_2 : decode cX8_ifFault 2 = .ok (.invokevirtual 105, 3) := by decide +kernel
theorem dX8_ifFault_5 : decode cX8_ifFault 5 = .ok (.ifCond .eq 14, 3) := by decide +kernel
theorem dX8_ifFault_8 : decode cX8_ifFault 8 = .ok (.iload_n 2, 1) := by decide +kernel
theorem dX8_ifFault_9 : decode cX8_ifFault 9 = .ok (.invokestatic 135, 3) := by decide +kernel
theorem dX8_ifFault_12 : decode cX8_ifFault 12 = .ok (.ifCond .eq 7, 3) := by decide +kernel
theorem dX8_ifFault_15 : decode cX8_ifFault 15 = .ok (.iconst 1, 1) := by decide +kernel
theorem dX8_ifFault_16 : decode cX8_ifFault 16 = .ok (.goto 4, 3) := by decide +kernel
theorem dX8_ifFault_19 : decode cX8_ifFault 19 = .ok (.iconst 0, 1) := by decide +kernel
theorem dX8_ifFault_20 : decode cX8_ifFault 20 = .ok (.istore 5, 2) := by decide +kernel
theorem dX8_ifFault_22 : decode cX8_ifFault 22 = .ok (.aload_n 0, 1) := by decide +kernel
theorem dX8_ifFault_23 : decode cX8_ifFault 23 = .ok (.iload 5, 2) := by decide +kernel
theorem dX8_ifFault_25 : decode cX8_ifFault 25 = .ok (.ifCond .ne 7, 3) := by decide +kernel
theorem dX8_ifFault_28 : decode cX8_ifFault 28 = .ok (.iconst 1, 1) := by decide +kernel
theorem dX8_ifFault_29 : decode cX8_ifFault 29 = .ok (.goto 28, 3) := by decide +kernel
theorem dX8_ifFault_32 : decode cX8_ifFault 32 = .ok (.iload_n 3, 1) := by decide +kernel
theorem dX8_ifFault_33 : decode cX8_ifFault 33 = .ok (.iconst 1, 1) := by decide +kernel
theorem dX8_ifFault_34 : decode cX8_ifFault 34 = .ok (.bipush 30, 2) := by decide +kernel
theorem dX8_ifFault_36 : decode cX8_ifFault 36 = .ok (.invokestatic 29, 3) := by decide +kernel
theorem dX8_ifFault_39 : decode cX8_ifFault 39 = .ok (.ifCond .eq 17, 3) := by decide +kernel
theorem dX8_ifFault_42 : decode cX8_ifFault 42 = .ok (.iload 4, 2) := by decide +kernel
theorem dX8_ifFault_44 : decode cX8_ifFault 44 = .ok (.iconst 0, 1) := by decide +kernel
theorem dX8_ifFault_45 : decode cX8_ifFault 45 = .ok (.iconst 3, 1) := by decide +kernel
theorem dX8_ifFault_46 : decode cX8_ifFault 46 = .ok (.invokestatic 29, 3) := by decide +kernel
theorem dX8_ifFault_49 : decode cX8_ifFault 49 = .ok (.ifCond .eq 7, 3) := by decide +kernel
theorem dX8_ifFault_52 : decode cX8_ifFault 52 = .ok (.iconst 0, 1) := by decide +kernel
theorem dX8_ifFault_53 : decode cX8_ifFault 53 = .ok (.goto 4, 3) := by decide +kernel
theorem dX8_ifFault_56 : decode cX8_ifFault 56 = .ok (.iconst 2, 1) := by decide +kernel
theorem dX8_ifFault_57 : decode cX8_ifFault 57 = .ok (.putfield 25, 3) := by decide +kernel
theorem dX8_ifFault_60 : decode cX8_ifFault 60 = .ok (.aload_n 0, 1) := by decide +kernel
theorem dX8_ifFault_61 : decode cX8_ifFault 61 = .ok (.getfield 25, 3) := by decide +kernel
theorem dX8_ifFault_64 : decode cX8_ifFault 64 = .ok (.ifCond .le 5, 3) := by decide +kernel
theorem dX8_ifFault_67 : decode cX8_ifFault 67 = .ok (.iconst 0, 1) := by decide +kernel
theorem dX8_ifFault_68 : decode cX8_ifFault 68 = .ok (.ireturn, 1) := by decide +kernel
theorem dX8_ifFault_69 : decode cX8_ifFault 69 = .ok (.aload_n 0, 1) := by decide +kernel
theorem dX8_ifFault_70 : decode cX8_ifFault 70 = .ok (.invokevirtual 240, 3) := by decide +kernel
theorem dX8_ifFault_73 : decode cX8_ifFault 73 = .ok (.aload_n 0, 1) := by decide +kernel
theorem dX8_ifFault_74 : decode cX8_ifFault 74 = .ok (.iload_n 1, 1) := by decide +kernel
theorem dX8_ifFault_75 : decode cX8_ifFault 75 = .ok (.iload_n 2, 1) := by decide +kernel
theorem dX8_ifFault_76 : decode cX8_ifFault 76 = .ok (.iload_n 3, 1) := by decide +kernel
theorem dX8_ifFault_77 : decode cX8_ifFault 77 = .ok (.invokevirtual 151, 3) := by decide +kernel
theorem dX8_ifFault_80 : decode cX8_ifFault 80 = .ok (.aload_n 0, 1) := by decide +kernel
theorem dX8_ifFault_81 : decode cX8_ifFault 81 = .ok (.iload 4, 2) := by decide +kernel
theorem dX8_ifFault_83 : decode cX8_ifFault 83 = .ok (.invokevirtual 243, 3) := by decide +kernel
theorem dX8_ifFault_86 : decode cX8_ifFault 86 = .ok (.istore 6, 2) := by decide +kernel
theorem dX8_ifFault_88 : decode cX8_ifFault 88 = .ok (.aload_n 0, 1) := by decide +kernel
theorem dX8_ifFault_89 : decode cX8_ifFault 89 = .ok (.invokevirtual 246, 3) := by decide +kernel
theorem dX8_ifFault_92 : decode cX8_ifFault 92 = .ok (.iload 6, 2) := by decide +kernel
theorem dX8_ifFault_94 : decode cX8_ifFault 94 = .ok (.ireturn, 1) := by decide +kernel
theorem dX8_toggledAnswer_0 : decode cX8_toggledAnswer 0 = .ok (.aload_n 0, 1) := by decide +kernel
theorem dX8_toggledAnswer_1 : decode cX8_toggledAnswer 1 = .ok (.invokevirtual 240, 3) := by decide +kernel
theorem dX8_toggledAnswer_4 : decode cX8_toggledAnswer 4 = .ok (.aload_n 0, 1) := by decide +kernel
theorem dX8_toggledAnswer_5 : decode cX8_toggledAnswer 5 = .ok (.iload_n 1, 1) := by decide +kernel
theorem dX8_toggledAnswer_6 : decode cX8_toggledAnswer 6 = .ok (.iconst 2, 1) := by decide +kernel
theorem dX8_toggledAnswer_7 : decode cX8_toggledAnswer 7 = .ok (.invokevirtual 128, 3) := by decide +kernel
theorem dX8_toggledAnswer_10 : decode cX8_toggledAnswer 10 = .ok (.aload_n 0, 1) := by decide +kernel
theorem dX8_toggledAnswer_11 : decode cX8_toggledAnswer 11 = .ok (.invokevirtual 132, 3) := by decide +kernel
theorem dX8_toggledAnswer_14 : decode cX8_toggledAnswer 14 = .ok (.istore_n 2, 1) := by decide +kernel
theorem dX8_toggledAnswer_15 : decode cX8_toggledAnswer 15 = .ok (.aload_n 0, 1) := by decide +kernel
theorem dX8_toggledAnswer_16 : decode cX8_toggledAnswer 16 = .ok (.invokevirtual 246, 3) := by decide +kernel
theorem dX8_toggledAnswer_19 : decode cX8_toggledAnswer 19 = .ok (.iload_n 2, 1) := by decide +kernel
theorem dX8_toggledAnswer_20 : decode cX8_toggledAnswer 20 = .ok (.ireturn, 1) := by decide +kernel
theorem dX8_ifToggled_0 : decode cX8_ifToggled 0 = .ok (.aload_n 0, 1) := by decide +kernel
theorem dX8_ifToggled_1 : decode cX8_ifToggled 1 = .ok (.aload_n 0, 1) := by decide +kernel
theorem dX8_ifToggled_2 : decode cX8_ifToggled 2 = .ok (.iload_n 1, 1) := by decide +kernel
theorem dX8_ifToggled_3 : decode cX8_ifToggled 3 = .ok (.invokevirtual 125, 3) := by decide +kernel
theorem dX8_ifToggled_6 : decode cX8_ifToggled 6 = .ok (.ifCond .eq 7, 3) := by decide +kernel
theorem dX8_ifToggled_9 : decode cX8_ifToggled 9 = .ok (.iconst 0, 1) := by decide +kernel
theorem dX8_ifToggled_10 : decode cX8_ifToggled 10 = .ok (.goto 4, 3) := by decide +kernel
theorem dX8_ifToggled_13 : decode cX8_ifToggled 13 = .ok (.iconst 1, 1) := by decide +kernel
theorem dX8_ifToggled_14 : decode cX8_ifToggled 14 = .ok (.putfield 25, 3) := by decide +kernel
theorem dX8_ifToggled_17 : decode cX8_ifToggled 17 = .ok (.aload_n 0, 1) := by decide +kernel
theorem dX8_ifToggled_18 : decode cX8_ifToggled 18 = .ok (.getfield 25, 3) := by decide +kernel
theorem dX8_ifToggled_21 : decode cX8_ifToggled 21 = .ok (.ifCond .le 7, 3) := by decide +kernel
theorem dX8_ifToggled_24 : decode cX8_ifToggled 24 = .ok (.iconst 0, 1) := by decide +kernel
theorem dX8_ifToggled_25 : decode cX8_ifToggled 25 = .ok (.goto 8, 3) := by decide +kernel
theorem dX8_ifToggled_28 : decode cX8_ifToggled 28 = .ok (.aload_n 0, 1) := by decide +kernel
theorem dX8_ifToggled_29 : decode cX8_ifToggled 29 = .ok (.iload_n 1, 1) := by decide +kernel
theorem dX8_ifToggled_30 : decode cX8_ifToggled 30 = .ok (.invokevirtual 249, 3) := by decide +kernel
theorem dX8_ifToggled_33 : decode cX8_ifToggled 33 = .ok (.ireturn, 1) := by decide +kernel
theorem dX8_ratingAnswer_0 : decode cX8_ratingAnswer 0 = .ok (.aload_n 0, 1) := by decide +kernel
theorem dX8_ratingAnswer_1 : decode cX8_ratingAnswer 1 = .ok (.invokevirtual 240, 3) := by decide +kernel
theorem dX8_ratingAnswer_4 : decode cX8_ratingAnswer 4 = .ok (.iconst 2, 1) := by decide +kernel
theorem dX8_ratingAnswer_5 : decode cX8_ratingAnswer 5 = .ok (.istore_n 3, 1) := by decide +kernel
theorem dX8_ratingAnswer_6 : decode cX8_ratingAnswer 6 = .ok (.iload_n 3, 1) := by decide +kernel
theorem dX8_ratingAnswer_7 : decode cX8_ratingAnswer 7 = .ok (.iconst 2, 1) := by decide +kernel
theorem dX8_ratingAnswer_8 : decode cX8_ratingAnswer 8 = .ok (.aload_n 0, 1) := by decide +kernel
theorem dX8_ratingAnswer_9 : decode cX8_ratingAnswer 9 = .ok (.getfield 7, 3) := by decide +kernel
theorem dX8_ratingAnswer_12 : decode cX8_ratingAnswer 12 = .ok (.iconst 0, 1) := by decide +kernel
theorem dX8_ratingAnswer_13 : decode cX8_ratingAnswer 13 = .ok (.iaload, 1) := by decide +kernel
theorem dX8_ratingAnswer_14 : decode cX8_ratingAnswer 14 = .ok (.imul, 1) := by decide +kernel
theorem dX8_ratingAnswer_15 : decode cX8_ratingAnswer 15 = .ok (.if_icmp .ge 29, 3) := by decide +kernel
theorem dX8_ratingAnswer_18 : decode cX8_ratingAnswer 18 = .ok (.aload_n 0, 1) := by decide +kernel
theorem dX8_ratingAnswer_19 : decode cX8_ratingAnswer 19 = .ok (.getfield 7, 3) := by decide +kernel
theorem dX8_ratingAnswer_22 : decode cX8_ratingAnswer 22 = .ok (.iconst 1, 1) := by decide +kernel
theorem dX8_ratingAnswer_23 : decode cX8_ratingAnswer 23 = .ok (.bipush 7, 2) := by decide +kernel
theorem dX8_ratingAnswer_25 : decode cX8_ratingAnswer 25 = .ok (.iload_n 3, 1) := by decide +kernel
theorem dX8_ratingAnswer_26 : decode cX8_ratingAnswer 26 = .ok (.iconst 2, 1) := by decide +kernel
theorem dX8_ratingAnswer_27 : decode cX8_ratingAnswer 27 = .ok (.idiv, 1) := by decide +kernel
theorem dX8_ratingAnswer_28 : decode cX8_ratingAnswer 28 = .ok (.imul, 1) := by decide +kernel
theorem dX8_ratingAnswer_29 : decode cX8_ratingAnswer 29 = .ok (.iadd, 1) := by decide +kernel
theorem dX8_ratingAnswer_30 : decode cX8_ratingAnswer 30 = .ok (.iconst 5, 1) := by decide +kernel
theorem dX8_ratingAnswer_31 : decode cX8_ratingAnswer 31 = .ok (.iadd, 1) := by decide +kernel
theorem dX8_ratingAnswer_32 : decode cX8_ratingAnswer 32 = .ok (.iload_n 3, 1) := by decide +kernel
theorem dX8_ratingAnswer_33 : decode cX8_ratingAnswer 33 = .ok (.iconst 2, 1) := by decide +kernel
theorem dX8_ratingAnswer_34 : decode cX8_ratingAnswer 34 = .ok (.irem, 1) := by decide +kernel
theorem dX8_ratingAnswer_35 : decode cX8_ratingAnswer 35 = .ok (.iadd, 1) := by decide +kernel
theorem dX8_ratingAnswer_36 : decode cX8_ratingAnswer 36 = .ok (.iconst 0, 1) := by decide +kernel
theorem dX8_ratingAnswer_37 : decode cX8_ratingAnswer 37 = .ok (.iastore, 1) := by decide +kernel
theorem dX8_ratingAnswer_38 : decode cX8_ratingAnswer 38 = .ok (.iinc 3 1, 3) := by decide +kernel
theorem dX8_ratingAnswer_41 : decode cX8_ratingAnswer 41 = .ok (.goto (-35), 3) := by decide +kernel
theorem dX8_ratingAnswer_44 : decode cX8_ratingAnswer 44 = .ok (.aload_n 0, 1) := by decide +kernel
theorem dX8_ratingAnswer_45 : decode cX8_ratingAnswer 45 = .ok (.iload_n 1, 1) := by decide +kernel
theorem dX8_ratingAnswer_46 : decode cX8_ratingAnswer 46 = .ok (.iload_n 2, 1) := by decide +kernel
theorem dX8_ratingAnswer_47 : decode cX8_ratingAnswer 47 = .ok (.invokevirtual 87, 3) := by decide +kernel
theorem dX8_ratingAnswer_50 : decode cX8_ratingAnswer 50 = .ok (.istore_n 3, 1) := by decide +kernel
theorem dX8_ratingAnswer_51 : decode cX8_ratingAnswer 51 = .ok (.aload_n 0, 1) := by decide +kernel
theorem dX8_ratingAnswer_52 : decode cX8_ratingAnswer 52 = .ok (.invokevirtual 246, 3) := by decide +kernel
theorem dX8_ratingAnswer_55 : decode cX8_ratingAnswer 55 = .ok (.iload_n 3, 1) := by decide +kernel
theorem dX8_ratingAnswer_56 : decode cX8_ratingAnswer 56 = .ok (.ireturn, 1) := by decide +kernel
theorem dX8_neededRating_0 : decode cX8_neededRating 0 = .ok (.aload_n 0, 1) := by decide +kernel
theorem dX8_neededRating_1 : decode cX8_neededRating 1 = .ok (.aload_n 0, 1) := by decide +kernel
theorem dX8_neededRating_2 : decode cX8_neededRating 2 = .ok (.iload_n 1, 1) := by decide +kernel
theorem dX8_neededRating_3 : decode cX8_neededRating 3 = .ok (.invokevirtual 125, 3) := by decide +kernel
theorem dX8_neededRating_6 : decode cX8_neededRating 6 = .ok (.ifCond .eq 14, 3) := by decide +kernel
theorem dX8_neededRating_9 : decode cX8_neededRating 9 = .ok (.iload_n 2, 1) := by decide +kernel
theorem dX8_neededRating_10 : decode cX8_neededRating 10 = .ok (.invokestatic 135, 3) := by decide +kernel
theorem dX8_neededRating_13 : decode cX8_neededRating 13 = .ok (.ifCond .eq 7, 3) := by decide +kernel
theorem dX8_neededRating_16 : decode cX8_neededRating 16 = .ok (.iconst 0, 1) := by decide +kernel
theorem dX8_neededRating_17 : decode cX8_neededRating 17 = .ok (.goto 4, 3) := by decide +kernel
theorem dX8_neededRating_20 : decode cX8_neededRating 20 = .ok (.iconst 1, 1) := by decide +kernel
theorem dX8_neededRating_21 : decode cX8_neededRating 21 = .ok (.putfield 25, 3) := by decide +kernel
theorem dX8_neededRating_24 : decode cX8_neededRating 24 = .ok (.aload_n 0, 1) := by decide +kernel
theorem dX8_neededRating_25 : decode cX8_neededRating 25 = .ok (.getfield 25, 3) := by decide +kernel
theorem dX8_neededRating_28 : decode cX8_neededRating 28 = .ok (.ifCond .le 7, 3) := by decide +kernel
theorem dX8_neededRating_31 : decode cX8_neededRating 31 = .ok (.iconst 0, 1) := by decide +kernel
theorem dX8_neededRating_32 : decode cX8_neededRating 32 = .ok (.goto 9, 3) := by decide +kernel
theorem dX8_neededRating_35 : decode cX8_neededRating 35 = .ok (.aload_n 0, 1) := by decide +kernel
theorem dX8_neededRating_36 : decode cX8_neededRating 36 = .ok (.iload_n 1, 1) := by decide +kernel
theorem dX8_neededRating_37 : decode cX8_neededRating 37 = .ok (.iload_n 2, 1) := by decide +kernel
theorem dX8_neededRating_38 : decode cX8_neededRating 38 = .ok (.invokevirtual 252, 3) := by decide +kernel
theorem dX8_neededRating_41 : decode cX8_neededRating 41 = .ok (.ireturn, 1) := by decide +kernel
theorem dX8_shareNow_0 : decode cX8_shareNow 0 = .ok (.aload_n 0, 1) := by decide +kernel
theorem dX8_shareNow_1 : decode cX8_shareNow 1 = .ok (.getfield 7, 3) := by decide +kernel
theorem dX8_shareNow_4 : decode cX8_shareNow 4 = .ok (.sipush 165, 3) := by decide +kernel
theorem dX8_shareNow_7 : decode cX8_shareNow 7 = .ok (.iaload, 1) := by decide +kernel
theorem dX8_shareNow_8 : decode cX8_shareNow 8 = .ok (.aload_n 0, 1) := by decide +kernel
theorem dX8_shareNow_9 : decode cX8_shareNow 9 = .ok (.getfield 7, 3) := by decide +kernel
theorem dX8_shareNow_12 : decode cX8_shareNow 12 = .ok (.sipush 166, 3) := by decide +kernel
theorem dX8_shareNow_15 : decode cX8_shareNow 15 = .ok (.iaload, 1) := by decide +kernel
theorem dX8_shareNow_16 : decode cX8_shareNow 16 = .ok (.iadd, 1) := by decide +kernel
theorem dX8_shareNow_17 : decode cX8_shareNow 17 = .ok (.istore_n 1, 1) := by decide +kernel
theorem dX8_shareNow_18 : decode cX8_shareNow 18 = .ok (.iload_n 1, 1) := by decide +kernel
theorem dX8_shareNow_19 : decode cX8_shareNow 19 = .ok (.ifCond .ne 7, 3) := by decide +kernel
theorem dX8_shareNow_22 : decode cX8_shareNow 22 = .ok (.dconst 0, 1) := by decide +kernel
theorem dX8_shareNow_23 : decode cX8_shareNow 23 = .ok (.goto 17, 3) := by decide +kernel
theorem dX8_shareNow_26 : decode cX8_shareNow 26 = .ok (.dconst 1, 1) := by decide +kernel
theorem dX8_shareNow_27 : decode cX8_shareNow 27 = .ok (.aload_n 0, 1) := by decide +kernel
theorem dX8_shareNow_28 : decode cX8_shareNow 28 = .ok (.getfield 7, 3) := by decide +kernel
theorem dX8_shareNow_31 : decode cX8_shareNow 31 = .ok (.sipush 166, 3) := by decide +kernel
theorem dX8_shareNow_34 : decode cX8_shareNow 34 = .ok (.iaload, 1) := by decide +kernel
theorem dX8_shareNow_35 : decode cX8_shareNow 35 = .ok (.i2d, 1) := by decide +kernel
theorem dX8_shareNow_36 : decode cX8_shareNow 36 = .ok (.dmul, 1) := by decide +kernel
theorem dX8_shareNow_37 : decode cX8_shareNow 37 = .ok (.iload_n 1, 1) := by decide +kernel
theorem dX8_shareNow_38 : decode cX8_shareNow 38 = .ok (.i2d, 1) := by decide +kernel
theorem dX8_shareNow_39 : decode cX8_shareNow 39 = .ok (.ddiv, 1) := by decide +kernel
theorem dX8_shareNow_40 : decode cX8_shareNow 40 = .ok (.dreturn, 1) := by decide +kernel
theorem dX8_lossShare_0 : decode cX8_lossShare 0 = .ok (.aload_n 0, 1) := by decide +kernel
theorem dX8_lossShare_1 : decode cX8_lossShare 1 = .ok (.iconst 0, 1) := by decide +kernel
theorem dX8_lossShare_2 : decode cX8_lossShare 2 = .ok (.putfield 25, 3) := by decide +kernel
theorem dX8_lossShare_5 : decode cX8_lossShare 5 = .ok (.aload_n 0, 1) := by decide +kernel
theorem dX8_lossShare_6 : decode cX8_lossShare 6 = .ok (.invokevirtual 255, 3) := by decide +kernel
theorem dX8_lossShare_9 : decode cX8_lossShare 9 = .ok (.dreturn, 1) := by decide +kernel
theorem dX8_mix_0 : decode cX8_mix 0 = .ok (.aload_n 0, 1) := by decide +kernel
theorem dX8_mix_1 : decode cX8_mix 1 = .ok (.ldc2_w 259, 3) := by decide +kernel
theorem dX8_mix_4 : decode cX8_mix 4 = .ok (.aload_n 0, 1) := by decide +kernel
theorem dX8_mix_5 : decode cX8_mix 5 = .ok (.getfield 261, 3) := by decide +kernel
theorem dX8_mix_8 : decode cX8_mix 8 = .ok (.lmul, 1) := by decide +kernel
theorem dX8_mix_9 : decode cX8_mix 9 = .ok (.lload_n 1, 1) := by decide +kernel
theorem dX8_mix_10 : decode cX8_mix 10 = .ok (.ladd, 1) := by decide +kernel
theorem dX8_mix_11 : decode cX8_mix 11 = .ok (.putfield 261, 3) := by decide +kernel
theorem dX8_mix_14 : decode cX8_mix 14 = .ok (.return_, 1) := by decide +kernel
theorem dX8_mixBox_0 : decode cX8_mixBox 0 = .ok (.iconst 0, 1) := by decide +kernel
theorem dX8_mixBox_1 : decode cX8_mixBox 1 = .ok (.istore_n 2, 1) := by decide +kernel
theorem dX8_mixBox_2 : decode cX8_mixBox 2 = .ok (.iload_n 2, 1) := by decide +kernel
theorem dX8_mixBox_3 : decode cX8_mixBox 3 = .ok (.bipush 7, 2) := by decide +kernel
theorem dX8_mixBox_5 : decode cX8_mixBox 5 = .ok (.if_icmp .ge 20, 3) := by decide +kernel
theorem dX8_mixBox_8 : decode cX8_mixBox 8 = .ok (.aload_n 0, 1) := by decide +kernel
theorem dX8_mixBox_9 : decode cX8_mixBox 9 = .ok (.aload_n 0, 1) := by decide +kernel
theorem dX8_mixBox_10 : decode cX8_mixBox 10 = .ok (.iload_n 1, 1) := by decide +kernel
theorem dX8_mixBox_11 : decode cX8_mixBox 11 = .ok (.iload_n 2, 1) := by decide +kernel
theorem dX8_mixBox_12 : decode cX8_mixBox 12 = .ok (.invokevirtual 216, 3) := by decide +kernel
theorem dX8_mixBox_15 : decode cX8_mixBox 15 = .ok (.i2l, 1) := by decide +kernel
theorem dX8_mixBox_16 : decode cX8_mixBox 16 = .ok (.invokevirtual 265, 3) := by decide +kernel
theorem dX8_mixBox_19 : decode cX8_mixBox 19 = .ok (.iinc 2 1, 3) := by decide +kernel
theorem dX8_mixBox_22 : decode cX8_mixBox 22 = .ok (.goto (-20), 3) := by decide +kernel
theorem dX8_mixBox_25 : decode cX8_mixBox 25 = .ok (.iconst 0, 1) := by decide +kernel
theorem dX8_mixBox_26 : decode cX8_mixBox 26 = .ok (.istore_n 2, 1) := by decide +kernel
theorem dX8_mixBox_27 : decode cX8_mixBox 27 = .ok (.iload_n 2, 1) := by decide +kernel
theorem dX8_mixBox_28 : decode cX8_mixBox 28 = .ok (.bipush 12, 2) := by decide +kernel
theorem dX8_mixBox_30 : decode cX8_mixBox 30 = .ok (.if_icmp .ge 27, 3) := by decide +kernel
theorem dX8_mixBox_33 : decode cX8_mixBox 33 = .ok (.aload_n 0, 1) := by decide +kernel
theorem dX8_mixBox_34 : decode cX8_mixBox 34 = .ok (.aload_n 0, 1) := by decide +kernel
theorem dX8_mixBox_35 : decode cX8_mixBox 35 = .ok (.iload_n 1, 1) := by decide +kernel
theorem dX8_mixBox_36 : decode cX8_mixBox 36 = .ok (.iload_n 2, 1) := by decide +kernel
theorem dX8_mixBox_37 : decode cX8_mixBox 37 = .ok (.bipush 6, 2) := by decide +kernel
theorem dX8_mixBox_39 : decode cX8_mixBox 39 = .ok (.idiv, 1) := by decide +kernel
theorem dX8_mixBox_40 : decode cX8_mixBox 40 = .ok (.iload_n 2, 1) := by decide +kernel
theorem dX8_mixBox_41 : decode cX8_mixBox 41 = .ok (.bipush 6, 2) := by decide +kernel
theorem dX8_mixBox_43 : decode cX8_mixBox 43 = .ok (.irem, 1) := by decide +kernel
theorem dX8_mixBox_44 : decode cX8_mixBox 44 = .ok (.invokevirtual 222, 3) := by decide +kernel
theorem dX8_mixBox_47 : decode cX8_mixBox 47 = .ok (.i2l, 1) := by decide +kernel
theorem dX8_mixBox_48 : decode cX8_mixBox 48 = .ok (.invokevirtual 265, 3) := by decide +kernel
theorem dX8_mixBox_51 : decode cX8_mixBox 51 = .ok (.iinc 2 1, 3) := by decide +kernel
theorem dX8_mixBox_54 : decode cX8_mixBox 54 = .ok (.goto (-27), 3) := by decide +kernel
theorem dX8_mixBox_57 : decode cX8_mixBox 57 = .ok (.return_, 1) := by decide +kernel
theorem dX8_digest_0 : decode cX8_digest 0 = .ok (.aload_n 0, 1) := by decide +kernel
theorem dX8_digest_1 : decode cX8_digest 1 = .ok (.iconst 0, 1) := by decide +kernel
theorem dX8_digest_2 : decode cX8_digest 2 = .ok (.putfield 25, 3) := by decide +kernel
theorem dX8_digest_5 : decode cX8_digest 5 = .ok (.aload_n 0, 1) := by decide +kernel
theorem dX8_digest_6 : decode cX8_digest 6 = .ok (.ldc2_w 269, 3) := by decide +kernel
theorem dX8_digest_9 : decode cX8_digest 9 = .ok (.putfield 261, 3) := by decide +kernel
theorem dX8_digest_12 : decode cX8_digest 12 = .ok (.iconst 0, 1) := by decide +kernel
theorem dX8_digest_13 : decode cX8_digest 13 = .ok (.istore_n 1, 1) := by decide +kernel
theorem dX8_digest_14 : decode cX8_digest 14 = .ok (.iload_n 1, 1) := by decide +kernel
theorem dX8_digest_15 : decode cX8_digest 15 = .ok (.bipush 12, 2) := by decide +kernel
theorem dX8_digest_17 : decode cX8_digest 17 = .ok (.if_icmp .ge 19, 3) := by decide +kernel
theorem dX8_digest_20 : decode cX8_digest 20 = .ok (.aload_n 0, 1) := by decide +kernel
theorem dX8_digest_21 : decode cX8_digest 21 = .ok (.aload_n 0, 1) := by decide +kernel
theorem dX8_digest_22 : decode cX8_digest 22 = .ok (.iload_n 1, 1) := by decide +kernel
theorem dX8_digest_23 : decode cX8_digest 23 = .ok (.invokevirtual 234, 3) := by decide +kernel
theorem dX8_digest_26 : decode cX8_digest 26 = .ok (.i2l, 1) := by decide +kernel
theorem dX8_digest_27 : decode cX8_digest 27 = .ok (.invokevirtual 265, 3) := by decide +kernel
theorem dX8_digest_30 : decode cX8_digest 30 = .ok (.iinc 1 1, 3) := by decide +kernel
theorem dX8_digest_33 : decode cX8_digest 33 = .ok (.goto (-19), 3) := by decide +kernel
theorem dX8_digest_36 : decode cX8_digest 36 = .ok (.iconst 0, 1) := by decide +kernel
theorem dX8_digest_37 : decode cX8_digest 37 = .ok (.istore_n 1, 1) := by decide +kernel
theorem dX8_digest_38 : decode cX8_digest 38 = .ok (.iload_n 1, 1) := by decide +kernel
theorem dX8_digest_39 : decode cX8_digest 39 = .ok (.aload_n 0, 1) := by decide +kernel
theorem dX8_digest_40 : decode cX8_digest 40 = .ok (.getfield 7, 3) := by decide +kernel
theorem dX8_digest_43 : decode cX8_digest 43 = .ok (.iconst 0, 1) := by decide +kernel
theorem dX8_digest_44 : decode cX8_digest 44 = .ok (.iaload, 1) := by decide +kernel
theorem dX8_digest_45 : decode cX8_digest 45 = .ok (.if_icmp .ge 14, 3) := by decide +kernel
theorem dX8_digest_48 : decode cX8_digest 48 = .ok (.aload_n 0, 1) := by decide +kernel
theorem dX8_digest_49 : decode cX8_digest 49 = .ok (.iload_n 1, 1) := by decide +kernel
theorem dX8_digest_50 : decode cX8_digest 50 = .ok (.invokevirtual 271, 3) := by decide +kernel
theorem dX8_digest_53 : decode cX8_digest 53 = .ok (.iinc 1 1, 3) := by decide +kernel
theorem dX8_digest_56 : decode cX8_digest 56 = .ok (.goto (-18), 3) := by decide +kernel
theorem dX8_digest_59 : decode cX8_digest 59 = .ok (.iconst 0, 1) := by decide +kernel
theorem dX8_digest_60 : decode cX8_digest 60 = .ok (.istore_n 1, 1) := by decide +kernel
theorem dX8_digest_61 : decode cX8_digest 61 = .ok (.iload_n 1, 1) := by decide +kernel
theorem dX8_digest_62 : decode cX8_digest 62 = .ok (.iconst 4, 1) := by decide +kernel
theorem dX8_digest_63 : decode cX8_digest 63 = .ok (.aload_n 0, 1) := by decide +kernel
theorem dX8_digest_64 : decode cX8_digest 64 = .ok (.getfield 7, 3) := by decide +kernel
theorem dX8_digest_67 : decode cX8_digest 67 = .ok (.bipush 85, 2) := by decide +kernel
theorem dX8_digest_69 : decode cX8_digest 69 = .ok (.iaload, 1) := by decide +kernel
theorem dX8_digest_70 : decode cX8_digest 70 = .ok (.imul, 1) := by decide +kernel
theorem dX8_digest_71 : decode cX8_digest 71 = .ok (.if_icmp .ge 24, 3) := by decide +kernel
theorem dX8_digest_74 : decode cX8_digest 74 = .ok (.aload_n 0, 1) := by decide +kernel
theorem dX8_digest_75 : decode cX8_digest 75 = .ok (.aload_n 0, 1) := by decide +kernel
theorem dX8_digest_76 : decode cX8_digest 76 = .ok (.iload_n 1, 1) := by decide +kernel
theorem dX8_digest_77 : decode cX8_digest 77 = .ok (.iconst 4, 1) := by decide +kernel
theorem dX8_digest_78 : decode cX8_digest 78 = .ok (.idiv, 1) := by decide +kernel
theorem dX8_digest_79 : decode cX8_digest 79 = .ok (.iload_n 1, 1) := by decide +kernel
theorem dX8_digest_80 : decode cX8_digest 80 = .ok (.iconst 4, 1) := by decide +kernel
theorem dX8_digest_81 : decode cX8_digest 81 = .ok (.irem, 1) := by decide +kernel
theorem dX8_digest_82 : decode cX8_digest 82 = .ok (.invokevirtual 225, 3) := by decide +kernel
theorem dX8_digest_85 : decode cX8_digest 85 = .ok (.i2l, 1) := by decide +kernel
theorem dX8_digest_86 : decode cX8_digest 86 = .ok (.invokevirtual 265, 3) := by decide +kernel
theorem dX8_digest_89 : decode cX8_digest 89 = .ok (.iinc 1 1, 3) := by decide +kernel
theorem dX8_digest_92 : decode cX8_digest 92 = .ok (.goto (-31), 3) := by decide +kernel
theorem dX8_digest_95 : decode cX8_digest 95 = .ok (.iconst 0, 1) := by decide +kernel
theorem dX8_digest_96 : decode cX8_digest 96 = .ok (.istore_n 1, 1) := by decide +kernel
theorem dX8_digest_97 : decode cX8_digest 97 = .ok (.iload_n 1, 1) := by decide +kernel
theorem dX8_digest_98 : decode cX8_digest 98 = .ok (.iconst 5, 1) := by decide +kernel
theorem dX8_digest_99 : decode cX8_digest 99 = .ok (.aload_n 0, 1) := by decide +kernel
theorem dX8_digest_100 : decode cX8_digest 100 = .ok (.getfield 7, 3) := by decide +kernel
theorem dX8_digest_103 : decode cX8_digest 103 = .ok (.sipush 134, 3) := by decide +kernel
theorem dX8_digest_106 : decode cX8_digest 106 = .ok (.iaload, 1) := by decide +kernel
theorem dX8_digest_107 : decode cX8_digest 107 = .ok (.imul, 1) := by decide +kernel
theorem dX8_digest_108 : decode cX8_digest 108 = .ok (.if_icmp .ge 24, 3) := by decide +kernel
theorem dX8_digest_111 : decode cX8_digest 111 = .ok (.aload_n 0, 1) := by decide +kernel
theorem dX8_digest_112 : decode cX8_digest 112 = .ok (.aload_n 0, 1) := by decide +kernel
theorem dX8_digest_113 : decode cX8_digest 113 = .ok (.iload_n 1, 1) := by decide +kernel
theorem dX8_digest_114 : decode cX8_digest 114 = .ok (.iconst 5, 1) := by decide +kernel
theorem dX8_digest_115 : decode cX8_digest 115 = .ok (.idiv, 1) := by decide +kernel
theorem dX8_digest_116 : decode cX8_digest 116 = .ok (.iload_n 1, 1) := by decide +kernel
theorem dX8_digest_117 : decode cX8_digest 117 = .ok (.iconst 5, 1) := by decide +kernel
theorem dX8_digest_118 : decode cX8_digest 118 = .ok (.irem, 1) := by decide +kernel
theorem dX8_digest_119 : decode cX8_digest 119 = .ok (.invokevirtual 228, 3) := by decide +kernel
theorem dX8_digest_122 : decode cX8_digest 122 = .ok (.i2l, 1) := by decide +kernel
theorem dX8_digest_123 : decode cX8_digest 123 = .ok (.invokevirtual 265, 3) := by decide +kernel
theorem dX8_digest_126 : decode cX8_digest 126 = .ok (.iinc 1 1, 3) := by decide +kernel
theorem dX8_digest_129 : decode cX8_digest 129 = .ok (.goto (-32), 3) := by decide +kernel
theorem dX8_digest_132 : decode cX8_digest 132 = .ok (.iconst 0, 1) := by decide +kernel
theorem dX8_digest_133 : decode cX8_digest 133 = .ok (.istore_n 1, 1) := by decide +kernel
theorem dX8_digest_134 : decode cX8_digest 134 = .ok (.iload_n 1, 1) := by decide +kernel
theorem dX8_digest_135 : decode cX8_digest 135 = .ok (.iconst 2, 1) := by decide +kernel
theorem dX8_digest_136 : decode cX8_digest 136 = .ok (.if_icmp .ge 29, 3) := by decide +kernel
theorem dX8_digest_139 : decode cX8_digest 139 = .ok (.aload_n 0, 1) := by decide +kernel
theorem dX8_digest_140 : decode cX8_digest 140 = .ok (.aload_n 0, 1) := by decide +kernel
theorem dX8_digest_141 : decode cX8_digest 141 = .ok (.iload_n 1, 1) := by decide +kernel
theorem dX8_digest_142 : decode cX8_digest 142 = .ok (.invokevirtual 70, 3) := by decide +kernel
theorem dX8_digest_145 : decode cX8_digest 145 = .ok (.i2l, 1) := by decide +kernel
theorem dX8_digest_146 : decode cX8_digest 146 = .ok (.invokevirtual 265, 3) := by decide +kernel
theorem dX8_digest_149 : decode cX8_digest 149 = .ok (.aload_n 0, 1) := by decide +kernel
theorem dX8_digest_150 : decode cX8_digest 150 = .ok (.aload_n 0, 1) := by decide +kernel
theorem dX8_digest_151 : decode cX8_digest 151 = .ok (.iload_n 1, 1) := by decide +kernel
theorem dX8_digest_152 : decode cX8_digest 152 = .ok (.invokevirtual 237, 3) := by decide +kernel
theorem dX8_digest_155 : decode cX8_digest 155 = .ok (.i2l, 1) := by decide +kernel
theorem dX8_digest_156 : decode cX8_digest 156 = .ok (.invokevirtual 265, 3) := by decide +kernel
theorem dX8_digest_159 : decode cX8_digest 159 = .ok (.iinc 1 1, 3) := by decide +kernel
theorem dX8_digest_162 : decode cX8_digest 162 = .ok (.goto (-28), 3) := by decide +kernel
theorem dX8_digest_165 : decode cX8_digest 165 = .ok (.iconst 1, 1) := by decide +kernel
theorem dX8_digest_166 : decode cX8_digest 166 = .ok (.istore_n 1, 1) := by decide +kernel
theorem dX8_digest_167 : decode cX8_digest 167 = .ok (.iload_n 1, 1) := by decide +kernel
theorem dX8_digest_168 : decode cX8_digest 168 = .ok (.aload_n 0, 1) := by decide +kernel
theorem dX8_digest_169 : decode cX8_digest 169 = .ok (.getfield 7, 3) := by decide +kernel
theorem dX8_digest_172 : decode cX8_digest 172 = .ok (.iconst 0, 1) := by decide +kernel
theorem dX8_digest_173 : decode cX8_digest 173 = .ok (.iaload, 1) := by decide +kernel
theorem dX8_digest_174 : decode cX8_digest 174 = .ok (.if_icmp .ge 41, 3) := by decide +kernel
theorem dX8_digest_177 : decode cX8_digest 177 = .ok (.aload_n 0, 1) := by decide +kernel
theorem dX8_digest_178 : decode cX8_digest 178 = .ok (.aload_n 0, 1) := by decide +kernel
theorem dX8_digest_179 : decode cX8_digest 179 = .ok (.iload_n 1, 1) := by decide +kernel
theorem dX8_digest_180 : decode cX8_digest 180 = .ok (.invokevirtual 249, 3) := by decide +kernel
theorem dX8_digest_183 : decode cX8_digest 183 = .ok (.i2l, 1) := by decide +kernel
theorem dX8_digest_184 : decode cX8_digest 184 = .ok (.invokevirtual 265, 3) := by decide +kernel
theorem dX8_digest_187 : decode cX8_digest 187 = .ok (.aload_n 0, 1) := by decide +kernel
theorem dX8_digest_188 : decode cX8_digest 188 = .ok (.aload_n 0, 1) := by decide +kernel
theorem dX8_digest_189 : decode cX8_digest 189 = .ok (.iload_n 1, 1) := by decide +kernel
theorem dX8_digest_190 : decode cX8_digest 190 = .ok (.iconst 0, 1) := by decide +kernel
theorem dX8_digest_191 : decode cX8_digest 191 = .ok (.invokevirtual 252, 3) := by decide +kernel
theorem dX8_digest_194 : decode cX8_digest 194 = .ok (.i2l, 1) := by decide +kernel
theorem dX8_digest_195 : decode cX8_digest 195 = .ok (.invokevirtual 265, 3) := by decide +kernel
theorem dX8_digest_198 : decode cX8_digest 198 = .ok (.aload_n 0, 1) := by decide +kernel
theorem dX8_digest_199 : decode cX8_digest 199 = .ok (.aload_n 0, 1) := by decide +kernel
theorem dX8_digest_200 : decode cX8_digest 200 = .ok (.iload_n 1, 1) := by decide +kernel
theorem dX8_digest_201 : decode cX8_digest 201 = .ok (.iconst 1, 1) := by decide +kernel
theorem dX8_digest_202 : decode cX8_digest 202 = .ok (.invokevirtual 252, 3) := by decide +kernel
theorem dX8_digest_205 : decode cX8_digest 205 = .ok (.i2l, 1) := by decide +kernel
theorem dX8_digest_206 : decode cX8_digest 206 = .ok (.invokevirtual 265, 3) := by decide +kernel
theorem dX8_digest_209 : decode cX8_digest 209 = .ok (.iinc 1 1, 3) := by decide +kernel
theorem dX8_digest_212 : decode cX8_digest 212 = .ok (.goto (-45), 3) := by decide +kernel
theorem dX8_digest_215 : decode cX8_digest 215 = .ok (.aload_n 0, 1) := by decide +kernel
theorem dX8_digest_216 : decode cX8_digest 216 = .ok (.aload_n 0, 1) := by decide +kernel
theorem dX8_digest_217 : decode cX8_digest 217 = .ok (.invokevirtual 255, 3) := by decide +kernel
theorem dX8_digest_220 : decode cX8_digest 220 = .ok (.invokestatic 274, 3) := by decide +kernel
theorem dX8_digest_223 : decode cX8_digest 223 = .ok (.invokevirtual 265, 3) := by decide +kernel
theorem dX8_digest_226 : decode cX8_digest 226 = .ok (.aload_n 0, 1) := by decide +kernel
theorem dX8_digest_227 : decode cX8_digest 227 = .ok (.aload_n 0, 1) := by decide +kernel
theorem dX8_digest_228 : decode cX8_digest 228 = .ok (.getfield 162, 3) := by decide +kernel
theorem dX8_digest_231 : decode cX8_digest 231 = .ok (.i2l, 1) := by decide +kernel
theorem dX8_digest_232 : decode cX8_digest 232 = .ok (.invokevirtual 265, 3) := by decide +kernel
theorem dX8_digest_235 : decode cX8_digest 235 = .ok (.iconst 0, 1) := by decide +kernel
theorem dX8_digest_236 : decode cX8_digest 236 = .ok (.istore_n 1, 1) := by decide +kernel
theorem dX8_digest_237 : decode cX8_digest 237 = .ok (.iload_n 1, 1) := by decide +kernel
theorem dX8_digest_238 : decode cX8_digest 238 = .ok (.aload_n 0, 1) := by decide +kernel
theorem dX8_digest_239 : decode cX8_digest 239 = .ok (.getfield 162, 3) := by decide +kernel
theorem dX8_digest_242 : decode cX8_digest 242 = .ok (.if_icmp .ge 20, 3) := by decide +kernel
theorem dX8_digest_245 : decode cX8_digest 245 = .ok (.aload_n 0, 1) := by decide +kernel
theorem dX8_digest_246 : decode cX8_digest 246 = .ok (.aload_n 0, 1) := by decide +kernel
theorem dX8_digest_247 : decode cX8_digest 247 = .ok (.getfield 16, 3) := by decide +kernel
theorem dX8_digest_250 : decode cX8_digest 250 = .ok (.iload_n 1, 1) := by decide +kernel
theorem dX8_digest_251 : decode cX8_digest 251 = .ok (.iaload, 1) := by decide +kernel
theorem dX8_digest_252 : decode cX8_digest 252 = .ok (.i2l, 1) := by decide +kernel
theorem dX8_digest_253 : decode cX8_digest 253 = .ok (.invokevirtual 265, 3) := by decide +kernel
theorem dX8_digest_256 : decode cX8_digest 256 = .ok (.iinc 1 1, 3) := by decide +kernel
theorem dX8_digest_259 : decode cX8_digest 259 = .ok (.goto (-22), 3) := by decide +kernel
theorem dX8_digest_262 : decode cX8_digest 262 = .ok (.aload_n 0, 1) := by decide +kernel
theorem dX8_digest_263 : decode cX8_digest 263 = .ok (.getfield 261, 3) := by decide +kernel
theorem dX8_digest_266 : decode cX8_digest 266 = .ok (.lreturn, 1) := by decide +kernel
