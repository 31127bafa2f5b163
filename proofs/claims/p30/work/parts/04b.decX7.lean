theorem dX7_init_0 : decode cX7_init 0 = .ok (.aload_n 0, 1) := by decide +kernel
theorem dX7_init_1 : decode cX7_init 1 = .ok (.invokespecial 3, 3) := by decide +kernel
theorem dX7_init_4 : decode cX7_init 4 = .ok (.aload_n 0, 1) := by decide +kernel
theorem dX7_init_5 : decode cX7_init 5 = .ok (.new 9, 3) := by decide +kernel
theorem dX7_init_8 : decode cX7_init 8 = .ok (.dup, 1) := by decide +kernel
theorem dX7_init_9 : decode cX7_init 9 = .ok (.invokespecial 11, 3) := by decide +kernel
theorem dX7_init_12 : decode cX7_init 12 = .ok (.putfield 12, 3) := by decide +kernel
theorem dX7_init_15 : decode cX7_init 15 = .ok (.aload_n 0, 1) := by decide +kernel
theorem dX7_init_16 : decode cX7_init 16 = .ok (.new 16, 3) := by decide +kernel
theorem dX7_init_19 : decode cX7_init 19 = .ok (.dup, 1) := by decide +kernel
theorem dX7_init_20 : decode cX7_init 20 = .ok (.invokespecial 18, 3) := by decide +kernel
theorem dX7_init_23 : decode cX7_init 23 = .ok (.putfield 19, 3) := by decide +kernel
theorem dX7_init_26 : decode cX7_init 26 = .ok (.aload_n 0, 1) := by decide +kernel
theorem dX7_init_27 : decode cX7_init 27 = .ok (.new 9, 3) := by decide +kernel
theorem dX7_init_30 : decode cX7_init 30 = .ok (.dup, 1) := by decide +kernel
theorem dX7_init_31 : decode cX7_init 31 = .ok (.invokespecial 11, 3) := by decide +kernel
theorem dX7_init_34 : decode cX7_init 34 = .ok (.putfield 23, 3) := by decide +kernel
theorem dX7_init_37 : decode cX7_init 37 = .ok (.aload_n 0, 1) := by decide +kernel
theorem dX7_init_38 : decode cX7_init 38 = .ok (.new 16, 3) := by decide +kernel
theorem dX7_init_41 : decode cX7_init 41 = .ok (.dup, 1) := by decide +kernel
theorem dX7_init_42 : decode cX7_init 42 = .ok (.invokespecial 18, 3) := by decide +kernel
theorem dX7_init_45 : decode cX7_init 45 = .ok (.putfield 26, 3) := by decide +kernel
theorem dX7_init_48 : decode cX7_init 48 = .ok (.aload_n 0, 1) := by decide +kernel
theorem dX7_init_49 : decode cX7_init 49 = .ok (.new 16, 3) := by decide +kernel
theorem dX7_init_52 : decode cX7_init 52 = .ok (.dup, 1) := by decide +kernel
theorem dX7_init_53 : decode cX7_init 53 = .ok (.invokespecial 18, 3) := by decide +kernel
theorem dX7_init_56 : decode cX7_init 56 = .ok (.putfield 29, 3) := by decide +kernel
theorem dX7_init_59 : decode cX7_init 59 = .ok (.aload_n 0, 1) := by decide +kernel
theorem dX7_init_60 : decode cX7_init 60 = .ok (.new 32, 3) := by decide +kernel
theorem dX7_init_63 : decode cX7_init 63 = .ok (.dup, 1) := by decide +kernel
theorem dX7_init_64 : decode cX7_init 64 = .ok (.invokespecial 34, 3) := by decide +kernel
theorem dX7_init_67 : decode cX7_init 67 = .ok (.putfield 35, 3) := by decide +kernel
theorem dX7_init_70 : decode cX7_init 70 = .ok (.aload_n 0, 1) := by decide +kernel
theorem dX7_init_71 : decode cX7_init 71 = .ok (.new 39, 3) := by decide +kernel
theorem dX7_init_74 : decode cX7_init 74 = .ok (.dup, 1) := by decide +kernel
theorem dX7_init_75 : decode cX7_init 75 = .ok (.invokespecial 41, 3) := by decide +kernel
theorem dX7_init_78 : decode cX7_init 78 = .ok (.putfield 42, 3) := by decide +kernel
theorem dX7_init_81 : decode cX7_init 81 = .ok (.aload_n 0, 1) := by decide +kernel
theorem dX7_init_82 : decode cX7_init 82 = .ok (.bipush 60, 2) := by decide +kernel
theorem dX7_init_84 : decode cX7_init 84 = .ok (.newarray .int, 2) := by decide +kernel
theorem dX7_init_86 : decode cX7_init 86 = .ok (.putfield 46, 3) := by decide +kernel
theorem dX7_init_89 : decode cX7_init 89 = .ok (.aload_n 0, 1) := by decide +kernel
theorem dX7_init_90 : decode cX7_init 90 = .ok (.iconst 0, 1) := by decide +kernel
theorem dX7_init_91 : decode cX7_init 91 = .ok (.putfield 50, 3) := by decide +kernel
theorem dX7_init_94 : decode cX7_init 94 = .ok (.return_, 1) := by decide +kernel
theorem dX7_addBox_0 : decode cX7_addBox 0 = .ok (.aload_n 0, 1) := by decide +kernel
theorem dX7_addBox_1 : decode cX7_addBox 1 = .ok (.iload_n 1, 1) := by decide +kernel
theorem dX7_addBox_2 : decode cX7_addBox 2 = .ok (.invokevirtual 54, 3) := by decide +kernel
theorem dX7_addBox_5 : decode cX7_addBox 5 = .ok (.ifCond .ne 13, 3) := by decide +kernel
theorem dX7_addBox_8 : decode cX7_addBox 8 = .ok (.new 58, 3) := by decide +kernel
theorem dX7_addBox_11 : decode cX7_addBox 11 = .ok (.dup, 1) := by decide +kernel
theorem dX7_addBox_12 : decode cX7_addBox 12 = .ok (.ldc 60, 2) := by decide +kernel
theorem dX7_addBox_14 : decode cX7_addBox 14 = .ok (.invokespecial 62, 3) := by decide +kernel
theorem dX7_addBox_17 : decode cX7_addBox 17 = .ok (.athrow, 1) := by decide +kernel
theorem dX7_addBox_18 : decode cX7_addBox 18 = .ok (.iload_n 2, 1) := by decide +kernel
theorem dX7_addBox_19 : decode cX7_addBox 19 = .ok (.invokestatic 65, 3) := by decide +kernel
theorem dX7_addBox_22 : decode cX7_addBox 22 = .ok (.ifCond .eq 10, 3) := by decide +kernel
theorem dX7_addBox_25 : decode cX7_addBox 25 = .ok (.iload_n 3, 1) := by decide +kernel
theorem dX7_addBox_26 : decode cX7_addBox 26 = .ok (.invokestatic 65, 3) := by decide +kernel
theorem dX7_addBox_29 : decode cX7_addBox 29 = .ok (.ifCond .ne 13, 3) := by decide +kernel
theorem dX7_addBox_32 : decode cX7_addBox 32 = .ok (.new 68, 3) := by decide +kernel
theorem dX7_addBox_35 : decode cX7_addBox 35 = .ok (.dup, 1) := by decide +kernel
theorem dX7_addBox_36 : decode cX7_addBox 36 = .ok (.ldc 70, 2) := by decide +kernel
theorem dX7_addBox_38 : decode cX7_addBox 38 = .ok (.invokespecial 72, 3) := by decide +kernel
theorem dX7_addBox_41 : decode cX7_addBox 41 = .ok (.athrow, 1) := by decide +kernel
theorem dX7_addBox_42 : decode cX7_addBox 42 = .ok (.aload_n 0, 1) := by decide +kernel
theorem dX7_addBox_43 : decode cX7_addBox 43 = .ok (.getfield 12, 3) := by decide +kernel
theorem dX7_addBox_46 : decode cX7_addBox 46 = .ok (.getfield 73, 3) := by decide +kernel
theorem dX7_addBox_49 : decode cX7_addBox 49 = .ok (.getfield 77, 3) := by decide +kernel
theorem dX7_addBox_52 : decode cX7_addBox 52 = .ok (.bipush 12, 2) := by decide +kernel
theorem dX7_addBox_54 : decode cX7_addBox 54 = .ok (.if_icmp .lt 13, 3) := by decide +kernel
theorem dX7_addBox_57 : decode cX7_addBox 57 = .ok (.new 82, 3) := by decide +kernel
theorem dX7_addBox_60 : decode cX7_addBox 60 = .ok (.dup, 1) := by decide +kernel
theorem dX7_addBox_61 : decode cX7_addBox 61 = .ok (.ldc 84, 2) := by decide +kernel
theorem dX7_addBox_63 : decode cX7_addBox 63 = .ok (.invokespecial 86, 3) := by decide +kernel
theorem dX7_addBox_66 : decode cX7_addBox 66 = .ok (.athrow, 1) := by decide +kernel
theorem dX7_addBox_67 : decode cX7_addBox 67 = .ok (.aload_n 0, 1) := by decide +kernel
theorem dX7_addBox_68 : decode cX7_addBox 68 = .ok (.getfield 35, 3) := by decide +kernel
theorem dX7_addBox_71 : decode cX7_addBox 71 = .ok (.aload_n 0, 1) := by decide +kernel
theorem dX7_addBox_72 : decode cX7_addBox 72 = .ok (.getfield 12, 3) := by decide +kernel
theorem dX7_addBox_75 : decode cX7_addBox 75 = .ok (.invokevirtual 87, 3) := by decide +kernel
theorem dX7_addBox_78 : decode cX7_addBox 78 = .ok (.aload_n 0, 1) := by decide +kernel
theorem dX7_addBox_79 : decode cX7_addBox 79 = .ok (.getfield 12, 3) := by decide +kernel
theorem dX7_addBox_82 : decode cX7_addBox 82 = .ok (.getfield 73, 3) := by decide +kernel
theorem dX7_addBox_85 : decode cX7_addBox 85 = .ok (.iload_n 1, 1) := by decide +kernel
theorem dX7_addBox_86 : decode cX7_addBox 86 = .ok (.iload_n 2, 1) := by decide +kernel
theorem dX7_addBox_87 : decode cX7_addBox 87 = .ok (.iload_n 3, 1) := by decide +kernel
theorem dX7_addBox_88 : decode cX7_addBox 88 = .ok (.iload 4, 2) := by decide +kernel
theorem dX7_addBox_90 : decode cX7_addBox 90 = .ok (.invokevirtual 91, 3) := by decide +kernel
theorem dX7_addBox_93 : decode cX7_addBox 93 = .ok (.aload_n 0, 1) := by decide +kernel
theorem dX7_addBox_94 : decode cX7_addBox 94 = .ok (.getfield 12, 3) := by decide +kernel
theorem dX7_addBox_97 : decode cX7_addBox 97 = .ok (.aload_n 0, 1) := by decide +kernel
theorem dX7_addBox_98 : decode cX7_addBox 98 = .ok (.getfield 19, 3) := by decide +kernel
theorem dX7_addBox_101 : decode cX7_addBox 101 = .ok (.invokestatic 95, 3) := by decide +kernel
theorem dX7_addBox_104 : decode cX7_addBox 104 = .ok (.pop, 1) := by decide +kernel
theorem dX7_addBox_105 : decode cX7_addBox 105 = .ok (.aload_n 0, 1) := by decide +kernel
theorem dX7_addBox_106 : decode cX7_addBox 106 = .ok (.getfield 12, 3) := by decide +kernel
theorem dX7_addBox_109 : decode cX7_addBox 109 = .ok (.getfield 73, 3) := by decide +kernel
theorem dX7_addBox_112 : decode cX7_addBox 112 = .ok (.getfield 77, 3) := by decide +kernel
theorem dX7_addBox_115 : decode cX7_addBox 115 = .ok (.iconst 1, 1) := by decide +kernel
theorem dX7_addBox_116 : decode cX7_addBox 116 = .ok (.isub, 1) := by decide +kernel
theorem dX7_addBox_117 : decode cX7_addBox 117 = .ok (.ireturn, 1) := by decide +kernel
theorem dX7_toggle_0 : decode cX7_toggle 0 = .ok (.aload_n 0, 1) := by decide +kernel
theorem dX7_toggle_1 : decode cX7_toggle 1 = .ok (.iload_n 1, 1) := by decide +kernel
theorem dX7_toggle_2 : decode cX7_toggle 2 = .ok (.invokevirtual 99, 3) := by decide +kernel
theorem dX7_toggle_5 : decode cX7_toggle 5 = .ok (.ifCond .ne 13, 3) := by decide +kernel
theorem dX7_toggle_8 : decode cX7_toggle 8 = .ok (.new 58, 3) := by decide +kernel
theorem dX7_toggle_11 : decode cX7_toggle 11 = .ok (.dup, 1) := by decide +kernel
theorem dX7_toggle_12 : decode cX7_toggle 12 = .ok (.ldc 102, 2) := by decide +kernel
theorem dX7_toggle_14 : decode cX7_toggle 14 = .ok (.invokespecial 62, 3) := by decide +kernel
theorem dX7_toggle_17 : decode cX7_toggle 17 = .ok (.athrow, 1) := by decide +kernel
theorem dX7_toggle_18 : decode cX7_toggle 18 = .ok (.aload_n 0, 1) := by decide +kernel
theorem dX7_toggle_19 : decode cX7_toggle 19 = .ok (.getfield 35, 3) := by decide +kernel
theorem dX7_toggle_22 : decode cX7_toggle 22 = .ok (.aload_n 0, 1) := by decide +kernel
theorem dX7_toggle_23 : decode cX7_toggle 23 = .ok (.getfield 12, 3) := by decide +kernel
theorem dX7_toggle_26 : decode cX7_toggle 26 = .ok (.invokevirtual 87, 3) := by decide +kernel
theorem dX7_toggle_29 : decode cX7_toggle 29 = .ok (.aload_n 0, 1) := by decide +kernel
theorem dX7_toggle_30 : decode cX7_toggle 30 = .ok (.getfield 12, 3) := by decide +kernel
theorem dX7_toggle_33 : decode cX7_toggle 33 = .ok (.getfield 73, 3) := by decide +kernel
theorem dX7_toggle_36 : decode cX7_toggle 36 = .ok (.getfield 104, 3) := by decide +kernel
theorem dX7_toggle_39 : decode cX7_toggle 39 = .ok (.iload_n 1, 1) := by decide +kernel
theorem dX7_toggle_40 : decode cX7_toggle 40 = .ok (.aload_n 0, 1) := by decide +kernel
theorem dX7_toggle_41 : decode cX7_toggle 41 = .ok (.getfield 12, 3) := by decide +kernel
theorem dX7_toggle_44 : decode cX7_toggle 44 = .ok (.getfield 73, 3) := by decide +kernel
theorem dX7_toggle_47 : decode cX7_toggle 47 = .ok (.getfield 104, 3) := by decide +kernel
theorem dX7_toggle_50 : decode cX7_toggle 50 = .ok (.iload_n 1, 1) := by decide +kernel
theorem dX7_toggle_51 : decode cX7_toggle 51 = .ok (.baload, 1) := by decide +kernel
theorem dX7_toggle_52 : decode cX7_toggle 52 = .ok (.ifCond .ne 7, 3) := by decide +kernel
theorem dX7_toggle_55 : decode cX7_toggle 55 = .ok (.iconst 1, 1) := by decide +kernel
theorem dX7_toggle_56 : decode cX7_toggle 56 = .ok (.goto 4, 3) := by decide +kernel
theorem dX7_toggle_59 : decode cX7_toggle 59 = .ok (.iconst 0, 1) := by decide +kernel
theorem dX7_toggle_60 : decode cX7_toggle 60 = .ok (.bastore, 1) := by decide +kernel
theorem dX7_toggle_61 : decode cX7_toggle 61 = .ok (.aload_n 0, 1) := by decide +kernel
theorem dX7_toggle_62 : decode cX7_toggle 62 = .ok (.getfield 12, 3) := by decide +kernel
theorem dX7_toggle_65 : decode cX7_toggle 65 = .ok (.aload_n 0, 1) := by decide +kernel
theorem dX7_toggle_66 : decode cX7_toggle 66 = .ok (.getfield 19, 3) := by decide +kernel
theorem dX7_toggle_69 : decode cX7_toggle 69 = .ok (.invokestatic 95, 3) := by decide +kernel
theorem dX7_toggle_72 : decode cX7_toggle 72 = .ok (.pop, 1) := by decide +kernel
theorem dX7_toggle_73 : decode cX7_toggle 73 = .ok (.aload_n 0, 1) := by decide +kernel
theorem dX7_toggle_74 : decode cX7_toggle 74 = .ok (.getfield 12, 3) := by decide +kernel
theorem dX7_toggle_77 : decode cX7_toggle 77 = .ok (.getfield 73, 3) := by decide +kernel
theorem dX7_toggle_80 : decode cX7_toggle 80 = .ok (.getfield 104, 3) := by decide +kernel
theorem dX7_toggle_83 : decode cX7_toggle 83 = .ok (.iload_n 1, 1) := by decide +kernel
theorem dX7_toggle_84 : decode cX7_toggle 84 = .ok (.baload, 1) := by decide +kernel
theorem dX7_toggle_85 : decode cX7_toggle 85 = .ok (.invokestatic 108, 3) := by decide +kernel
theorem dX7_toggle_88 : decode cX7_toggle 88 = .ok (.ireturn, 1) := by decide +kernel
theorem dX7_cross_0 : decode cX7_cross 0 = .ok (.aload_n 0, 1) := by decide +kernel
theorem dX7_cross_1 : decode cX7_cross 1 = .ok (.iload_n 1, 1) := by decide +kernel
theorem dX7_cross_2 : decode cX7_cross 2 = .ok (.invokevirtual 99, 3) := by decide +kernel
theorem dX7_cross_5 : decode cX7_cross 5 = .ok (.ifCond .ne 13, 3) := by decide +kernel
theorem dX7_cross_8 : decode cX7_cross 8 = .ok (.new 58, 3) := by decide +kernel
theorem dX7_cross_11 : decode cX7_cross 11 = .ok (.dup, 1) := by decide +kernel
theorem dX7_cross_12 : decode cX7_cross 12 = .ok (.ldc 102, 2) := by decide +kernel
theorem dX7_cross_14 : decode cX7_cross 14 = .ok (.invokespecial 62, 3) := by decide +kernel
theorem dX7_cross_17 : decode cX7_cross 17 = .ok (.athrow, 1) := by decide +kernel
theorem dX7_cross_18 : decode cX7_cross 18 = .ok (.aload_n 0, 1) := by decide +kernel
theorem dX7_cross_19 : decode cX7_cross 19 = .ok (.getfield 35, 3) := by decide +kernel
theorem dX7_cross_22 : decode cX7_cross 22 = .ok (.aload_n 0, 1) := by decide +kernel
theorem dX7_cross_23 : decode cX7_cross 23 = .ok (.getfield 12, 3) := by decide +kernel
theorem dX7_cross_26 : decode cX7_cross 26 = .ok (.invokevirtual 87, 3) := by decide +kernel
theorem dX7_cross_29 : decode cX7_cross 29 = .ok (.aload_n 0, 1) := by decide +kernel
theorem dX7_cross_30 : decode cX7_cross 30 = .ok (.getfield 12, 3) := by decide +kernel
theorem dX7_cross_33 : decode cX7_cross 33 = .ok (.getfield 73, 3) := by decide +kernel
theorem dX7_cross_36 : decode cX7_cross 36 = .ok (.getfield 112, 3) := by decide +kernel
theorem dX7_cross_39 : decode cX7_cross 39 = .ok (.iload_n 1, 1) := by decide +kernel
theorem dX7_cross_40 : decode cX7_cross 40 = .ok (.aload_n 0, 1) := by decide +kernel
theorem dX7_cross_41 : decode cX7_cross 41 = .ok (.getfield 12, 3) := by decide +kernel
theorem dX7_cross_44 : decode cX7_cross 44 = .ok (.getfield 73, 3) := by decide +kernel
theorem dX7_cross_47 : decode cX7_cross 47 = .ok (.getfield 112, 3) := by decide +kernel
theorem dX7_cross_50 : decode cX7_cross 50 = .ok (.iload_n 1, 1) := by decide +kernel
theorem dX7_cross_51 : decode cX7_cross 51 = .ok (.baload, 1) := by decide +kernel
theorem dX7_cross_52 : decode cX7_cross 52 = .ok (.ifCond .ne 7, 3) := by decide +kernel
theorem dX7_cross_55 : decode cX7_cross 55 = .ok (.iconst 1, 1) := by decide +kernel
theorem dX7_cross_56 : decode cX7_cross 56 = .ok (.goto 4, 3) := by decide +kernel
theorem dX7_cross_59 : decode cX7_cross 59 = .ok (.iconst 0, 1) := by decide +kernel
theorem dX7_cross_60 : decode cX7_cross 60 = .ok (.bastore, 1) := by decide +kernel
theorem dX7_cross_61 : decode cX7_cross 61 = .ok (.aload_n 0, 1) := by decide +kernel
theorem dX7_cross_62 : decode cX7_cross 62 = .ok (.getfield 12, 3) := by decide +kernel
theorem dX7_cross_65 : decode cX7_cross 65 = .ok (.aload_n 0, 1) := by decide +kernel
theorem dX7_cross_66 : decode cX7_cross 66 = .ok (.getfield 19, 3) := by decide +kernel
theorem dX7_cross_69 : decode cX7_cross 69 = .ok (.invokestatic 95, 3) := by decide +kernel
theorem dX7_cross_72 : decode cX7_cross 72 = .ok (.pop, 1) := by decide +kernel
theorem dX7_cross_73 : decode cX7_cross 73 = .ok (.aload_n 0, 1) := by decide +kernel
theorem dX7_cross_74 : decode cX7_cross 74 = .ok (.getfield 19, 3) := by decide +kernel
theorem dX7_cross_77 : decode cX7_cross 77 = .ok (.getfield 115, 3) := by decide +kernel
theorem dX7_cross_80 : decode cX7_cross 80 = .ok (.ireturn, 1) := by decide +kernel
theorem dX7_replace_0 : decode cX7_replace 0 = .ok (.aload_n 0, 1) := by decide +kernel
theorem dX7_replace_1 : decode cX7_replace 1 = .ok (.iload_n 1, 1) := by decide +kernel
theorem dX7_replace_2 : decode cX7_replace 2 = .ok (.invokevirtual 99, 3) := by decide +kernel
theorem dX7_replace_5 : decode cX7_replace 5 = .ok (.ifCond .eq 10, 3) := by decide +kernel
theorem dX7_replace_8 : decode cX7_replace 8 = .ok (.iload_n 2, 1) := by decide +kernel
theorem dX7_replace_9 : decode cX7_replace 9 = .ok (.invokestatic 118, 3) := by decide +kernel
theorem dX7_replace_12 : decode cX7_replace 12 = .ok (.ifCond .ne 13, 3) := by decide +kernel
theorem dX7_replace_15 : decode cX7_replace 15 = .ok (.new 58, 3) := by decide +kernel
theorem dX7_replace_18 : decode cX7_replace 18 = .ok (.dup, 1) := by decide +kernel
theorem dX7_replace_19 : decode cX7_replace 19 = .ok (.ldc 121, 2) := by decide +kernel
theorem dX7_replace_21 : decode cX7_replace 21 = .ok (.invokespecial 62, 3) := by decide +kernel
theorem dX7_replace_24 : decode cX7_replace 24 = .ok (.athrow, 1) := by decide +kernel
theorem dX7_replace_25 : decode cX7_replace 25 = .ok (.iload_n 3, 1) := by decide +kernel
theorem dX7_replace_26 : decode cX7_replace 26 = .ok (.invokestatic 65, 3) := by decide +kernel
theorem dX7_replace_29 : decode cX7_replace 29 = .ok (.ifCond .ne 13, 3) := by decide +kernel
theorem dX7_replace_32 : decode cX7_replace 32 = .ok (.new 68, 3) := by decide +kernel
theorem dX7_replace_35 : decode cX7_replace 35 = .ok (.dup, 1) := by decide +kernel
theorem dX7_replace_36 : decode cX7_replace 36 = .ok (.ldc 70, 2) := by decide +kernel
theorem dX7_replace_38 : decode cX7_replace 38 = .ok (.invokespecial 72, 3) := by decide +kernel
theorem dX7_replace_41 : decode cX7_replace 41 = .ok (.athrow, 1) := by decide +kernel
theorem dX7_replace_42 : decode cX7_replace 42 = .ok (.aload_n 0, 1) := by decide +kernel
theorem dX7_replace_43 : decode cX7_replace 43 = .ok (.getfield 12, 3) := by decide +kernel
theorem dX7_replace_46 : decode cX7_replace 46 = .ok (.getfield 123, 3) := by decide +kernel
theorem dX7_replace_49 : decode cX7_replace 49 = .ok (.ifCond .gt 13, 3) := by decide +kernel
theorem dX7_replace_52 : decode cX7_replace 52 = .ok (.new 82, 3) := by decide +kernel
theorem dX7_replace_55 : decode cX7_replace 55 = .ok (.dup, 1) := by decide +kernel
theorem dX7_replace_56 : decode cX7_replace 56 = .ok (.ldc 126, 2) := by decide +kernel
theorem dX7_replace_58 : decode cX7_replace 58 = .ok (.invokespecial 86, 3) := by decide +kernel
theorem dX7_replace_61 : decode cX7_replace 61 = .ok (.athrow, 1) := by decide +kernel
theorem dX7_replace_62 : decode cX7_replace 62 = .ok (.aload_n 0, 1) := by decide +kernel
theorem dX7_replace_63 : decode cX7_replace 63 = .ok (.getfield 35, 3) := by decide +kernel
theorem dX7_replace_66 : decode cX7_replace 66 = .ok (.aload_n 0, 1) := by decide +kernel
theorem dX7_replace_67 : decode cX7_replace 67 = .ok (.getfield 12, 3) := by decide +kernel
theorem dX7_replace_70 : decode cX7_replace 70 = .ok (.invokevirtual 87, 3) := by decide +kernel
theorem dX7_replace_73 : decode cX7_replace 73 = .ok (.iconst 2, 1) := by decide +kernel
theorem dX7_replace_74 : decode cX7_replace 74 = .ok (.iload_n 1, 1) := by decide +kernel
theorem dX7_replace_75 : decode cX7_replace 75 = .ok (.imul, 1) := by decide +kernel
theorem dX7_replace_76 : decode cX7_replace 76 = .ok (.iload_n 2, 1) := by decide +kernel
theorem dX7_replace_77 : decode cX7_replace 77 = .ok (.iadd, 1) := by decide +kernel
theorem dX7_replace_78 : decode cX7_replace 78 = .ok (.istore 4, 2) := by decide +kernel
theorem dX7_replace_80 : decode cX7_replace 80 = .ok (.aload_n 0, 1) := by decide +kernel
theorem dX7_replace_81 : decode cX7_replace 81 = .ok (.getfield 12, 3) := by decide +kernel
theorem dX7_replace_84 : decode cX7_replace 84 = .ok (.dup, 1) := by decide +kernel
theorem dX7_replace_85 : decode cX7_replace 85 = .ok (.getfield 123, 3) := by decide +kernel
theorem dX7_replace_88 : decode cX7_replace 88 = .ok (.iconst 1, 1) := by decide +kernel
theorem dX7_replace_89 : decode cX7_replace 89 = .ok (.isub, 1) := by decide +kernel
theorem dX7_replace_90 : decode cX7_replace 90 = .ok (.putfield 123, 3) := by decide +kernel
theorem dX7_replace_93 : decode cX7_replace 93 = .ok (.aload_n 0, 1) := by decide +kernel
theorem dX7_replace_94 : decode cX7_replace 94 = .ok (.getfield 12, 3) := by decide +kernel
theorem dX7_replace_97 : decode cX7_replace 97 = .ok (.getfield 73, 3) := by decide +kernel
theorem dX7_replace_100 : decode cX7_replace 100 = .ok (.getfield 128, 3) := by decide +kernel
theorem dX7_replace_103 : decode cX7_replace 103 = .ok (.iload 4, 2) := by decide +kernel
theorem dX7_replace_105 : decode cX7_replace 105 = .ok (.iload_n 3, 1) := by decide +kernel
theorem dX7_replace_106 : decode cX7_replace 106 = .ok (.iastore, 1) := by decide +kernel
theorem dX7_replace_107 : decode cX7_replace 107 = .ok (.aload_n 0, 1) := by decide +kernel
theorem dX7_replace_108 : decode cX7_replace 108 = .ok (.getfield 12, 3) := by decide +kernel
theorem dX7_replace_111 : decode cX7_replace 111 = .ok (.getfield 73, 3) := by decide +kernel
theorem dX7_replace_114 : decode cX7_replace 114 = .ok (.getfield 131, 3) := by decide +kernel
theorem dX7_replace_117 : decode cX7_replace 117 = .ok (.iload 4, 2) := by decide +kernel
theorem dX7_replace_119 : decode cX7_replace 119 = .ok (.iconst 0, 1) := by decide +kernel
theorem dX7_replace_120 : decode cX7_replace 120 = .ok (.bastore, 1) := by decide +kernel
theorem dX7_replace_121 : decode cX7_replace 121 = .ok (.aload_n 0, 1) := by decide +kernel
theorem dX7_replace_122 : decode cX7_replace 122 = .ok (.getfield 12, 3) := by decide +kernel
theorem dX7_replace_125 : decode cX7_replace 125 = .ok (.aload_n 0, 1) := by decide +kernel
theorem dX7_replace_126 : decode cX7_replace 126 = .ok (.getfield 19, 3) := by decide +kernel
theorem dX7_replace_129 : decode cX7_replace 129 = .ok (.invokestatic 95, 3) := by decide +kernel
theorem dX7_replace_132 : decode cX7_replace 132 = .ok (.pop, 1) := by decide +kernel
theorem dX7_replace_133 : decode cX7_replace 133 = .ok (.aload_n 0, 1) := by decide +kernel
theorem dX7_replace_134 : decode cX7_replace 134 = .ok (.getfield 12, 3) := by decide +kernel
theorem dX7_replace_137 : decode cX7_replace 137 = .ok (.getfield 73, 3) := by decide +kernel
theorem dX7_replace_140 : decode cX7_replace 140 = .ok (.getfield 131, 3) := by decide +kernel
theorem dX7_replace_143 : decode cX7_replace 143 = .ok (.iload 4, 2) := by decide +kernel
theorem dX7_replace_145 : decode cX7_replace 145 = .ok (.baload, 1) := by decide +kernel
theorem dX7_replace_146 : decode cX7_replace 146 = .ok (.ifCond .ne 7, 3) := by decide +kernel
theorem dX7_replace_149 : decode cX7_replace 149 = .ok (.iconst 1, 1) := by decide +kernel
theorem dX7_replace_150 : decode cX7_replace 150 = .ok (.goto 4, 3) := by decide +kernel
theorem dX7_replace_153 : decode cX7_replace 153 = .ok (.iconst 0, 1) := by decide +kernel
theorem dX7_replace_154 : decode cX7_replace 154 = .ok (.invokestatic 108, 3) := by decide +kernel
theorem dX7_replace_157 : decode cX7_replace 157 = .ok (.ireturn, 1) := by decide +kernel
theorem dX7_buyFuses_0 : decode cX7_buyFuses 0 = .ok (.iload_n 1, 1) := by decide +kernel
theorem dX7_buyFuses_1 : decode cX7_buyFuses 1 = .ok (.iconst 1, 1) := by decide +kernel
theorem dX7_buyFuses_2 : decode cX7_buyFuses 2 = .ok (.if_icmp .lt 9, 3) := by decide +kernel
theorem dX7_buyFuses_5 : decode cX7_buyFuses 5 = .ok (.iload_n 1, 1) := by decide +kernel
theorem dX7_buyFuses_6 : decode cX7_buyFuses 6 = .ok (.bipush 20, 2) := by decide +kernel
theorem dX7_buyFuses_8 : decode cX7_buyFuses 8 = .ok (.if_icmp .le 13, 3) := by decide +kernel
theorem dX7_buyFuses_11 : decode cX7_buyFuses 11 = .ok (.new 68, 3) := by decide +kernel
theorem dX7_buyFuses_14 : decode cX7_buyFuses 14 = .ok (.dup, 1) := by decide +kernel
theorem dX7_buyFuses_15 : decode cX7_buyFuses 15 = .ok (.ldc 134, 2) := by decide +kernel
theorem dX7_buyFuses_17 : decode cX7_buyFuses 17 = .ok (.invokespecial 72, 3) := by decide +kernel
theorem dX7_buyFuses_20 : decode cX7_buyFuses 20 = .ok (.athrow, 1) := by decide +kernel
theorem dX7_buyFuses_21 : decode cX7_buyFuses 21 = .ok (.aload_n 0, 1) := by decide +kernel
theorem dX7_buyFuses_22 : decode cX7_buyFuses 22 = .ok (.getfield 12, 3) := by decide +kernel
theorem dX7_buyFuses_25 : decode cX7_buyFuses 25 = .ok (.getfield 123, 3) := by decide +kernel
theorem dX7_buyFuses_28 : decode cX7_buyFuses 28 = .ok (.iload_n 1, 1) := by decide +kernel
theorem dX7_buyFuses_29 : decode cX7_buyFuses 29 = .ok (.iadd, 1) := by decide +kernel
theorem dX7_buyFuses_30 : decode cX7_buyFuses 30 = .ok (.bipush 50, 2) := by decide +kernel
theorem dX7_buyFuses_32 : decode cX7_buyFuses 32 = .ok (.if_icmp .le 13, 3) := by decide +kernel
theorem dX7_buyFuses_35 : decode cX7_buyFuses 35 = .ok (.new 82, 3) := by decide +kernel
theorem dX7_buyFuses_38 : decode cX7_buyFuses 38 = .ok (.dup, 1) := by decide +kernel
theorem dX7_buyFuses_39 : decode cX7_buyFuses 39 = .ok (.ldc 136, 2) := by decide +kernel
theorem dX7_buyFuses_41 : decode cX7_buyFuses 41 = .ok (.invokespecial 86, 3) := by decide +kernel
theorem dX7_buyFuses_44 : decode cX7_buyFuses 44 = .ok (.athrow, 1) := by decide +kernel
theorem dX7_buyFuses_45 : decode cX7_buyFuses 45 = .ok (.aload_n 0, 1) := by decide +kernel
theorem dX7_buyFuses_46 : decode cX7_buyFuses 46 = .ok (.getfield 35, 3) := by decide +kernel
theorem dX7_buyFuses_49 : decode cX7_buyFuses 49 = .ok (.aload_n 0, 1) := by decide +kernel
theorem dX7_buyFuses_50 : decode cX7_buyFuses 50 = .ok (.getfield 12, 3) := by decide +kernel
theorem dX7_buyFuses_53 : decode cX7_buyFuses 53 = .ok (.invokevirtual 87, 3) := by decide +kernel
theorem dX7_buyFuses_56 : decode cX7_buyFuses 56 = .ok (.aload_n 0, 1) := by decide +kernel
theorem dX7_buyFuses_57 : decode cX7_buyFuses 57 = .ok (.getfield 12, 3) := by decide +kernel
theorem dX7_buyFuses_60 : decode cX7_buyFuses 60 = .ok (.dup, 1) := by decide +kernel
theorem dX7_buyFuses_61 : decode cX7_buyFuses 61 = .ok (.getfield 123, 3) := by decide +kernel
theorem dX7_buyFuses_64 : decode cX7_buyFuses 64 = .ok (.iload_n 1, 1) := by decide +kernel
theorem dX7_buyFuses_65 : decode cX7_buyFuses 65 = .ok (.iadd, 1) := by decide +kernel
theorem dX7_buyFuses_66 : decode cX7_buyFuses 66 = .ok (.putfield 123, 3) := by decide +kernel
theorem dX7_buyFuses_69 : decode cX7_buyFuses 69 = .ok (.aload_n 0, 1) := by decide +kernel
theorem dX7_buyFuses_70 : decode cX7_buyFuses 70 = .ok (.getfield 12, 3) := by decide +kernel
theorem dX7_buyFuses_73 : decode cX7_buyFuses 73 = .ok (.getfield 123, 3) := by decide +kernel
theorem dX7_buyFuses_76 : decode cX7_buyFuses 76 = .ok (.ireturn, 1) := by decide +kernel
theorem dX7_hang_0 : decode cX7_hang 0 = .ok (.aload_n 0, 1) := by decide +kernel
theorem dX7_hang_1 : decode cX7_hang 1 = .ok (.iload_n 1, 1) := by decide +kernel
theorem dX7_hang_2 : decode cX7_hang 2 = .ok (.invokevirtual 54, 3) := by decide +kernel
theorem dX7_hang_5 : decode cX7_hang 5 = .ok (.ifCond .ne 13, 3) := by decide +kernel
theorem dX7_hang_8 : decode cX7_hang 8 = .ok (.new 58, 3) := by decide +kernel
theorem dX7_hang_11 : decode cX7_hang 11 = .ok (.dup, 1) := by decide +kernel
theorem dX7_hang_12 : decode cX7_hang 12 = .ok (.ldc 138, 2) := by decide +kernel
theorem dX7_hang_14 : decode cX7_hang 14 = .ok (.invokespecial 62, 3) := by decide +kernel
theorem dX7_hang_17 : decode cX7_hang 17 = .ok (.athrow, 1) := by decide +kernel
theorem dX7_hang_18 : decode cX7_hang 18 = .ok (.iload_n 2, 1) := by decide +kernel
theorem dX7_hang_19 : decode cX7_hang 19 = .ok (.iconst 1, 1) := by decide +kernel
theorem dX7_hang_20 : decode cX7_hang 20 = .ok (.if_icmp .lt 9, 3) := by decide +kernel
theorem dX7_hang_23 : decode cX7_hang 23 = .ok (.iload_n 2, 1) := by decide +kernel
theorem dX7_hang_24 : decode cX7_hang 24 = .ok (.bipush 9, 2) := by decide +kernel
theorem dX7_hang_26 : decode cX7_hang 26 = .ok (.if_icmp .le 13, 3) := by decide +kernel
theorem dX7_hang_29 : decode cX7_hang 29 = .ok (.new 68, 3) := by decide +kernel
theorem dX7_hang_32 : decode cX7_hang 32 = .ok (.dup, 1) := by decide +kernel
theorem dX7_hang_33 : decode cX7_hang 33 = .ok (.ldc 140, 2) := by decide +kernel
theorem dX7_hang_35 : decode cX7_hang 35 = .ok (.invokespecial 72, 3) := by decide +kernel
theorem dX7_hang_38 : decode cX7_hang 38 = .ok (.athrow, 1) := by decide +kernel
theorem dX7_hang_39 : decode cX7_hang 39 = .ok (.aload_n 0, 1) := by decide +kernel
theorem dX7_hang_40 : decode cX7_hang 40 = .ok (.getfield 12, 3) := by decide +kernel
theorem dX7_hang_43 : decode cX7_hang 43 = .ok (.getfield 142, 3) := by decide +kernel
theorem dX7_hang_46 : decode cX7_hang 46 = .ok (.getfield 146, 3) := by decide +kernel
theorem dX7_hang_49 : decode cX7_hang 49 = .ok (.bipush 16, 2) := by decide +kernel
theorem dX7_hang_51 : decode cX7_hang 51 = .ok (.if_icmp .lt 13, 3) := by decide +kernel
theorem dX7_hang_54 : decode cX7_hang 54 = .ok (.new 82, 3) := by decide +kernel
theorem dX7_hang_57 : decode cX7_hang 57 = .ok (.dup, 1) := by decide +kernel
theorem dX7_hang_58 : decode cX7_hang 58 = .ok (.ldc 151, 2) := by decide +kernel
theorem dX7_hang_60 : decode cX7_hang 60 = .ok (.invokespecial 86, 3) := by decide +kernel
theorem dX7_hang_63 : decode cX7_hang 63 = .ok (.athrow, 1) := by decide +kernel
theorem dX7_hang_64 : decode cX7_hang 64 = .ok (.aload_n 0, 1) := by decide +kernel
theorem dX7_hang_65 : decode cX7_hang 65 = .ok (.getfield 35, 3) := by decide +kernel
theorem dX7_hang_68 : decode cX7_hang 68 = .ok (.aload_n 0, 1) := by decide +kernel
theorem dX7_hang_69 : decode cX7_hang 69 = .ok (.getfield 12, 3) := by decide +kernel
theorem dX7_hang_72 : decode cX7_hang 72 = .ok (.invokevirtual 87, 3) := by decide +kernel
theorem dX7_hang_75 : decode cX7_hang 75 = .ok (.aload_n 0, 1) := by decide +kernel
theorem dX7_hang_76 : decode cX7_hang 76 = .ok (.getfield 12, 3) := by decide +kernel
theorem dX7_hang_79 : decode cX7_hang 79 = .ok (.getfield 142, 3) := by decide +kernel
theorem dX7_hang_82 : decode cX7_hang 82 = .ok (.iload_n 1, 1) := by decide +kernel
theorem dX7_hang_83 : decode cX7_hang 83 = .ok (.iload_n 2, 1) := by decide +kernel
theorem dX7_hang_84 : decode cX7_hang 84 = .ok (.iload_n 3, 1) := by decide +kernel
theorem dX7_hang_85 : decode cX7_hang 85 = .ok (.invokevirtual 153, 3) := by decide +kernel
theorem dX7_hang_88 : decode cX7_hang 88 = .ok (.aload_n 0, 1) := by decide +kernel
theorem dX7_hang_89 : decode cX7_hang 89 = .ok (.getfield 12, 3) := by decide +kernel
theorem dX7_hang_92 : decode cX7_hang 92 = .ok (.aload_n 0, 1) := by decide +kernel
theorem dX7_hang_93 : decode cX7_hang 93 = .ok (.getfield 19, 3) := by decide +kernel
theorem dX7_hang_96 : decode cX7_hang 96 = .ok (.invokestatic 95, 3) := by decide +kernel
theorem dX7_hang_99 : decode cX7_hang 99 = .ok (.pop, 1) := by decide +kernel
theorem dX7_hang_100 : decode cX7_hang 100 = .ok (.aload_n 0, 1) := by decide +kernel
theorem dX7_hang_101 : decode cX7_hang 101 = .ok (.getfield 12, 3) := by decide +kernel
theorem dX7_hang_104 : decode cX7_hang 104 = .ok (.getfield 142, 3) := by decide +kernel
theorem dX7_hang_107 : decode cX7_hang 107 = .ok (.getfield 146, 3) := by decide +kernel
theorem dX7_hang_110 : decode cX7_hang 110 = .ok (.iconst 1, 1) := by decide +kernel
theorem dX7_hang_111 : decode cX7_hang 111 = .ok (.isub, 1) := by decide +kernel
theorem dX7_hang_112 : decode cX7_hang 112 = .ok (.ireturn, 1) := by decide +kernel
theorem dX7_takeDown_0 : decode cX7_takeDown 0 = .ok (.aload_n 0, 1) := by decide +kernel
theorem dX7_takeDown_1 : decode cX7_takeDown 1 = .ok (.iload_n 1, 1) := by decide +kernel
theorem dX7_takeDown_2 : decode cX7_takeDown 2 = .ok (.invokevirtual 156, 3) := by decide +kernel
theorem dX7_takeDown_5 : decode cX7_takeDown 5 = .ok (.ifCond .ne 13, 3) := by decide +kernel
theorem dX7_takeDown_8 : decode cX7_takeDown 8 = .ok (.new 58, 3) := by decide +kernel
theorem dX7_takeDown_11 : decode cX7_takeDown 11 = .ok (.dup, 1) := by decide +kernel
theorem dX7_takeDown_12 : decode cX7_takeDown 12 = .ok (.ldc 159, 2) := by decide +kernel
theorem dX7_takeDown_14 : decode cX7_takeDown 14 = .ok (.invokespecial 62, 3) := by decide +kernel
theorem dX7_takeDown_17 : decode cX7_takeDown 17 = .ok (.athrow, 1) := by decide +kernel
theorem dX7_takeDown_18 : decode cX7_takeDown 18 = .ok (.aload_n 0, 1) := by decide +kernel
theorem dX7_takeDown_19 : decode cX7_takeDown 19 = .ok (.getfield 35, 3) := by decide +kernel
theorem dX7_takeDown_22 : decode cX7_takeDown 22 = .ok (.aload_n 0, 1) := by decide +kernel
theorem dX7_takeDown_23 : decode cX7_takeDown 23 = .ok (.getfield 12, 3) := by decide +kernel
theorem dX7_takeDown_26 : decode cX7_takeDown 26 = .ok (.invokevirtual 87, 3) := by decide +kernel
theorem dX7_takeDown_29 : decode cX7_takeDown 29 = .ok (.aload_n 0, 1) := by decide +kernel
theorem dX7_takeDown_30 : decode cX7_takeDown 30 = .ok (.getfield 19, 3) := by decide +kernel
theorem dX7_takeDown_33 : decode cX7_takeDown 33 = .ok (.getfield 161, 3) := by decide +kernel
theorem dX7_takeDown_36 : decode cX7_takeDown 36 = .ok (.iload_n 1, 1) := by decide +kernel
theorem dX7_takeDown_37 : decode cX7_takeDown 37 = .ok (.baload, 1) := by decide +kernel
theorem dX7_takeDown_38 : decode cX7_takeDown 38 = .ok (.invokestatic 108, 3) := by decide +kernel
theorem dX7_takeDown_41 : decode cX7_takeDown 41 = .ok (.istore_n 2, 1) := by decide +kernel
theorem dX7_takeDown_42 : decode cX7_takeDown 42 = .ok (.aload_n 0, 1) := by decide +kernel
theorem dX7_takeDown_43 : decode cX7_takeDown 43 = .ok (.getfield 12, 3) := by decide +kernel
theorem dX7_takeDown_46 : decode cX7_takeDown 46 = .ok (.getfield 142, 3) := by decide +kernel
theorem dX7_takeDown_49 : decode cX7_takeDown 49 = .ok (.iload_n 1, 1) := by decide +kernel
theorem dX7_takeDown_50 : decode cX7_takeDown 50 = .ok (.invokevirtual 164, 3) := by decide +kernel
theorem dX7_takeDown_53 : decode cX7_takeDown 53 = .ok (.aload_n 0, 1) := by decide +kernel
theorem dX7_takeDown_54 : decode cX7_takeDown 54 = .ok (.getfield 12, 3) := by decide +kernel
theorem dX7_takeDown_57 : decode cX7_takeDown 57 = .ok (.aload_n 0, 1) := by decide +kernel
theorem dX7_takeDown_58 : decode cX7_takeDown 58 = .ok (.getfield 19, 3) := by decide +kernel
theorem dX7_takeDown_61 : decode cX7_takeDown 61 = .ok (.invokestatic 95, 3) := by decide +kernel
theorem dX7_takeDown_64 : decode cX7_takeDown 64 = .ok (.pop, 1) := by decide +kernel
theorem dX7_takeDown_65 : decode cX7_takeDown 65 = .ok (.iload_n 2, 1) := by decide +kernel
theorem dX7_takeDown_66 : decode cX7_takeDown 66 = .ok (.ireturn, 1) := by decide +kernel
theorem dX7_fault_0 : decode cX7_fault 0 = .ok (.aload_n 0, 1) := by decide +kernel
theorem dX7_fault_1 : decode cX7_fault 1 = .ok (.iload_n 1, 1) := by decide +kernel
theorem dX7_fault_2 : decode cX7_fault 2 = .ok (.invokevirtual 54, 3) := by decide +kernel
theorem dX7_fault_5 : decode cX7_fault 5 = .ok (.ifCond .eq 10, 3) := by decide +kernel
theorem dX7_fault_8 : decode cX7_fault 8 = .ok (.iload_n 2, 1) := by decide +kernel
theorem dX7_fault_9 : decode cX7_fault 9 = .ok (.invokestatic 118, 3) := by decide +kernel
theorem dX7_fault_12 : decode cX7_fault 12 = .ok (.ifCond .ne 13, 3) := by decide +kernel
theorem dX7_fault_15 : decode cX7_fault 15 = .ok (.new 58, 3) := by decide +kernel
theorem dX7_fault_18 : decode cX7_fault 18 = .ok (.dup, 1) := by decide +kernel
theorem dX7_fault_19 : decode cX7_fault 19 = .ok (.ldc 168, 2) := by decide +kernel
theorem dX7_fault_21 : decode cX7_fault 21 = .ok (.invokespecial 62, 3) := by decide +kernel
theorem dX7_fault_24 : decode cX7_fault 24 = .ok (.athrow, 1) := by decide +kernel
theorem dX7_fault_25 : decode cX7_fault 25 = .ok (.iload_n 3, 1) := by decide +kernel
theorem dX7_fault_26 : decode cX7_fault 26 = .ok (.invokestatic 170, 3) := by decide +kernel
theorem dX7_fault_29 : decode cX7_fault 29 = .ok (.ifCond .ne 13, 3) := by decide +kernel
theorem dX7_fault_32 : decode cX7_fault 32 = .ok (.new 68, 3) := by decide +kernel
theorem dX7_fault_35 : decode cX7_fault 35 = .ok (.dup, 1) := by decide +kernel
theorem dX7_fault_36 : decode cX7_fault 36 = .ok (.ldc 173, 2) := by decide +kernel
theorem dX7_fault_38 : decode cX7_fault 38 = .ok (.invokespecial 72, 3) := by decide +kernel
theorem dX7_fault_41 : decode cX7_fault 41 = .ok (.athrow, 1) := by decide +kernel
theorem dX7_fault_42 : decode cX7_fault 42 = .ok (.aload_n 0, 1) := by decide +kernel
theorem dX7_fault_43 : decode cX7_fault 43 = .ok (.getfield 12, 3) := by decide +kernel
theorem dX7_fault_46 : decode cX7_fault 46 = .ok (.getfield 175, 3) := by decide +kernel
theorem dX7_fault_49 : decode cX7_fault 49 = .ok (.getfield 179, 3) := by decide +kernel
theorem dX7_fault_52 : decode cX7_fault 52 = .ok (.bipush 8, 2) := by decide +kernel
theorem dX7_fault_54 : decode cX7_fault 54 = .ok (.if_icmp .lt 13, 3) := by decide +kernel
theorem dX7_fault_57 : decode cX7_fault 57 = .ok (.new 82, 3) := by decide +kernel
theorem dX7_fault_60 : decode cX7_fault 60 = .ok (.dup, 1) := by decide +kernel
theorem dX7_fault_61 : decode cX7_fault 61 = .ok (.ldc 182, 2) := by decide +kernel
theorem dX7_fault_63 : decode cX7_fault 63 = .ok (.invokespecial 86, 3) := by decide +kernel
theorem dX7_fault_66 : decode cX7_fault 66 = .ok (.athrow, 1) := by decide +kernel
theorem dX7_fault_67 : decode cX7_fault 67 = .ok (.aload_n 0, 1) := by decide +kernel
theorem dX7_fault_68 : decode cX7_fault 68 = .ok (.getfield 35, 3) := by decide +kernel
theorem dX7_fault_71 : decode cX7_fault 71 = .ok (.aload_n 0, 1) := by decide +kernel
theorem dX7_fault_72 : decode cX7_fault 72 = .ok (.getfield 12, 3) := by decide +kernel
theorem dX7_fault_75 : decode cX7_fault 75 = .ok (.invokevirtual 87, 3) := by decide +kernel
theorem dX7_fault_78 : decode cX7_fault 78 = .ok (.aload_n 0, 1) := by decide +kernel
theorem dX7_fault_79 : decode cX7_fault 79 = .ok (.getfield 12, 3) := by decide +kernel
theorem dX7_fault_82 : decode cX7_fault 82 = .ok (.getfield 175, 3) := by decide +kernel
theorem dX7_fault_85 : decode cX7_fault 85 = .ok (.iload_n 1, 1) := by decide +kernel
theorem dX7_fault_86 : decode cX7_fault 86 = .ok (.iload_n 2, 1) := by decide +kernel
theorem dX7_fault_87 : decode cX7_fault 87 = .ok (.iload_n 3, 1) := by decide +kernel
theorem dX7_fault_88 : decode cX7_fault 88 = .ok (.invokevirtual 184, 3) := by decide +kernel
theorem dX7_fault_91 : decode cX7_fault 91 = .ok (.aload_n 0, 1) := by decide +kernel
theorem dX7_fault_92 : decode cX7_fault 92 = .ok (.getfield 12, 3) := by decide +kernel
theorem dX7_fault_95 : decode cX7_fault 95 = .ok (.aload_n 0, 1) := by decide +kernel
theorem dX7_fault_96 : decode cX7_fault 96 = .ok (.getfield 19, 3) := by decide +kernel
theorem dX7_fault_99 : decode cX7_fault 99 = .ok (.invokestatic 95, 3) := by decide +kernel
theorem dX7_fault_102 : decode cX7_fault 102 = .ok (.ireturn, 1) := by decide +kernel
theorem dX7_mend_0 : decode cX7_mend 0 = .ok (.aload_n 0, 1) := by decide +kernel
theorem dX7_mend_1 : decode cX7_mend 1 = .ok (.iload_n 1, 1) := by decide +kernel
theorem dX7_mend_2 : decode cX7_mend 2 = .ok (.invokevirtual 187, 3) := by decide +kernel
theorem dX7_mend_5 : decode cX7_mend 5 = .ok (.ifCond .ne 13, 3) := by decide +kernel
theorem dX7_mend_8 : decode cX7_mend 8 = .ok (.new 58, 3) := by decide +kernel
theorem dX7_mend_11 : decode cX7_mend 11 = .ok (.dup, 1) := by decide +kernel
theorem dX7_mend_12 : decode cX7_mend 12 = .ok (.ldc 190, 2) := by decide +kernel
theorem dX7_mend_14 : decode cX7_mend 14 = .ok (.invokespecial 62, 3) := by decide +kernel
theorem dX7_mend_17 : decode cX7_mend 17 = .ok (.athrow, 1) := by decide +kernel
theorem dX7_mend_18 : decode cX7_mend 18 = .ok (.aload_n 0, 1) := by decide +kernel
theorem dX7_mend_19 : decode cX7_mend 19 = .ok (.getfield 35, 3) := by decide +kernel
theorem dX7_mend_22 : decode cX7_mend 22 = .ok (.aload_n 0, 1) := by decide +kernel
theorem dX7_mend_23 : decode cX7_mend 23 = .ok (.getfield 12, 3) := by decide +kernel
theorem dX7_mend_26 : decode cX7_mend 26 = .ok (.invokevirtual 87, 3) := by decide +kernel
theorem dX7_mend_29 : decode cX7_mend 29 = .ok (.aload_n 0, 1) := by decide +kernel
theorem dX7_mend_30 : decode cX7_mend 30 = .ok (.getfield 12, 3) := by decide +kernel
theorem dX7_mend_33 : decode cX7_mend 33 = .ok (.getfield 175, 3) := by decide +kernel
theorem dX7_mend_36 : decode cX7_mend 36 = .ok (.getfield 192, 3) := by decide +kernel
theorem dX7_mend_39 : decode cX7_mend 39 = .ok (.iload_n 1, 1) := by decide +kernel
theorem dX7_mend_40 : decode cX7_mend 40 = .ok (.iaload, 1) := by decide +kernel
theorem dX7_mend_41 : decode cX7_mend 41 = .ok (.istore_n 2, 1) := by decide +kernel
theorem dX7_mend_42 : decode cX7_mend 42 = .ok (.aload_n 0, 1) := by decide +kernel
theorem dX7_mend_43 : decode cX7_mend 43 = .ok (.getfield 12, 3) := by decide +kernel
theorem dX7_mend_46 : decode cX7_mend 46 = .ok (.getfield 175, 3) := by decide +kernel
theorem dX7_mend_49 : decode cX7_mend 49 = .ok (.iload_n 1, 1) := by decide +kernel
theorem dX7_mend_50 : decode cX7_mend 50 = .ok (.invokevirtual 195, 3) := by decide +kernel
theorem dX7_mend_53 : decode cX7_mend 53 = .ok (.aload_n 0, 1) := by decide +kernel
theorem dX7_mend_54 : decode cX7_mend 54 = .ok (.getfield 12, 3) := by decide +kernel
theorem dX7_mend_57 : decode cX7_mend 57 = .ok (.aload_n 0, 1) := by decide +kernel
theorem dX7_mend_58 : decode cX7_mend 58 = .ok (.getfield 19, 3) := by decide +kernel
theorem dX7_mend_61 : decode cX7_mend 61 = .ok (.invokestatic 95, 3) := by decide +kernel
theorem dX7_mend_64 : decode cX7_mend 64 = .ok (.pop, 1) := by decide +kernel
theorem dX7_mend_65 : decode cX7_mend 65 = .ok (.iload_n 2, 1) := by decide +kernel
theorem dX7_mend_66 : decode cX7_mend 66 = .ok (.ireturn, 1) := by decide +kernel
theorem dX7_burn_0 : decode cX7_burn 0 = .ok (.iload_n 1, 1) := by decide +kernel
theorem dX7_burn_1 : decode cX7_burn 1 = .ok (.iconst 1, 1) := by decide +kernel
theorem dX7_burn_2 : decode cX7_burn 2 = .ok (.if_icmp .lt 10, 3) := by decide +kernel
theorem dX7_burn_5 : decode cX7_burn 5 = .ok (.iload_n 1, 1) := by decide +kernel
theorem dX7_burn_6 : decode cX7_burn 6 = .ok (.sipush 1000, 3) := by decide +kernel
theorem dX7_burn_9 : decode cX7_burn 9 = .ok (.if_icmp .le 13, 3) := by decide +kernel
theorem dX7_burn_12 : decode cX7_burn 12 = .ok (.new 68, 3) := by decide +kernel
theorem dX7_burn_15 : decode cX7_burn 15 = .ok (.dup, 1) := by decide +kernel
theorem dX7_burn_16 : decode cX7_burn 16 = .ok (.ldc 196, 2) := by decide +kernel
theorem dX7_burn_18 : decode cX7_burn 18 = .ok (.invokespecial 72, 3) := by decide +kernel
theorem dX7_burn_21 : decode cX7_burn 21 = .ok (.athrow, 1) := by decide +kernel
theorem dX7_burn_22 : decode cX7_burn 22 = .ok (.aload_n 0, 1) := by decide +kernel
theorem dX7_burn_23 : decode cX7_burn 23 = .ok (.getfield 12, 3) := by decide +kernel
theorem dX7_burn_26 : decode cX7_burn 26 = .ok (.getfield 198, 3) := by decide +kernel
theorem dX7_burn_29 : decode cX7_burn 29 = .ok (.iload_n 1, 1) := by decide +kernel
theorem dX7_burn_30 : decode cX7_burn 30 = .ok (.iadd, 1) := by decide +kernel
theorem dX7_burn_31 : decode cX7_burn 31 = .ok (.ldc 201, 2) := by decide +kernel
theorem dX7_burn_33 : decode cX7_burn 33 = .ok (.if_icmp .le 13, 3) := by decide +kernel
theorem dX7_burn_36 : decode cX7_burn 36 = .ok (.new 82, 3) := by decide +kernel
theorem dX7_burn_39 : decode cX7_burn 39 = .ok (.dup, 1) := by decide +kernel
theorem dX7_burn_40 : decode cX7_burn 40 = .ok (.ldc 202, 2) := by decide +kernel
theorem dX7_burn_42 : decode cX7_burn 42 = .ok (.invokespecial 86, 3) := by decide +kernel
theorem dX7_burn_45 : decode cX7_burn 45 = .ok (.athrow, 1) := by decide +kernel
theorem dX7_burn_46 : decode cX7_burn 46 = .ok (.aload_n 0, 1) := by decide +kernel
theorem dX7_burn_47 : decode cX7_burn 47 = .ok (.getfield 35, 3) := by decide +kernel
theorem dX7_burn_50 : decode cX7_burn 50 = .ok (.aload_n 0, 1) := by decide +kernel
theorem dX7_burn_51 : decode cX7_burn 51 = .ok (.getfield 12, 3) := by decide +kernel
theorem dX7_burn_54 : decode cX7_burn 54 = .ok (.invokevirtual 87, 3) := by decide +kernel
theorem dX7_burn_57 : decode cX7_burn 57 = .ok (.aload_n 0, 1) := by decide +kernel
theorem dX7_burn_58 : decode cX7_burn 58 = .ok (.getfield 19, 3) := by decide +kernel
theorem dX7_burn_61 : decode cX7_burn 61 = .ok (.getfield 204, 3) := by decide +kernel
theorem dX7_burn_64 : decode cX7_burn 64 = .ok (.iconst 0, 1) := by decide +kernel
theorem dX7_burn_65 : decode cX7_burn 65 = .ok (.iaload, 1) := by decide +kernel
theorem dX7_burn_66 : decode cX7_burn 66 = .ok (.iload_n 1, 1) := by decide +kernel
theorem dX7_burn_67 : decode cX7_burn 67 = .ok (.imul, 1) := by decide +kernel
theorem dX7_burn_68 : decode cX7_burn 68 = .ok (.istore_n 2, 1) := by decide +kernel
theorem dX7_burn_69 : decode cX7_burn 69 = .ok (.aload_n 0, 1) := by decide +kernel
theorem dX7_burn_70 : decode cX7_burn 70 = .ok (.getfield 12, 3) := by decide +kernel
theorem dX7_burn_73 : decode cX7_burn 73 = .ok (.dup, 1) := by decide +kernel
theorem dX7_burn_74 : decode cX7_burn 74 = .ok (.getfield 198, 3) := by decide +kernel
theorem dX7_burn_77 : decode cX7_burn 77 = .ok (.iload_n 1, 1) := by decide +kernel
theorem dX7_burn_78 : decode cX7_burn 78 = .ok (.iadd, 1) := by decide +kernel
theorem dX7_burn_79 : decode cX7_burn 79 = .ok (.putfield 198, 3) := by decide +kernel
theorem dX7_burn_82 : decode cX7_burn 82 = .ok (.aload_n 0, 1) := by decide +kernel
theorem dX7_burn_83 : decode cX7_burn 83 = .ok (.getfield 12, 3) := by decide +kernel
theorem dX7_burn_86 : decode cX7_burn 86 = .ok (.dup, 1) := by decide +kernel
theorem dX7_burn_87 : decode cX7_burn 87 = .ok (.getfield 207, 3) := by decide +kernel
theorem dX7_burn_90 : decode cX7_burn 90 = .ok (.iload_n 2, 1) := by decide +kernel
theorem dX7_burn_91 : decode cX7_burn 91 = .ok (.iadd, 1) := by decide +kernel
theorem dX7_burn_92 : decode cX7_burn 92 = .ok (.putfield 207, 3) := by decide +kernel
theorem dX7_burn_95 : decode cX7_burn 95 = .ok (.aload_n 0, 1) := by decide +kernel
theorem dX7_burn_96 : decode cX7_burn 96 = .ok (.getfield 12, 3) := by decide +kernel
theorem dX7_burn_99 : decode cX7_burn 99 = .ok (.dup, 1) := by decide +kernel
theorem dX7_burn_100 : decode cX7_burn 100 = .ok (.getfield 210, 3) := by decide +kernel
theorem dX7_burn_103 : decode cX7_burn 103 = .ok (.aload_n 0, 1) := by decide +kernel
theorem dX7_burn_104 : decode cX7_burn 104 = .ok (.getfield 19, 3) := by decide +kernel
theorem dX7_burn_107 : decode cX7_burn 107 = .ok (.getfield 213, 3) := by decide +kernel
theorem dX7_burn_110 : decode cX7_burn 110 = .ok (.iload_n 1, 1) := by decide +kernel
theorem dX7_burn_111 : decode cX7_burn 111 = .ok (.imul, 1) := by decide +kernel
theorem dX7_burn_112 : decode cX7_burn 112 = .ok (.iadd, 1) := by decide +kernel
theorem dX7_burn_113 : decode cX7_burn 113 = .ok (.putfield 210, 3) := by decide +kernel
theorem dX7_burn_116 : decode cX7_burn 116 = .ok (.iload_n 2, 1) := by decide +kernel
theorem dX7_burn_117 : decode cX7_burn 117 = .ok (.ireturn, 1) := by decide +kernel
theorem dX7_box_0 : decode cX7_box 0 = .ok (.aload_n 0, 1) := by decide +kernel
theorem dX7_box_1 : decode cX7_box 1 = .ok (.iload_n 1, 1) := by decide +kernel
theorem dX7_box_2 : decode cX7_box 2 = .ok (.invokevirtual 54, 3) := by decide +kernel
theorem dX7_box_5 : decode cX7_box 5 = .ok (.ifCond .ne 13, 3) := by decide +kernel
theorem dX7_box_8 : decode cX7_box 8 = .ok (.new 58, 3) := by decide +kernel
theorem dX7_box_11 : decode cX7_box 11 = .ok (.dup, 1) := by decide +kernel
theorem dX7_box_12 : decode cX7_box 12 = .ok (.ldc 138, 2) := by decide +kernel
theorem dX7_box_14 : decode cX7_box 14 = .ok (.invokespecial 62, 3) := by decide +kernel
theorem dX7_box_17 : decode cX7_box 17 = .ok (.athrow, 1) := by decide +kernel
theorem dX7_box_18 : decode cX7_box 18 = .ok (.iload_n 2, 1) := by decide +kernel
theorem dX7_box_19 : decode cX7_box 19 = .ok (.ifCond .lt 9, 3) := by decide +kernel
theorem dX7_box_22 : decode cX7_box 22 = .ok (.iload_n 2, 1) := by decide +kernel
theorem dX7_box_23 : decode cX7_box 23 = .ok (.bipush 7, 2) := by decide +kernel
theorem dX7_box_25 : decode cX7_box 25 = .ok (.if_icmp .lt 13, 3) := by decide +kernel
theorem dX7_box_28 : decode cX7_box 28 = .ok (.new 68, 3) := by decide +kernel
theorem dX7_box_31 : decode cX7_box 31 = .ok (.dup, 1) := by decide +kernel
theorem dX7_box_32 : decode cX7_box 32 = .ok (.ldc 242, 2) := by decide +kernel
theorem dX7_box_34 : decode cX7_box 34 = .ok (.invokespecial 72, 3) := by decide +kernel
theorem dX7_box_37 : decode cX7_box 37 = .ok (.athrow, 1) := by decide +kernel
theorem dX7_box_38 : decode cX7_box 38 = .ok (.aload_n 0, 1) := by decide +kernel
theorem dX7_box_39 : decode cX7_box 39 = .ok (.iload_n 1, 1) := by decide +kernel
theorem dX7_box_40 : decode cX7_box 40 = .ok (.iload_n 2, 1) := by decide +kernel
theorem dX7_box_41 : decode cX7_box 41 = .ok (.invokevirtual 244, 3) := by decide +kernel
theorem dX7_box_44 : decode cX7_box 44 = .ok (.ireturn, 1) := by decide +kernel
theorem dX7_terminal_0 : decode cX7_terminal 0 = .ok (.aload_n 0, 1) := by decide +kernel
theorem dX7_terminal_1 : decode cX7_terminal 1 = .ok (.iload_n 1, 1) := by decide +kernel
theorem dX7_terminal_2 : decode cX7_terminal 2 = .ok (.invokevirtual 54, 3) := by decide +kernel
theorem dX7_terminal_5 : decode cX7_terminal 5 = .ok (.ifCond .eq 10, 3) := by decide +kernel
theorem dX7_terminal_8 : decode cX7_terminal 8 = .ok (.iload_n 2, 1) := by decide +kernel
theorem dX7_terminal_9 : decode cX7_terminal 9 = .ok (.invokestatic 118, 3) := by decide +kernel
theorem dX7_terminal_12 : decode cX7_terminal 12 = .ok (.ifCond .ne 13, 3) := by decide +kernel
theorem dX7_terminal_15 : decode cX7_terminal 15 = .ok (.new 58, 3) := by decide +kernel
theorem dX7_terminal_18 : decode cX7_terminal 18 = .ok (.dup, 1) := by decide +kernel
theorem dX7_terminal_19 : decode cX7_terminal 19 = .ok (.ldc 168, 2) := by decide +kernel
theorem dX7_terminal_21 : decode cX7_terminal 21 = .ok (.invokespecial 62, 3) := by decide +kernel
theorem dX7_terminal_24 : decode cX7_terminal 24 = .ok (.athrow, 1) := by decide +kernel
theorem dX7_terminal_25 : decode cX7_terminal 25 = .ok (.iload_n 3, 1) := by decide +kernel
theorem dX7_terminal_26 : decode cX7_terminal 26 = .ok (.ifCond .lt 9, 3) := by decide +kernel
theorem dX7_terminal_29 : decode cX7_terminal 29 = .ok (.iload_n 3, 1) := by decide +kernel
theorem dX7_terminal_30 : decode cX7_terminal 30 = .ok (.bipush 6, 2) := by decide +kernel
theorem dX7_terminal_32 : decode cX7_terminal 32 = .ok (.if_icmp .lt 13, 3) := by decide +kernel
theorem dX7_terminal_35 : decode cX7_terminal 35 = .ok (.new 68, 3) := by decide +kernel
theorem dX7_terminal_38 : decode cX7_terminal 38 = .ok (.dup, 1) := by decide +kernel
theorem dX7_terminal_39 : decode cX7_terminal 39 = .ok (.ldc 248, 2) := by decide +kernel
theorem dX7_terminal_41 : decode cX7_terminal 41 = .ok (.invokespecial 72, 3) := by decide +kernel
theorem dX7_terminal_44 : decode cX7_terminal 44 = .ok (.athrow, 1) := by decide +kernel
theorem dX7_terminal_45 : decode cX7_terminal 45 = .ok (.aload_n 0, 1) := by decide +kernel
theorem dX7_terminal_46 : decode cX7_terminal 46 = .ok (.iload_n 1, 1) := by decide +kernel
theorem dX7_terminal_47 : decode cX7_terminal 47 = .ok (.iload_n 2, 1) := by decide +kernel
theorem dX7_terminal_48 : decode cX7_terminal 48 = .ok (.iload_n 3, 1) := by decide +kernel
theorem dX7_terminal_49 : decode cX7_terminal 49 = .ok (.invokevirtual 250, 3) := by decide +kernel
theorem dX7_terminal_52 : decode cX7_terminal 52 = .ok (.ireturn, 1) := by decide +kernel
theorem dX7_lantern_0 : decode cX7_lantern 0 = .ok (.aload_n 0, 1) := by decide +kernel
theorem dX7_lantern_1 : decode cX7_lantern 1 = .ok (.iload_n 1, 1) := by decide +kernel
theorem dX7_lantern_2 : decode cX7_lantern 2 = .ok (.invokevirtual 156, 3) := by decide +kernel
theorem dX7_lantern_5 : decode cX7_lantern 5 = .ok (.ifCond .ne 13, 3) := by decide +kernel
theorem dX7_lantern_8 : decode cX7_lantern 8 = .ok (.new 58, 3) := by decide +kernel
theorem dX7_lantern_11 : decode cX7_lantern 11 = .ok (.dup, 1) := by decide +kernel
theorem dX7_lantern_12 : decode cX7_lantern 12 = .ok (.ldc 159, 2) := by decide +kernel
theorem dX7_lantern_14 : decode cX7_lantern 14 = .ok (.invokespecial 62, 3) := by decide +kernel
theorem dX7_lantern_17 : decode cX7_lantern 17 = .ok (.athrow, 1) := by decide +kernel
theorem dX7_lantern_18 : decode cX7_lantern 18 = .ok (.iload_n 2, 1) := by decide +kernel
theorem dX7_lantern_19 : decode cX7_lantern 19 = .ok (.ifCond .lt 8, 3) := by decide +kernel
theorem dX7_lantern_22 : decode cX7_lantern 22 = .ok (.iload_n 2, 1) := by decide +kernel
theorem dX7_lantern_23 : decode cX7_lantern 23 = .ok (.iconst 4, 1) := by decide +kernel
theorem dX7_lantern_24 : decode cX7_lantern 24 = .ok (.if_icmp .lt 13, 3) := by decide +kernel
theorem dX7_lantern_27 : decode cX7_lantern 27 = .ok (.new 68, 3) := by decide +kernel
theorem dX7_lantern_30 : decode cX7_lantern 30 = .ok (.dup, 1) := by decide +kernel
theorem dX7_lantern_31 : decode cX7_lantern 31 = .ok (.ldc 254, 2) := by decide +kernel
theorem dX7_lantern_33 : decode cX7_lantern 33 = .ok (.invokespecial 72, 3) := by decide +kernel
theorem dX7_lantern_36 : decode cX7_lantern 36 = .ok (.athrow, 1) := by decide +kernel
theorem dX7_lantern_37 : decode cX7_lantern 37 = .ok (.aload_n 0, 1) := by decide +kernel
theorem dX7_lantern_38 : decode cX7_lantern 38 = .ok (.iload_n 1, 1) := by decide +kernel
theorem dX7_lantern_39 : decode cX7_lantern 39 = .ok (.iload_n 2, 1) := by decide +kernel
theorem dX7_lantern_40 : decode cX7_lantern 40 = .ok (.invokevirtual 256, 3) := by decide +kernel
theorem dX7_lantern_43 : decode cX7_lantern 43 = .ok (.ireturn, 1) := by decide +kernel
theorem dX7_faultAt_0 : decode cX7_faultAt 0 = .ok (.aload_n 0, 1) := by decide +kernel
theorem dX7_faultAt_1 : decode cX7_faultAt 1 = .ok (.iload_n 1, 1) := by decide +kernel
theorem dX7_faultAt_2 : decode cX7_faultAt 2 = .ok (.invokevirtual 187, 3) := by decide +kernel
theorem dX7_faultAt_5 : decode cX7_faultAt 5 = .ok (.ifCond .ne 13, 3) := by decide +kernel
theorem dX7_faultAt_8 : decode cX7_faultAt 8 = .ok (.new 58, 3) := by decide +kernel
theorem dX7_faultAt_11 : decode cX7_faultAt 11 = .ok (.dup, 1) := by decide +kernel
theorem dX7_faultAt_12 : decode cX7_faultAt 12 = .ok (.ldc 190, 2) := by decide +kernel
theorem dX7_faultAt_14 : decode cX7_faultAt 14 = .ok (.invokespecial 62, 3) := by decide +kernel
theorem dX7_faultAt_17 : decode cX7_faultAt 17 = .ok (.athrow, 1) := by decide +kernel
theorem dX7_faultAt_18 : decode cX7_faultAt 18 = .ok (.iload_n 2, 1) := by decide +kernel
theorem dX7_faultAt_19 : decode cX7_faultAt 19 = .ok (.ifCond .lt 8, 3) := by decide +kernel
theorem dX7_faultAt_22 : decode cX7_faultAt 22 = .ok (.iload_n 2, 1) := by decide +kernel
theorem dX7_faultAt_23 : decode cX7_faultAt 23 = .ok (.iconst 5, 1) := by decide +kernel
theorem dX7_faultAt_24 : decode cX7_faultAt 24 = .ok (.if_icmp .lt 14, 3) := by decide +kernel
theorem dX7_faultAt_27 : decode cX7_faultAt 27 = .ok (.new 68, 3) := by decide +kernel
theorem dX7_faultAt_30 : decode cX7_faultAt 30 = .ok (.dup, 1) := by decide +kernel
theorem dX7_faultAt_31 : decode cX7_faultAt 31 = .ok (.ldc_w 259, 3) := by decide +kernel
theorem dX7_faultAt_34 : decode cX7_faultAt 34 = .ok (.invokespecial 72, 3) := by decide +kernel
theorem dX7_faultAt_37 : decode cX7_faultAt 37 = .ok (.athrow, 1) := by decide +kernel
theorem dX7_faultAt_38 : decode cX7_faultAt 38 = .ok (.aload_n 0, 1) := by decide +kernel
theorem dX7_faultAt_39 : decode cX7_faultAt 39 = .ok (.iload_n 1, 1) := by decide +kernel
theorem dX7_faultAt_40 : decode cX7_faultAt 40 = .ok (.iload_n 2, 1) := by decide +kernel
theorem dX7_faultAt_41 : decode cX7_faultAt 41 = .ok (.invokevirtual 261, 3) := by decide +kernel
theorem dX7_faultAt_44 : decode cX7_faultAt 44 = .ok (.ireturn, 1) := by decide +kernel
theorem dX7_count_0 : decode cX7_count 0 = .ok (.iload_n 1, 1) := by decide +kernel
theorem dX7_count_1 : decode cX7_count 1 = .ok (.ifCond .lt 9, 3) := by decide +kernel
theorem dX7_count_4 : decode cX7_count 4 = .ok (.iload_n 1, 1) := by decide +kernel
theorem dX7_count_5 : decode cX7_count 5 = .ok (.bipush 12, 2) := by decide +kernel
theorem dX7_count_7 : decode cX7_count 7 = .ok (.if_icmp .lt 14, 3) := by decide +kernel
theorem dX7_count_10 : decode cX7_count 10 = .ok (.new 68, 3) := by decide +kernel
theorem dX7_count_13 : decode cX7_count 13 = .ok (.dup, 1) := by decide +kernel
theorem dX7_count_14 : decode cX7_count 14 = .ok (.ldc_w 264, 3) := by decide +kernel
theorem dX7_count_17 : decode cX7_count 17 = .ok (.invokespecial 72, 3) := by decide +kernel
theorem dX7_count_20 : decode cX7_count 20 = .ok (.athrow, 1) := by decide +kernel
theorem dX7_count_21 : decode cX7_count 21 = .ok (.aload_n 0, 1) := by decide +kernel
theorem dX7_count_22 : decode cX7_count 22 = .ok (.iload_n 1, 1) := by decide +kernel
theorem dX7_count_23 : decode cX7_count 23 = .ok (.invokevirtual 266, 3) := by decide +kernel
theorem dX7_count_26 : decode cX7_count 26 = .ok (.ireturn, 1) := by decide +kernel
theorem dX7_lamp_0 : decode cX7_lamp 0 = .ok (.iload_n 1, 1) := by decide +kernel
theorem dX7_lamp_1 : decode cX7_lamp 1 = .ok (.invokestatic 270, 3) := by decide +kernel
theorem dX7_lamp_4 : decode cX7_lamp 4 = .ok (.ifCond .ne 14, 3) := by decide +kernel
theorem dX7_lamp_7 : decode cX7_lamp 7 = .ok (.new 58, 3) := by decide +kernel
theorem dX7_lamp_10 : decode cX7_lamp 10 = .ok (.dup, 1) := by decide +kernel
theorem dX7_lamp_11 : decode cX7_lamp 11 = .ok (.ldc_w 273, 3) := by decide +kernel
theorem dX7_lamp_14 : decode cX7_lamp 14 = .ok (.invokespecial 62, 3) := by decide +kernel
theorem dX7_lamp_17 : decode cX7_lamp 17 = .ok (.athrow, 1) := by decide +kernel
theorem dX7_lamp_18 : decode cX7_lamp 18 = .ok (.aload_n 0, 1) := by decide +kernel
theorem dX7_lamp_19 : decode cX7_lamp 19 = .ok (.getfield 19, 3) := by decide +kernel
theorem dX7_lamp_22 : decode cX7_lamp 22 = .ok (.iload_n 1, 1) := by decide +kernel
theorem dX7_lamp_23 : decode cX7_lamp 23 = .ok (.invokevirtual 275, 3) := by decide +kernel
theorem dX7_lamp_26 : decode cX7_lamp 26 = .ok (.ireturn, 1) := by decide +kernel
theorem dX7_locate_0 : decode cX7_locate 0 = .ok (.iload_n 1, 1) := by decide +kernel
theorem dX7_locate_1 : decode cX7_locate 1 = .ok (.invokestatic 270, 3) := by decide +kernel
theorem dX7_locate_4 : decode cX7_locate 4 = .ok (.ifCond .ne 14, 3) := by decide +kernel
theorem dX7_locate_7 : decode cX7_locate 7 = .ok (.new 58, 3) := by decide +kernel
theorem dX7_locate_10 : decode cX7_locate 10 = .ok (.dup, 1) := by decide +kernel
theorem dX7_locate_11 : decode cX7_locate 11 = .ok (.ldc_w 273, 3) := by decide +kernel
theorem dX7_locate_14 : decode cX7_locate 14 = .ok (.invokespecial 62, 3) := by decide +kernel
theorem dX7_locate_17 : decode cX7_locate 17 = .ok (.athrow, 1) := by decide +kernel
theorem dX7_locate_18 : decode cX7_locate 18 = .ok (.aload_n 0, 1) := by decide +kernel
theorem dX7_locate_19 : decode cX7_locate 19 = .ok (.iload_n 1, 1) := by decide +kernel
theorem dX7_locate_20 : decode cX7_locate 20 = .ok (.invokevirtual 278, 3) := by decide +kernel
theorem dX7_locate_23 : decode cX7_locate 23 = .ok (.ireturn, 1) := by decide +kernel
theorem dX7_ifFault_0 : decode cX7_ifFault 0 = .ok (.aload_n 0, 1) := by decide +kernel
theorem dX7_ifFault_1 : decode cX7_ifFault 1 = .ok (.iload_n 1, 1) := by decide +kernel
theorem dX7_ifFault_2 : decode cX7_ifFault 2 = .ok (.invokevirtual 54, 3) := by decide +kernel
theorem dX7_ifFault_5 : decode cX7_ifFault 5 = .ok (.ifCond .eq 10, 3) := by decide +kernel
theorem dX7_ifFault_8 : decode cX7_ifFault 8 = .ok (.iload_n 2, 1) := by decide +kernel
theorem dX7_ifFault_9 : decode cX7_ifFault 9 = .ok (.invokestatic 118, 3) := by decide +kernel
theorem dX7_ifFault_12 : decode cX7_ifFault 12 = .ok (.ifCond .ne 13, 3) := by decide +kernel
theorem dX7_ifFault_15 : decode cX7_ifFault 15 = .ok (.new 58, 3) := by decide +kernel
theorem dX7_ifFault_18 : decode cX7_ifFault 18 = .ok (.dup, 1) := by decide +kernel
theorem dX7_ifFault_19 : decode cX7_ifFault 19 = .ok (.ldc 168, 2) := by decide +kernel
theorem dX7_ifFault_21 : decode cX7_ifFault 21 = .ok (.invokespecial 62, 3) := by decide +kernel
theorem dX7_ifFault_24 : decode cX7_ifFault 24 = .ok (.athrow, 1) := by decide +kernel
theorem dX7_ifFault_25 : decode cX7_ifFault 25 = .ok (.iload_n 3, 1) := by decide +kernel
theorem dX7_ifFault_26 : decode cX7_ifFault 26 = .ok (.invokestatic 170, 3) := by decide +kernel
theorem dX7_ifFault_29 : decode cX7_ifFault 29 = .ok (.ifCond .eq 14, 3) := by decide +kernel
theorem dX7_ifFault_32 : decode cX7_ifFault 32 = .ok (.iload 4, 2) := by decide +kernel
theorem dX7_ifFault_34 : decode cX7_ifFault 34 = .ok (.ifCond .lt 9, 3) := by decide +kernel
theorem dX7_ifFault_37 : decode cX7_ifFault 37 = .ok (.iload 4, 2) := by decide +kernel
theorem dX7_ifFault_39 : decode cX7_ifFault 39 = .ok (.iconst 4, 1) := by decide +kernel
theorem dX7_ifFault_40 : decode cX7_ifFault 40 = .ok (.if_icmp .lt 14, 3) := by decide +kernel
theorem dX7_ifFault_43 : decode cX7_ifFault 43 = .ok (.new 68, 3) := by decide +kernel
theorem dX7_ifFault_46 : decode cX7_ifFault 46 = .ok (.dup, 1) := by decide +kernel
theorem dX7_ifFault_47 : decode cX7_ifFault 47 = .ok (.ldc_w 281, 3) := by decide +kernel
theorem dX7_ifFault_50 : decode cX7_ifFault 50 = .ok (.invokespecial 72, 3) := by decide +kernel
theorem dX7_ifFault_53 : decode cX7_ifFault 53 = .ok (.athrow, 1) := by decide +kernel
theorem dX7_ifFault_54 : decode cX7_ifFault 54 = .ok (.aload_n 0, 1) := by decide +kernel
theorem dX7_ifFault_55 : decode cX7_ifFault 55 = .ok (.getfield 23, 3) := by decide +kernel
theorem dX7_ifFault_58 : decode cX7_ifFault 58 = .ok (.aload_n 0, 1) := by decide +kernel
theorem dX7_ifFault_59 : decode cX7_ifFault 59 = .ok (.getfield 12, 3) := by decide +kernel
theorem dX7_ifFault_62 : decode cX7_ifFault 62 = .ok (.invokevirtual 283, 3) := by decide +kernel
theorem dX7_ifFault_65 : decode cX7_ifFault 65 = .ok (.aload_n 0, 1) := by decide +kernel
theorem dX7_ifFault_66 : decode cX7_ifFault 66 = .ok (.getfield 23, 3) := by decide +kernel
theorem dX7_ifFault_69 : decode cX7_ifFault 69 = .ok (.getfield 175, 3) := by decide +kernel
theorem dX7_ifFault_72 : decode cX7_ifFault 72 = .ok (.iload_n 1, 1) := by decide +kernel
theorem dX7_ifFault_73 : decode cX7_ifFault 73 = .ok (.iload_n 2, 1) := by decide +kernel
theorem dX7_ifFault_74 : decode cX7_ifFault 74 = .ok (.iload_n 3, 1) := by decide +kernel
theorem dX7_ifFault_75 : decode cX7_ifFault 75 = .ok (.invokevirtual 184, 3) := by decide +kernel
theorem dX7_ifFault_78 : decode cX7_ifFault 78 = .ok (.aload_n 0, 1) := by decide +kernel
theorem dX7_ifFault_79 : decode cX7_ifFault 79 = .ok (.getfield 26, 3) := by decide +kernel
theorem dX7_ifFault_82 : decode cX7_ifFault 82 = .ok (.aload_n 0, 1) := by decide +kernel
theorem dX7_ifFault_83 : decode cX7_ifFault 83 = .ok (.getfield 23, 3) := by decide +kernel
theorem dX7_ifFault_86 : decode cX7_ifFault 86 = .ok (.invokevirtual 239, 3) := by decide +kernel
theorem dX7_ifFault_89 : decode cX7_ifFault 89 = .ok (.aload_n 0, 1) := by decide +kernel
theorem dX7_ifFault_90 : decode cX7_ifFault 90 = .ok (.getfield 26, 3) := by decide +kernel
theorem dX7_ifFault_93 : decode cX7_ifFault 93 = .ok (.aload_n 0, 1) := by decide +kernel
theorem dX7_ifFault_94 : decode cX7_ifFault 94 = .ok (.getfield 23, 3) := by decide +kernel
theorem dX7_ifFault_97 : decode cX7_ifFault 97 = .ok (.getfield 73, 3) := by decide +kernel
theorem dX7_ifFault_100 : decode cX7_ifFault 100 = .ok (.invokevirtual 286, 3) := by decide +kernel
theorem dX7_ifFault_103 : decode cX7_ifFault 103 = .ok (.istore 5, 2) := by decide +kernel
theorem dX7_ifFault_105 : decode cX7_ifFault 105 = .ok (.aload_n 0, 1) := by decide +kernel
theorem dX7_ifFault_106 : decode cX7_ifFault 106 = .ok (.getfield 23, 3) := by decide +kernel
theorem dX7_ifFault_109 : decode cX7_ifFault 109 = .ok (.aload_n 0, 1) := by decide +kernel
theorem dX7_ifFault_110 : decode cX7_ifFault 110 = .ok (.getfield 26, 3) := by decide +kernel
theorem dX7_ifFault_113 : decode cX7_ifFault 113 = .ok (.invokestatic 95, 3) := by decide +kernel
theorem dX7_ifFault_116 : decode cX7_ifFault 116 = .ok (.istore 6, 2) := by decide +kernel
theorem dX7_ifFault_118 : decode cX7_ifFault 118 = .ok (.iload 4, 2) := by decide +kernel
theorem dX7_ifFault_120 : decode cX7_ifFault 120 = .ok (.tableswitch 47 0 2 #[28, 31, 39], 28) := by decide +kernel
theorem dX7_ifFault_148 : decode cX7_ifFault 148 = .ok (.iload 6, 2) := by decide +kernel
theorem dX7_ifFault_150 : decode cX7_ifFault 150 = .ok (.ireturn, 1) := by decide +kernel
theorem dX7_ifFault_151 : decode cX7_ifFault 151 = .ok (.aload_n 0, 1) := by decide +kernel
theorem dX7_ifFault_152 : decode cX7_ifFault 152 = .ok (.getfield 26, 3) := by decide +kernel
theorem dX7_ifFault_155 : decode cX7_ifFault 155 = .ok (.getfield 115, 3) := by decide +kernel
theorem dX7_ifFault_158 : decode cX7_ifFault 158 = .ok (.ireturn, 1) := by decide +kernel
theorem dX7_ifFault_159 : decode cX7_ifFault 159 = .ok (.aload_n 0, 1) := by decide +kernel
theorem dX7_ifFault_160 : decode cX7_ifFault 160 = .ok (.getfield 26, 3) := by decide +kernel
theorem dX7_ifFault_163 : decode cX7_ifFault 163 = .ok (.getfield 213, 3) := by decide +kernel
theorem dX7_ifFault_166 : decode cX7_ifFault 166 = .ok (.ireturn, 1) := by decide +kernel
theorem dX7_ifFault_167 : decode cX7_ifFault 167 = .ok (.iload 5, 2) := by decide +kernel
theorem dX7_ifFault_169 : decode cX7_ifFault 169 = .ok (.iconst (-1), 1) := by decide +kernel
theorem dX7_ifFault_170 : decode cX7_ifFault 170 = .ok (.if_icmp .ne 7, 3) := by decide +kernel
theorem dX7_ifFault_173 : decode cX7_ifFault 173 = .ok (.iconst (-1), 1) := by decide +kernel
theorem dX7_ifFault_174 : decode cX7_ifFault 174 = .ok (.goto 18, 3) := by decide +kernel
theorem dX7_ifFault_177 : decode cX7_ifFault 177 = .ok (.bipush 100, 2) := by decide +kernel
theorem dX7_ifFault_179 : decode cX7_ifFault 179 = .ok (.iload 5, 2) := by decide +kernel
theorem dX7_ifFault_181 : decode cX7_ifFault 181 = .ok (.iconst 1, 1) := by decide +kernel
theorem dX7_ifFault_182 : decode cX7_ifFault 182 = .ok (.ishr, 1) := by decide +kernel
theorem dX7_ifFault_183 : decode cX7_ifFault 183 = .ok (.imul, 1) := by decide +kernel
theorem dX7_ifFault_184 : decode cX7_ifFault 184 = .ok (.bipush 10, 2) := by decide +kernel
theorem dX7_ifFault_186 : decode cX7_ifFault 186 = .ok (.iload 5, 2) := by decide +kernel
theorem dX7_ifFault_188 : decode cX7_ifFault 188 = .ok (.iconst 1, 1) := by decide +kernel
theorem dX7_ifFault_189 : decode cX7_ifFault 189 = .ok (.iand, 1) := by decide +kernel
theorem dX7_ifFault_190 : decode cX7_ifFault 190 = .ok (.imul, 1) := by decide +kernel
theorem dX7_ifFault_191 : decode cX7_ifFault 191 = .ok (.iadd, 1) := by decide +kernel
theorem dX7_ifFault_192 : decode cX7_ifFault 192 = .ok (.ireturn, 1) := by decide +kernel
theorem dX7_ifToggled_0 : decode cX7_ifToggled 0 = .ok (.aload_n 0, 1) := by decide +kernel
theorem dX7_ifToggled_1 : decode cX7_ifToggled 1 = .ok (.iload_n 1, 1) := by decide +kernel
theorem dX7_ifToggled_2 : decode cX7_ifToggled 2 = .ok (.invokevirtual 99, 3) := by decide +kernel
theorem dX7_ifToggled_5 : decode cX7_ifToggled 5 = .ok (.ifCond .ne 13, 3) := by decide +kernel
theorem dX7_ifToggled_8 : decode cX7_ifToggled 8 = .ok (.new 58, 3) := by decide +kernel
theorem dX7_ifToggled_11 : decode cX7_ifToggled 11 = .ok (.dup, 1) := by decide +kernel
theorem dX7_ifToggled_12 : decode cX7_ifToggled 12 = .ok (.ldc 102, 2) := by decide +kernel
theorem dX7_ifToggled_14 : decode cX7_ifToggled 14 = .ok (.invokespecial 62, 3) := by decide +kernel
theorem dX7_ifToggled_17 : decode cX7_ifToggled 17 = .ok (.athrow, 1) := by decide +kernel
theorem dX7_ifToggled_18 : decode cX7_ifToggled 18 = .ok (.aload_n 0, 1) := by decide +kernel
theorem dX7_ifToggled_19 : decode cX7_ifToggled 19 = .ok (.iload_n 1, 1) := by decide +kernel
theorem dX7_ifToggled_20 : decode cX7_ifToggled 20 = .ok (.invokevirtual 290, 3) := by decide +kernel
theorem dX7_ifToggled_23 : decode cX7_ifToggled 23 = .ok (.ireturn, 1) := by decide +kernel
theorem dX7_neededRating_0 : decode cX7_neededRating 0 = .ok (.aload_n 0, 1) := by decide +kernel
theorem dX7_neededRating_1 : decode cX7_neededRating 1 = .ok (.iload_n 1, 1) := by decide +kernel
theorem dX7_neededRating_2 : decode cX7_neededRating 2 = .ok (.invokevirtual 99, 3) := by decide +kernel
theorem dX7_neededRating_5 : decode cX7_neededRating 5 = .ok (.ifCond .eq 10, 3) := by decide +kernel
theorem dX7_neededRating_8 : decode cX7_neededRating 8 = .ok (.iload_n 2, 1) := by decide +kernel
theorem dX7_neededRating_9 : decode cX7_neededRating 9 = .ok (.invokestatic 118, 3) := by decide +kernel
theorem dX7_neededRating_12 : decode cX7_neededRating 12 = .ok (.ifCond .ne 13, 3) := by decide +kernel
theorem dX7_neededRating_15 : decode cX7_neededRating 15 = .ok (.new 58, 3) := by decide +kernel
theorem dX7_neededRating_18 : decode cX7_neededRating 18 = .ok (.dup, 1) := by decide +kernel
theorem dX7_neededRating_19 : decode cX7_neededRating 19 = .ok (.ldc 121, 2) := by decide +kernel
theorem dX7_neededRating_21 : decode cX7_neededRating 21 = .ok (.invokespecial 62, 3) := by decide +kernel
theorem dX7_neededRating_24 : decode cX7_neededRating 24 = .ok (.athrow, 1) := by decide +kernel
theorem dX7_neededRating_25 : decode cX7_neededRating 25 = .ok (.aload_n 0, 1) := by decide +kernel
theorem dX7_neededRating_26 : decode cX7_neededRating 26 = .ok (.invokevirtual 293, 3) := by decide +kernel
theorem dX7_neededRating_29 : decode cX7_neededRating 29 = .ok (.aload_n 0, 1) := by decide +kernel
theorem dX7_neededRating_30 : decode cX7_neededRating 30 = .ok (.getfield 29, 3) := by decide +kernel
theorem dX7_neededRating_33 : decode cX7_neededRating 33 = .ok (.iconst 2, 1) := by decide +kernel
theorem dX7_neededRating_34 : decode cX7_neededRating 34 = .ok (.iload_n 1, 1) := by decide +kernel
theorem dX7_neededRating_35 : decode cX7_neededRating 35 = .ok (.imul, 1) := by decide +kernel
theorem dX7_neededRating_36 : decode cX7_neededRating 36 = .ok (.iload_n 2, 1) := by decide +kernel
theorem dX7_neededRating_37 : decode cX7_neededRating 37 = .ok (.iadd, 1) := by decide +kernel
theorem dX7_neededRating_38 : decode cX7_neededRating 38 = .ok (.invokevirtual 296, 3) := by decide +kernel
theorem dX7_neededRating_41 : decode cX7_neededRating 41 = .ok (.ireturn, 1) := by decide +kernel
theorem dX7_lossShare_0 : decode cX7_lossShare 0 = .ok (.aload_n 0, 1) := by decide +kernel
theorem dX7_lossShare_1 : decode cX7_lossShare 1 = .ok (.getfield 12, 3) := by decide +kernel
theorem dX7_lossShare_4 : decode cX7_lossShare 4 = .ok (.getfield 207, 3) := by decide +kernel
theorem dX7_lossShare_7 : decode cX7_lossShare 7 = .ok (.aload_n 0, 1) := by decide +kernel
theorem dX7_lossShare_8 : decode cX7_lossShare 8 = .ok (.getfield 12, 3) := by decide +kernel
theorem dX7_lossShare_11 : decode cX7_lossShare 11 = .ok (.getfield 210, 3) := by decide +kernel
theorem dX7_lossShare_14 : decode cX7_lossShare 14 = .ok (.iadd, 1) := by decide +kernel
theorem dX7_lossShare_15 : decode cX7_lossShare 15 = .ok (.istore_n 1, 1) := by decide +kernel
theorem dX7_lossShare_16 : decode cX7_lossShare 16 = .ok (.iload_n 1, 1) := by decide +kernel
theorem dX7_lossShare_17 : decode cX7_lossShare 17 = .ok (.ifCond .ne 5, 3) := by decide +kernel
theorem dX7_lossShare_20 : decode cX7_lossShare 20 = .ok (.dconst 0, 1) := by decide +kernel
theorem dX7_lossShare_21 : decode cX7_lossShare 21 = .ok (.dreturn, 1) := by decide +kernel
theorem dX7_lossShare_22 : decode cX7_lossShare 22 = .ok (.aload_n 0, 1) := by decide +kernel
theorem dX7_lossShare_23 : decode cX7_lossShare 23 = .ok (.getfield 12, 3) := by decide +kernel
theorem dX7_lossShare_26 : decode cX7_lossShare 26 = .ok (.getfield 210, 3) := by decide +kernel
theorem dX7_lossShare_29 : decode cX7_lossShare 29 = .ok (.i2d, 1) := by decide +kernel
theorem dX7_lossShare_30 : decode cX7_lossShare 30 = .ok (.iload_n 1, 1) := by decide +kernel
theorem dX7_lossShare_31 : decode cX7_lossShare 31 = .ok (.i2d, 1) := by decide +kernel
theorem dX7_lossShare_32 : decode cX7_lossShare 32 = .ok (.ddiv, 1) := by decide +kernel
theorem dX7_lossShare_33 : decode cX7_lossShare 33 = .ok (.dreturn, 1) := by decide +kernel
theorem dX7_isBox_0 : decode cX7_isBox 0 = .ok (.iload_n 1, 1) := by decide +kernel
theorem dX7_isBox_1 : decode cX7_isBox 1 = .ok (.ifCond .lt 21, 3) := by decide +kernel
theorem dX7_isBox_4 : decode cX7_isBox 4 = .ok (.iload_n 1, 1) := by decide +kernel
theorem dX7_isBox_5 : decode cX7_isBox 5 = .ok (.aload_n 0, 1) := by decide +kernel
theorem dX7_isBox_6 : decode cX7_isBox 6 = .ok (.getfield 12, 3) := by decide +kernel
theorem dX7_isBox_9 : decode cX7_isBox 9 = .ok (.getfield 73, 3) := by decide +kernel
theorem dX7_isBox_12 : decode cX7_isBox 12 = .ok (.getfield 77, 3) := by decide +kernel
theorem dX7_isBox_15 : decode cX7_isBox 15 = .ok (.if_icmp .ge 7, 3) := by decide +kernel
theorem dX7_isBox_18 : decode cX7_isBox 18 = .ok (.iconst 1, 1) := by decide +kernel
theorem dX7_isBox_19 : decode cX7_isBox 19 = .ok (.goto 4, 3) := by decide +kernel
theorem dX7_isBox_22 : decode cX7_isBox 22 = .ok (.iconst 0, 1) := by decide +kernel
theorem dX7_isBox_23 : decode cX7_isBox 23 = .ok (.ireturn, 1) := by decide +kernel
theorem dX7_isFedBox_0 : decode cX7_isFedBox 0 = .ok (.iload_n 1, 1) := by decide +kernel
theorem dX7_isFedBox_1 : decode cX7_isFedBox 1 = .ok (.ifCond .le 21, 3) := by decide +kernel
theorem dX7_isFedBox_4 : decode cX7_isFedBox 4 = .ok (.iload_n 1, 1) := by decide +kernel
theorem dX7_isFedBox_5 : decode cX7_isFedBox 5 = .ok (.aload_n 0, 1) := by decide +kernel
theorem dX7_isFedBox_6 : decode cX7_isFedBox 6 = .ok (.getfield 12, 3) := by decide +kernel
theorem dX7_isFedBox_9 : decode cX7_isFedBox 9 = .ok (.getfield 73, 3) := by decide +kernel
theorem dX7_isFedBox_12 : decode cX7_isFedBox 12 = .ok (.getfield 77, 3) := by decide +kernel
theorem dX7_isFedBox_15 : decode cX7_isFedBox 15 = .ok (.if_icmp .ge 7, 3) := by decide +kernel
theorem dX7_isFedBox_18 : decode cX7_isFedBox 18 = .ok (.iconst 1, 1) := by decide +kernel
theorem dX7_isFedBox_19 : decode cX7_isFedBox 19 = .ok (.goto 4, 3) := by decide +kernel
theorem dX7_isFedBox_22 : decode cX7_isFedBox 22 = .ok (.iconst 0, 1) := by decide +kernel
theorem dX7_isFedBox_23 : decode cX7_isFedBox 23 = .ok (.ireturn, 1) := by decide +kernel
theorem dX7_isLantern_0 : decode cX7_isLantern 0 = .ok (.iload_n 1, 1) := by decide +kernel
theorem dX7_isLantern_1 : decode cX7_isLantern 1 = .ok (.ifCond .lt 21, 3) := by decide +kernel
theorem dX7_isLantern_4 : decode cX7_isLantern 4 = .ok (.iload_n 1, 1) := by decide +kernel
theorem dX7_isLantern_5 : decode cX7_isLantern 5 = .ok (.aload_n 0, 1) := by decide +kernel
theorem dX7_isLantern_6 : decode cX7_isLantern 6 = .ok (.getfield 12, 3) := by decide +kernel
theorem dX7_isLantern_9 : decode cX7_isLantern 9 = .ok (.getfield 142, 3) := by decide +kernel
theorem dX7_isLantern_12 : decode cX7_isLantern 12 = .ok (.getfield 146, 3) := by decide +kernel
theorem dX7_isLantern_15 : decode cX7_isLantern 15 = .ok (.if_icmp .ge 7, 3) := by decide +kernel
theorem dX7_isLantern_18 : decode cX7_isLantern 18 = .ok (.iconst 1, 1) := by decide +kernel
theorem dX7_isLantern_19 : decode cX7_isLantern 19 = .ok (.goto 4, 3) := by decide +kernel
theorem dX7_isLantern_22 : decode cX7_isLantern 22 = .ok (.iconst 0, 1) := by decide +kernel
theorem dX7_isLantern_23 : decode cX7_isLantern 23 = .ok (.ireturn, 1) := by decide +kernel
theorem dX7_isFault_0 : decode cX7_isFault 0 = .ok (.iload_n 1, 1) := by decide +kernel
theorem dX7_isFault_1 : decode cX7_isFault 1 = .ok (.ifCond .lt 21, 3) := by decide +kernel
theorem dX7_isFault_4 : decode cX7_isFault 4 = .ok (.iload_n 1, 1) := by decide +kernel
theorem dX7_isFault_5 : decode cX7_isFault 5 = .ok (.aload_n 0, 1) := by decide +kernel
theorem dX7_isFault_6 : decode cX7_isFault 6 = .ok (.getfield 12, 3) := by decide +kernel
theorem dX7_isFault_9 : decode cX7_isFault 9 = .ok (.getfield 175, 3) := by decide +kernel
theorem dX7_isFault_12 : decode cX7_isFault 12 = .ok (.getfield 179, 3) := by decide +kernel
theorem dX7_isFault_15 : decode cX7_isFault 15 = .ok (.if_icmp .ge 7, 3) := by decide +kernel
theorem dX7_isFault_18 : decode cX7_isFault 18 = .ok (.iconst 1, 1) := by decide +kernel
theorem dX7_isFault_19 : decode cX7_isFault 19 = .ok (.goto 4, 3) := by decide +kernel
theorem dX7_isFault_22 : decode cX7_isFault 22 = .ok (.iconst 0, 1) := by decide +kernel
theorem dX7_isFault_23 : decode cX7_isFault 23 = .ok (.ireturn, 1) := by decide +kernel
theorem dX7_isTerminal_0 : decode cX7_isTerminal 0 = .ok (.iload_n 0, 1) := by decide +kernel
theorem dX7_isTerminal_1 : decode cX7_isTerminal 1 = .ok (.ifCond .eq 8, 3) := by decide +kernel
theorem dX7_isTerminal_4 : decode cX7_isTerminal 4 = .ok (.iload_n 0, 1) := by decide +kernel
theorem dX7_isTerminal_5 : decode cX7_isTerminal 5 = .ok (.iconst 1, 1) := by decide +kernel
theorem dX7_isTerminal_6 : decode cX7_isTerminal 6 = .ok (.if_icmp .ne 7, 3) := by decide +kernel
theorem dX7_isTerminal_9 : decode cX7_isTerminal 9 = .ok (.iconst 1, 1) := by decide +kernel
theorem dX7_isTerminal_10 : decode cX7_isTerminal 10 = .ok (.goto 4, 3) := by decide +kernel
theorem dX7_isTerminal_13 : decode cX7_isTerminal 13 = .ok (.iconst 0, 1) := by decide +kernel
theorem dX7_isTerminal_14 : decode cX7_isTerminal 14 = .ok (.ireturn, 1) := by decide +kernel
theorem dX7_isPole_0 : decode cX7_isPole 0 = .ok (.iload_n 0, 1) := by decide +kernel
theorem dX7_isPole_1 : decode cX7_isPole 1 = .ok (.ifCond .eq 8, 3) := by decide +kernel
theorem dX7_isPole_4 : decode cX7_isPole 4 = .ok (.iload_n 0, 1) := by decide +kernel
theorem dX7_isPole_5 : decode cX7_isPole 5 = .ok (.iconst 1, 1) := by decide +kernel
theorem dX7_isPole_6 : decode cX7_isPole 6 = .ok (.if_icmp .ne 7, 3) := by decide +kernel
theorem dX7_isPole_9 : decode cX7_isPole 9 = .ok (.iconst 1, 1) := by decide +kernel
theorem dX7_isPole_10 : decode cX7_isPole 10 = .ok (.goto 4, 3) := by decide +kernel
theorem dX7_isPole_13 : decode cX7_isPole 13 = .ok (.iconst 0, 1) := by decide +kernel
theorem dX7_isPole_14 : decode cX7_isPole 14 = .ok (.ireturn, 1) := by decide +kernel
theorem dX7_isRating_0 : decode cX7_isRating 0 = .ok (.iload_n 0, 1) := by decide +kernel
theorem dX7_isRating_1 : decode cX7_isRating 1 = .ok (.iconst 1, 1) := by decide +kernel
theorem dX7_isRating_2 : decode cX7_isRating 2 = .ok (.if_icmp .lt 13, 3) := by decide +kernel
theorem dX7_isRating_5 : decode cX7_isRating 5 = .ok (.iload_n 0, 1) := by decide +kernel
theorem dX7_isRating_6 : decode cX7_isRating 6 = .ok (.bipush 60, 2) := by decide +kernel
theorem dX7_isRating_8 : decode cX7_isRating 8 = .ok (.if_icmp .gt 7, 3) := by decide +kernel
theorem dX7_isRating_11 : decode cX7_isRating 11 = .ok (.iconst 1, 1) := by decide +kernel
theorem dX7_isRating_12 : decode cX7_isRating 12 = .ok (.goto 4, 3) := by decide +kernel
theorem dX7_isRating_15 : decode cX7_isRating 15 = .ok (.iconst 0, 1) := by decide +kernel
theorem dX7_isRating_16 : decode cX7_isRating 16 = .ok (.ireturn, 1) := by decide +kernel
theorem dX7_isStrength_0 : decode cX7_isStrength 0 = .ok (.iload_n 0, 1) := by decide +kernel
theorem dX7_isStrength_1 : decode cX7_isStrength 1 = .ok (.iconst 1, 1) := by decide +kernel
theorem dX7_isStrength_2 : decode cX7_isStrength 2 = .ok (.if_icmp .lt 13, 3) := by decide +kernel
theorem dX7_isStrength_5 : decode cX7_isStrength 5 = .ok (.iload_n 0, 1) := by decide +kernel
theorem dX7_isStrength_6 : decode cX7_isStrength 6 = .ok (.bipush 30, 2) := by decide +kernel
theorem dX7_isStrength_8 : decode cX7_isStrength 8 = .ok (.if_icmp .gt 7, 3) := by decide +kernel
theorem dX7_isStrength_11 : decode cX7_isStrength 11 = .ok (.iconst 1, 1) := by decide +kernel
theorem dX7_isStrength_12 : decode cX7_isStrength 12 = .ok (.goto 4, 3) := by decide +kernel
theorem dX7_isStrength_15 : decode cX7_isStrength 15 = .ok (.iconst 0, 1) := by decide +kernel
theorem dX7_isStrength_16 : decode cX7_isStrength 16 = .ok (.ireturn, 1) := by decide +kernel
theorem dX7_oneIf_0 : decode cX7_oneIf 0 = .ok (.iload_n 0, 1) := by decide +kernel
theorem dX7_oneIf_1 : decode cX7_oneIf 1 = .ok (.ifCond .eq 7, 3) := by decide +kernel
theorem dX7_oneIf_4 : decode cX7_oneIf 4 = .ok (.iconst 1, 1) := by decide +kernel
theorem dX7_oneIf_5 : decode cX7_oneIf 5 = .ok (.goto 4, 3) := by decide +kernel
theorem dX7_oneIf_8 : decode cX7_oneIf 8 = .ok (.iconst 0, 1) := by decide +kernel
theorem dX7_oneIf_9 : decode cX7_oneIf 9 = .ok (.ireturn, 1) := by decide +kernel
theorem dX7_settle_0 : decode cX7_settle 0 = .ok (.aload_n 1, 1) := by decide +kernel
theorem dX7_settle_1 : decode cX7_settle 1 = .ok (.aload_n 0, 1) := by decide +kernel
theorem dX7_settle_2 : decode cX7_settle 2 = .ok (.invokevirtual 239, 3) := by decide +kernel
theorem dX7_settle_5 : decode cX7_settle 5 = .ok (.iconst 0, 1) := by decide +kernel
theorem dX7_settle_6 : decode cX7_settle 6 = .ok (.istore_n 2, 1) := by decide +kernel
theorem dX7_settle_7 : decode cX7_settle 7 = .ok (.iload_n 2, 1) := by decide +kernel
theorem dX7_settle_8 : decode cX7_settle 8 = .ok (.bipush 24, 2) := by decide +kernel
theorem dX7_settle_10 : decode cX7_settle 10 = .ok (.if_icmp .ge 50, 3) := by decide +kernel
theorem dX7_settle_13 : decode cX7_settle 13 = .ok (.aload_n 1, 1) := by decide +kernel
theorem dX7_settle_14 : decode cX7_settle 14 = .ok (.aload_n 0, 1) := by decide +kernel
theorem dX7_settle_15 : decode cX7_settle 15 = .ok (.getfield 73, 3) := by decide +kernel
theorem dX7_settle_18 : decode cX7_settle 18 = .ok (.invokevirtual 286, 3) := by decide +kernel
theorem dX7_settle_21 : decode cX7_settle 21 = .ok (.istore_n 3, 1) := by decide +kernel
theorem dX7_settle_22 : decode cX7_settle 22 = .ok (.iload_n 3, 1) := by decide +kernel
theorem dX7_settle_23 : decode cX7_settle 23 = .ok (.iconst (-1), 1) := by decide +kernel
theorem dX7_settle_24 : decode cX7_settle 24 = .ok (.if_icmp .ne 5, 3) := by decide +kernel
theorem dX7_settle_27 : decode cX7_settle 27 = .ok (.iload_n 2, 1) := by decide +kernel
theorem dX7_settle_28 : decode cX7_settle 28 = .ok (.ireturn, 1) := by decide +kernel
theorem dX7_settle_29 : decode cX7_settle 29 = .ok (.aload_n 0, 1) := by decide +kernel
theorem dX7_settle_30 : decode cX7_settle 30 = .ok (.getfield 73, 3) := by decide +kernel
theorem dX7_settle_33 : decode cX7_settle 33 = .ok (.getfield 131, 3) := by decide +kernel
theorem dX7_settle_36 : decode cX7_settle 36 = .ok (.iload_n 3, 1) := by decide +kernel
theorem dX7_settle_37 : decode cX7_settle 37 = .ok (.iconst 1, 1) := by decide +kernel
theorem dX7_settle_38 : decode cX7_settle 38 = .ok (.bastore, 1) := by decide +kernel
theorem dX7_settle_39 : decode cX7_settle 39 = .ok (.aload_n 0, 1) := by decide +kernel
theorem dX7_settle_40 : decode cX7_settle 40 = .ok (.dup, 1) := by decide +kernel
theorem dX7_settle_41 : decode cX7_settle 41 = .ok (.getfield 324, 3) := by decide +kernel
theorem dX7_settle_44 : decode cX7_settle 44 = .ok (.iconst 1, 1) := by decide +kernel
theorem dX7_settle_45 : decode cX7_settle 45 = .ok (.iadd, 1) := by decide +kernel
theorem dX7_settle_46 : decode cX7_settle 46 = .ok (.putfield 324, 3) := by decide +kernel
theorem dX7_settle_49 : decode cX7_settle 49 = .ok (.iinc 2 1, 3) := by decide +kernel
theorem dX7_settle_52 : decode cX7_settle 52 = .ok (.aload_n 1, 1) := by decide +kernel
theorem dX7_settle_53 : decode cX7_settle 53 = .ok (.aload_n 0, 1) := by decide +kernel
theorem dX7_settle_54 : decode cX7_settle 54 = .ok (.invokevirtual 239, 3) := by decide +kernel
theorem dX7_settle_57 : decode cX7_settle 57 = .ok (.goto (-50), 3) := by decide +kernel
theorem dX7_settle_60 : decode cX7_settle 60 = .ok (.iload_n 2, 1) := by decide +kernel
theorem dX7_settle_61 : decode cX7_settle 61 = .ok (.ireturn, 1) := by decide +kernel
theorem dX7_burningIfToggled_0 : decode cX7_burningIfToggled 0 = .ok (.aload_n 0, 1) := by decide +kernel
theorem dX7_burningIfToggled_1 : decode cX7_burningIfToggled 1 = .ok (.getfield 23, 3) := by decide +kernel
theorem dX7_burningIfToggled_4 : decode cX7_burningIfToggled 4 = .ok (.aload_n 0, 1) := by decide +kernel
theorem dX7_burningIfToggled_5 : decode cX7_burningIfToggled 5 = .ok (.getfield 12, 3) := by decide +kernel
theorem dX7_burningIfToggled_8 : decode cX7_burningIfToggled 8 = .ok (.invokevirtual 283, 3) := by decide +kernel
theorem dX7_burningIfToggled_11 : decode cX7_burningIfToggled 11 = .ok (.aload_n 0, 1) := by decide +kernel
theorem dX7_burningIfToggled_12 : decode cX7_burningIfToggled 12 = .ok (.getfield 23, 3) := by decide +kernel
theorem dX7_burningIfToggled_15 : decode cX7_burningIfToggled 15 = .ok (.getfield 73, 3) := by decide +kernel
theorem dX7_burningIfToggled_18 : decode cX7_burningIfToggled 18 = .ok (.getfield 104, 3) := by decide +kernel
theorem dX7_burningIfToggled_21 : decode cX7_burningIfToggled 21 = .ok (.iload_n 1, 1) := by decide +kernel
theorem dX7_burningIfToggled_22 : decode cX7_burningIfToggled 22 = .ok (.aload_n 0, 1) := by decide +kernel
theorem dX7_burningIfToggled_23 : decode cX7_burningIfToggled 23 = .ok (.getfield 23, 3) := by decide +kernel
theorem dX7_burningIfToggled_26 : decode cX7_burningIfToggled 26 = .ok (.getfield 73, 3) := by decide +kernel
theorem dX7_burningIfToggled_29 : decode cX7_burningIfToggled 29 = .ok (.getfield 104, 3) := by decide +kernel
theorem dX7_burningIfToggled_32 : decode cX7_burningIfToggled 32 = .ok (.iload_n 1, 1) := by decide +kernel
theorem dX7_burningIfToggled_33 : decode cX7_burningIfToggled 33 = .ok (.baload, 1) := by decide +kernel
theorem dX7_burningIfToggled_34 : decode cX7_burningIfToggled 34 = .ok (.ifCond .ne 7, 3) := by decide +kernel
theorem dX7_burningIfToggled_37 : decode cX7_burningIfToggled 37 = .ok (.iconst 1, 1) := by decide +kernel
theorem dX7_burningIfToggled_38 : decode cX7_burningIfToggled 38 = .ok (.goto 4, 3) := by decide +kernel
theorem dX7_burningIfToggled_41 : decode cX7_burningIfToggled 41 = .ok (.iconst 0, 1) := by decide +kernel
theorem dX7_burningIfToggled_42 : decode cX7_burningIfToggled 42 = .ok (.bastore, 1) := by decide +kernel
theorem dX7_burningIfToggled_43 : decode cX7_burningIfToggled 43 = .ok (.aload_n 0, 1) := by decide +kernel
theorem dX7_burningIfToggled_44 : decode cX7_burningIfToggled 44 = .ok (.getfield 23, 3) := by decide +kernel
theorem dX7_burningIfToggled_47 : decode cX7_burningIfToggled 47 = .ok (.aload_n 0, 1) := by decide +kernel
theorem dX7_burningIfToggled_48 : decode cX7_burningIfToggled 48 = .ok (.getfield 26, 3) := by decide +kernel
theorem dX7_burningIfToggled_51 : decode cX7_burningIfToggled 51 = .ok (.invokestatic 95, 3) := by decide +kernel
theorem dX7_burningIfToggled_54 : decode cX7_burningIfToggled 54 = .ok (.pop, 1) := by decide +kernel
theorem dX7_burningIfToggled_55 : decode cX7_burningIfToggled 55 = .ok (.aload_n 0, 1) := by decide +kernel
theorem dX7_burningIfToggled_56 : decode cX7_burningIfToggled 56 = .ok (.getfield 26, 3) := by decide +kernel
theorem dX7_burningIfToggled_59 : decode cX7_burningIfToggled 59 = .ok (.getfield 115, 3) := by decide +kernel
theorem dX7_burningIfToggled_62 : decode cX7_burningIfToggled 62 = .ok (.ireturn, 1) := by decide +kernel
theorem dX7_surveyWithWholeFuses_0 : decode cX7_surveyWithWholeFuses 0 = .ok (.aload_n 0, 1) := by decide +kernel
theorem dX7_surveyWithWholeFuses_1 : decode cX7_surveyWithWholeFuses 1 = .ok (.getfield 23, 3) := by decide +kernel
theorem dX7_surveyWithWholeFuses_4 : decode cX7_surveyWithWholeFuses 4 = .ok (.aload_n 0, 1) := by decide +kernel
theorem dX7_surveyWithWholeFuses_5 : decode cX7_surveyWithWholeFuses 5 = .ok (.getfield 12, 3) := by decide +kernel
theorem dX7_surveyWithWholeFuses_8 : decode cX7_surveyWithWholeFuses 8 = .ok (.invokevirtual 283, 3) := by decide +kernel
theorem dX7_surveyWithWholeFuses_11 : decode cX7_surveyWithWholeFuses 11 = .ok (.iconst 0, 1) := by decide +kernel
theorem dX7_surveyWithWholeFuses_12 : decode cX7_surveyWithWholeFuses 12 = .ok (.istore_n 1, 1) := by decide +kernel
theorem dX7_surveyWithWholeFuses_13 : decode cX7_surveyWithWholeFuses 13 = .ok (.iload_n 1, 1) := by decide +kernel
theorem dX7_surveyWithWholeFuses_14 : decode cX7_surveyWithWholeFuses 14 = .ok (.iconst 2, 1) := by decide +kernel
theorem dX7_surveyWithWholeFuses_15 : decode cX7_surveyWithWholeFuses 15 = .ok (.aload_n 0, 1) := by decide +kernel
theorem dX7_surveyWithWholeFuses_16 : decode cX7_surveyWithWholeFuses 16 = .ok (.getfield 23, 3) := by decide +kernel
theorem dX7_surveyWithWholeFuses_19 : decode cX7_surveyWithWholeFuses 19 = .ok (.getfield 73, 3) := by decide +kernel
theorem dX7_surveyWithWholeFuses_22 : decode cX7_surveyWithWholeFuses 22 = .ok (.getfield 77, 3) := by decide +kernel
theorem dX7_surveyWithWholeFuses_25 : decode cX7_surveyWithWholeFuses 25 = .ok (.imul, 1) := by decide +kernel
theorem dX7_surveyWithWholeFuses_26 : decode cX7_surveyWithWholeFuses 26 = .ok (.if_icmp .ge 22, 3) := by decide +kernel
theorem dX7_surveyWithWholeFuses_29 : decode cX7_surveyWithWholeFuses 29 = .ok (.aload_n 0, 1) := by decide +kernel
theorem dX7_surveyWithWholeFuses_30 : decode cX7_surveyWithWholeFuses 30 = .ok (.getfield 23, 3) := by decide +kernel
theorem dX7_surveyWithWholeFuses_33 : decode cX7_surveyWithWholeFuses 33 = .ok (.getfield 73, 3) := by decide +kernel
theorem dX7_surveyWithWholeFuses_36 : decode cX7_surveyWithWholeFuses 36 = .ok (.getfield 131, 3) := by decide +kernel
theorem dX7_surveyWithWholeFuses_39 : decode cX7_surveyWithWholeFuses 39 = .ok (.iload_n 1, 1) := by decide +kernel
theorem dX7_surveyWithWholeFuses_40 : decode cX7_surveyWithWholeFuses 40 = .ok (.iconst 0, 1) := by decide +kernel
theorem dX7_surveyWithWholeFuses_41 : decode cX7_surveyWithWholeFuses 41 = .ok (.bastore, 1) := by decide +kernel
theorem dX7_surveyWithWholeFuses_42 : decode cX7_surveyWithWholeFuses 42 = .ok (.iinc 1 1, 3) := by decide +kernel
theorem dX7_surveyWithWholeFuses_45 : decode cX7_surveyWithWholeFuses 45 = .ok (.goto (-32), 3) := by decide +kernel
theorem dX7_surveyWithWholeFuses_48 : decode cX7_surveyWithWholeFuses 48 = .ok (.aload_n 0, 1) := by decide +kernel
theorem dX7_surveyWithWholeFuses_49 : decode cX7_surveyWithWholeFuses 49 = .ok (.getfield 29, 3) := by decide +kernel
theorem dX7_surveyWithWholeFuses_52 : decode cX7_surveyWithWholeFuses 52 = .ok (.aload_n 0, 1) := by decide +kernel
theorem dX7_surveyWithWholeFuses_53 : decode cX7_surveyWithWholeFuses 53 = .ok (.getfield 23, 3) := by decide +kernel
theorem dX7_surveyWithWholeFuses_56 : decode cX7_surveyWithWholeFuses 56 = .ok (.invokevirtual 239, 3) := by decide +kernel
theorem dX7_surveyWithWholeFuses_59 : decode cX7_surveyWithWholeFuses 59 = .ok (.return_, 1) := by decide +kernel
theorem dX7_boxesChangingLamp_0 : decode cX7_boxesChangingLamp 0 = .ok (.iconst 0, 1) := by decide +kernel
theorem dX7_boxesChangingLamp_1 : decode cX7_boxesChangingLamp 1 = .ok (.istore_n 2, 1) := by decide +kernel
theorem dX7_boxesChangingLamp_2 : decode cX7_boxesChangingLamp 2 = .ok (.iconst 1, 1) := by decide +kernel
theorem dX7_boxesChangingLamp_3 : decode cX7_boxesChangingLamp 3 = .ok (.istore_n 3, 1) := by decide +kernel
theorem dX7_boxesChangingLamp_4 : decode cX7_boxesChangingLamp 4 = .ok (.iload_n 3, 1) := by decide +kernel
theorem dX7_boxesChangingLamp_5 : decode cX7_boxesChangingLamp 5 = .ok (.aload_n 0, 1) := by decide +kernel
theorem dX7_boxesChangingLamp_6 : decode cX7_boxesChangingLamp 6 = .ok (.getfield 12, 3) := by decide +kernel
theorem dX7_boxesChangingLamp_9 : decode cX7_boxesChangingLamp 9 = .ok (.getfield 73, 3) := by decide +kernel
theorem dX7_boxesChangingLamp_12 : decode cX7_boxesChangingLamp 12 = .ok (.getfield 77, 3) := by decide +kernel
theorem dX7_boxesChangingLamp_15 : decode cX7_boxesChangingLamp 15 = .ok (.if_icmp .ge 46, 3) := by decide +kernel
theorem dX7_boxesChangingLamp_18 : decode cX7_boxesChangingLamp 18 = .ok (.aload_n 0, 1) := by decide +kernel
theorem dX7_boxesChangingLamp_19 : decode cX7_boxesChangingLamp 19 = .ok (.getfield 12, 3) := by decide +kernel
theorem dX7_boxesChangingLamp_22 : decode cX7_boxesChangingLamp 22 = .ok (.getfield 73, 3) := by decide +kernel
theorem dX7_boxesChangingLamp_25 : decode cX7_boxesChangingLamp 25 = .ok (.getfield 104, 3) := by decide +kernel
theorem dX7_boxesChangingLamp_28 : decode cX7_boxesChangingLamp 28 = .ok (.iload_n 3, 1) := by decide +kernel
theorem dX7_boxesChangingLamp_29 : decode cX7_boxesChangingLamp 29 = .ok (.baload, 1) := by decide +kernel
theorem dX7_boxesChangingLamp_30 : decode cX7_boxesChangingLamp 30 = .ok (.ifCond .eq 25, 3) := by decide +kernel
theorem dX7_boxesChangingLamp_33 : decode cX7_boxesChangingLamp 33 = .ok (.aload_n 0, 1) := by decide +kernel
theorem dX7_boxesChangingLamp_34 : decode cX7_boxesChangingLamp 34 = .ok (.getfield 19, 3) := by decide +kernel
theorem dX7_boxesChangingLamp_37 : decode cX7_boxesChangingLamp 37 = .ok (.getfield 327, 3) := by decide +kernel
theorem dX7_boxesChangingLamp_40 : decode cX7_boxesChangingLamp 40 = .ok (.iconst 2, 1) := by decide +kernel
theorem dX7_boxesChangingLamp_41 : decode cX7_boxesChangingLamp 41 = .ok (.iload_n 3, 1) := by decide +kernel
theorem dX7_boxesChangingLamp_42 : decode cX7_boxesChangingLamp 42 = .ok (.imul, 1) := by decide +kernel
theorem dX7_boxesChangingLamp_43 : decode cX7_boxesChangingLamp 43 = .ok (.iload_n 1, 1) := by decide +kernel
theorem dX7_boxesChangingLamp_44 : decode cX7_boxesChangingLamp 44 = .ok (.iadd, 1) := by decide +kernel
theorem dX7_boxesChangingLamp_45 : decode cX7_boxesChangingLamp 45 = .ok (.iaload, 1) := by decide +kernel
theorem dX7_boxesChangingLamp_46 : decode cX7_boxesChangingLamp 46 = .ok (.ifCond .le 9, 3) := by decide +kernel
theorem dX7_boxesChangingLamp_49 : decode cX7_boxesChangingLamp 49 = .ok (.iload_n 2, 1) := by decide +kernel
theorem dX7_boxesChangingLamp_50 : decode cX7_boxesChangingLamp 50 = .ok (.iconst 1, 1) := by decide +kernel
theorem dX7_boxesChangingLamp_51 : decode cX7_boxesChangingLamp 51 = .ok (.iload_n 3, 1) := by decide +kernel
theorem dX7_boxesChangingLamp_52 : decode cX7_boxesChangingLamp 52 = .ok (.ishl, 1) := by decide +kernel
theorem dX7_boxesChangingLamp_53 : decode cX7_boxesChangingLamp 53 = .ok (.ior, 1) := by decide +kernel
theorem dX7_boxesChangingLamp_54 : decode cX7_boxesChangingLamp 54 = .ok (.istore_n 2, 1) := by decide +kernel
theorem dX7_boxesChangingLamp_55 : decode cX7_boxesChangingLamp 55 = .ok (.iinc 3 1, 3) := by decide +kernel
theorem dX7_boxesChangingLamp_58 : decode cX7_boxesChangingLamp 58 = .ok (.goto (-54), 3) := by decide +kernel
theorem dX7_boxesChangingLamp_61 : decode cX7_boxesChangingLamp 61 = .ok (.iload_n 2, 1) := by decide +kernel
theorem dX7_boxesChangingLamp_62 : decode cX7_boxesChangingLamp 62 = .ok (.ireturn, 1) := by decide +kernel
theorem dX7_boxProperty_0 : decode cX7_boxProperty 0 = .ok (.aload_n 0, 1) := by decide +kernel
theorem dX7_boxProperty_1 : decode cX7_boxProperty 1 = .ok (.getfield 12, 3) := by decide +kernel
theorem dX7_boxProperty_4 : decode cX7_boxProperty 4 = .ok (.getfield 73, 3) := by decide +kernel
theorem dX7_boxProperty_7 : decode cX7_boxProperty 7 = .ok (.astore_n 3, 1) := by decide +kernel
theorem dX7_boxProperty_8 : decode cX7_boxProperty 8 = .ok (.iload_n 2, 1) := by decide +kernel
theorem dX7_boxProperty_9 : decode cX7_boxProperty 9 = .ok (.tableswitch 108 0 5 #[39, 46, 64, 82, 92, 102], 39) := by decide +kernel
theorem dX7_boxProperty_48 : decode cX7_boxProperty 48 = .ok (.aload_n 3, 1) := by decide +kernel
theorem dX7_boxProperty_49 : decode cX7_boxProperty 49 = .ok (.getfield 351, 3) := by decide +kernel
theorem dX7_boxProperty_52 : decode cX7_boxProperty 52 = .ok (.iload_n 1, 1) := by decide +kernel
theorem dX7_boxProperty_53 : decode cX7_boxProperty 53 = .ok (.iaload, 1) := by decide +kernel
theorem dX7_boxProperty_54 : decode cX7_boxProperty 54 = .ok (.ireturn, 1) := by decide +kernel
theorem dX7_boxProperty_55 : decode cX7_boxProperty 55 = .ok (.iload_n 1, 1) := by decide +kernel
theorem dX7_boxProperty_56 : decode cX7_boxProperty 56 = .ok (.ifCond .ne 7, 3) := by decide +kernel
theorem dX7_boxProperty_59 : decode cX7_boxProperty 59 = .ok (.iconst (-1), 1) := by decide +kernel
theorem dX7_boxProperty_60 : decode cX7_boxProperty 60 = .ok (.goto 12, 3) := by decide +kernel
theorem dX7_boxProperty_63 : decode cX7_boxProperty 63 = .ok (.aload_n 3, 1) := by decide +kernel
theorem dX7_boxProperty_64 : decode cX7_boxProperty 64 = .ok (.getfield 112, 3) := by decide +kernel
theorem dX7_boxProperty_67 : decode cX7_boxProperty 67 = .ok (.iload_n 1, 1) := by decide +kernel
theorem dX7_boxProperty_68 : decode cX7_boxProperty 68 = .ok (.baload, 1) := by decide +kernel
theorem dX7_boxProperty_69 : decode cX7_boxProperty 69 = .ok (.invokestatic 108, 3) := by decide +kernel
theorem dX7_boxProperty_72 : decode cX7_boxProperty 72 = .ok (.ireturn, 1) := by decide +kernel
theorem dX7_boxProperty_73 : decode cX7_boxProperty 73 = .ok (.iload_n 1, 1) := by decide +kernel
theorem dX7_boxProperty_74 : decode cX7_boxProperty 74 = .ok (.ifCond .ne 7, 3) := by decide +kernel
theorem dX7_boxProperty_77 : decode cX7_boxProperty 77 = .ok (.iconst (-1), 1) := by decide +kernel
theorem dX7_boxProperty_78 : decode cX7_boxProperty 78 = .ok (.goto 12, 3) := by decide +kernel
theorem dX7_boxProperty_81 : decode cX7_boxProperty 81 = .ok (.aload_n 3, 1) := by decide +kernel
theorem dX7_boxProperty_82 : decode cX7_boxProperty 82 = .ok (.getfield 104, 3) := by decide +kernel
theorem dX7_boxProperty_85 : decode cX7_boxProperty 85 = .ok (.iload_n 1, 1) := by decide +kernel
theorem dX7_boxProperty_86 : decode cX7_boxProperty 86 = .ok (.baload, 1) := by decide +kernel
theorem dX7_boxProperty_87 : decode cX7_boxProperty 87 = .ok (.invokestatic 108, 3) := by decide +kernel
theorem dX7_boxProperty_90 : decode cX7_boxProperty 90 = .ok (.ireturn, 1) := by decide +kernel
theorem dX7_boxProperty_91 : decode cX7_boxProperty 91 = .ok (.aload_n 0, 1) := by decide +kernel
theorem dX7_boxProperty_92 : decode cX7_boxProperty 92 = .ok (.getfield 19, 3) := by decide +kernel
theorem dX7_boxProperty_95 : decode cX7_boxProperty 95 = .ok (.getfield 354, 3) := by decide +kernel
theorem dX7_boxProperty_98 : decode cX7_boxProperty 98 = .ok (.iload_n 1, 1) := by decide +kernel
theorem dX7_boxProperty_99 : decode cX7_boxProperty 99 = .ok (.iaload, 1) := by decide +kernel
theorem dX7_boxProperty_100 : decode cX7_boxProperty 100 = .ok (.ireturn, 1) := by decide +kernel
theorem dX7_boxProperty_101 : decode cX7_boxProperty 101 = .ok (.aload_n 0, 1) := by decide +kernel
theorem dX7_boxProperty_102 : decode cX7_boxProperty 102 = .ok (.getfield 19, 3) := by decide +kernel
theorem dX7_boxProperty_105 : decode cX7_boxProperty 105 = .ok (.getfield 357, 3) := by decide +kernel
theorem dX7_boxProperty_108 : decode cX7_boxProperty 108 = .ok (.iload_n 1, 1) := by decide +kernel
theorem dX7_boxProperty_109 : decode cX7_boxProperty 109 = .ok (.iaload, 1) := by decide +kernel
theorem dX7_boxProperty_110 : decode cX7_boxProperty 110 = .ok (.ireturn, 1) := by decide +kernel
theorem dX7_boxProperty_111 : decode cX7_boxProperty 111 = .ok (.aload_n 0, 1) := by decide +kernel
theorem dX7_boxProperty_112 : decode cX7_boxProperty 112 = .ok (.iload_n 1, 1) := by decide +kernel
theorem dX7_boxProperty_113 : decode cX7_boxProperty 113 = .ok (.invokevirtual 360, 3) := by decide +kernel
theorem dX7_boxProperty_116 : decode cX7_boxProperty 116 = .ok (.ireturn, 1) := by decide +kernel
theorem dX7_boxProperty_117 : decode cX7_boxProperty 117 = .ok (.aload_n 0, 1) := by decide +kernel
theorem dX7_boxProperty_118 : decode cX7_boxProperty 118 = .ok (.iload_n 1, 1) := by decide +kernel
theorem dX7_boxProperty_119 : decode cX7_boxProperty 119 = .ok (.invokevirtual 363, 3) := by decide +kernel
theorem dX7_boxProperty_122 : decode cX7_boxProperty 122 = .ok (.ireturn, 1) := by decide +kernel
theorem dX7_lanternsBurningAt_0 : decode cX7_lanternsBurningAt 0 = .ok (.iconst 0, 1) := by decide +kernel
theorem dX7_lanternsBurningAt_1 : decode cX7_lanternsBurningAt 1 = .ok (.istore_n 2, 1) := by decide +kernel
theorem dX7_lanternsBurningAt_2 : decode cX7_lanternsBurningAt 2 = .ok (.iconst 0, 1) := by decide +kernel
theorem dX7_lanternsBurningAt_3 : decode cX7_lanternsBurningAt 3 = .ok (.istore_n 3, 1) := by decide +kernel
theorem dX7_lanternsBurningAt_4 : decode cX7_lanternsBurningAt 4 = .ok (.iload_n 3, 1) := by decide +kernel
theorem dX7_lanternsBurningAt_5 : decode cX7_lanternsBurningAt 5 = .ok (.aload_n 0, 1) := by decide +kernel
theorem dX7_lanternsBurningAt_6 : decode cX7_lanternsBurningAt 6 = .ok (.getfield 12, 3) := by decide +kernel
theorem dX7_lanternsBurningAt_9 : decode cX7_lanternsBurningAt 9 = .ok (.getfield 142, 3) := by decide +kernel
theorem dX7_lanternsBurningAt_12 : decode cX7_lanternsBurningAt 12 = .ok (.getfield 146, 3) := by decide +kernel
theorem dX7_lanternsBurningAt_15 : decode cX7_lanternsBurningAt 15 = .ok (.if_icmp .ge 40, 3) := by decide +kernel
theorem dX7_lanternsBurningAt_18 : decode cX7_lanternsBurningAt 18 = .ok (.aload_n 0, 1) := by decide +kernel
theorem dX7_lanternsBurningAt_19 : decode cX7_lanternsBurningAt 19 = .ok (.getfield 12, 3) := by decide +kernel
theorem dX7_lanternsBurningAt_22 : decode cX7_lanternsBurningAt 22 = .ok (.getfield 142, 3) := by decide +kernel
theorem dX7_lanternsBurningAt_25 : decode cX7_lanternsBurningAt 25 = .ok (.getfield 366, 3) := by decide +kernel
theorem dX7_lanternsBurningAt_28 : decode cX7_lanternsBurningAt 28 = .ok (.iload_n 3, 1) := by decide +kernel
theorem dX7_lanternsBurningAt_29 : decode cX7_lanternsBurningAt 29 = .ok (.iaload, 1) := by decide +kernel
theorem dX7_lanternsBurningAt_30 : decode cX7_lanternsBurningAt 30 = .ok (.iload_n 1, 1) := by decide +kernel
theorem dX7_lanternsBurningAt_31 : decode cX7_lanternsBurningAt 31 = .ok (.if_icmp .ne 18, 3) := by decide +kernel
theorem dX7_lanternsBurningAt_34 : decode cX7_lanternsBurningAt 34 = .ok (.aload_n 0, 1) := by decide +kernel
theorem dX7_lanternsBurningAt_35 : decode cX7_lanternsBurningAt 35 = .ok (.getfield 19, 3) := by decide +kernel
theorem dX7_lanternsBurningAt_38 : decode cX7_lanternsBurningAt 38 = .ok (.getfield 161, 3) := by decide +kernel
theorem dX7_lanternsBurningAt_41 : decode cX7_lanternsBurningAt 41 = .ok (.iload_n 3, 1) := by decide +kernel
theorem dX7_lanternsBurningAt_42 : decode cX7_lanternsBurningAt 42 = .ok (.baload, 1) := by decide +kernel
theorem dX7_lanternsBurningAt_43 : decode cX7_lanternsBurningAt 43 = .ok (.ifCond .eq 6, 3) := by decide +kernel
theorem dX7_lanternsBurningAt_46 : decode cX7_lanternsBurningAt 46 = .ok (.iinc 2 1, 3) := by decide +kernel
theorem dX7_lanternsBurningAt_49 : decode cX7_lanternsBurningAt 49 = .ok (.iinc 3 1, 3) := by decide +kernel
theorem dX7_lanternsBurningAt_52 : decode cX7_lanternsBurningAt 52 = .ok (.goto (-48), 3) := by decide +kernel
theorem dX7_lanternsBurningAt_55 : decode cX7_lanternsBurningAt 55 = .ok (.iload_n 2, 1) := by decide +kernel
theorem dX7_lanternsBurningAt_56 : decode cX7_lanternsBurningAt 56 = .ok (.ireturn, 1) := by decide +kernel
theorem dX7_unitsAt_0 : decode cX7_unitsAt 0 = .ok (.iconst 0, 1) := by decide +kernel
theorem dX7_unitsAt_1 : decode cX7_unitsAt 1 = .ok (.istore_n 2, 1) := by decide +kernel
theorem dX7_unitsAt_2 : decode cX7_unitsAt 2 = .ok (.iconst 0, 1) := by decide +kernel
theorem dX7_unitsAt_3 : decode cX7_unitsAt 3 = .ok (.istore_n 3, 1) := by decide +kernel
theorem dX7_unitsAt_4 : decode cX7_unitsAt 4 = .ok (.iload_n 3, 1) := by decide +kernel
theorem dX7_unitsAt_5 : decode cX7_unitsAt 5 = .ok (.aload_n 0, 1) := by decide +kernel
theorem dX7_unitsAt_6 : decode cX7_unitsAt 6 = .ok (.getfield 12, 3) := by decide +kernel
theorem dX7_unitsAt_9 : decode cX7_unitsAt 9 = .ok (.getfield 142, 3) := by decide +kernel
theorem dX7_unitsAt_12 : decode cX7_unitsAt 12 = .ok (.getfield 146, 3) := by decide +kernel
theorem dX7_unitsAt_15 : decode cX7_unitsAt 15 = .ok (.if_icmp .ge 40, 3) := by decide +kernel
theorem dX7_unitsAt_18 : decode cX7_unitsAt 18 = .ok (.aload_n 0, 1) := by decide +kernel
theorem dX7_unitsAt_19 : decode cX7_unitsAt 19 = .ok (.getfield 12, 3) := by decide +kernel
theorem dX7_unitsAt_22 : decode cX7_unitsAt 22 = .ok (.getfield 142, 3) := by decide +kernel
theorem dX7_unitsAt_25 : decode cX7_unitsAt 25 = .ok (.getfield 366, 3) := by decide +kernel
theorem dX7_unitsAt_28 : decode cX7_unitsAt 28 = .ok (.iload_n 3, 1) := by decide +kernel
theorem dX7_unitsAt_29 : decode cX7_unitsAt 29 = .ok (.iaload, 1) := by decide +kernel
theorem dX7_unitsAt_30 : decode cX7_unitsAt 30 = .ok (.iload_n 1, 1) := by decide +kernel
theorem dX7_unitsAt_31 : decode cX7_unitsAt 31 = .ok (.if_icmp .ne 18, 3) := by decide +kernel
theorem dX7_unitsAt_34 : decode cX7_unitsAt 34 = .ok (.iload_n 2, 1) := by decide +kernel
theorem dX7_unitsAt_35 : decode cX7_unitsAt 35 = .ok (.aload_n 0, 1) := by decide +kernel
theorem dX7_unitsAt_36 : decode cX7_unitsAt 36 = .ok (.getfield 12, 3) := by decide +kernel
theorem dX7_unitsAt_39 : decode cX7_unitsAt 39 = .ok (.getfield 142, 3) := by decide +kernel
theorem dX7_unitsAt_42 : decode cX7_unitsAt 42 = .ok (.getfield 369, 3) := by decide +kernel
theorem dX7_unitsAt_45 : decode cX7_unitsAt 45 = .ok (.iload_n 3, 1) := by decide +kernel
theorem dX7_unitsAt_46 : decode cX7_unitsAt 46 = .ok (.iaload, 1) := by decide +kernel
theorem dX7_unitsAt_47 : decode cX7_unitsAt 47 = .ok (.iadd, 1) := by decide +kernel
theorem dX7_unitsAt_48 : decode cX7_unitsAt 48 = .ok (.istore_n 2, 1) := by decide +kernel
theorem dX7_unitsAt_49 : decode cX7_unitsAt 49 = .ok (.iinc 3 1, 3) := by decide +kernel
theorem dX7_unitsAt_52 : decode cX7_unitsAt 52 = .ok (.goto (-48), 3) := by decide +kernel
theorem dX7_unitsAt_55 : decode cX7_unitsAt 55 = .ok (.iload_n 2, 1) := by decide +kernel
theorem dX7_unitsAt_56 : decode cX7_unitsAt 56 = .ok (.ireturn, 1) := by decide +kernel
theorem dX7_terminalProperty_0 : decode cX7_terminalProperty 0 = .ok (.iconst 2, 1) := by decide +kernel
theorem dX7_terminalProperty_1 : decode cX7_terminalProperty 1 = .ok (.iload_n 1, 1) := by decide +kernel
theorem dX7_terminalProperty_2 : decode cX7_terminalProperty 2 = .ok (.imul, 1) := by decide +kernel
theorem dX7_terminalProperty_3 : decode cX7_terminalProperty 3 = .ok (.iload_n 2, 1) := by decide +kernel
theorem dX7_terminalProperty_4 : decode cX7_terminalProperty 4 = .ok (.iadd, 1) := by decide +kernel
theorem dX7_terminalProperty_5 : decode cX7_terminalProperty 5 = .ok (.istore 4, 2) := by decide +kernel
theorem dX7_terminalProperty_7 : decode cX7_terminalProperty 7 = .ok (.iload_n 3, 1) := by decide +kernel
theorem dX7_terminalProperty_8 : decode cX7_terminalProperty 8 = .ok (.tableswitch 117 0 4 #[36, 47, 60, 70, 92], 36) := by decide +kernel
theorem dX7_terminalProperty_44 : decode cX7_terminalProperty 44 = .ok (.aload_n 0, 1) := by decide +kernel
theorem dX7_terminalProperty_45 : decode cX7_terminalProperty 45 = .ok (.getfield 19, 3) := by decide +kernel
theorem dX7_terminalProperty_48 : decode cX7_terminalProperty 48 = .ok (.getfield 372, 3) := by decide +kernel
theorem dX7_terminalProperty_51 : decode cX7_terminalProperty 51 = .ok (.iload 4, 2) := by decide +kernel
theorem dX7_terminalProperty_53 : decode cX7_terminalProperty 53 = .ok (.iaload, 1) := by decide +kernel
theorem dX7_terminalProperty_54 : decode cX7_terminalProperty 54 = .ok (.ireturn, 1) := by decide +kernel
theorem dX7_terminalProperty_55 : decode cX7_terminalProperty 55 = .ok (.aload_n 0, 1) := by decide +kernel
theorem dX7_terminalProperty_56 : decode cX7_terminalProperty 56 = .ok (.getfield 19, 3) := by decide +kernel
theorem dX7_terminalProperty_59 : decode cX7_terminalProperty 59 = .ok (.iload 4, 2) := by decide +kernel
theorem dX7_terminalProperty_61 : decode cX7_terminalProperty 61 = .ok (.invokevirtual 375, 3) := by decide +kernel
theorem dX7_terminalProperty_64 : decode cX7_terminalProperty 64 = .ok (.invokestatic 108, 3) := by decide +kernel
theorem dX7_terminalProperty_67 : decode cX7_terminalProperty 67 = .ok (.ireturn, 1) := by decide +kernel
theorem dX7_terminalProperty_68 : decode cX7_terminalProperty 68 = .ok (.aload_n 0, 1) := by decide +kernel
theorem dX7_terminalProperty_69 : decode cX7_terminalProperty 69 = .ok (.getfield 19, 3) := by decide +kernel
theorem dX7_terminalProperty_72 : decode cX7_terminalProperty 72 = .ok (.iload 4, 2) := by decide +kernel
theorem dX7_terminalProperty_74 : decode cX7_terminalProperty 74 = .ok (.invokevirtual 296, 3) := by decide +kernel
theorem dX7_terminalProperty_77 : decode cX7_terminalProperty 77 = .ok (.ireturn, 1) := by decide +kernel
theorem dX7_terminalProperty_78 : decode cX7_terminalProperty 78 = .ok (.iload_n 1, 1) := by decide +kernel
theorem dX7_terminalProperty_79 : decode cX7_terminalProperty 79 = .ok (.ifCond .ne 7, 3) := by decide +kernel
theorem dX7_terminalProperty_82 : decode cX7_terminalProperty 82 = .ok (.iconst (-1), 1) := by decide +kernel
theorem dX7_terminalProperty_83 : decode cX7_terminalProperty 83 = .ok (.goto 16, 3) := by decide +kernel
theorem dX7_terminalProperty_86 : decode cX7_terminalProperty 86 = .ok (.aload_n 0, 1) := by decide +kernel
theorem dX7_terminalProperty_87 : decode cX7_terminalProperty 87 = .ok (.getfield 12, 3) := by decide +kernel
theorem dX7_terminalProperty_90 : decode cX7_terminalProperty 90 = .ok (.getfield 73, 3) := by decide +kernel
theorem dX7_terminalProperty_93 : decode cX7_terminalProperty 93 = .ok (.getfield 128, 3) := by decide +kernel
theorem dX7_terminalProperty_96 : decode cX7_terminalProperty 96 = .ok (.iload 4, 2) := by decide +kernel
theorem dX7_terminalProperty_98 : decode cX7_terminalProperty 98 = .ok (.iaload, 1) := by decide +kernel
theorem dX7_terminalProperty_99 : decode cX7_terminalProperty 99 = .ok (.ireturn, 1) := by decide +kernel
theorem dX7_terminalProperty_100 : decode cX7_terminalProperty 100 = .ok (.iload_n 1, 1) := by decide +kernel
theorem dX7_terminalProperty_101 : decode cX7_terminalProperty 101 = .ok (.ifCond .ne 7, 3) := by decide +kernel
theorem dX7_terminalProperty_104 : decode cX7_terminalProperty 104 = .ok (.iconst (-1), 1) := by decide +kernel
theorem dX7_terminalProperty_105 : decode cX7_terminalProperty 105 = .ok (.goto 19, 3) := by decide +kernel
theorem dX7_terminalProperty_108 : decode cX7_terminalProperty 108 = .ok (.aload_n 0, 1) := by decide +kernel
theorem dX7_terminalProperty_109 : decode cX7_terminalProperty 109 = .ok (.getfield 12, 3) := by decide +kernel
theorem dX7_terminalProperty_112 : decode cX7_terminalProperty 112 = .ok (.getfield 73, 3) := by decide +kernel
theorem dX7_terminalProperty_115 : decode cX7_terminalProperty 115 = .ok (.getfield 131, 3) := by decide +kernel
theorem dX7_terminalProperty_118 : decode cX7_terminalProperty 118 = .ok (.iload 4, 2) := by decide +kernel
theorem dX7_terminalProperty_120 : decode cX7_terminalProperty 120 = .ok (.baload, 1) := by decide +kernel
theorem dX7_terminalProperty_121 : decode cX7_terminalProperty 121 = .ok (.invokestatic 108, 3) := by decide +kernel
theorem dX7_terminalProperty_124 : decode cX7_terminalProperty 124 = .ok (.ireturn, 1) := by decide +kernel
theorem dX7_terminalProperty_125 : decode cX7_terminalProperty 125 = .ok (.aload_n 0, 1) := by decide +kernel
theorem dX7_terminalProperty_126 : decode cX7_terminalProperty 126 = .ok (.iload_n 1, 1) := by decide +kernel
theorem dX7_terminalProperty_127 : decode cX7_terminalProperty 127 = .ok (.iload_n 2, 1) := by decide +kernel
theorem dX7_terminalProperty_128 : decode cX7_terminalProperty 128 = .ok (.invokevirtual 378, 3) := by decide +kernel
theorem dX7_terminalProperty_131 : decode cX7_terminalProperty 131 = .ok (.ireturn, 1) := by decide +kernel
theorem dX7_strengthsAt_0 : decode cX7_strengthsAt 0 = .ok (.iconst 0, 1) := by decide +kernel
theorem dX7_strengthsAt_1 : decode cX7_strengthsAt 1 = .ok (.istore_n 3, 1) := by decide +kernel
theorem dX7_strengthsAt_2 : decode cX7_strengthsAt 2 = .ok (.iconst 0, 1) := by decide +kernel
theorem dX7_strengthsAt_3 : decode cX7_strengthsAt 3 = .ok (.istore 4, 2) := by decide +kernel
theorem dX7_strengthsAt_5 : decode cX7_strengthsAt 5 = .ok (.iload 4, 2) := by decide +kernel
theorem dX7_strengthsAt_7 : decode cX7_strengthsAt 7 = .ok (.aload_n 0, 1) := by decide +kernel
theorem dX7_strengthsAt_8 : decode cX7_strengthsAt 8 = .ok (.getfield 12, 3) := by decide +kernel
theorem dX7_strengthsAt_11 : decode cX7_strengthsAt 11 = .ok (.getfield 175, 3) := by decide +kernel
theorem dX7_strengthsAt_14 : decode cX7_strengthsAt 14 = .ok (.getfield 179, 3) := by decide +kernel
theorem dX7_strengthsAt_17 : decode cX7_strengthsAt 17 = .ok (.if_icmp .ge 59, 3) := by decide +kernel
theorem dX7_strengthsAt_20 : decode cX7_strengthsAt 20 = .ok (.aload_n 0, 1) := by decide +kernel
theorem dX7_strengthsAt_21 : decode cX7_strengthsAt 21 = .ok (.getfield 12, 3) := by decide +kernel
theorem dX7_strengthsAt_24 : decode cX7_strengthsAt 24 = .ok (.getfield 175, 3) := by decide +kernel
theorem dX7_strengthsAt_27 : decode cX7_strengthsAt 27 = .ok (.getfield 381, 3) := by decide +kernel
theorem dX7_strengthsAt_30 : decode cX7_strengthsAt 30 = .ok (.iload 4, 2) := by decide +kernel
theorem dX7_strengthsAt_32 : decode cX7_strengthsAt 32 = .ok (.iaload, 1) := by decide +kernel
theorem dX7_strengthsAt_33 : decode cX7_strengthsAt 33 = .ok (.iload_n 1, 1) := by decide +kernel
theorem dX7_strengthsAt_34 : decode cX7_strengthsAt 34 = .ok (.if_icmp .ne 36, 3) := by decide +kernel
theorem dX7_strengthsAt_37 : decode cX7_strengthsAt 37 = .ok (.aload_n 0, 1) := by decide +kernel
theorem dX7_strengthsAt_38 : decode cX7_strengthsAt 38 = .ok (.getfield 12, 3) := by decide +kernel
theorem dX7_strengthsAt_41 : decode cX7_strengthsAt 41 = .ok (.getfield 175, 3) := by decide +kernel
theorem dX7_strengthsAt_44 : decode cX7_strengthsAt 44 = .ok (.getfield 382, 3) := by decide +kernel
theorem dX7_strengthsAt_47 : decode cX7_strengthsAt 47 = .ok (.iload 4, 2) := by decide +kernel
theorem dX7_strengthsAt_49 : decode cX7_strengthsAt 49 = .ok (.iaload, 1) := by decide +kernel
theorem dX7_strengthsAt_50 : decode cX7_strengthsAt 50 = .ok (.iload_n 2, 1) := by decide +kernel
theorem dX7_strengthsAt_51 : decode cX7_strengthsAt 51 = .ok (.if_icmp .ne 19, 3) := by decide +kernel
theorem dX7_strengthsAt_54 : decode cX7_strengthsAt 54 = .ok (.iload_n 3, 1) := by decide +kernel
theorem dX7_strengthsAt_55 : decode cX7_strengthsAt 55 = .ok (.aload_n 0, 1) := by decide +kernel
theorem dX7_strengthsAt_56 : decode cX7_strengthsAt 56 = .ok (.getfield 12, 3) := by decide +kernel
theorem dX7_strengthsAt_59 : decode cX7_strengthsAt 59 = .ok (.getfield 175, 3) := by decide +kernel
theorem dX7_strengthsAt_62 : decode cX7_strengthsAt 62 = .ok (.getfield 192, 3) := by decide +kernel
theorem dX7_strengthsAt_65 : decode cX7_strengthsAt 65 = .ok (.iload 4, 2) := by decide +kernel
theorem dX7_strengthsAt_67 : decode cX7_strengthsAt 67 = .ok (.iaload, 1) := by decide +kernel
theorem dX7_strengthsAt_68 : decode cX7_strengthsAt 68 = .ok (.iadd, 1) := by decide +kernel
theorem dX7_strengthsAt_69 : decode cX7_strengthsAt 69 = .ok (.istore_n 3, 1) := by decide +kernel
theorem dX7_strengthsAt_70 : decode cX7_strengthsAt 70 = .ok (.iinc 4 1, 3) := by decide +kernel
theorem dX7_strengthsAt_73 : decode cX7_strengthsAt 73 = .ok (.goto (-68), 3) := by decide +kernel
theorem dX7_strengthsAt_76 : decode cX7_strengthsAt 76 = .ok (.iload_n 3, 1) := by decide +kernel
theorem dX7_strengthsAt_77 : decode cX7_strengthsAt 77 = .ok (.ireturn, 1) := by decide +kernel
theorem dX7_lanternProperty_0 : decode cX7_lanternProperty 0 = .ok (.iload_n 2, 1) := by decide +kernel
theorem dX7_lanternProperty_1 : decode cX7_lanternProperty 1 = .ok (.tableswitch 69 0 2 #[27, 40, 53], 27) := by decide +kernel
theorem dX7_lanternProperty_28 : decode cX7_lanternProperty 28 = .ok (.aload_n 0, 1) := by decide +kernel
theorem dX7_lanternProperty_29 : decode cX7_lanternProperty 29 = .ok (.getfield 12, 3) := by decide +kernel
theorem dX7_lanternProperty_32 : decode cX7_lanternProperty 32 = .ok (.getfield 142, 3) := by decide +kernel
theorem dX7_lanternProperty_35 : decode cX7_lanternProperty 35 = .ok (.getfield 366, 3) := by decide +kernel
theorem dX7_lanternProperty_38 : decode cX7_lanternProperty 38 = .ok (.iload_n 1, 1) := by decide +kernel
theorem dX7_lanternProperty_39 : decode cX7_lanternProperty 39 = .ok (.iaload, 1) := by decide +kernel
theorem dX7_lanternProperty_40 : decode cX7_lanternProperty 40 = .ok (.ireturn, 1) := by decide +kernel
theorem dX7_lanternProperty_41 : decode cX7_lanternProperty 41 = .ok (.aload_n 0, 1) := by decide +kernel
theorem dX7_lanternProperty_42 : decode cX7_lanternProperty 42 = .ok (.getfield 12, 3) := by decide +kernel
theorem dX7_lanternProperty_45 : decode cX7_lanternProperty 45 = .ok (.getfield 142, 3) := by decide +kernel
theorem dX7_lanternProperty_48 : decode cX7_lanternProperty 48 = .ok (.getfield 369, 3) := by decide +kernel
theorem dX7_lanternProperty_51 : decode cX7_lanternProperty 51 = .ok (.iload_n 1, 1) := by decide +kernel
theorem dX7_lanternProperty_52 : decode cX7_lanternProperty 52 = .ok (.iaload, 1) := by decide +kernel
theorem dX7_lanternProperty_53 : decode cX7_lanternProperty 53 = .ok (.ireturn, 1) := by decide +kernel
theorem dX7_lanternProperty_54 : decode cX7_lanternProperty 54 = .ok (.aload_n 0, 1) := by decide +kernel
theorem dX7_lanternProperty_55 : decode cX7_lanternProperty 55 = .ok (.getfield 12, 3) := by decide +kernel
theorem dX7_lanternProperty_58 : decode cX7_lanternProperty 58 = .ok (.getfield 142, 3) := by decide +kernel
theorem dX7_lanternProperty_61 : decode cX7_lanternProperty 61 = .ok (.getfield 385, 3) := by decide +kernel
theorem dX7_lanternProperty_64 : decode cX7_lanternProperty 64 = .ok (.iload_n 1, 1) := by decide +kernel
theorem dX7_lanternProperty_65 : decode cX7_lanternProperty 65 = .ok (.baload, 1) := by decide +kernel
theorem dX7_lanternProperty_66 : decode cX7_lanternProperty 66 = .ok (.invokestatic 108, 3) := by decide +kernel
theorem dX7_lanternProperty_69 : decode cX7_lanternProperty 69 = .ok (.ireturn, 1) := by decide +kernel
theorem dX7_lanternProperty_70 : decode cX7_lanternProperty 70 = .ok (.aload_n 0, 1) := by decide +kernel
theorem dX7_lanternProperty_71 : decode cX7_lanternProperty 71 = .ok (.iload_n 1, 1) := by decide +kernel
theorem dX7_lanternProperty_72 : decode cX7_lanternProperty 72 = .ok (.invokevirtual 388, 3) := by decide +kernel
theorem dX7_lanternProperty_75 : decode cX7_lanternProperty 75 = .ok (.ireturn, 1) := by decide +kernel
theorem dX7_darkReason_0 : decode cX7_darkReason 0 = .ok (.aload_n 0, 1) := by decide +kernel
theorem dX7_darkReason_1 : decode cX7_darkReason 1 = .ok (.getfield 12, 3) := by decide +kernel
theorem dX7_darkReason_4 : decode cX7_darkReason 4 = .ok (.getfield 142, 3) := by decide +kernel
theorem dX7_darkReason_7 : decode cX7_darkReason 7 = .ok (.getfield 366, 3) := by decide +kernel
theorem dX7_darkReason_10 : decode cX7_darkReason 10 = .ok (.iload_n 1, 1) := by decide +kernel
theorem dX7_darkReason_11 : decode cX7_darkReason 11 = .ok (.iaload, 1) := by decide +kernel
theorem dX7_darkReason_12 : decode cX7_darkReason 12 = .ok (.istore_n 2, 1) := by decide +kernel
theorem dX7_darkReason_13 : decode cX7_darkReason 13 = .ok (.aload_n 0, 1) := by decide +kernel
theorem dX7_darkReason_14 : decode cX7_darkReason 14 = .ok (.getfield 19, 3) := by decide +kernel
theorem dX7_darkReason_17 : decode cX7_darkReason 17 = .ok (.getfield 161, 3) := by decide +kernel
theorem dX7_darkReason_20 : decode cX7_darkReason 20 = .ok (.iload_n 1, 1) := by decide +kernel
theorem dX7_darkReason_21 : decode cX7_darkReason 21 = .ok (.baload, 1) := by decide +kernel
theorem dX7_darkReason_22 : decode cX7_darkReason 22 = .ok (.ifCond .eq 5, 3) := by decide +kernel
theorem dX7_darkReason_25 : decode cX7_darkReason 25 = .ok (.iconst 0, 1) := by decide +kernel
theorem dX7_darkReason_26 : decode cX7_darkReason 26 = .ok (.ireturn, 1) := by decide +kernel
theorem dX7_darkReason_27 : decode cX7_darkReason 27 = .ok (.aload_n 0, 1) := by decide +kernel
theorem dX7_darkReason_28 : decode cX7_darkReason 28 = .ok (.getfield 19, 3) := by decide +kernel
theorem dX7_darkReason_31 : decode cX7_darkReason 31 = .ok (.getfield 391, 3) := by decide +kernel
theorem dX7_darkReason_34 : decode cX7_darkReason 34 = .ok (.iload_n 2, 1) := by decide +kernel
theorem dX7_darkReason_35 : decode cX7_darkReason 35 = .ok (.baload, 1) := by decide +kernel
theorem dX7_darkReason_36 : decode cX7_darkReason 36 = .ok (.ifCond .eq 5, 3) := by decide +kernel
theorem dX7_darkReason_39 : decode cX7_darkReason 39 = .ok (.iconst 1, 1) := by decide +kernel
theorem dX7_darkReason_40 : decode cX7_darkReason 40 = .ok (.ireturn, 1) := by decide +kernel
theorem dX7_darkReason_41 : decode cX7_darkReason 41 = .ok (.aload_n 0, 1) := by decide +kernel
theorem dX7_darkReason_42 : decode cX7_darkReason 42 = .ok (.getfield 19, 3) := by decide +kernel
theorem dX7_darkReason_45 : decode cX7_darkReason 45 = .ok (.getfield 394, 3) := by decide +kernel
theorem dX7_darkReason_48 : decode cX7_darkReason 48 = .ok (.iconst 2, 1) := by decide +kernel
theorem dX7_darkReason_49 : decode cX7_darkReason 49 = .ok (.iload_n 2, 1) := by decide +kernel
theorem dX7_darkReason_50 : decode cX7_darkReason 50 = .ok (.imul, 1) := by decide +kernel
theorem dX7_darkReason_51 : decode cX7_darkReason 51 = .ok (.baload, 1) := by decide +kernel
theorem dX7_darkReason_52 : decode cX7_darkReason 52 = .ok (.ifCond .eq 5, 3) := by decide +kernel
theorem dX7_darkReason_55 : decode cX7_darkReason 55 = .ok (.iconst 2, 1) := by decide +kernel
theorem dX7_darkReason_56 : decode cX7_darkReason 56 = .ok (.ireturn, 1) := by decide +kernel
theorem dX7_darkReason_57 : decode cX7_darkReason 57 = .ok (.aload_n 0, 1) := by decide +kernel
theorem dX7_darkReason_58 : decode cX7_darkReason 58 = .ok (.getfield 19, 3) := by decide +kernel
theorem dX7_darkReason_61 : decode cX7_darkReason 61 = .ok (.getfield 394, 3) := by decide +kernel
theorem dX7_darkReason_64 : decode cX7_darkReason 64 = .ok (.iconst 2, 1) := by decide +kernel
theorem dX7_darkReason_65 : decode cX7_darkReason 65 = .ok (.iload_n 2, 1) := by decide +kernel
theorem dX7_darkReason_66 : decode cX7_darkReason 66 = .ok (.imul, 1) := by decide +kernel
theorem dX7_darkReason_67 : decode cX7_darkReason 67 = .ok (.iconst 1, 1) := by decide +kernel
theorem dX7_darkReason_68 : decode cX7_darkReason 68 = .ok (.iadd, 1) := by decide +kernel
theorem dX7_darkReason_69 : decode cX7_darkReason 69 = .ok (.baload, 1) := by decide +kernel
theorem dX7_darkReason_70 : decode cX7_darkReason 70 = .ok (.ifCond .eq 7, 3) := by decide +kernel
theorem dX7_darkReason_73 : decode cX7_darkReason 73 = .ok (.iconst 3, 1) := by decide +kernel
theorem dX7_darkReason_74 : decode cX7_darkReason 74 = .ok (.goto 4, 3) := by decide +kernel
theorem dX7_darkReason_77 : decode cX7_darkReason 77 = .ok (.iconst 4, 1) := by decide +kernel
theorem dX7_darkReason_78 : decode cX7_darkReason 78 = .ok (.ireturn, 1) := by decide +kernel
theorem dX7_faultProperty_0 : decode cX7_faultProperty 0 = .ok (.aload_n 0, 1) := by decide +kernel
theorem dX7_faultProperty_1 : decode cX7_faultProperty 1 = .ok (.getfield 12, 3) := by decide +kernel
theorem dX7_faultProperty_4 : decode cX7_faultProperty 4 = .ok (.getfield 175, 3) := by decide +kernel
theorem dX7_faultProperty_7 : decode cX7_faultProperty 7 = .ok (.astore_n 3, 1) := by decide +kernel
theorem dX7_faultProperty_8 : decode cX7_faultProperty 8 = .ok (.iload_n 2, 1) := by decide +kernel
theorem dX7_faultProperty_9 : decode cX7_faultProperty 9 = .ok (.tableswitch 76 0 3 #[31, 38, 45, 52], 31) := by decide +kernel
theorem dX7_faultProperty_40 : decode cX7_faultProperty 40 = .ok (.aload_n 3, 1) := by decide +kernel
theorem dX7_faultProperty_41 : decode cX7_faultProperty 41 = .ok (.getfield 381, 3) := by decide +kernel
theorem dX7_faultProperty_44 : decode cX7_faultProperty 44 = .ok (.iload_n 1, 1) := by decide +kernel
theorem dX7_faultProperty_45 : decode cX7_faultProperty 45 = .ok (.iaload, 1) := by decide +kernel
theorem dX7_faultProperty_46 : decode cX7_faultProperty 46 = .ok (.ireturn, 1) := by decide +kernel
theorem dX7_faultProperty_47 : decode cX7_faultProperty 47 = .ok (.aload_n 3, 1) := by decide +kernel
theorem dX7_faultProperty_48 : decode cX7_faultProperty 48 = .ok (.getfield 382, 3) := by decide +kernel
theorem dX7_faultProperty_51 : decode cX7_faultProperty 51 = .ok (.iload_n 1, 1) := by decide +kernel
theorem dX7_faultProperty_52 : decode cX7_faultProperty 52 = .ok (.iaload, 1) := by decide +kernel
theorem dX7_faultProperty_53 : decode cX7_faultProperty 53 = .ok (.ireturn, 1) := by decide +kernel
theorem dX7_faultProperty_54 : decode cX7_faultProperty 54 = .ok (.aload_n 3, 1) := by decide +kernel
theorem dX7_faultProperty_55 : decode cX7_faultProperty 55 = .ok (.getfield 192, 3) := by decide +kernel
theorem dX7_faultProperty_58 : decode cX7_faultProperty 58 = .ok (.iload_n 1, 1) := by decide +kernel
theorem dX7_faultProperty_59 : decode cX7_faultProperty 59 = .ok (.iaload, 1) := by decide +kernel
theorem dX7_faultProperty_60 : decode cX7_faultProperty 60 = .ok (.ireturn, 1) := by decide +kernel
theorem dX7_faultProperty_61 : decode cX7_faultProperty 61 = .ok (.aload_n 0, 1) := by decide +kernel
theorem dX7_faultProperty_62 : decode cX7_faultProperty 62 = .ok (.getfield 19, 3) := by decide +kernel
theorem dX7_faultProperty_65 : decode cX7_faultProperty 65 = .ok (.getfield 372, 3) := by decide +kernel
theorem dX7_faultProperty_68 : decode cX7_faultProperty 68 = .ok (.iconst 2, 1) := by decide +kernel
theorem dX7_faultProperty_69 : decode cX7_faultProperty 69 = .ok (.aload_n 3, 1) := by decide +kernel
theorem dX7_faultProperty_70 : decode cX7_faultProperty 70 = .ok (.getfield 381, 3) := by decide +kernel
theorem dX7_faultProperty_73 : decode cX7_faultProperty 73 = .ok (.iload_n 1, 1) := by decide +kernel
theorem dX7_faultProperty_74 : decode cX7_faultProperty 74 = .ok (.iaload, 1) := by decide +kernel
theorem dX7_faultProperty_75 : decode cX7_faultProperty 75 = .ok (.imul, 1) := by decide +kernel
theorem dX7_faultProperty_76 : decode cX7_faultProperty 76 = .ok (.aload_n 3, 1) := by decide +kernel
theorem dX7_faultProperty_77 : decode cX7_faultProperty 77 = .ok (.getfield 382, 3) := by decide +kernel
theorem dX7_faultProperty_80 : decode cX7_faultProperty 80 = .ok (.iload_n 1, 1) := by decide +kernel
theorem dX7_faultProperty_81 : decode cX7_faultProperty 81 = .ok (.iaload, 1) := by decide +kernel
theorem dX7_faultProperty_82 : decode cX7_faultProperty 82 = .ok (.iadd, 1) := by decide +kernel
theorem dX7_faultProperty_83 : decode cX7_faultProperty 83 = .ok (.iaload, 1) := by decide +kernel
theorem dX7_faultProperty_84 : decode cX7_faultProperty 84 = .ok (.ireturn, 1) := by decide +kernel
theorem dX7_faultProperty_85 : decode cX7_faultProperty 85 = .ok (.aload_n 0, 1) := by decide +kernel
theorem dX7_faultProperty_86 : decode cX7_faultProperty 86 = .ok (.getfield 19, 3) := by decide +kernel
theorem dX7_faultProperty_89 : decode cX7_faultProperty 89 = .ok (.getfield 397, 3) := by decide +kernel
theorem dX7_faultProperty_92 : decode cX7_faultProperty 92 = .ok (.iload_n 1, 1) := by decide +kernel
theorem dX7_faultProperty_93 : decode cX7_faultProperty 93 = .ok (.iaload, 1) := by decide +kernel
theorem dX7_faultProperty_94 : decode cX7_faultProperty 94 = .ok (.ireturn, 1) := by decide +kernel
theorem dX7_countOf_0 : decode cX7_countOf 0 = .ok (.iload_n 1, 1) := by decide +kernel
theorem dX7_countOf_1 : decode cX7_countOf 1 = .ok (.tableswitch 159 0 10 #[59, 70, 81, 89, 100, 108, 119, 127, 135, 143, 151], 59) := by decide +kernel
theorem dX7_countOf_60 : decode cX7_countOf 60 = .ok (.aload_n 0, 1) := by decide +kernel
theorem dX7_countOf_61 : decode cX7_countOf 61 = .ok (.getfield 12, 3) := by decide +kernel
theorem dX7_countOf_64 : decode cX7_countOf 64 = .ok (.getfield 73, 3) := by decide +kernel
theorem dX7_countOf_67 : decode cX7_countOf 67 = .ok (.getfield 77, 3) := by decide +kernel
theorem dX7_countOf_70 : decode cX7_countOf 70 = .ok (.ireturn, 1) := by decide +kernel
theorem dX7_countOf_71 : decode cX7_countOf 71 = .ok (.aload_n 0, 1) := by decide +kernel
theorem dX7_countOf_72 : decode cX7_countOf 72 = .ok (.getfield 12, 3) := by decide +kernel
theorem dX7_countOf_75 : decode cX7_countOf 75 = .ok (.getfield 142, 3) := by decide +kernel
theorem dX7_countOf_78 : decode cX7_countOf 78 = .ok (.getfield 146, 3) := by decide +kernel
theorem dX7_countOf_81 : decode cX7_countOf 81 = .ok (.ireturn, 1) := by decide +kernel
theorem dX7_countOf_82 : decode cX7_countOf 82 = .ok (.aload_n 0, 1) := by decide +kernel
theorem dX7_countOf_83 : decode cX7_countOf 83 = .ok (.getfield 19, 3) := by decide +kernel
theorem dX7_countOf_86 : decode cX7_countOf 86 = .ok (.getfield 115, 3) := by decide +kernel
theorem dX7_countOf_89 : decode cX7_countOf 89 = .ok (.ireturn, 1) := by decide +kernel
theorem dX7_countOf_90 : decode cX7_countOf 90 = .ok (.aload_n 0, 1) := by decide +kernel
theorem dX7_countOf_91 : decode cX7_countOf 91 = .ok (.getfield 12, 3) := by decide +kernel
theorem dX7_countOf_94 : decode cX7_countOf 94 = .ok (.getfield 175, 3) := by decide +kernel
theorem dX7_countOf_97 : decode cX7_countOf 97 = .ok (.getfield 179, 3) := by decide +kernel
theorem dX7_countOf_100 : decode cX7_countOf 100 = .ok (.ireturn, 1) := by decide +kernel
theorem dX7_countOf_101 : decode cX7_countOf 101 = .ok (.aload_n 0, 1) := by decide +kernel
theorem dX7_countOf_102 : decode cX7_countOf 102 = .ok (.getfield 19, 3) := by decide +kernel
theorem dX7_countOf_105 : decode cX7_countOf 105 = .ok (.getfield 213, 3) := by decide +kernel
theorem dX7_countOf_108 : decode cX7_countOf 108 = .ok (.ireturn, 1) := by decide +kernel
theorem dX7_countOf_109 : decode cX7_countOf 109 = .ok (.aload_n 0, 1) := by decide +kernel
theorem dX7_countOf_110 : decode cX7_countOf 110 = .ok (.getfield 12, 3) := by decide +kernel
theorem dX7_countOf_113 : decode cX7_countOf 113 = .ok (.getfield 73, 3) := by decide +kernel
theorem dX7_countOf_116 : decode cX7_countOf 116 = .ok (.invokevirtual 400, 3) := by decide +kernel
theorem dX7_countOf_119 : decode cX7_countOf 119 = .ok (.ireturn, 1) := by decide +kernel
theorem dX7_countOf_120 : decode cX7_countOf 120 = .ok (.aload_n 0, 1) := by decide +kernel
theorem dX7_countOf_121 : decode cX7_countOf 121 = .ok (.getfield 12, 3) := by decide +kernel
theorem dX7_countOf_124 : decode cX7_countOf 124 = .ok (.getfield 123, 3) := by decide +kernel
theorem dX7_countOf_127 : decode cX7_countOf 127 = .ok (.ireturn, 1) := by decide +kernel
theorem dX7_countOf_128 : decode cX7_countOf 128 = .ok (.aload_n 0, 1) := by decide +kernel
theorem dX7_countOf_129 : decode cX7_countOf 129 = .ok (.getfield 12, 3) := by decide +kernel
theorem dX7_countOf_132 : decode cX7_countOf 132 = .ok (.getfield 324, 3) := by decide +kernel
theorem dX7_countOf_135 : decode cX7_countOf 135 = .ok (.ireturn, 1) := by decide +kernel
theorem dX7_countOf_136 : decode cX7_countOf 136 = .ok (.aload_n 0, 1) := by decide +kernel
theorem dX7_countOf_137 : decode cX7_countOf 137 = .ok (.getfield 12, 3) := by decide +kernel
theorem dX7_countOf_140 : decode cX7_countOf 140 = .ok (.getfield 198, 3) := by decide +kernel
theorem dX7_countOf_143 : decode cX7_countOf 143 = .ok (.ireturn, 1) := by decide +kernel
theorem dX7_countOf_144 : decode cX7_countOf 144 = .ok (.aload_n 0, 1) := by decide +kernel
theorem dX7_countOf_145 : decode cX7_countOf 145 = .ok (.getfield 12, 3) := by decide +kernel
theorem dX7_countOf_148 : decode cX7_countOf 148 = .ok (.getfield 207, 3) := by decide +kernel
theorem dX7_countOf_151 : decode cX7_countOf 151 = .ok (.ireturn, 1) := by decide +kernel
theorem dX7_countOf_152 : decode cX7_countOf 152 = .ok (.aload_n 0, 1) := by decide +kernel
theorem dX7_countOf_153 : decode cX7_countOf 153 = .ok (.getfield 12, 3) := by decide +kernel
theorem dX7_countOf_156 : decode cX7_countOf 156 = .ok (.getfield 210, 3) := by decide +kernel
theorem dX7_countOf_159 : decode cX7_countOf 159 = .ok (.ireturn, 1) := by decide +kernel
theorem dX7_countOf_160 : decode cX7_countOf 160 = .ok (.aload_n 0, 1) := by decide +kernel
theorem dX7_countOf_161 : decode cX7_countOf 161 = .ok (.getfield 35, 3) := by decide +kernel
theorem dX7_countOf_164 : decode cX7_countOf 164 = .ok (.getfield 233, 3) := by decide +kernel
theorem dX7_countOf_167 : decode cX7_countOf 167 = .ok (.ireturn, 1) := by decide +kernel
