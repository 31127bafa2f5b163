theorem dX0_init_0 : decode cX0_init 0 = .ok (.aload_n 0, 1) := by decide +kernel
theorem dX0_init_1 : decode cX0_init 1 = .ok (.invokespecial 3, 3) := by decide +kernel
theorem dX0_init_4 : decode cX0_init 4 = .ok (.aload_n 0, 1) := by decide +kernel
theorem dX0_init_5 : decode cX0_init 5 = .ok (.iconst 1, 1) := by decide +kernel
theorem dX0_init_6 : decode cX0_init 6 = .ok (.putfield 9, 3) := by decide +kernel
theorem dX0_init_9 : decode cX0_init 9 = .ok (.aload_n 0, 1) := by decide +kernel
theorem dX0_init_10 : decode cX0_init 10 = .ok (.bipush 12, 2) := by decide +kernel
theorem dX0_init_12 : decode cX0_init 12 = .ok (.newarray .int, 2) := by decide +kernel
theorem dX0_init_14 : decode cX0_init 14 = .ok (.putfield 15, 3) := by decide +kernel
theorem dX0_init_17 : decode cX0_init 17 = .ok (.aload_n 0, 1) := by decide +kernel
theorem dX0_init_18 : decode cX0_init 18 = .ok (.bipush 12, 2) := by decide +kernel
theorem dX0_init_20 : decode cX0_init 20 = .ok (.newarray .boolean, 2) := by decide +kernel
theorem dX0_init_22 : decode cX0_init 22 = .ok (.putfield 19, 3) := by decide +kernel
theorem dX0_init_25 : decode cX0_init 25 = .ok (.aload_n 0, 1) := by decide +kernel
theorem dX0_init_26 : decode cX0_init 26 = .ok (.bipush 12, 2) := by decide +kernel
theorem dX0_init_28 : decode cX0_init 28 = .ok (.newarray .boolean, 2) := by decide +kernel
theorem dX0_init_30 : decode cX0_init 30 = .ok (.putfield 23, 3) := by decide +kernel
theorem dX0_init_33 : decode cX0_init 33 = .ok (.aload_n 0, 1) := by decide +kernel
theorem dX0_init_34 : decode cX0_init 34 = .ok (.bipush 24, 2) := by decide +kernel
theorem dX0_init_36 : decode cX0_init 36 = .ok (.newarray .int, 2) := by decide +kernel
theorem dX0_init_38 : decode cX0_init 38 = .ok (.putfield 26, 3) := by decide +kernel
theorem dX0_init_41 : decode cX0_init 41 = .ok (.aload_n 0, 1) := by decide +kernel
theorem dX0_init_42 : decode cX0_init 42 = .ok (.bipush 24, 2) := by decide +kernel
theorem dX0_init_44 : decode cX0_init 44 = .ok (.newarray .boolean, 2) := by decide +kernel
theorem dX0_init_46 : decode cX0_init 46 = .ok (.putfield 29, 3) := by decide +kernel
theorem dX0_init_49 : decode cX0_init 49 = .ok (.aload_n 0, 1) := by decide +kernel
theorem dX0_init_50 : decode cX0_init 50 = .ok (.getfield 15, 3) := by decide +kernel
theorem dX0_init_53 : decode cX0_init 53 = .ok (.iconst 0, 1) := by decide +kernel
theorem dX0_init_54 : decode cX0_init 54 = .ok (.iconst (-1), 1) := by decide +kernel
theorem dX0_init_55 : decode cX0_init 55 = .ok (.iastore, 1) := by decide +kernel
theorem dX0_init_56 : decode cX0_init 56 = .ok (.return_, 1) := by decide +kernel
theorem dX0_add_0 : decode cX0_add 0 = .ok (.aload_n 0, 1) := by decide +kernel
theorem dX0_add_1 : decode cX0_add 1 = .ok (.getfield 9, 3) := by decide +kernel
theorem dX0_add_4 : decode cX0_add 4 = .ok (.bipush 12, 2) := by decide +kernel
theorem dX0_add_6 : decode cX0_add 6 = .ok (.if_icmp .lt 4, 3) := by decide +kernel
theorem dX0_add_9 : decode cX0_add 9 = .ok (.return_, 1) := by decide +kernel
theorem dX0_add_10 : decode cX0_add 10 = .ok (.aload_n 0, 1) := by decide +kernel
theorem dX0_add_11 : decode cX0_add 11 = .ok (.getfield 15, 3) := by decide +kernel
theorem dX0_add_14 : decode cX0_add 14 = .ok (.aload_n 0, 1) := by decide +kernel
theorem dX0_add_15 : decode cX0_add 15 = .ok (.getfield 9, 3) := by decide +kernel
theorem dX0_add_18 : decode cX0_add 18 = .ok (.iload_n 1, 1) := by decide +kernel
theorem dX0_add_19 : decode cX0_add 19 = .ok (.iastore, 1) := by decide +kernel
theorem dX0_add_20 : decode cX0_add 20 = .ok (.aload_n 0, 1) := by decide +kernel
theorem dX0_add_21 : decode cX0_add 21 = .ok (.getfield 19, 3) := by decide +kernel
theorem dX0_add_24 : decode cX0_add 24 = .ok (.aload_n 0, 1) := by decide +kernel
theorem dX0_add_25 : decode cX0_add 25 = .ok (.getfield 9, 3) := by decide +kernel
theorem dX0_add_28 : decode cX0_add 28 = .ok (.iload 4, 2) := by decide +kernel
theorem dX0_add_30 : decode cX0_add 30 = .ok (.bastore, 1) := by decide +kernel
theorem dX0_add_31 : decode cX0_add 31 = .ok (.aload_n 0, 1) := by decide +kernel
theorem dX0_add_32 : decode cX0_add 32 = .ok (.getfield 23, 3) := by decide +kernel
theorem dX0_add_35 : decode cX0_add 35 = .ok (.aload_n 0, 1) := by decide +kernel
theorem dX0_add_36 : decode cX0_add 36 = .ok (.getfield 9, 3) := by decide +kernel
theorem dX0_add_39 : decode cX0_add 39 = .ok (.iconst 1, 1) := by decide +kernel
theorem dX0_add_40 : decode cX0_add 40 = .ok (.bastore, 1) := by decide +kernel
theorem dX0_add_41 : decode cX0_add 41 = .ok (.aload_n 0, 1) := by decide +kernel
theorem dX0_add_42 : decode cX0_add 42 = .ok (.getfield 26, 3) := by decide +kernel
theorem dX0_add_45 : decode cX0_add 45 = .ok (.iconst 2, 1) := by decide +kernel
theorem dX0_add_46 : decode cX0_add 46 = .ok (.aload_n 0, 1) := by decide +kernel
theorem dX0_add_47 : decode cX0_add 47 = .ok (.getfield 9, 3) := by decide +kernel
theorem dX0_add_50 : decode cX0_add 50 = .ok (.imul, 1) := by decide +kernel
theorem dX0_add_51 : decode cX0_add 51 = .ok (.iload_n 2, 1) := by decide +kernel
theorem dX0_add_52 : decode cX0_add 52 = .ok (.iastore, 1) := by decide +kernel
theorem dX0_add_53 : decode cX0_add 53 = .ok (.aload_n 0, 1) := by decide +kernel
theorem dX0_add_54 : decode cX0_add 54 = .ok (.getfield 26, 3) := by decide +kernel
theorem dX0_add_57 : decode cX0_add 57 = .ok (.iconst 2, 1) := by decide +kernel
theorem dX0_add_58 : decode cX0_add 58 = .ok (.aload_n 0, 1) := by decide +kernel
theorem dX0_add_59 : decode cX0_add 59 = .ok (.getfield 9, 3) := by decide +kernel
theorem dX0_add_62 : decode cX0_add 62 = .ok (.imul, 1) := by decide +kernel
theorem dX0_add_63 : decode cX0_add 63 = .ok (.iconst 1, 1) := by decide +kernel
theorem dX0_add_64 : decode cX0_add 64 = .ok (.iadd, 1) := by decide +kernel
theorem dX0_add_65 : decode cX0_add 65 = .ok (.iload_n 3, 1) := by decide +kernel
theorem dX0_add_66 : decode cX0_add 66 = .ok (.iastore, 1) := by decide +kernel
theorem dX0_add_67 : decode cX0_add 67 = .ok (.aload_n 0, 1) := by decide +kernel
theorem dX0_add_68 : decode cX0_add 68 = .ok (.getfield 29, 3) := by decide +kernel
theorem dX0_add_71 : decode cX0_add 71 = .ok (.iconst 2, 1) := by decide +kernel
theorem dX0_add_72 : decode cX0_add 72 = .ok (.aload_n 0, 1) := by decide +kernel
theorem dX0_add_73 : decode cX0_add 73 = .ok (.getfield 9, 3) := by decide +kernel
theorem dX0_add_76 : decode cX0_add 76 = .ok (.imul, 1) := by decide +kernel
theorem dX0_add_77 : decode cX0_add 77 = .ok (.iconst 0, 1) := by decide +kernel
theorem dX0_add_78 : decode cX0_add 78 = .ok (.bastore, 1) := by decide +kernel
theorem dX0_add_79 : decode cX0_add 79 = .ok (.aload_n 0, 1) := by decide +kernel
theorem dX0_add_80 : decode cX0_add 80 = .ok (.getfield 29, 3) := by decide +kernel
theorem dX0_add_83 : decode cX0_add 83 = .ok (.iconst 2, 1) := by decide +kernel
theorem dX0_add_84 : decode cX0_add 84 = .ok (.aload_n 0, 1) := by decide +kernel
theorem dX0_add_85 : decode cX0_add 85 = .ok (.getfield 9, 3) := by decide +kernel
theorem dX0_add_88 : decode cX0_add 88 = .ok (.imul, 1) := by decide +kernel
theorem dX0_add_89 : decode cX0_add 89 = .ok (.iconst 1, 1) := by decide +kernel
theorem dX0_add_90 : decode cX0_add 90 = .ok (.iadd, 1) := by decide +kernel
theorem dX0_add_91 : decode cX0_add 91 = .ok (.iconst 0, 1) := by decide +kernel
theorem dX0_add_92 : decode cX0_add 92 = .ok (.bastore, 1) := by decide +kernel
theorem dX0_add_93 : decode cX0_add 93 = .ok (.aload_n 0, 1) := by decide +kernel
theorem dX0_add_94 : decode cX0_add 94 = .ok (.dup, 1) := by decide +kernel
theorem dX0_add_95 : decode cX0_add 95 = .ok (.getfield 9, 3) := by decide +kernel
theorem dX0_add_98 : decode cX0_add 98 = .ok (.iconst 1, 1) := by decide +kernel
theorem dX0_add_99 : decode cX0_add 99 = .ok (.iadd, 1) := by decide +kernel
theorem dX0_add_100 : decode cX0_add 100 = .ok (.putfield 9, 3) := by decide +kernel
theorem dX0_add_103 : decode cX0_add 103 = .ok (.return_, 1) := by decide +kernel
theorem dX0_connected_0 : decode cX0_connected 0 = .ok (.iconst 2, 1) := by decide +kernel
theorem dX0_connected_1 : decode cX0_connected 1 = .ok (.aload_n 0, 1) := by decide +kernel
theorem dX0_connected_2 : decode cX0_connected 2 = .ok (.getfield 15, 3) := by decide +kernel
theorem dX0_connected_5 : decode cX0_connected 5 = .ok (.iload_n 1, 1) := by decide +kernel
theorem dX0_connected_6 : decode cX0_connected 6 = .ok (.iaload, 1) := by decide +kernel
theorem dX0_connected_7 : decode cX0_connected 7 = .ok (.imul, 1) := by decide +kernel
theorem dX0_connected_8 : decode cX0_connected 8 = .ok (.aload_n 0, 1) := by decide +kernel
theorem dX0_connected_9 : decode cX0_connected 9 = .ok (.getfield 19, 3) := by decide +kernel
theorem dX0_connected_12 : decode cX0_connected 12 = .ok (.iload_n 1, 1) := by decide +kernel
theorem dX0_connected_13 : decode cX0_connected 13 = .ok (.baload, 1) := by decide +kernel
theorem dX0_connected_14 : decode cX0_connected 14 = .ok (.ifCond .eq 9, 3) := by decide +kernel
theorem dX0_connected_17 : decode cX0_connected 17 = .ok (.iconst 1, 1) := by decide +kernel
theorem dX0_connected_18 : decode cX0_connected 18 = .ok (.iload_n 2, 1) := by decide +kernel
theorem dX0_connected_19 : decode cX0_connected 19 = .ok (.isub, 1) := by decide +kernel
theorem dX0_connected_20 : decode cX0_connected 20 = .ok (.goto 4, 3) := by decide +kernel
theorem dX0_connected_23 : decode cX0_connected 23 = .ok (.iload_n 2, 1) := by decide +kernel
theorem dX0_connected_24 : decode cX0_connected 24 = .ok (.iadd, 1) := by decide +kernel
theorem dX0_connected_25 : decode cX0_connected 25 = .ok (.ireturn, 1) := by decide +kernel
theorem dX0_blownFuses_0 : decode cX0_blownFuses 0 = .ok (.iconst 0, 1) := by decide +kernel
theorem dX0_blownFuses_1 : decode cX0_blownFuses 1 = .ok (.istore_n 1, 1) := by decide +kernel
theorem dX0_blownFuses_2 : decode cX0_blownFuses 2 = .ok (.iconst 2, 1) := by decide +kernel
theorem dX0_blownFuses_3 : decode cX0_blownFuses 3 = .ok (.istore_n 2, 1) := by decide +kernel
theorem dX0_blownFuses_4 : decode cX0_blownFuses 4 = .ok (.iload_n 2, 1) := by decide +kernel
theorem dX0_blownFuses_5 : decode cX0_blownFuses 5 = .ok (.iconst 2, 1) := by decide +kernel
theorem dX0_blownFuses_6 : decode cX0_blownFuses 6 = .ok (.aload_n 0, 1) := by decide +kernel
theorem dX0_blownFuses_7 : decode cX0_blownFuses 7 = .ok (.getfield 9, 3) := by decide +kernel
theorem dX0_blownFuses_10 : decode cX0_blownFuses 10 = .ok (.imul, 1) := by decide +kernel
theorem dX0_blownFuses_11 : decode cX0_blownFuses 11 = .ok (.if_icmp .ge 21, 3) := by decide +kernel
theorem dX0_blownFuses_14 : decode cX0_blownFuses 14 = .ok (.aload_n 0, 1) := by decide +kernel
theorem dX0_blownFuses_15 : decode cX0_blownFuses 15 = .ok (.getfield 29, 3) := by decide +kernel
theorem dX0_blownFuses_18 : decode cX0_blownFuses 18 = .ok (.iload_n 2, 1) := by decide +kernel
theorem dX0_blownFuses_19 : decode cX0_blownFuses 19 = .ok (.baload, 1) := by decide +kernel
theorem dX0_blownFuses_20 : decode cX0_blownFuses 20 = .ok (.ifCond .eq 6, 3) := by decide +kernel
theorem dX0_blownFuses_23 : decode cX0_blownFuses 23 = .ok (.iinc 1 1, 3) := by decide +kernel
theorem dX0_blownFuses_26 : decode cX0_blownFuses 26 = .ok (.iinc 2 1, 3) := by decide +kernel
theorem dX0_blownFuses_29 : decode cX0_blownFuses 29 = .ok (.goto (-25), 3) := by decide +kernel
theorem dX0_blownFuses_32 : decode cX0_blownFuses 32 = .ok (.iload_n 1, 1) := by decide +kernel
theorem dX0_blownFuses_33 : decode cX0_blownFuses 33 = .ok (.ireturn, 1) := by decide +kernel
theorem dX0_copy_0 : decode cX0_copy 0 = .ok (.aload_n 0, 1) := by decide +kernel
theorem dX0_copy_1 : decode cX0_copy 1 = .ok (.aload_n 1, 1) := by decide +kernel
theorem dX0_copy_2 : decode cX0_copy 2 = .ok (.getfield 9, 3) := by decide +kernel
theorem dX0_copy_5 : decode cX0_copy 5 = .ok (.putfield 9, 3) := by decide +kernel
theorem dX0_copy_8 : decode cX0_copy 8 = .ok (.iconst 0, 1) := by decide +kernel
theorem dX0_copy_9 : decode cX0_copy 9 = .ok (.istore_n 2, 1) := by decide +kernel
theorem dX0_copy_10 : decode cX0_copy 10 = .ok (.iload_n 2, 1) := by decide +kernel
theorem dX0_copy_11 : decode cX0_copy 11 = .ok (.aload_n 0, 1) := by decide +kernel
theorem dX0_copy_12 : decode cX0_copy 12 = .ok (.getfield 9, 3) := by decide +kernel
theorem dX0_copy_15 : decode cX0_copy 15 = .ok (.if_icmp .ge 45, 3) := by decide +kernel
theorem dX0_copy_18 : decode cX0_copy 18 = .ok (.aload_n 0, 1) := by decide +kernel
theorem dX0_copy_19 : decode cX0_copy 19 = .ok (.getfield 15, 3) := by decide +kernel
theorem dX0_copy_22 : decode cX0_copy 22 = .ok (.iload_n 2, 1) := by decide +kernel
theorem dX0_copy_23 : decode cX0_copy 23 = .ok (.aload_n 1, 1) := by decide +kernel
theorem dX0_copy_24 : decode cX0_copy 24 = .ok (.getfield 15, 3) := by decide +kernel
theorem dX0_copy_27 : decode cX0_copy 27 = .ok (.iload_n 2, 1) := by decide +kernel
theorem dX0_copy_28 : decode cX0_copy 28 = .ok (.iaload, 1) := by decide +kernel
theorem dX0_copy_29 : decode cX0_copy 29 = .ok (.iastore, 1) := by decide +kernel
theorem dX0_copy_30 : decode cX0_copy 30 = .ok (.aload_n 0, 1) := by decide +kernel
theorem dX0_copy_31 : decode cX0_copy 31 = .ok (.getfield 19, 3) := by decide +kernel
theorem dX0_copy_34 : decode cX0_copy 34 = .ok (.iload_n 2, 1) := by decide +kernel
theorem dX0_copy_35 : decode cX0_copy 35 = .ok (.aload_n 1, 1) := by decide +kernel
theorem dX0_copy_36 : decode cX0_copy 36 = .ok (.getfield 19, 3) := by decide +kernel
theorem dX0_copy_39 : decode cX0_copy 39 = .ok (.iload_n 2, 1) := by decide +kernel
theorem dX0_copy_40 : decode cX0_copy 40 = .ok (.baload, 1) := by decide +kernel
theorem dX0_copy_41 : decode cX0_copy 41 = .ok (.bastore, 1) := by decide +kernel
theorem dX0_copy_42 : decode cX0_copy 42 = .ok (.aload_n 0, 1) := by decide +kernel
theorem dX0_copy_43 : decode cX0_copy 43 = .ok (.getfield 23, 3) := by decide +kernel
theorem dX0_copy_46 : decode cX0_copy 46 = .ok (.iload_n 2, 1) := by decide +kernel
theorem dX0_copy_47 : decode cX0_copy 47 = .ok (.aload_n 1, 1) := by decide +kernel
theorem dX0_copy_48 : decode cX0_copy 48 = .ok (.getfield 23, 3) := by decide +kernel
theorem dX0_copy_51 : decode cX0_copy 51 = .ok (.iload_n 2, 1) := by decide +kernel
theorem dX0_copy_52 : decode cX0_copy 52 = .ok (.baload, 1) := by decide +kernel
theorem dX0_copy_53 : decode cX0_copy 53 = .ok (.bastore, 1) := by decide +kernel
theorem dX0_copy_54 : decode cX0_copy 54 = .ok (.iinc 2 1, 3) := by decide +kernel
theorem dX0_copy_57 : decode cX0_copy 57 = .ok (.goto (-47), 3) := by decide +kernel
theorem dX0_copy_60 : decode cX0_copy 60 = .ok (.iconst 0, 1) := by decide +kernel
theorem dX0_copy_61 : decode cX0_copy 61 = .ok (.istore_n 2, 1) := by decide +kernel
theorem dX0_copy_62 : decode cX0_copy 62 = .ok (.iload_n 2, 1) := by decide +kernel
theorem dX0_copy_63 : decode cX0_copy 63 = .ok (.iconst 2, 1) := by decide +kernel
theorem dX0_copy_64 : decode cX0_copy 64 = .ok (.aload_n 0, 1) := by decide +kernel
theorem dX0_copy_65 : decode cX0_copy 65 = .ok (.getfield 9, 3) := by decide +kernel
theorem dX0_copy_68 : decode cX0_copy 68 = .ok (.imul, 1) := by decide +kernel
theorem dX0_copy_69 : decode cX0_copy 69 = .ok (.if_icmp .ge 33, 3) := by decide +kernel
theorem dX0_copy_72 : decode cX0_copy 72 = .ok (.aload_n 0, 1) := by decide +kernel
theorem dX0_copy_73 : decode cX0_copy 73 = .ok (.getfield 26, 3) := by decide +kernel
theorem dX0_copy_76 : decode cX0_copy 76 = .ok (.iload_n 2, 1) := by decide +kernel
theorem dX0_copy_77 : decode cX0_copy 77 = .ok (.aload_n 1, 1) := by decide +kernel
theorem dX0_copy_78 : decode cX0_copy 78 = .ok (.getfield 26, 3) := by decide +kernel
theorem dX0_copy_81 : decode cX0_copy 81 = .ok (.iload_n 2, 1) := by decide +kernel
theorem dX0_copy_82 : decode cX0_copy 82 = .ok (.iaload, 1) := by decide +kernel
theorem dX0_copy_83 : decode cX0_copy 83 = .ok (.iastore, 1) := by decide +kernel
theorem dX0_copy_84 : decode cX0_copy 84 = .ok (.aload_n 0, 1) := by decide +kernel
theorem dX0_copy_85 : decode cX0_copy 85 = .ok (.getfield 29, 3) := by decide +kernel
theorem dX0_copy_88 : decode cX0_copy 88 = .ok (.iload_n 2, 1) := by decide +kernel
theorem dX0_copy_89 : decode cX0_copy 89 = .ok (.aload_n 1, 1) := by decide +kernel
theorem dX0_copy_90 : decode cX0_copy 90 = .ok (.getfield 29, 3) := by decide +kernel
theorem dX0_copy_93 : decode cX0_copy 93 = .ok (.iload_n 2, 1) := by decide +kernel
theorem dX0_copy_94 : decode cX0_copy 94 = .ok (.baload, 1) := by decide +kernel
theorem dX0_copy_95 : decode cX0_copy 95 = .ok (.bastore, 1) := by decide +kernel
theorem dX0_copy_96 : decode cX0_copy 96 = .ok (.iinc 2 1, 3) := by decide +kernel
theorem dX0_copy_99 : decode cX0_copy 99 = .ok (.goto (-37), 3) := by decide +kernel
theorem dX0_copy_102 : decode cX0_copy 102 = .ok (.return_, 1) := by decide +kernel
theorem dX1_init_0 : decode cX1_init 0 = .ok (.aload_n 0, 1) := by decide +kernel
theorem dX1_init_1 : decode cX1_init 1 = .ok (.invokespecial 3, 3) := by decide +kernel
theorem dX1_init_4 : decode cX1_init 4 = .ok (.aload_n 0, 1) := by decide +kernel
theorem dX1_init_5 : decode cX1_init 5 = .ok (.iconst 0, 1) := by decide +kernel
theorem dX1_init_6 : decode cX1_init 6 = .ok (.putfield 9, 3) := by decide +kernel
theorem dX1_init_9 : decode cX1_init 9 = .ok (.aload_n 0, 1) := by decide +kernel
theorem dX1_init_10 : decode cX1_init 10 = .ok (.bipush 9, 2) := by decide +kernel
theorem dX1_init_12 : decode cX1_init 12 = .ok (.newarray .int, 2) := by decide +kernel
theorem dX1_init_14 : decode cX1_init 14 = .ok (.putfield 15, 3) := by decide +kernel
theorem dX1_init_17 : decode cX1_init 17 = .ok (.aload_n 0, 1) := by decide +kernel
theorem dX1_init_18 : decode cX1_init 18 = .ok (.bipush 9, 2) := by decide +kernel
theorem dX1_init_20 : decode cX1_init 20 = .ok (.newarray .int, 2) := by decide +kernel
theorem dX1_init_22 : decode cX1_init 22 = .ok (.putfield 19, 3) := by decide +kernel
theorem dX1_init_25 : decode cX1_init 25 = .ok (.aload_n 0, 1) := by decide +kernel
theorem dX1_init_26 : decode cX1_init 26 = .ok (.bipush 9, 2) := by decide +kernel
theorem dX1_init_28 : decode cX1_init 28 = .ok (.newarray .int, 2) := by decide +kernel
theorem dX1_init_30 : decode cX1_init 30 = .ok (.putfield 22, 3) := by decide +kernel
theorem dX1_init_33 : decode cX1_init 33 = .ok (.return_, 1) := by decide +kernel
theorem dX1_add_0 : decode cX1_add 0 = .ok (.aload_n 0, 1) := by decide +kernel
theorem dX1_add_1 : decode cX1_add 1 = .ok (.getfield 9, 3) := by decide +kernel
theorem dX1_add_4 : decode cX1_add 4 = .ok (.bipush 9, 2) := by decide +kernel
theorem dX1_add_6 : decode cX1_add 6 = .ok (.if_icmp .lt 4, 3) := by decide +kernel
theorem dX1_add_9 : decode cX1_add 9 = .ok (.return_, 1) := by decide +kernel
theorem dX1_add_10 : decode cX1_add 10 = .ok (.aload_n 0, 1) := by decide +kernel
theorem dX1_add_11 : decode cX1_add 11 = .ok (.getfield 15, 3) := by decide +kernel
theorem dX1_add_14 : decode cX1_add 14 = .ok (.aload_n 0, 1) := by decide +kernel
theorem dX1_add_15 : decode cX1_add 15 = .ok (.getfield 9, 3) := by decide +kernel
theorem dX1_add_18 : decode cX1_add 18 = .ok (.iload_n 1, 1) := by decide +kernel
theorem dX1_add_19 : decode cX1_add 19 = .ok (.iastore, 1) := by decide +kernel
theorem dX1_add_20 : decode cX1_add 20 = .ok (.aload_n 0, 1) := by decide +kernel
theorem dX1_add_21 : decode cX1_add 21 = .ok (.getfield 19, 3) := by decide +kernel
theorem dX1_add_24 : decode cX1_add 24 = .ok (.aload_n 0, 1) := by decide +kernel
theorem dX1_add_25 : decode cX1_add 25 = .ok (.getfield 9, 3) := by decide +kernel
theorem dX1_add_28 : decode cX1_add 28 = .ok (.iload_n 2, 1) := by decide +kernel
theorem dX1_add_29 : decode cX1_add 29 = .ok (.iastore, 1) := by decide +kernel
theorem dX1_add_30 : decode cX1_add 30 = .ok (.aload_n 0, 1) := by decide +kernel
theorem dX1_add_31 : decode cX1_add 31 = .ok (.getfield 22, 3) := by decide +kernel
theorem dX1_add_34 : decode cX1_add 34 = .ok (.aload_n 0, 1) := by decide +kernel
theorem dX1_add_35 : decode cX1_add 35 = .ok (.getfield 9, 3) := by decide +kernel
theorem dX1_add_38 : decode cX1_add 38 = .ok (.iload_n 3, 1) := by decide +kernel
theorem dX1_add_39 : decode cX1_add 39 = .ok (.iastore, 1) := by decide +kernel
theorem dX1_add_40 : decode cX1_add 40 = .ok (.aload_n 0, 1) := by decide +kernel
theorem dX1_add_41 : decode cX1_add 41 = .ok (.dup, 1) := by decide +kernel
theorem dX1_add_42 : decode cX1_add 42 = .ok (.getfield 9, 3) := by decide +kernel
theorem dX1_add_45 : decode cX1_add 45 = .ok (.iconst 1, 1) := by decide +kernel
theorem dX1_add_46 : decode cX1_add 46 = .ok (.iadd, 1) := by decide +kernel
theorem dX1_add_47 : decode cX1_add 47 = .ok (.putfield 9, 3) := by decide +kernel
theorem dX1_add_50 : decode cX1_add 50 = .ok (.return_, 1) := by decide +kernel
theorem dX1_remove_0 : decode cX1_remove 0 = .ok (.iload_n 1, 1) := by decide +kernel
theorem dX1_remove_1 : decode cX1_remove 1 = .ok (.istore_n 2, 1) := by decide +kernel
theorem dX1_remove_2 : decode cX1_remove 2 = .ok (.iload_n 2, 1) := by decide +kernel
theorem dX1_remove_3 : decode cX1_remove 3 = .ok (.aload_n 0, 1) := by decide +kernel
theorem dX1_remove_4 : decode cX1_remove 4 = .ok (.getfield 9, 3) := by decide +kernel
theorem dX1_remove_7 : decode cX1_remove 7 = .ok (.iconst 1, 1) := by decide +kernel
theorem dX1_remove_8 : decode cX1_remove 8 = .ok (.isub, 1) := by decide +kernel
theorem dX1_remove_9 : decode cX1_remove 9 = .ok (.if_icmp .ge 51, 3) := by decide +kernel
theorem dX1_remove_12 : decode cX1_remove 12 = .ok (.aload_n 0, 1) := by decide +kernel
theorem dX1_remove_13 : decode cX1_remove 13 = .ok (.getfield 15, 3) := by decide +kernel
theorem dX1_remove_16 : decode cX1_remove 16 = .ok (.iload_n 2, 1) := by decide +kernel
theorem dX1_remove_17 : decode cX1_remove 17 = .ok (.aload_n 0, 1) := by decide +kernel
theorem dX1_remove_18 : decode cX1_remove 18 = .ok (.getfield 15, 3) := by decide +kernel
theorem dX1_remove_21 : decode cX1_remove 21 = .ok (.iload_n 2, 1) := by decide +kernel
theorem dX1_remove_22 : decode cX1_remove 22 = .ok (.iconst 1, 1) := by decide +kernel
theorem dX1_remove_23 : decode cX1_remove 23 = .ok (.iadd, 1) := by decide +kernel
theorem dX1_remove_24 : decode cX1_remove 24 = .ok (.iaload, 1) := by decide +kernel
theorem dX1_remove_25 : decode cX1_remove 25 = .ok (.iastore, 1) := by decide +kernel
theorem dX1_remove_26 : decode cX1_remove 26 = .ok (.aload_n 0, 1) := by decide +kernel
theorem dX1_remove_27 : decode cX1_remove 27 = .ok (.getfield 19, 3) := by decide +kernel
theorem dX1_remove_30 : decode cX1_remove 30 = .ok (.iload_n 2, 1) := by decide +kernel
theorem dX1_remove_31 : decode cX1_remove 31 = .ok (.aload_n 0, 1) := by decide +kernel
theorem dX1_remove_32 : decode cX1_remove 32 = .ok (.getfield 19, 3) := by decide +kernel
theorem dX1_remove_35 : decode cX1_remove 35 = .ok (.iload_n 2, 1) := by decide +kernel
theorem dX1_remove_36 : decode cX1_remove 36 = .ok (.iconst 1, 1) := by decide +kernel
theorem dX1_remove_37 : decode cX1_remove 37 = .ok (.iadd, 1) := by decide +kernel
theorem dX1_remove_38 : decode cX1_remove 38 = .ok (.iaload, 1) := by decide +kernel
theorem dX1_remove_39 : decode cX1_remove 39 = .ok (.iastore, 1) := by decide +kernel
theorem dX1_remove_40 : decode cX1_remove 40 = .ok (.aload_n 0, 1) := by decide +kernel
theorem dX1_remove_41 : decode cX1_remove 41 = .ok (.getfield 22, 3) := by decide +kernel
theorem dX1_remove_44 : decode cX1_remove 44 = .ok (.iload_n 2, 1) := by decide +kernel
theorem dX1_remove_45 : decode cX1_remove 45 = .ok (.aload_n 0, 1) := by decide +kernel
theorem dX1_remove_46 : decode cX1_remove 46 = .ok (.getfield 22, 3) := by decide +kernel
theorem dX1_remove_49 : decode cX1_remove 49 = .ok (.iload_n 2, 1) := by decide +kernel
theorem dX1_remove_50 : decode cX1_remove 50 = .ok (.iconst 1, 1) := by decide +kernel
theorem dX1_remove_51 : decode cX1_remove 51 = .ok (.iadd, 1) := by decide +kernel
theorem dX1_remove_52 : decode cX1_remove 52 = .ok (.iaload, 1) := by decide +kernel
theorem dX1_remove_53 : decode cX1_remove 53 = .ok (.iastore, 1) := by decide +kernel
theorem dX1_remove_54 : decode cX1_remove 54 = .ok (.iinc 2 1, 3) := by decide +kernel
theorem dX1_remove_57 : decode cX1_remove 57 = .ok (.goto (-55), 3) := by decide +kernel
theorem dX1_remove_60 : decode cX1_remove 60 = .ok (.aload_n 0, 1) := by decide +kernel
theorem dX1_remove_61 : decode cX1_remove 61 = .ok (.dup, 1) := by decide +kernel
theorem dX1_remove_62 : decode cX1_remove 62 = .ok (.getfield 9, 3) := by decide +kernel
theorem dX1_remove_65 : decode cX1_remove 65 = .ok (.iconst 1, 1) := by decide +kernel
theorem dX1_remove_66 : decode cX1_remove 66 = .ok (.isub, 1) := by decide +kernel
theorem dX1_remove_67 : decode cX1_remove 67 = .ok (.putfield 9, 3) := by decide +kernel
theorem dX1_remove_70 : decode cX1_remove 70 = .ok (.return_, 1) := by decide +kernel
theorem dX1_copy_0 : decode cX1_copy 0 = .ok (.aload_n 0, 1) := by decide +kernel
theorem dX1_copy_1 : decode cX1_copy 1 = .ok (.aload_n 1, 1) := by decide +kernel
theorem dX1_copy_2 : decode cX1_copy 2 = .ok (.getfield 9, 3) := by decide +kernel
theorem dX1_copy_5 : decode cX1_copy 5 = .ok (.putfield 9, 3) := by decide +kernel
theorem dX1_copy_8 : decode cX1_copy 8 = .ok (.iconst 0, 1) := by decide +kernel
theorem dX1_copy_9 : decode cX1_copy 9 = .ok (.istore_n 2, 1) := by decide +kernel
theorem dX1_copy_10 : decode cX1_copy 10 = .ok (.iload_n 2, 1) := by decide +kernel
theorem dX1_copy_11 : decode cX1_copy 11 = .ok (.aload_n 0, 1) := by decide +kernel
theorem dX1_copy_12 : decode cX1_copy 12 = .ok (.getfield 9, 3) := by decide +kernel
theorem dX1_copy_15 : decode cX1_copy 15 = .ok (.if_icmp .ge 45, 3) := by decide +kernel
theorem dX1_copy_18 : decode cX1_copy 18 = .ok (.aload_n 0, 1) := by decide +kernel
theorem dX1_copy_19 : decode cX1_copy 19 = .ok (.getfield 15, 3) := by decide +kernel
theorem dX1_copy_22 : decode cX1_copy 22 = .ok (.iload_n 2, 1) := by decide +kernel
theorem dX1_copy_23 : decode cX1_copy 23 = .ok (.aload_n 1, 1) := by decide +kernel
theorem dX1_copy_24 : decode cX1_copy 24 = .ok (.getfield 15, 3) := by decide +kernel
theorem dX1_copy_27 : decode cX1_copy 27 = .ok (.iload_n 2, 1) := by decide +kernel
theorem dX1_copy_28 : decode cX1_copy 28 = .ok (.iaload, 1) := by decide +kernel
theorem dX1_copy_29 : decode cX1_copy 29 = .ok (.iastore, 1) := by decide +kernel
theorem dX1_copy_30 : decode cX1_copy 30 = .ok (.aload_n 0, 1) := by decide +kernel
theorem dX1_copy_31 : decode cX1_copy 31 = .ok (.getfield 19, 3) := by decide +kernel
theorem dX1_copy_34 : decode cX1_copy 34 = .ok (.iload_n 2, 1) := by decide +kernel
theorem dX1_copy_35 : decode cX1_copy 35 = .ok (.aload_n 1, 1) := by decide +kernel
theorem dX1_copy_36 : decode cX1_copy 36 = .ok (.getfield 19, 3) := by decide +kernel
theorem dX1_copy_39 : decode cX1_copy 39 = .ok (.iload_n 2, 1) := by decide +kernel
theorem dX1_copy_40 : decode cX1_copy 40 = .ok (.iaload, 1) := by decide +kernel
theorem dX1_copy_41 : decode cX1_copy 41 = .ok (.iastore, 1) := by decide +kernel
theorem dX1_copy_42 : decode cX1_copy 42 = .ok (.aload_n 0, 1) := by decide +kernel
theorem dX1_copy_43 : decode cX1_copy 43 = .ok (.getfield 22, 3) := by decide +kernel
theorem dX1_copy_46 : decode cX1_copy 46 = .ok (.iload_n 2, 1) := by decide +kernel
theorem dX1_copy_47 : decode cX1_copy 47 = .ok (.aload_n 1, 1) := by decide +kernel
theorem dX1_copy_48 : decode cX1_copy 48 = .ok (.getfield 22, 3) := by decide +kernel
theorem dX1_copy_51 : decode cX1_copy 51 = .ok (.iload_n 2, 1) := by decide +kernel
theorem dX1_copy_52 : decode cX1_copy 52 = .ok (.iaload, 1) := by decide +kernel
theorem dX1_copy_53 : decode cX1_copy 53 = .ok (.iastore, 1) := by decide +kernel
theorem dX1_copy_54 : decode cX1_copy 54 = .ok (.iinc 2 1, 3) := by decide +kernel
theorem dX1_copy_57 : decode cX1_copy 57 = .ok (.goto (-47), 3) := by decide +kernel
theorem dX1_copy_60 : decode cX1_copy 60 = .ok (.return_, 1) := by decide +kernel
theorem dX2_init_0 : decode cX2_init 0 = .ok (.aload_n 0, 1) := by decide +kernel
theorem dX2_init_1 : decode cX2_init 1 = .ok (.invokespecial 3, 3) := by decide +kernel
theorem dX2_init_4 : decode cX2_init 4 = .ok (.aload_n 0, 1) := by decide +kernel
theorem dX2_init_5 : decode cX2_init 5 = .ok (.iconst 0, 1) := by decide +kernel
theorem dX2_init_6 : decode cX2_init 6 = .ok (.putfield 9, 3) := by decide +kernel
theorem dX2_init_9 : decode cX2_init 9 = .ok (.aload_n 0, 1) := by decide +kernel
theorem dX2_init_10 : decode cX2_init 10 = .ok (.bipush 6, 2) := by decide +kernel
theorem dX2_init_12 : decode cX2_init 12 = .ok (.anewarray 15, 3) := by decide +kernel
theorem dX2_init_15 : decode cX2_init 15 = .ok (.putfield 17, 3) := by decide +kernel
theorem dX2_init_18 : decode cX2_init 18 = .ok (.iconst 0, 1) := by decide +kernel
theorem dX2_init_19 : decode cX2_init 19 = .ok (.istore_n 1, 1) := by decide +kernel
theorem dX2_init_20 : decode cX2_init 20 = .ok (.iload_n 1, 1) := by decide +kernel
theorem dX2_init_21 : decode cX2_init 21 = .ok (.bipush 6, 2) := by decide +kernel
theorem dX2_init_23 : decode cX2_init 23 = .ok (.if_icmp .ge 22, 3) := by decide +kernel
theorem dX2_init_26 : decode cX2_init 26 = .ok (.aload_n 0, 1) := by decide +kernel
theorem dX2_init_27 : decode cX2_init 27 = .ok (.getfield 17, 3) := by decide +kernel
theorem dX2_init_30 : decode cX2_init 30 = .ok (.iload_n 1, 1) := by decide +kernel
theorem dX2_init_31 : decode cX2_init 31 = .ok (.new 15, 3) := by decide +kernel
theorem dX2_init_34 : decode cX2_init 34 = .ok (.dup, 1) := by decide +kernel
theorem dX2_init_35 : decode cX2_init 35 = .ok (.invokespecial 21, 3) := by decide +kernel
theorem dX2_init_38 : decode cX2_init 38 = .ok (.aastore, 1) := by decide +kernel
theorem dX2_init_39 : decode cX2_init 39 = .ok (.iinc 1 1, 3) := by decide +kernel
theorem dX2_init_42 : decode cX2_init 42 = .ok (.goto (-22), 3) := by decide +kernel
theorem dX2_init_45 : decode cX2_init 45 = .ok (.return_, 1) := by decide +kernel
theorem dX2_save_0 : decode cX2_save 0 = .ok (.aload_n 0, 1) := by decide +kernel
theorem dX2_save_1 : decode cX2_save 1 = .ok (.getfield 9, 3) := by decide +kernel
theorem dX2_save_4 : decode cX2_save 4 = .ok (.bipush 6, 2) := by decide +kernel
theorem dX2_save_6 : decode cX2_save 6 = .ok (.if_icmp .lt 7, 3) := by decide +kernel
theorem dX2_save_9 : decode cX2_save 9 = .ok (.aload_n 0, 1) := by decide +kernel
theorem dX2_save_10 : decode cX2_save 10 = .ok (.invokevirtual 22, 3) := by decide +kernel
theorem dX2_save_13 : decode cX2_save 13 = .ok (.aload_n 0, 1) := by decide +kernel
theorem dX2_save_14 : decode cX2_save 14 = .ok (.getfield 17, 3) := by decide +kernel
theorem dX2_save_17 : decode cX2_save 17 = .ok (.aload_n 0, 1) := by decide +kernel
theorem dX2_save_18 : decode cX2_save 18 = .ok (.getfield 9, 3) := by decide +kernel
theorem dX2_save_21 : decode cX2_save 21 = .ok (.aaload, 1) := by decide +kernel
theorem dX2_save_22 : decode cX2_save 22 = .ok (.aload_n 1, 1) := by decide +kernel
theorem dX2_save_23 : decode cX2_save 23 = .ok (.invokevirtual 25, 3) := by decide +kernel
theorem dX2_save_26 : decode cX2_save 26 = .ok (.aload_n 0, 1) := by decide +kernel
theorem dX2_save_27 : decode cX2_save 27 = .ok (.dup, 1) := by decide +kernel
theorem dX2_save_28 : decode cX2_save 28 = .ok (.getfield 9, 3) := by decide +kernel
theorem dX2_save_31 : decode cX2_save 31 = .ok (.iconst 1, 1) := by decide +kernel
theorem dX2_save_32 : decode cX2_save 32 = .ok (.iadd, 1) := by decide +kernel
theorem dX2_save_33 : decode cX2_save 33 = .ok (.putfield 9, 3) := by decide +kernel
theorem dX2_save_36 : decode cX2_save 36 = .ok (.return_, 1) := by decide +kernel
theorem dX2_dropOldest_0 : decode cX2_dropOldest 0 = .ok (.aload_n 0, 1) := by decide +kernel
theorem dX2_dropOldest_1 : decode cX2_dropOldest 1 = .ok (.getfield 17, 3) := by decide +kernel
theorem dX2_dropOldest_4 : decode cX2_dropOldest 4 = .ok (.iconst 0, 1) := by decide +kernel
theorem dX2_dropOldest_5 : decode cX2_dropOldest 5 = .ok (.aaload, 1) := by decide +kernel
theorem dX2_dropOldest_6 : decode cX2_dropOldest 6 = .ok (.astore_n 1, 1) := by decide +kernel
theorem dX2_dropOldest_7 : decode cX2_dropOldest 7 = .ok (.iconst 0, 1) := by decide +kernel
theorem dX2_dropOldest_8 : decode cX2_dropOldest 8 = .ok (.istore_n 2, 1) := by decide +kernel
theorem dX2_dropOldest_9 : decode cX2_dropOldest 9 = .ok (.iload_n 2, 1) := by decide +kernel
theorem dX2_dropOldest_10 : decode cX2_dropOldest 10 = .ok (.iconst 5, 1) := by decide +kernel
theorem dX2_dropOldest_11 : decode cX2_dropOldest 11 = .ok (.if_icmp .ge 23, 3) := by decide +kernel
theorem dX2_dropOldest_14 : decode cX2_dropOldest 14 = .ok (.aload_n 0, 1) := by decide +kernel
theorem dX2_dropOldest_15 : decode cX2_dropOldest 15 = .ok (.getfield 17, 3) := by decide +kernel
theorem dX2_dropOldest_18 : decode cX2_dropOldest 18 = .ok (.iload_n 2, 1) := by decide +kernel
theorem dX2_dropOldest_19 : decode cX2_dropOldest 19 = .ok (.aload_n 0, 1) := by decide +kernel
theorem dX2_dropOldest_20 : decode cX2_dropOldest 20 = .ok (.getfield 17, 3) := by decide +kernel
theorem dX2_dropOldest_23 : decode cX2_dropOldest 23 = .ok (.iload_n 2, 1) := by decide +kernel
theorem dX2_dropOldest_24 : decode cX2_dropOldest 24 = .ok (.iconst 1, 1) := by decide +kernel
theorem dX2_dropOldest_25 : decode cX2_dropOldest 25 = .ok (.iadd, 1) := by decide +kernel
theorem dX2_dropOldest_26 : decode cX2_dropOldest 26 = .ok (.aaload, 1) := by decide +kernel
theorem dX2_dropOldest_27 : decode cX2_dropOldest 27 = .ok (.aastore, 1) := by decide +kernel
theorem dX2_dropOldest_28 : decode cX2_dropOldest 28 = .ok (.iinc 2 1, 3) := by decide +kernel
theorem dX2_dropOldest_31 : decode cX2_dropOldest 31 = .ok (.goto (-22), 3) := by decide +kernel
theorem dX2_dropOldest_34 : decode cX2_dropOldest 34 = .ok (.aload_n 0, 1) := by decide +kernel
theorem dX2_dropOldest_35 : decode cX2_dropOldest 35 = .ok (.getfield 17, 3) := by decide +kernel
theorem dX2_dropOldest_38 : decode cX2_dropOldest 38 = .ok (.iconst 5, 1) := by decide +kernel
theorem dX2_dropOldest_39 : decode cX2_dropOldest 39 = .ok (.aload_n 1, 1) := by decide +kernel
theorem dX2_dropOldest_40 : decode cX2_dropOldest 40 = .ok (.aastore, 1) := by decide +kernel
theorem dX2_dropOldest_41 : decode cX2_dropOldest 41 = .ok (.aload_n 0, 1) := by decide +kernel
theorem dX2_dropOldest_42 : decode cX2_dropOldest 42 = .ok (.iconst 5, 1) := by decide +kernel
theorem dX2_dropOldest_43 : decode cX2_dropOldest 43 = .ok (.putfield 9, 3) := by decide +kernel
theorem dX2_dropOldest_46 : decode cX2_dropOldest 46 = .ok (.return_, 1) := by decide +kernel
theorem dX3_init_0 : decode cX3_init 0 = .ok (.aload_n 0, 1) := by decide +kernel
theorem dX3_init_1 : decode cX3_init 1 = .ok (.invokespecial 3, 3) := by decide +kernel
theorem dX3_init_4 : decode cX3_init 4 = .ok (.aload_n 0, 1) := by decide +kernel
theorem dX3_init_5 : decode cX3_init 5 = .ok (.iconst 0, 1) := by decide +kernel
theorem dX3_init_6 : decode cX3_init 6 = .ok (.putfield 9, 3) := by decide +kernel
theorem dX3_init_9 : decode cX3_init 9 = .ok (.aload_n 0, 1) := by decide +kernel
theorem dX3_init_10 : decode cX3_init 10 = .ok (.bipush 16, 2) := by decide +kernel
theorem dX3_init_12 : decode cX3_init 12 = .ok (.newarray .int, 2) := by decide +kernel
theorem dX3_init_14 : decode cX3_init 14 = .ok (.putfield 15, 3) := by decide +kernel
theorem dX3_init_17 : decode cX3_init 17 = .ok (.aload_n 0, 1) := by decide +kernel
theorem dX3_init_18 : decode cX3_init 18 = .ok (.bipush 16, 2) := by decide +kernel
theorem dX3_init_20 : decode cX3_init 20 = .ok (.newarray .int, 2) := by decide +kernel
theorem dX3_init_22 : decode cX3_init 22 = .ok (.putfield 19, 3) := by decide +kernel
theorem dX3_init_25 : decode cX3_init 25 = .ok (.aload_n 0, 1) := by decide +kernel
theorem dX3_init_26 : decode cX3_init 26 = .ok (.bipush 16, 2) := by decide +kernel
theorem dX3_init_28 : decode cX3_init 28 = .ok (.newarray .boolean, 2) := by decide +kernel
theorem dX3_init_30 : decode cX3_init 30 = .ok (.putfield 22, 3) := by decide +kernel
theorem dX3_init_33 : decode cX3_init 33 = .ok (.return_, 1) := by decide +kernel
theorem dX3_add_0 : decode cX3_add 0 = .ok (.aload_n 0, 1) := by decide +kernel
theorem dX3_add_1 : decode cX3_add 1 = .ok (.getfield 9, 3) := by decide +kernel
theorem dX3_add_4 : decode cX3_add 4 = .ok (.bipush 16, 2) := by decide +kernel
theorem dX3_add_6 : decode cX3_add 6 = .ok (.if_icmp .lt 4, 3) := by decide +kernel
theorem dX3_add_9 : decode cX3_add 9 = .ok (.return_, 1) := by decide +kernel
theorem dX3_add_10 : decode cX3_add 10 = .ok (.aload_n 0, 1) := by decide +kernel
theorem dX3_add_11 : decode cX3_add 11 = .ok (.getfield 15, 3) := by decide +kernel
theorem dX3_add_14 : decode cX3_add 14 = .ok (.aload_n 0, 1) := by decide +kernel
theorem dX3_add_15 : decode cX3_add 15 = .ok (.getfield 9, 3) := by decide +kernel
theorem dX3_add_18 : decode cX3_add 18 = .ok (.iload_n 1, 1) := by decide +kernel
theorem dX3_add_19 : decode cX3_add 19 = .ok (.iastore, 1) := by decide +kernel
theorem dX3_add_20 : decode cX3_add 20 = .ok (.aload_n 0, 1) := by decide +kernel
theorem dX3_add_21 : decode cX3_add 21 = .ok (.getfield 19, 3) := by decide +kernel
theorem dX3_add_24 : decode cX3_add 24 = .ok (.aload_n 0, 1) := by decide +kernel
theorem dX3_add_25 : decode cX3_add 25 = .ok (.getfield 9, 3) := by decide +kernel
theorem dX3_add_28 : decode cX3_add 28 = .ok (.iload_n 2, 1) := by decide +kernel
theorem dX3_add_29 : decode cX3_add 29 = .ok (.iastore, 1) := by decide +kernel
theorem dX3_add_30 : decode cX3_add 30 = .ok (.aload_n 0, 1) := by decide +kernel
theorem dX3_add_31 : decode cX3_add 31 = .ok (.getfield 22, 3) := by decide +kernel
theorem dX3_add_34 : decode cX3_add 34 = .ok (.aload_n 0, 1) := by decide +kernel
theorem dX3_add_35 : decode cX3_add 35 = .ok (.getfield 9, 3) := by decide +kernel
theorem dX3_add_38 : decode cX3_add 38 = .ok (.iload_n 3, 1) := by decide +kernel
theorem dX3_add_39 : decode cX3_add 39 = .ok (.bastore, 1) := by decide +kernel
theorem dX3_add_40 : decode cX3_add 40 = .ok (.aload_n 0, 1) := by decide +kernel
theorem dX3_add_41 : decode cX3_add 41 = .ok (.dup, 1) := by decide +kernel
theorem dX3_add_42 : decode cX3_add 42 = .ok (.getfield 9, 3) := by decide +kernel
theorem dX3_add_45 : decode cX3_add 45 = .ok (.iconst 1, 1) := by decide +kernel
theorem dX3_add_46 : decode cX3_add 46 = .ok (.iadd, 1) := by decide +kernel
theorem dX3_add_47 : decode cX3_add 47 = .ok (.putfield 9, 3) := by decide +kernel
theorem dX3_add_50 : decode cX3_add 50 = .ok (.return_, 1) := by decide +kernel
theorem dX3_remove_0 : decode cX3_remove 0 = .ok (.iload_n 1, 1) := by decide +kernel
theorem dX3_remove_1 : decode cX3_remove 1 = .ok (.istore_n 2, 1) := by decide +kernel
theorem dX3_remove_2 : decode cX3_remove 2 = .ok (.iload_n 2, 1) := by decide +kernel
theorem dX3_remove_3 : decode cX3_remove 3 = .ok (.aload_n 0, 1) := by decide +kernel
theorem dX3_remove_4 : decode cX3_remove 4 = .ok (.getfield 9, 3) := by decide +kernel
theorem dX3_remove_7 : decode cX3_remove 7 = .ok (.iconst 1, 1) := by decide +kernel
theorem dX3_remove_8 : decode cX3_remove 8 = .ok (.isub, 1) := by decide +kernel
theorem dX3_remove_9 : decode cX3_remove 9 = .ok (.if_icmp .ge 51, 3) := by decide +kernel
theorem dX3_remove_12 : decode cX3_remove 12 = .ok (.aload_n 0, 1) := by decide +kernel
theorem dX3_remove_13 : decode cX3_remove 13 = .ok (.getfield 15, 3) := by decide +kernel
theorem dX3_remove_16 : decode cX3_remove 16 = .ok (.iload_n 2, 1) := by decide +kernel
theorem dX3_remove_17 : decode cX3_remove 17 = .ok (.aload_n 0, 1) := by decide +kernel
theorem dX3_remove_18 : decode cX3_remove 18 = .ok (.getfield 15, 3) := by decide +kernel
theorem dX3_remove_21 : decode cX3_remove 21 = .ok (.iload_n 2, 1) := by decide +kernel
theorem dX3_remove_22 : decode cX3_remove 22 = .ok (.iconst 1, 1) := by decide +kernel
theorem dX3_remove_23 : decode cX3_remove 23 = .ok (.iadd, 1) := by decide +kernel
theorem dX3_remove_24 : decode cX3_remove 24 = .ok (.iaload, 1) := by decide +kernel
theorem dX3_remove_25 : decode cX3_remove 25 = .ok (.iastore, 1) := by decide +kernel
theorem dX3_remove_26 : decode cX3_remove 26 = .ok (.aload_n 0, 1) := by decide +kernel
theorem dX3_remove_27 : decode cX3_remove 27 = .ok (.getfield 19, 3) := by decide +kernel
theorem dX3_remove_30 : decode cX3_remove 30 = .ok (.iload_n 2, 1) := by decide +kernel
theorem dX3_remove_31 : decode cX3_remove 31 = .ok (.aload_n 0, 1) := by decide +kernel
theorem dX3_remove_32 : decode cX3_remove 32 = .ok (.getfield 19, 3) := by decide +kernel
theorem dX3_remove_35 : decode cX3_remove 35 = .ok (.iload_n 2, 1) := by decide +kernel
theorem dX3_remove_36 : decode cX3_remove 36 = .ok (.iconst 1, 1) := by decide +kernel
theorem dX3_remove_37 : decode cX3_remove 37 = .ok (.iadd, 1) := by decide +kernel
theorem dX3_remove_38 : decode cX3_remove 38 = .ok (.iaload, 1) := by decide +kernel
theorem dX3_remove_39 : decode cX3_remove 39 = .ok (.iastore, 1) := by decide +kernel
theorem dX3_remove_40 : decode cX3_remove 40 = .ok (.aload_n 0, 1) := by decide +kernel
theorem dX3_remove_41 : decode cX3_remove 41 = .ok (.getfield 22, 3) := by decide +kernel
theorem dX3_remove_44 : decode cX3_remove 44 = .ok (.iload_n 2, 1) := by decide +kernel
theorem dX3_remove_45 : decode cX3_remove 45 = .ok (.aload_n 0, 1) := by decide +kernel
theorem dX3_remove_46 : decode cX3_remove 46 = .ok (.getfield 22, 3) := by decide +kernel
theorem dX3_remove_49 : decode cX3_remove 49 = .ok (.iload_n 2, 1) := by decide +kernel
theorem dX3_remove_50 : decode cX3_remove 50 = .ok (.iconst 1, 1) := by decide +kernel
theorem dX3_remove_51 : decode cX3_remove 51 = .ok (.iadd, 1) := by decide +kernel
theorem dX3_remove_52 : decode cX3_remove 52 = .ok (.baload, 1) := by decide +kernel
theorem dX3_remove_53 : decode cX3_remove 53 = .ok (.bastore, 1) := by decide +kernel
theorem dX3_remove_54 : decode cX3_remove 54 = .ok (.iinc 2 1, 3) := by decide +kernel
theorem dX3_remove_57 : decode cX3_remove 57 = .ok (.goto (-55), 3) := by decide +kernel
theorem dX3_remove_60 : decode cX3_remove 60 = .ok (.aload_n 0, 1) := by decide +kernel
theorem dX3_remove_61 : decode cX3_remove 61 = .ok (.dup, 1) := by decide +kernel
theorem dX3_remove_62 : decode cX3_remove 62 = .ok (.getfield 9, 3) := by decide +kernel
theorem dX3_remove_65 : decode cX3_remove 65 = .ok (.iconst 1, 1) := by decide +kernel
theorem dX3_remove_66 : decode cX3_remove 66 = .ok (.isub, 1) := by decide +kernel
theorem dX3_remove_67 : decode cX3_remove 67 = .ok (.putfield 9, 3) := by decide +kernel
theorem dX3_remove_70 : decode cX3_remove 70 = .ok (.return_, 1) := by decide +kernel
theorem dX3_copy_0 : decode cX3_copy 0 = .ok (.aload_n 0, 1) := by decide +kernel
theorem dX3_copy_1 : decode cX3_copy 1 = .ok (.aload_n 1, 1) := by decide +kernel
theorem dX3_copy_2 : decode cX3_copy 2 = .ok (.getfield 9, 3) := by decide +kernel
theorem dX3_copy_5 : decode cX3_copy 5 = .ok (.putfield 9, 3) := by decide +kernel
theorem dX3_copy_8 : decode cX3_copy 8 = .ok (.iconst 0, 1) := by decide +kernel
theorem dX3_copy_9 : decode cX3_copy 9 = .ok (.istore_n 2, 1) := by decide +kernel
theorem dX3_copy_10 : decode cX3_copy 10 = .ok (.iload_n 2, 1) := by decide +kernel
theorem dX3_copy_11 : decode cX3_copy 11 = .ok (.aload_n 0, 1) := by decide +kernel
theorem dX3_copy_12 : decode cX3_copy 12 = .ok (.getfield 9, 3) := by decide +kernel
theorem dX3_copy_15 : decode cX3_copy 15 = .ok (.if_icmp .ge 45, 3) := by decide +kernel
theorem dX3_copy_18 : decode cX3_copy 18 = .ok (.aload_n 0, 1) := by decide +kernel
theorem dX3_copy_19 : decode cX3_copy 19 = .ok (.getfield 15, 3) := by decide +kernel
theorem dX3_copy_22 : decode cX3_copy 22 = .ok (.iload_n 2, 1) := by decide +kernel
theorem dX3_copy_23 : decode cX3_copy 23 = .ok (.aload_n 1, 1) := by decide +kernel
theorem dX3_copy_24 : decode cX3_copy 24 = .ok (.getfield 15, 3) := by decide +kernel
theorem dX3_copy_27 : decode cX3_copy 27 = .ok (.iload_n 2, 1) := by decide +kernel
theorem dX3_copy_28 : decode cX3_copy 28 = .ok (.iaload, 1) := by decide +kernel
theorem dX3_copy_29 : decode cX3_copy 29 = .ok (.iastore, 1) := by decide +kernel
theorem dX3_copy_30 : decode cX3_copy 30 = .ok (.aload_n 0, 1) := by decide +kernel
theorem dX3_copy_31 : decode cX3_copy 31 = .ok (.getfield 19, 3) := by decide +kernel
theorem dX3_copy_34 : decode cX3_copy 34 = .ok (.iload_n 2, 1) := by decide +kernel
theorem dX3_copy_35 : decode cX3_copy 35 = .ok (.aload_n 1, 1) := by decide +kernel
theorem dX3_copy_36 : decode cX3_copy 36 = .ok (.getfield 19, 3) := by decide +kernel
theorem dX3_copy_39 : decode cX3_copy 39 = .ok (.iload_n 2, 1) := by decide +kernel
theorem dX3_copy_40 : decode cX3_copy 40 = .ok (.iaload, 1) := by decide +kernel
theorem dX3_copy_41 : decode cX3_copy 41 = .ok (.iastore, 1) := by decide +kernel
theorem dX3_copy_42 : decode cX3_copy 42 = .ok (.aload_n 0, 1) := by decide +kernel
theorem dX3_copy_43 : decode cX3_copy 43 = .ok (.getfield 22, 3) := by decide +kernel
theorem dX3_copy_46 : decode cX3_copy 46 = .ok (.iload_n 2, 1) := by decide +kernel
theorem dX3_copy_47 : decode cX3_copy 47 = .ok (.aload_n 1, 1) := by decide +kernel
theorem dX3_copy_48 : decode cX3_copy 48 = .ok (.getfield 22, 3) := by decide +kernel
theorem dX3_copy_51 : decode cX3_copy 51 = .ok (.iload_n 2, 1) := by decide +kernel
theorem dX3_copy_52 : decode cX3_copy 52 = .ok (.baload, 1) := by decide +kernel
theorem dX3_copy_53 : decode cX3_copy 53 = .ok (.bastore, 1) := by decide +kernel
theorem dX3_copy_54 : decode cX3_copy 54 = .ok (.iinc 2 1, 3) := by decide +kernel
theorem dX3_copy_57 : decode cX3_copy 57 = .ok (.goto (-47), 3) := by decide +kernel
theorem dX3_copy_60 : decode cX3_copy 60 = .ok (.return_, 1) := by decide +kernel
theorem dX4_init_0 : decode cX4_init 0 = .ok (.aload_n 0, 1) := by decide +kernel
theorem dX4_init_1 : decode cX4_init 1 = .ok (.invokespecial 3, 3) := by decide +kernel
theorem dX4_init_4 : decode cX4_init 4 = .ok (.aload_n 0, 1) := by decide +kernel
theorem dX4_init_5 : decode cX4_init 5 = .ok (.iconst 3, 1) := by decide +kernel
theorem dX4_init_6 : decode cX4_init 6 = .ok (.newarray .int, 2) := by decide +kernel
theorem dX4_init_8 : decode cX4_init 8 = .ok (.putfield 11, 3) := by decide +kernel
theorem dX4_init_11 : decode cX4_init 11 = .ok (.aload_n 0, 1) := by decide +kernel
theorem dX4_init_12 : decode cX4_init 12 = .ok (.iconst 0, 1) := by decide +kernel
theorem dX4_init_13 : decode cX4_init 13 = .ok (.putfield 15, 3) := by decide +kernel
theorem dX4_init_16 : decode cX4_init 16 = .ok (.aload_n 0, 1) := by decide +kernel
theorem dX4_init_17 : decode cX4_init 17 = .ok (.iconst 0, 1) := by decide +kernel
theorem dX4_init_18 : decode cX4_init 18 = .ok (.putfield 19, 3) := by decide +kernel
theorem dX4_init_21 : decode cX4_init 21 = .ok (.return_, 1) := by decide +kernel
theorem dX5_init_0 : decode cX5_init 0 = .ok (.aload_n 0, 1) := by decide +kernel
theorem dX5_init_1 : decode cX5_init 1 = .ok (.invokespecial 3, 3) := by decide +kernel
theorem dX5_init_4 : decode cX5_init 4 = .ok (.aload_n 0, 1) := by decide +kernel
theorem dX5_init_5 : decode cX5_init 5 = .ok (.new 9, 3) := by decide +kernel
theorem dX5_init_8 : decode cX5_init 8 = .ok (.dup, 1) := by decide +kernel
theorem dX5_init_9 : decode cX5_init 9 = .ok (.invokespecial 11, 3) := by decide +kernel
theorem dX5_init_12 : decode cX5_init 12 = .ok (.putfield 12, 3) := by decide +kernel
theorem dX5_init_15 : decode cX5_init 15 = .ok (.aload_n 0, 1) := by decide +kernel
theorem dX5_init_16 : decode cX5_init 16 = .ok (.new 18, 3) := by decide +kernel
theorem dX5_init_19 : decode cX5_init 19 = .ok (.dup, 1) := by decide +kernel
theorem dX5_init_20 : decode cX5_init 20 = .ok (.invokespecial 20, 3) := by decide +kernel
theorem dX5_init_23 : decode cX5_init 23 = .ok (.putfield 21, 3) := by decide +kernel
theorem dX5_init_26 : decode cX5_init 26 = .ok (.aload_n 0, 1) := by decide +kernel
theorem dX5_init_27 : decode cX5_init 27 = .ok (.new 25, 3) := by decide +kernel
theorem dX5_init_30 : decode cX5_init 30 = .ok (.dup, 1) := by decide +kernel
theorem dX5_init_31 : decode cX5_init 31 = .ok (.invokespecial 27, 3) := by decide +kernel
theorem dX5_init_34 : decode cX5_init 34 = .ok (.putfield 28, 3) := by decide +kernel
theorem dX5_init_37 : decode cX5_init 37 = .ok (.aload_n 0, 1) := by decide +kernel
theorem dX5_init_38 : decode cX5_init 38 = .ok (.bipush 10, 2) := by decide +kernel
theorem dX5_init_40 : decode cX5_init 40 = .ok (.putfield 32, 3) := by decide +kernel
theorem dX5_init_43 : decode cX5_init 43 = .ok (.aload_n 0, 1) := by decide +kernel
theorem dX5_init_44 : decode cX5_init 44 = .ok (.iconst 0, 1) := by decide +kernel
theorem dX5_init_45 : decode cX5_init 45 = .ok (.putfield 36, 3) := by decide +kernel
theorem dX5_init_48 : decode cX5_init 48 = .ok (.aload_n 0, 1) := by decide +kernel
theorem dX5_init_49 : decode cX5_init 49 = .ok (.iconst 0, 1) := by decide +kernel
theorem dX5_init_50 : decode cX5_init 50 = .ok (.putfield 39, 3) := by decide +kernel
theorem dX5_init_53 : decode cX5_init 53 = .ok (.aload_n 0, 1) := by decide +kernel
theorem dX5_init_54 : decode cX5_init 54 = .ok (.iconst 0, 1) := by decide +kernel
theorem dX5_init_55 : decode cX5_init 55 = .ok (.putfield 42, 3) := by decide +kernel
theorem dX5_init_58 : decode cX5_init 58 = .ok (.aload_n 0, 1) := by decide +kernel
theorem dX5_init_59 : decode cX5_init 59 = .ok (.iconst 0, 1) := by decide +kernel
theorem dX5_init_60 : decode cX5_init 60 = .ok (.putfield 45, 3) := by decide +kernel
theorem dX5_init_63 : decode cX5_init 63 = .ok (.return_, 1) := by decide +kernel
theorem dX5_copy_0 : decode cX5_copy 0 = .ok (.aload_n 0, 1) := by decide +kernel
theorem dX5_copy_1 : decode cX5_copy 1 = .ok (.getfield 12, 3) := by decide +kernel
theorem dX5_copy_4 : decode cX5_copy 4 = .ok (.aload_n 1, 1) := by decide +kernel
theorem dX5_copy_5 : decode cX5_copy 5 = .ok (.getfield 12, 3) := by decide +kernel
theorem dX5_copy_8 : decode cX5_copy 8 = .ok (.invokevirtual 48, 3) := by decide +kernel
theorem dX5_copy_11 : decode cX5_copy 11 = .ok (.aload_n 0, 1) := by decide +kernel
theorem dX5_copy_12 : decode cX5_copy 12 = .ok (.getfield 21, 3) := by decide +kernel
theorem dX5_copy_15 : decode cX5_copy 15 = .ok (.aload_n 1, 1) := by decide +kernel
theorem dX5_copy_16 : decode cX5_copy 16 = .ok (.getfield 21, 3) := by decide +kernel
theorem dX5_copy_19 : decode cX5_copy 19 = .ok (.invokevirtual 52, 3) := by decide +kernel
theorem dX5_copy_22 : decode cX5_copy 22 = .ok (.aload_n 0, 1) := by decide +kernel
theorem dX5_copy_23 : decode cX5_copy 23 = .ok (.getfield 28, 3) := by decide +kernel
theorem dX5_copy_26 : decode cX5_copy 26 = .ok (.aload_n 1, 1) := by decide +kernel
theorem dX5_copy_27 : decode cX5_copy 27 = .ok (.getfield 28, 3) := by decide +kernel
theorem dX5_copy_30 : decode cX5_copy 30 = .ok (.invokevirtual 55, 3) := by decide +kernel
theorem dX5_copy_33 : decode cX5_copy 33 = .ok (.aload_n 0, 1) := by decide +kernel
theorem dX5_copy_34 : decode cX5_copy 34 = .ok (.aload_n 1, 1) := by decide +kernel
theorem dX5_copy_35 : decode cX5_copy 35 = .ok (.getfield 32, 3) := by decide +kernel
theorem dX5_copy_38 : decode cX5_copy 38 = .ok (.putfield 32, 3) := by decide +kernel
theorem dX5_copy_41 : decode cX5_copy 41 = .ok (.aload_n 0, 1) := by decide +kernel
theorem dX5_copy_42 : decode cX5_copy 42 = .ok (.aload_n 1, 1) := by decide +kernel
theorem dX5_copy_43 : decode cX5_copy 43 = .ok (.getfield 36, 3) := by decide +kernel
theorem dX5_copy_46 : decode cX5_copy 46 = .ok (.putfield 36, 3) := by decide +kernel
theorem dX5_copy_49 : decode cX5_copy 49 = .ok (.aload_n 0, 1) := by decide +kernel
theorem dX5_copy_50 : decode cX5_copy 50 = .ok (.aload_n 1, 1) := by decide +kernel
theorem dX5_copy_51 : decode cX5_copy 51 = .ok (.getfield 39, 3) := by decide +kernel
theorem dX5_copy_54 : decode cX5_copy 54 = .ok (.putfield 39, 3) := by decide +kernel
theorem dX5_copy_57 : decode cX5_copy 57 = .ok (.aload_n 0, 1) := by decide +kernel
theorem dX5_copy_58 : decode cX5_copy 58 = .ok (.aload_n 1, 1) := by decide +kernel
theorem dX5_copy_59 : decode cX5_copy 59 = .ok (.getfield 42, 3) := by decide +kernel
theorem dX5_copy_62 : decode cX5_copy 62 = .ok (.putfield 42, 3) := by decide +kernel
theorem dX5_copy_65 : decode cX5_copy 65 = .ok (.aload_n 0, 1) := by decide +kernel
theorem dX5_copy_66 : decode cX5_copy 66 = .ok (.aload_n 1, 1) := by decide +kernel
theorem dX5_copy_67 : decode cX5_copy 67 = .ok (.getfield 45, 3) := by decide +kernel
theorem dX5_copy_70 : decode cX5_copy 70 = .ok (.putfield 45, 3) := by decide +kernel
theorem dX5_copy_73 : decode cX5_copy 73 = .ok (.return_, 1) := by decide +kernel
theorem dX6_init_0 : decode cX6_init 0 = .ok (.aload_n 0, 1) := by decide +kernel
theorem dX6_init_1 : decode cX6_init 1 = .ok (.invokespecial 3, 3) := by decide +kernel
theorem dX6_init_4 : decode cX6_init 4 = .ok (.aload_n 0, 1) := by decide +kernel
theorem dX6_init_5 : decode cX6_init 5 = .ok (.bipush 12, 2) := by decide +kernel
theorem dX6_init_7 : decode cX6_init 7 = .ok (.newarray .int, 2) := by decide +kernel
theorem dX6_init_9 : decode cX6_init 9 = .ok (.putfield 9, 3) := by decide +kernel
theorem dX6_init_12 : decode cX6_init 12 = .ok (.aload_n 0, 1) := by decide +kernel
theorem dX6_init_13 : decode cX6_init 13 = .ok (.bipush 12, 2) := by decide +kernel
theorem dX6_init_15 : decode cX6_init 15 = .ok (.newarray .int, 2) := by decide +kernel
theorem dX6_init_17 : decode cX6_init 17 = .ok (.putfield 15, 3) := by decide +kernel
theorem dX6_init_20 : decode cX6_init 20 = .ok (.aload_n 0, 1) := by decide +kernel
theorem dX6_init_21 : decode cX6_init 21 = .ok (.bipush 12, 2) := by decide +kernel
theorem dX6_init_23 : decode cX6_init 23 = .ok (.newarray .boolean, 2) := by decide +kernel
theorem dX6_init_25 : decode cX6_init 25 = .ok (.putfield 18, 3) := by decide +kernel
theorem dX6_init_28 : decode cX6_init 28 = .ok (.aload_n 0, 1) := by decide +kernel
theorem dX6_init_29 : decode cX6_init 29 = .ok (.bipush 24, 2) := by decide +kernel
theorem dX6_init_31 : decode cX6_init 31 = .ok (.newarray .boolean, 2) := by decide +kernel
theorem dX6_init_33 : decode cX6_init 33 = .ok (.putfield 22, 3) := by decide +kernel
theorem dX6_init_36 : decode cX6_init 36 = .ok (.aload_n 0, 1) := by decide +kernel
theorem dX6_init_37 : decode cX6_init 37 = .ok (.bipush 24, 2) := by decide +kernel
theorem dX6_init_39 : decode cX6_init 39 = .ok (.newarray .int, 2) := by decide +kernel
theorem dX6_init_41 : decode cX6_init 41 = .ok (.putfield 25, 3) := by decide +kernel
theorem dX6_init_44 : decode cX6_init 44 = .ok (.aload_n 0, 1) := by decide +kernel
theorem dX6_init_45 : decode cX6_init 45 = .ok (.bipush 16, 2) := by decide +kernel
theorem dX6_init_47 : decode cX6_init 47 = .ok (.newarray .boolean, 2) := by decide +kernel
theorem dX6_init_49 : decode cX6_init 49 = .ok (.putfield 28, 3) := by decide +kernel
theorem dX6_init_52 : decode cX6_init 52 = .ok (.aload_n 0, 1) := by decide +kernel
theorem dX6_init_53 : decode cX6_init 53 = .ok (.iconst 0, 1) := by decide +kernel
theorem dX6_init_54 : decode cX6_init 54 = .ok (.putfield 31, 3) := by decide +kernel
theorem dX6_init_57 : decode cX6_init 57 = .ok (.aload_n 0, 1) := by decide +kernel
theorem dX6_init_58 : decode cX6_init 58 = .ok (.iconst 0, 1) := by decide +kernel
theorem dX6_init_59 : decode cX6_init 59 = .ok (.putfield 35, 3) := by decide +kernel
theorem dX6_init_62 : decode cX6_init 62 = .ok (.aload_n 0, 1) := by decide +kernel
theorem dX6_init_63 : decode cX6_init 63 = .ok (.bipush 9, 2) := by decide +kernel
theorem dX6_init_65 : decode cX6_init 65 = .ok (.newarray .int, 2) := by decide +kernel
theorem dX6_init_67 : decode cX6_init 67 = .ok (.putfield 38, 3) := by decide +kernel
theorem dX6_init_70 : decode cX6_init 70 = .ok (.aload_n 0, 1) := by decide +kernel
theorem dX6_init_71 : decode cX6_init 71 = .ok (.bipush 12, 2) := by decide +kernel
theorem dX6_init_73 : decode cX6_init 73 = .ok (.newarray .int, 2) := by decide +kernel
theorem dX6_init_75 : decode cX6_init 75 = .ok (.putfield 41, 3) := by decide +kernel
theorem dX6_init_78 : decode cX6_init 78 = .ok (.aload_n 0, 1) := by decide +kernel
theorem dX6_init_79 : decode cX6_init 79 = .ok (.bipush 24, 2) := by decide +kernel
theorem dX6_init_81 : decode cX6_init 81 = .ok (.newarray .int, 2) := by decide +kernel
theorem dX6_init_83 : decode cX6_init 83 = .ok (.putfield 44, 3) := by decide +kernel
theorem dX6_init_86 : decode cX6_init 86 = .ok (.aload_n 0, 1) := by decide +kernel
theorem dX6_init_87 : decode cX6_init 87 = .ok (.bipush 24, 2) := by decide +kernel
theorem dX6_init_89 : decode cX6_init 89 = .ok (.newarray .int, 2) := by decide +kernel
theorem dX6_init_91 : decode cX6_init 91 = .ok (.putfield 47, 3) := by decide +kernel
theorem dX6_init_94 : decode cX6_init 94 = .ok (.aload_n 0, 1) := by decide +kernel
theorem dX6_init_95 : decode cX6_init 95 = .ok (.getfield 25, 3) := by decide +kernel
theorem dX6_init_98 : decode cX6_init 98 = .ok (.iconst 1, 1) := by decide +kernel
theorem dX6_init_99 : decode cX6_init 99 = .ok (.iconst 1, 1) := by decide +kernel
theorem dX6_init_100 : decode cX6_init 100 = .ok (.iastore, 1) := by decide +kernel
theorem dX6_init_101 : decode cX6_init 101 = .ok (.return_, 1) := by decide +kernel
theorem dX6_take_0 : decode cX6_take 0 = .ok (.aload_n 0, 1) := by decide +kernel
theorem dX6_take_1 : decode cX6_take 1 = .ok (.aload_n 1, 1) := by decide +kernel
theorem dX6_take_2 : decode cX6_take 2 = .ok (.getfield 50, 3) := by decide +kernel
theorem dX6_take_5 : decode cX6_take 5 = .ok (.getfield 56, 3) := by decide +kernel
theorem dX6_take_8 : decode cX6_take 8 = .ok (.invokevirtual 61, 3) := by decide +kernel
theorem dX6_take_11 : decode cX6_take 11 = .ok (.aload_n 0, 1) := by decide +kernel
theorem dX6_take_12 : decode cX6_take 12 = .ok (.aload_n 1, 1) := by decide +kernel
theorem dX6_take_13 : decode cX6_take 13 = .ok (.getfield 50, 3) := by decide +kernel
theorem dX6_take_16 : decode cX6_take 16 = .ok (.invokevirtual 65, 3) := by decide +kernel
theorem dX6_take_19 : decode cX6_take 19 = .ok (.aload_n 0, 1) := by decide +kernel
theorem dX6_take_20 : decode cX6_take 20 = .ok (.aload_n 1, 1) := by decide +kernel
theorem dX6_take_21 : decode cX6_take 21 = .ok (.getfield 69, 3) := by decide +kernel
theorem dX6_take_24 : decode cX6_take 24 = .ok (.invokevirtual 73, 3) := by decide +kernel
theorem dX6_take_27 : decode cX6_take 27 = .ok (.aload_n 0, 1) := by decide +kernel
theorem dX6_take_28 : decode cX6_take 28 = .ok (.aload_n 1, 1) := by decide +kernel
theorem dX6_take_29 : decode cX6_take 29 = .ok (.getfield 77, 3) := by decide +kernel
theorem dX6_take_32 : decode cX6_take 32 = .ok (.invokevirtual 81, 3) := by decide +kernel
theorem dX6_take_35 : decode cX6_take 35 = .ok (.aload_n 0, 1) := by decide +kernel
theorem dX6_take_36 : decode cX6_take 36 = .ok (.aload_n 1, 1) := by decide +kernel
theorem dX6_take_37 : decode cX6_take 37 = .ok (.getfield 50, 3) := by decide +kernel
theorem dX6_take_40 : decode cX6_take 40 = .ok (.invokevirtual 85, 3) := by decide +kernel
theorem dX6_take_43 : decode cX6_take 43 = .ok (.aload_n 0, 1) := by decide +kernel
theorem dX6_take_44 : decode cX6_take 44 = .ok (.aload_n 0, 1) := by decide +kernel
theorem dX6_take_45 : decode cX6_take 45 = .ok (.iconst 0, 1) := by decide +kernel
theorem dX6_take_46 : decode cX6_take 46 = .ok (.invokevirtual 88, 3) := by decide +kernel
theorem dX6_take_49 : decode cX6_take 49 = .ok (.aload_n 0, 1) := by decide +kernel
theorem dX6_take_50 : decode cX6_take 50 = .ok (.iconst 1, 1) := by decide +kernel
theorem dX6_take_51 : decode cX6_take 51 = .ok (.invokevirtual 88, 3) := by decide +kernel
theorem dX6_take_54 : decode cX6_take 54 = .ok (.invokestatic 92, 3) := by decide +kernel
theorem dX6_take_57 : decode cX6_take 57 = .ok (.putfield 35, 3) := by decide +kernel
theorem dX6_take_60 : decode cX6_take 60 = .ok (.aload_n 0, 1) := by decide +kernel
theorem dX6_take_61 : decode cX6_take 61 = .ok (.aload_n 1, 1) := by decide +kernel
theorem dX6_take_62 : decode cX6_take 62 = .ok (.getfield 77, 3) := by decide +kernel
theorem dX6_take_65 : decode cX6_take 65 = .ok (.iconst 0, 1) := by decide +kernel
theorem dX6_take_66 : decode cX6_take 66 = .ok (.invokevirtual 98, 3) := by decide +kernel
theorem dX6_take_69 : decode cX6_take 69 = .ok (.aload_n 0, 1) := by decide +kernel
theorem dX6_take_70 : decode cX6_take 70 = .ok (.aload_n 1, 1) := by decide +kernel
theorem dX6_take_71 : decode cX6_take 71 = .ok (.getfield 77, 3) := by decide +kernel
theorem dX6_take_74 : decode cX6_take 74 = .ok (.iconst 1, 1) := by decide +kernel
theorem dX6_take_75 : decode cX6_take 75 = .ok (.invokevirtual 98, 3) := by decide +kernel
theorem dX6_take_78 : decode cX6_take 78 = .ok (.aload_n 0, 1) := by decide +kernel
theorem dX6_take_79 : decode cX6_take 79 = .ok (.aload_n 1, 1) := by decide +kernel
theorem dX6_take_80 : decode cX6_take 80 = .ok (.getfield 50, 3) := by decide +kernel
theorem dX6_take_83 : decode cX6_take 83 = .ok (.invokevirtual 102, 3) := by decide +kernel
theorem dX6_take_86 : decode cX6_take 86 = .ok (.return_, 1) := by decide +kernel
theorem dX6_isAlive_0 : decode cX6_isAlive 0 = .ok (.aload_n 0, 1) := by decide +kernel
theorem dX6_isAlive_1 : decode cX6_isAlive 1 = .ok (.getfield 18, 3) := by decide +kernel
theorem dX6_isAlive_4 : decode cX6_isAlive 4 = .ok (.iload_n 1, 1) := by decide +kernel
theorem dX6_isAlive_5 : decode cX6_isAlive 5 = .ok (.iconst 1, 1) := by decide +kernel
theorem dX6_isAlive_6 : decode cX6_isAlive 6 = .ok (.ishr, 1) := by decide +kernel
theorem dX6_isAlive_7 : decode cX6_isAlive 7 = .ok (.baload, 1) := by decide +kernel
theorem dX6_isAlive_8 : decode cX6_isAlive 8 = .ok (.ifCond .ne 16, 3) := by decide +kernel
theorem dX6_isAlive_11 : decode cX6_isAlive 11 = .ok (.aload_n 0, 1) := by decide +kernel
theorem dX6_isAlive_12 : decode cX6_isAlive 12 = .ok (.getfield 22, 3) := by decide +kernel
theorem dX6_isAlive_15 : decode cX6_isAlive 15 = .ok (.iload_n 1, 1) := by decide +kernel
theorem dX6_isAlive_16 : decode cX6_isAlive 16 = .ok (.baload, 1) := by decide +kernel
theorem dX6_isAlive_17 : decode cX6_isAlive 17 = .ok (.ifCond .ne 7, 3) := by decide +kernel
theorem dX6_isAlive_20 : decode cX6_isAlive 20 = .ok (.iconst 1, 1) := by decide +kernel
theorem dX6_isAlive_21 : decode cX6_isAlive 21 = .ok (.goto 4, 3) := by decide +kernel
theorem dX6_isAlive_24 : decode cX6_isAlive 24 = .ok (.iconst 0, 1) := by decide +kernel
theorem dX6_isAlive_25 : decode cX6_isAlive 25 = .ok (.ireturn, 1) := by decide +kernel
theorem dX6_lampOf_0 : decode cX6_lampOf 0 = .ok (.aload_n 0, 1) := by decide +kernel
theorem dX6_lampOf_1 : decode cX6_lampOf 1 = .ok (.getfield 47, 3) := by decide +kernel
theorem dX6_lampOf_4 : decode cX6_lampOf 4 = .ok (.iload_n 1, 1) := by decide +kernel
theorem dX6_lampOf_5 : decode cX6_lampOf 5 = .ok (.iaload, 1) := by decide +kernel
theorem dX6_lampOf_6 : decode cX6_lampOf 6 = .ok (.ireturn, 1) := by decide +kernel
theorem dX6_current_0 : decode cX6_current 0 = .ok (.iload_n 1, 1) := by decide +kernel
theorem dX6_current_1 : decode cX6_current 1 = .ok (.iconst 1, 1) := by decide +kernel
theorem dX6_current_2 : decode cX6_current 2 = .ok (.ishr, 1) := by decide +kernel
theorem dX6_current_3 : decode cX6_current 3 = .ok (.istore_n 2, 1) := by decide +kernel
theorem dX6_current_4 : decode cX6_current 4 = .ok (.aload_n 0, 1) := by decide +kernel
theorem dX6_current_5 : decode cX6_current 5 = .ok (.iload_n 1, 1) := by decide +kernel
theorem dX6_current_6 : decode cX6_current 6 = .ok (.invokevirtual 105, 3) := by decide +kernel
theorem dX6_current_9 : decode cX6_current 9 = .ok (.ifCond .eq 28, 3) := by decide +kernel
theorem dX6_current_12 : decode cX6_current 12 = .ok (.aload_n 0, 1) := by decide +kernel
theorem dX6_current_13 : decode cX6_current 13 = .ok (.getfield 41, 3) := by decide +kernel
theorem dX6_current_16 : decode cX6_current 16 = .ok (.iload_n 2, 1) := by decide +kernel
theorem dX6_current_17 : decode cX6_current 17 = .ok (.iaload, 1) := by decide +kernel
theorem dX6_current_18 : decode cX6_current 18 = .ok (.aload_n 0, 1) := by decide +kernel
theorem dX6_current_19 : decode cX6_current 19 = .ok (.getfield 44, 3) := by decide +kernel
theorem dX6_current_22 : decode cX6_current 22 = .ok (.iconst 2, 1) := by decide +kernel
theorem dX6_current_23 : decode cX6_current 23 = .ok (.iload_n 2, 1) := by decide +kernel
theorem dX6_current_24 : decode cX6_current 24 = .ok (.imul, 1) := by decide +kernel
theorem dX6_current_25 : decode cX6_current 25 = .ok (.aload_n 0, 1) := by decide +kernel
theorem dX6_current_26 : decode cX6_current 26 = .ok (.getfield 25, 3) := by decide +kernel
theorem dX6_current_29 : decode cX6_current 29 = .ok (.iload_n 1, 1) := by decide +kernel
theorem dX6_current_30 : decode cX6_current 30 = .ok (.iaload, 1) := by decide +kernel
theorem dX6_current_31 : decode cX6_current 31 = .ok (.iadd, 1) := by decide +kernel
theorem dX6_current_32 : decode cX6_current 32 = .ok (.iaload, 1) := by decide +kernel
theorem dX6_current_33 : decode cX6_current 33 = .ok (.iadd, 1) := by decide +kernel
theorem dX6_current_34 : decode cX6_current 34 = .ok (.goto 4, 3) := by decide +kernel
theorem dX6_current_37 : decode cX6_current 37 = .ok (.iconst 0, 1) := by decide +kernel
theorem dX6_current_38 : decode cX6_current 38 = .ok (.ireturn, 1) := by decide +kernel
theorem dX6_fuseToBlow_0 : decode cX6_fuseToBlow 0 = .ok (.iconst (-1), 1) := by decide +kernel
theorem dX6_fuseToBlow_1 : decode cX6_fuseToBlow 1 = .ok (.istore_n 2, 1) := by decide +kernel
theorem dX6_fuseToBlow_2 : decode cX6_fuseToBlow 2 = .ok (.iconst 0, 1) := by decide +kernel
theorem dX6_fuseToBlow_3 : decode cX6_fuseToBlow 3 = .ok (.istore_n 3, 1) := by decide +kernel
theorem dX6_fuseToBlow_4 : decode cX6_fuseToBlow 4 = .ok (.iconst 2, 1) := by decide +kernel
theorem dX6_fuseToBlow_5 : decode cX6_fuseToBlow 5 = .ok (.istore 4, 2) := by decide +kernel
theorem dX6_fuseToBlow_7 : decode cX6_fuseToBlow 7 = .ok (.iload 4, 2) := by decide +kernel
theorem dX6_fuseToBlow_9 : decode cX6_fuseToBlow 9 = .ok (.iconst 2, 1) := by decide +kernel
theorem dX6_fuseToBlow_10 : decode cX6_fuseToBlow 10 = .ok (.aload_n 1, 1) := by decide +kernel
theorem dX6_fuseToBlow_11 : decode cX6_fuseToBlow 11 = .ok (.getfield 56, 3) := by decide +kernel
theorem dX6_fuseToBlow_14 : decode cX6_fuseToBlow 14 = .ok (.imul, 1) := by decide +kernel
theorem dX6_fuseToBlow_15 : decode cX6_fuseToBlow 15 = .ok (.if_icmp .ge 48, 3) := by decide +kernel
theorem dX6_fuseToBlow_18 : decode cX6_fuseToBlow 18 = .ok (.aload_n 0, 1) := by decide +kernel
theorem dX6_fuseToBlow_19 : decode cX6_fuseToBlow 19 = .ok (.getfield 9, 3) := by decide +kernel
theorem dX6_fuseToBlow_22 : decode cX6_fuseToBlow 22 = .ok (.iload 4, 2) := by decide +kernel
theorem dX6_fuseToBlow_24 : decode cX6_fuseToBlow 24 = .ok (.iconst 1, 1) := by decide +kernel
theorem dX6_fuseToBlow_25 : decode cX6_fuseToBlow 25 = .ok (.ishr, 1) := by decide +kernel
theorem dX6_fuseToBlow_26 : decode cX6_fuseToBlow 26 = .ok (.iaload, 1) := by decide +kernel
theorem dX6_fuseToBlow_27 : decode cX6_fuseToBlow 27 = .ok (.istore 5, 2) := by decide +kernel
theorem dX6_fuseToBlow_29 : decode cX6_fuseToBlow 29 = .ok (.iload 5, 2) := by decide +kernel
theorem dX6_fuseToBlow_31 : decode cX6_fuseToBlow 31 = .ok (.iload_n 3, 1) := by decide +kernel
theorem dX6_fuseToBlow_32 : decode cX6_fuseToBlow 32 = .ok (.if_icmp .le 25, 3) := by decide +kernel
theorem dX6_fuseToBlow_35 : decode cX6_fuseToBlow 35 = .ok (.aload_n 0, 1) := by decide +kernel
theorem dX6_fuseToBlow_36 : decode cX6_fuseToBlow 36 = .ok (.iload 4, 2) := by decide +kernel
theorem dX6_fuseToBlow_38 : decode cX6_fuseToBlow 38 = .ok (.invokevirtual 109, 3) := by decide +kernel
theorem dX6_fuseToBlow_41 : decode cX6_fuseToBlow 41 = .ok (.aload_n 1, 1) := by decide +kernel
theorem dX6_fuseToBlow_42 : decode cX6_fuseToBlow 42 = .ok (.getfield 112, 3) := by decide +kernel
theorem dX6_fuseToBlow_45 : decode cX6_fuseToBlow 45 = .ok (.iload 4, 2) := by decide +kernel
theorem dX6_fuseToBlow_47 : decode cX6_fuseToBlow 47 = .ok (.iaload, 1) := by decide +kernel
theorem dX6_fuseToBlow_48 : decode cX6_fuseToBlow 48 = .ok (.if_icmp .le 9, 3) := by decide +kernel
theorem dX6_fuseToBlow_51 : decode cX6_fuseToBlow 51 = .ok (.iload 4, 2) := by decide +kernel
theorem dX6_fuseToBlow_53 : decode cX6_fuseToBlow 53 = .ok (.istore_n 2, 1) := by decide +kernel
theorem dX6_fuseToBlow_54 : decode cX6_fuseToBlow 54 = .ok (.iload 5, 2) := by decide +kernel
theorem dX6_fuseToBlow_56 : decode cX6_fuseToBlow 56 = .ok (.istore_n 3, 1) := by decide +kernel
theorem dX6_fuseToBlow_57 : decode cX6_fuseToBlow 57 = .ok (.iinc 4 1, 3) := by decide +kernel
theorem dX6_fuseToBlow_60 : decode cX6_fuseToBlow 60 = .ok (.goto (-53), 3) := by decide +kernel
theorem dX6_fuseToBlow_63 : decode cX6_fuseToBlow 63 = .ok (.iload_n 2, 1) := by decide +kernel
theorem dX6_fuseToBlow_64 : decode cX6_fuseToBlow 64 = .ok (.ireturn, 1) := by decide +kernel
theorem dX6_clearSums_0 : decode cX6_clearSums 0 = .ok (.iconst 0, 1) := by decide +kernel
theorem dX6_clearSums_1 : decode cX6_clearSums 1 = .ok (.istore_n 2, 1) := by decide +kernel
theorem dX6_clearSums_2 : decode cX6_clearSums 2 = .ok (.iload_n 2, 1) := by decide +kernel
theorem dX6_clearSums_3 : decode cX6_clearSums 3 = .ok (.iload_n 1, 1) := by decide +kernel
theorem dX6_clearSums_4 : decode cX6_clearSums 4 = .ok (.if_icmp .ge 58, 3) := by decide +kernel
theorem dX6_clearSums_7 : decode cX6_clearSums 7 = .ok (.aload_n 0, 1) := by decide +kernel
theorem dX6_clearSums_8 : decode cX6_clearSums 8 = .ok (.getfield 15, 3) := by decide +kernel
theorem dX6_clearSums_11 : decode cX6_clearSums 11 = .ok (.iload_n 2, 1) := by decide +kernel
theorem dX6_clearSums_12 : decode cX6_clearSums 12 = .ok (.iconst 0, 1) := by decide +kernel
theorem dX6_clearSums_13 : decode cX6_clearSums 13 = .ok (.iastore, 1) := by decide +kernel
theorem dX6_clearSums_14 : decode cX6_clearSums 14 = .ok (.aload_n 0, 1) := by decide +kernel
theorem dX6_clearSums_15 : decode cX6_clearSums 15 = .ok (.getfield 41, 3) := by decide +kernel
theorem dX6_clearSums_18 : decode cX6_clearSums 18 = .ok (.iload_n 2, 1) := by decide +kernel
theorem dX6_clearSums_19 : decode cX6_clearSums 19 = .ok (.iconst 0, 1) := by decide +kernel
theorem dX6_clearSums_20 : decode cX6_clearSums 20 = .ok (.iastore, 1) := by decide +kernel
theorem dX6_clearSums_21 : decode cX6_clearSums 21 = .ok (.iconst 0, 1) := by decide +kernel
theorem dX6_clearSums_22 : decode cX6_clearSums 22 = .ok (.istore_n 3, 1) := by decide +kernel
theorem dX6_clearSums_23 : decode cX6_clearSums 23 = .ok (.iload_n 3, 1) := by decide +kernel
theorem dX6_clearSums_24 : decode cX6_clearSums 24 = .ok (.iconst 2, 1) := by decide +kernel
theorem dX6_clearSums_25 : decode cX6_clearSums 25 = .ok (.if_icmp .ge 31, 3) := by decide +kernel
theorem dX6_clearSums_28 : decode cX6_clearSums 28 = .ok (.aload_n 0, 1) := by decide +kernel
theorem dX6_clearSums_29 : decode cX6_clearSums 29 = .ok (.getfield 44, 3) := by decide +kernel
theorem dX6_clearSums_32 : decode cX6_clearSums 32 = .ok (.iconst 2, 1) := by decide +kernel
theorem dX6_clearSums_33 : decode cX6_clearSums 33 = .ok (.iload_n 2, 1) := by decide +kernel
theorem dX6_clearSums_34 : decode cX6_clearSums 34 = .ok (.imul, 1) := by decide +kernel
theorem dX6_clearSums_35 : decode cX6_clearSums 35 = .ok (.iload_n 3, 1) := by decide +kernel
theorem dX6_clearSums_36 : decode cX6_clearSums 36 = .ok (.iadd, 1) := by decide +kernel
theorem dX6_clearSums_37 : decode cX6_clearSums 37 = .ok (.iconst 0, 1) := by decide +kernel
theorem dX6_clearSums_38 : decode cX6_clearSums 38 = .ok (.iastore, 1) := by decide +kernel
theorem dX6_clearSums_39 : decode cX6_clearSums 39 = .ok (.aload_n 0, 1) := by decide +kernel
theorem dX6_clearSums_40 : decode cX6_clearSums 40 = .ok (.getfield 47, 3) := by decide +kernel
theorem dX6_clearSums_43 : decode cX6_clearSums 43 = .ok (.iconst 2, 1) := by decide +kernel
theorem dX6_clearSums_44 : decode cX6_clearSums 44 = .ok (.iload_n 2, 1) := by decide +kernel
theorem dX6_clearSums_45 : decode cX6_clearSums 45 = .ok (.imul, 1) := by decide +kernel
theorem dX6_clearSums_46 : decode cX6_clearSums 46 = .ok (.iload_n 3, 1) := by decide +kernel
theorem dX6_clearSums_47 : decode cX6_clearSums 47 = .ok (.iadd, 1) := by decide +kernel
theorem dX6_clearSums_48 : decode cX6_clearSums 48 = .ok (.iconst 0, 1) := by decide +kernel
theorem dX6_clearSums_49 : decode cX6_clearSums 49 = .ok (.iastore, 1) := by decide +kernel
theorem dX6_clearSums_50 : decode cX6_clearSums 50 = .ok (.iinc 3 1, 3) := by decide +kernel
theorem dX6_clearSums_53 : decode cX6_clearSums 53 = .ok (.goto (-30), 3) := by decide +kernel
theorem dX6_clearSums_56 : decode cX6_clearSums 56 = .ok (.iinc 2 1, 3) := by decide +kernel
theorem dX6_clearSums_59 : decode cX6_clearSums 59 = .ok (.goto (-57), 3) := by decide +kernel
theorem dX6_clearSums_62 : decode cX6_clearSums 62 = .ok (.return_, 1) := by decide +kernel
theorem dX6_followCables_0 : decode cX6_followCables 0 = .ok (.iconst 1, 1) := by decide +kernel
theorem dX6_followCables_1 : decode cX6_followCables 1 = .ok (.istore_n 2, 1) := by decide +kernel
theorem dX6_followCables_2 : decode cX6_followCables 2 = .ok (.iload_n 2, 1) := by decide +kernel
theorem dX6_followCables_3 : decode cX6_followCables 3 = .ok (.aload_n 1, 1) := by decide +kernel
theorem dX6_followCables_4 : decode cX6_followCables 4 = .ok (.getfield 56, 3) := by decide +kernel
theorem dX6_followCables_7 : decode cX6_followCables 7 = .ok (.if_icmp .ge 137, 3) := by decide +kernel
theorem dX6_followCables_10 : decode cX6_followCables 10 = .ok (.aload_n 1, 1) := by decide +kernel
theorem dX6_followCables_11 : decode cX6_followCables 11 = .ok (.getfield 115, 3) := by decide +kernel
theorem dX6_followCables_14 : decode cX6_followCables 14 = .ok (.iload_n 2, 1) := by decide +kernel
theorem dX6_followCables_15 : decode cX6_followCables 15 = .ok (.iaload, 1) := by decide +kernel
theorem dX6_followCables_16 : decode cX6_followCables 16 = .ok (.istore_n 3, 1) := by decide +kernel
theorem dX6_followCables_17 : decode cX6_followCables 17 = .ok (.aload_n 0, 1) := by decide +kernel
theorem dX6_followCables_18 : decode cX6_followCables 18 = .ok (.getfield 9, 3) := by decide +kernel
theorem dX6_followCables_21 : decode cX6_followCables 21 = .ok (.iload_n 2, 1) := by decide +kernel
theorem dX6_followCables_22 : decode cX6_followCables 22 = .ok (.aload_n 0, 1) := by decide +kernel
theorem dX6_followCables_23 : decode cX6_followCables 23 = .ok (.getfield 9, 3) := by decide +kernel
theorem dX6_followCables_26 : decode cX6_followCables 26 = .ok (.iload_n 3, 1) := by decide +kernel
theorem dX6_followCables_27 : decode cX6_followCables 27 = .ok (.iaload, 1) := by decide +kernel
theorem dX6_followCables_28 : decode cX6_followCables 28 = .ok (.iconst 1, 1) := by decide +kernel
theorem dX6_followCables_29 : decode cX6_followCables 29 = .ok (.iadd, 1) := by decide +kernel
theorem dX6_followCables_30 : decode cX6_followCables 30 = .ok (.iastore, 1) := by decide +kernel
theorem dX6_followCables_31 : decode cX6_followCables 31 = .ok (.aload_n 0, 1) := by decide +kernel
theorem dX6_followCables_32 : decode cX6_followCables 32 = .ok (.getfield 18, 3) := by decide +kernel
theorem dX6_followCables_35 : decode cX6_followCables 35 = .ok (.iload_n 2, 1) := by decide +kernel
theorem dX6_followCables_36 : decode cX6_followCables 36 = .ok (.aload_n 1, 1) := by decide +kernel
theorem dX6_followCables_37 : decode cX6_followCables 37 = .ok (.getfield 118, 3) := by decide +kernel
theorem dX6_followCables_40 : decode cX6_followCables 40 = .ok (.iload_n 2, 1) := by decide +kernel
theorem dX6_followCables_41 : decode cX6_followCables 41 = .ok (.baload, 1) := by decide +kernel
theorem dX6_followCables_42 : decode cX6_followCables 42 = .ok (.ifCond .eq 12, 3) := by decide +kernel
theorem dX6_followCables_45 : decode cX6_followCables 45 = .ok (.aload_n 0, 1) := by decide +kernel
theorem dX6_followCables_46 : decode cX6_followCables 46 = .ok (.getfield 18, 3) := by decide +kernel
theorem dX6_followCables_49 : decode cX6_followCables 49 = .ok (.iload_n 3, 1) := by decide +kernel
theorem dX6_followCables_50 : decode cX6_followCables 50 = .ok (.baload, 1) := by decide +kernel
theorem dX6_followCables_51 : decode cX6_followCables 51 = .ok (.ifCond .eq 7, 3) := by decide +kernel
theorem dX6_followCables_54 : decode cX6_followCables 54 = .ok (.iconst 1, 1) := by decide +kernel
theorem dX6_followCables_55 : decode cX6_followCables 55 = .ok (.goto 4, 3) := by decide +kernel
theorem dX6_followCables_58 : decode cX6_followCables 58 = .ok (.iconst 0, 1) := by decide +kernel
theorem dX6_followCables_59 : decode cX6_followCables 59 = .ok (.bastore, 1) := by decide +kernel
theorem dX6_followCables_60 : decode cX6_followCables 60 = .ok (.iconst 0, 1) := by decide +kernel
theorem dX6_followCables_61 : decode cX6_followCables 61 = .ok (.istore 4, 2) := by decide +kernel
theorem dX6_followCables_63 : decode cX6_followCables 63 = .ok (.iload 4, 2) := by decide +kernel
theorem dX6_followCables_65 : decode cX6_followCables 65 = .ok (.iconst 2, 1) := by decide +kernel
theorem dX6_followCables_66 : decode cX6_followCables 66 = .ok (.if_icmp .ge 72, 3) := by decide +kernel
theorem dX6_followCables_69 : decode cX6_followCables 69 = .ok (.iconst 2, 1) := by decide +kernel
theorem dX6_followCables_70 : decode cX6_followCables 70 = .ok (.iload_n 2, 1) := by decide +kernel
theorem dX6_followCables_71 : decode cX6_followCables 71 = .ok (.imul, 1) := by decide +kernel
theorem dX6_followCables_72 : decode cX6_followCables 72 = .ok (.iload 4, 2) := by decide +kernel
theorem dX6_followCables_74 : decode cX6_followCables 74 = .ok (.iadd, 1) := by decide +kernel
theorem dX6_followCables_75 : decode cX6_followCables 75 = .ok (.istore 5, 2) := by decide +kernel
theorem dX6_followCables_77 : decode cX6_followCables 77 = .ok (.aload_n 1, 1) := by decide +kernel
theorem dX6_followCables_78 : decode cX6_followCables 78 = .ok (.iload_n 2, 1) := by decide +kernel
theorem dX6_followCables_79 : decode cX6_followCables 79 = .ok (.iload 4, 2) := by decide +kernel
theorem dX6_followCables_81 : decode cX6_followCables 81 = .ok (.invokevirtual 121, 3) := by decide +kernel
theorem dX6_followCables_84 : decode cX6_followCables 84 = .ok (.istore 6, 2) := by decide +kernel
theorem dX6_followCables_86 : decode cX6_followCables 86 = .ok (.aload_n 0, 1) := by decide +kernel
theorem dX6_followCables_87 : decode cX6_followCables 87 = .ok (.getfield 25, 3) := by decide +kernel
theorem dX6_followCables_90 : decode cX6_followCables 90 = .ok (.iload 5, 2) := by decide +kernel
theorem dX6_followCables_92 : decode cX6_followCables 92 = .ok (.aload_n 0, 1) := by decide +kernel
theorem dX6_followCables_93 : decode cX6_followCables 93 = .ok (.getfield 25, 3) := by decide +kernel
theorem dX6_followCables_96 : decode cX6_followCables 96 = .ok (.iload 6, 2) := by decide +kernel
theorem dX6_followCables_98 : decode cX6_followCables 98 = .ok (.iaload, 1) := by decide +kernel
theorem dX6_followCables_99 : decode cX6_followCables 99 = .ok (.iastore, 1) := by decide +kernel
theorem dX6_followCables_100 : decode cX6_followCables 100 = .ok (.aload_n 0, 1) := by decide +kernel
theorem dX6_followCables_101 : decode cX6_followCables 101 = .ok (.getfield 22, 3) := by decide +kernel
theorem dX6_followCables_104 : decode cX6_followCables 104 = .ok (.iload 5, 2) := by decide +kernel
theorem dX6_followCables_106 : decode cX6_followCables 106 = .ok (.aload_n 1, 1) := by decide +kernel
theorem dX6_followCables_107 : decode cX6_followCables 107 = .ok (.getfield 124, 3) := by decide +kernel
theorem dX6_followCables_110 : decode cX6_followCables 110 = .ok (.iload 5, 2) := by decide +kernel
theorem dX6_followCables_112 : decode cX6_followCables 112 = .ok (.baload, 1) := by decide +kernel
theorem dX6_followCables_113 : decode cX6_followCables 113 = .ok (.ifCond .ne 13, 3) := by decide +kernel
theorem dX6_followCables_116 : decode cX6_followCables 116 = .ok (.aload_n 0, 1) := by decide +kernel
theorem dX6_followCables_117 : decode cX6_followCables 117 = .ok (.getfield 22, 3) := by decide +kernel
theorem dX6_followCables_120 : decode cX6_followCables 120 = .ok (.iload 6, 2) := by decide +kernel
theorem dX6_followCables_122 : decode cX6_followCables 122 = .ok (.baload, 1) := by decide +kernel
theorem dX6_followCables_123 : decode cX6_followCables 123 = .ok (.ifCond .eq 7, 3) := by decide +kernel
theorem dX6_followCables_126 : decode cX6_followCables 126 = .ok (.iconst 1, 1) := by decide +kernel
theorem dX6_followCables_127 : decode cX6_followCables 127 = .ok (.goto 4, 3) := by decide +kernel
theorem dX6_followCables_130 : decode cX6_followCables 130 = .ok (.iconst 0, 1) := by decide +kernel
theorem dX6_followCables_131 : decode cX6_followCables 131 = .ok (.bastore, 1) := by decide +kernel
theorem dX6_followCables_132 : decode cX6_followCables 132 = .ok (.iinc 4 1, 3) := by decide +kernel
theorem dX6_followCables_135 : decode cX6_followCables 135 = .ok (.goto (-72), 3) := by decide +kernel
theorem dX6_followCables_138 : decode cX6_followCables 138 = .ok (.iinc 2 1, 3) := by decide +kernel
theorem dX6_followCables_141 : decode cX6_followCables 141 = .ok (.goto (-139), 3) := by decide +kernel
theorem dX6_followCables_144 : decode cX6_followCables 144 = .ok (.aload_n 1, 1) := by decide +kernel
theorem dX6_followCables_145 : decode cX6_followCables 145 = .ok (.getfield 56, 3) := by decide +kernel
theorem dX6_followCables_148 : decode cX6_followCables 148 = .ok (.iconst 1, 1) := by decide +kernel
theorem dX6_followCables_149 : decode cX6_followCables 149 = .ok (.isub, 1) := by decide +kernel
theorem dX6_followCables_150 : decode cX6_followCables 150 = .ok (.istore_n 2, 1) := by decide +kernel
theorem dX6_followCables_151 : decode cX6_followCables 151 = .ok (.iload_n 2, 1) := by decide +kernel
theorem dX6_followCables_152 : decode cX6_followCables 152 = .ok (.ifCond .le 31, 3) := by decide +kernel
theorem dX6_followCables_155 : decode cX6_followCables 155 = .ok (.aload_n 0, 1) := by decide +kernel
theorem dX6_followCables_156 : decode cX6_followCables 156 = .ok (.getfield 15, 3) := by decide +kernel
theorem dX6_followCables_159 : decode cX6_followCables 159 = .ok (.aload_n 1, 1) := by decide +kernel
theorem dX6_followCables_160 : decode cX6_followCables 160 = .ok (.getfield 115, 3) := by decide +kernel
theorem dX6_followCables_163 : decode cX6_followCables 163 = .ok (.iload_n 2, 1) := by decide +kernel
theorem dX6_followCables_164 : decode cX6_followCables 164 = .ok (.iaload, 1) := by decide +kernel
theorem dX6_followCables_165 : decode cX6_followCables 165 = .ok (.dup2, 1) := by decide +kernel
theorem dX6_followCables_166 : decode cX6_followCables 166 = .ok (.iaload, 1) := by decide +kernel
theorem dX6_followCables_167 : decode cX6_followCables 167 = .ok (.aload_n 0, 1) := by decide +kernel
theorem dX6_followCables_168 : decode cX6_followCables 168 = .ok (.getfield 15, 3) := by decide +kernel
theorem dX6_followCables_171 : decode cX6_followCables 171 = .ok (.iload_n 2, 1) := by decide +kernel
theorem dX6_followCables_172 : decode cX6_followCables 172 = .ok (.iaload, 1) := by decide +kernel
theorem dX6_followCables_173 : decode cX6_followCables 173 = .ok (.iconst 1, 1) := by decide +kernel
theorem dX6_followCables_174 : decode cX6_followCables 174 = .ok (.iadd, 1) := by decide +kernel
theorem dX6_followCables_175 : decode cX6_followCables 175 = .ok (.iadd, 1) := by decide +kernel
theorem dX6_followCables_176 : decode cX6_followCables 176 = .ok (.iastore, 1) := by decide +kernel
theorem dX6_followCables_177 : decode cX6_followCables 177 = .ok (.iinc 2 (-1), 3) := by decide +kernel
theorem dX6_followCables_180 : decode cX6_followCables 180 = .ok (.goto (-29), 3) := by decide +kernel
theorem dX6_followCables_183 : decode cX6_followCables 183 = .ok (.return_, 1) := by decide +kernel
theorem dX6_findBurning_0 : decode cX6_findBurning 0 = .ok (.aload_n 0, 1) := by decide +kernel
theorem dX6_findBurning_1 : decode cX6_findBurning 1 = .ok (.iconst 0, 1) := by decide +kernel
theorem dX6_findBurning_2 : decode cX6_findBurning 2 = .ok (.putfield 31, 3) := by decide +kernel
theorem dX6_findBurning_5 : decode cX6_findBurning 5 = .ok (.iconst 0, 1) := by decide +kernel
theorem dX6_findBurning_6 : decode cX6_findBurning 6 = .ok (.istore_n 2, 1) := by decide +kernel
theorem dX6_findBurning_7 : decode cX6_findBurning 7 = .ok (.iload_n 2, 1) := by decide +kernel
theorem dX6_findBurning_8 : decode cX6_findBurning 8 = .ok (.aload_n 1, 1) := by decide +kernel
theorem dX6_findBurning_9 : decode cX6_findBurning 9 = .ok (.getfield 127, 3) := by decide +kernel
theorem dX6_findBurning_12 : decode cX6_findBurning 12 = .ok (.if_icmp .ge 115, 3) := by decide +kernel
theorem dX6_findBurning_15 : decode cX6_findBurning 15 = .ok (.aload_n 1, 1) := by decide +kernel
theorem dX6_findBurning_16 : decode cX6_findBurning 16 = .ok (.getfield 132, 3) := by decide +kernel
theorem dX6_findBurning_19 : decode cX6_findBurning 19 = .ok (.iload_n 2, 1) := by decide +kernel
theorem dX6_findBurning_20 : decode cX6_findBurning 20 = .ok (.iaload, 1) := by decide +kernel
theorem dX6_findBurning_21 : decode cX6_findBurning 21 = .ok (.istore_n 3, 1) := by decide +kernel
theorem dX6_findBurning_22 : decode cX6_findBurning 22 = .ok (.aload_n 1, 1) := by decide +kernel
theorem dX6_findBurning_23 : decode cX6_findBurning 23 = .ok (.getfield 135, 3) := by decide +kernel
theorem dX6_findBurning_26 : decode cX6_findBurning 26 = .ok (.iload_n 2, 1) := by decide +kernel
theorem dX6_findBurning_27 : decode cX6_findBurning 27 = .ok (.baload, 1) := by decide +kernel
theorem dX6_findBurning_28 : decode cX6_findBurning 28 = .ok (.ifCond .eq 18, 3) := by decide +kernel
theorem dX6_findBurning_31 : decode cX6_findBurning 31 = .ok (.aload_n 0, 1) := by decide +kernel
theorem dX6_findBurning_32 : decode cX6_findBurning 32 = .ok (.getfield 25, 3) := by decide +kernel
theorem dX6_findBurning_35 : decode cX6_findBurning 35 = .ok (.iconst 2, 1) := by decide +kernel
theorem dX6_findBurning_36 : decode cX6_findBurning 36 = .ok (.iload_n 3, 1) := by decide +kernel
theorem dX6_findBurning_37 : decode cX6_findBurning 37 = .ok (.imul, 1) := by decide +kernel
theorem dX6_findBurning_38 : decode cX6_findBurning 38 = .ok (.iaload, 1) := by decide +kernel
theorem dX6_findBurning_39 : decode cX6_findBurning 39 = .ok (.ifCond .eq 7, 3) := by decide +kernel
theorem dX6_findBurning_42 : decode cX6_findBurning 42 = .ok (.iconst 1, 1) := by decide +kernel
theorem dX6_findBurning_43 : decode cX6_findBurning 43 = .ok (.goto 4, 3) := by decide +kernel
theorem dX6_findBurning_46 : decode cX6_findBurning 46 = .ok (.iconst 0, 1) := by decide +kernel
theorem dX6_findBurning_47 : decode cX6_findBurning 47 = .ok (.istore 4, 2) := by decide +kernel
theorem dX6_findBurning_49 : decode cX6_findBurning 49 = .ok (.aload_n 0, 1) := by decide +kernel
theorem dX6_findBurning_50 : decode cX6_findBurning 50 = .ok (.getfield 28, 3) := by decide +kernel
theorem dX6_findBurning_53 : decode cX6_findBurning 53 = .ok (.iload_n 2, 1) := by decide +kernel
theorem dX6_findBurning_54 : decode cX6_findBurning 54 = .ok (.aload_n 0, 1) := by decide +kernel
theorem dX6_findBurning_55 : decode cX6_findBurning 55 = .ok (.iconst 2, 1) := by decide +kernel
theorem dX6_findBurning_56 : decode cX6_findBurning 56 = .ok (.iload_n 3, 1) := by decide +kernel
theorem dX6_findBurning_57 : decode cX6_findBurning 57 = .ok (.imul, 1) := by decide +kernel
theorem dX6_findBurning_58 : decode cX6_findBurning 58 = .ok (.invokevirtual 105, 3) := by decide +kernel
theorem dX6_findBurning_61 : decode cX6_findBurning 61 = .ok (.ifCond .eq 24, 3) := by decide +kernel
theorem dX6_findBurning_64 : decode cX6_findBurning 64 = .ok (.aload_n 0, 1) := by decide +kernel
theorem dX6_findBurning_65 : decode cX6_findBurning 65 = .ok (.iconst 2, 1) := by decide +kernel
theorem dX6_findBurning_66 : decode cX6_findBurning 66 = .ok (.iload_n 3, 1) := by decide +kernel
theorem dX6_findBurning_67 : decode cX6_findBurning 67 = .ok (.imul, 1) := by decide +kernel
theorem dX6_findBurning_68 : decode cX6_findBurning 68 = .ok (.iconst 1, 1) := by decide +kernel
theorem dX6_findBurning_69 : decode cX6_findBurning 69 = .ok (.iadd, 1) := by decide +kernel
theorem dX6_findBurning_70 : decode cX6_findBurning 70 = .ok (.invokevirtual 105, 3) := by decide +kernel
theorem dX6_findBurning_73 : decode cX6_findBurning 73 = .ok (.ifCond .eq 12, 3) := by decide +kernel
theorem dX6_findBurning_76 : decode cX6_findBurning 76 = .ok (.iload 4, 2) := by decide +kernel
theorem dX6_findBurning_78 : decode cX6_findBurning 78 = .ok (.ifCond .ne 7, 3) := by decide +kernel
theorem dX6_findBurning_81 : decode cX6_findBurning 81 = .ok (.iconst 1, 1) := by decide +kernel
theorem dX6_findBurning_82 : decode cX6_findBurning 82 = .ok (.goto 4, 3) := by decide +kernel
theorem dX6_findBurning_85 : decode cX6_findBurning 85 = .ok (.iconst 0, 1) := by decide +kernel
theorem dX6_findBurning_86 : decode cX6_findBurning 86 = .ok (.bastore, 1) := by decide +kernel
theorem dX6_findBurning_87 : decode cX6_findBurning 87 = .ok (.aload_n 0, 1) := by decide +kernel
theorem dX6_findBurning_88 : decode cX6_findBurning 88 = .ok (.getfield 28, 3) := by decide +kernel
theorem dX6_findBurning_91 : decode cX6_findBurning 91 = .ok (.iload_n 2, 1) := by decide +kernel
theorem dX6_findBurning_92 : decode cX6_findBurning 92 = .ok (.baload, 1) := by decide +kernel
theorem dX6_findBurning_93 : decode cX6_findBurning 93 = .ok (.ifCond .eq 28, 3) := by decide +kernel
theorem dX6_findBurning_96 : decode cX6_findBurning 96 = .ok (.aload_n 0, 1) := by decide +kernel
theorem dX6_findBurning_97 : decode cX6_findBurning 97 = .ok (.dup, 1) := by decide +kernel
theorem dX6_findBurning_98 : decode cX6_findBurning 98 = .ok (.getfield 31, 3) := by decide +kernel
theorem dX6_findBurning_101 : decode cX6_findBurning 101 = .ok (.iconst 1, 1) := by decide +kernel
theorem dX6_findBurning_102 : decode cX6_findBurning 102 = .ok (.iadd, 1) := by decide +kernel
theorem dX6_findBurning_103 : decode cX6_findBurning 103 = .ok (.putfield 31, 3) := by decide +kernel
theorem dX6_findBurning_106 : decode cX6_findBurning 106 = .ok (.aload_n 0, 1) := by decide +kernel
theorem dX6_findBurning_107 : decode cX6_findBurning 107 = .ok (.getfield 41, 3) := by decide +kernel
theorem dX6_findBurning_110 : decode cX6_findBurning 110 = .ok (.iload_n 3, 1) := by decide +kernel
theorem dX6_findBurning_111 : decode cX6_findBurning 111 = .ok (.dup2, 1) := by decide +kernel
theorem dX6_findBurning_112 : decode cX6_findBurning 112 = .ok (.iaload, 1) := by decide +kernel
theorem dX6_findBurning_113 : decode cX6_findBurning 113 = .ok (.aload_n 1, 1) := by decide +kernel
theorem dX6_findBurning_114 : decode cX6_findBurning 114 = .ok (.getfield 138, 3) := by decide +kernel
theorem dX6_findBurning_117 : decode cX6_findBurning 117 = .ok (.iload_n 2, 1) := by decide +kernel
theorem dX6_findBurning_118 : decode cX6_findBurning 118 = .ok (.iaload, 1) := by decide +kernel
theorem dX6_findBurning_119 : decode cX6_findBurning 119 = .ok (.iadd, 1) := by decide +kernel
theorem dX6_findBurning_120 : decode cX6_findBurning 120 = .ok (.iastore, 1) := by decide +kernel
theorem dX6_findBurning_121 : decode cX6_findBurning 121 = .ok (.iinc 2 1, 3) := by decide +kernel
theorem dX6_findBurning_124 : decode cX6_findBurning 124 = .ok (.goto (-117), 3) := by decide +kernel
theorem dX6_findBurning_127 : decode cX6_findBurning 127 = .ok (.return_, 1) := by decide +kernel
theorem dX6_findStrengths_0 : decode cX6_findStrengths 0 = .ok (.iconst 0, 1) := by decide +kernel
theorem dX6_findStrengths_1 : decode cX6_findStrengths 1 = .ok (.istore_n 2, 1) := by decide +kernel
theorem dX6_findStrengths_2 : decode cX6_findStrengths 2 = .ok (.iload_n 2, 1) := by decide +kernel
theorem dX6_findStrengths_3 : decode cX6_findStrengths 3 = .ok (.aload_n 1, 1) := by decide +kernel
theorem dX6_findStrengths_4 : decode cX6_findStrengths 4 = .ok (.getfield 141, 3) := by decide +kernel
theorem dX6_findStrengths_7 : decode cX6_findStrengths 7 = .ok (.if_icmp .ge 62, 3) := by decide +kernel
theorem dX6_findStrengths_10 : decode cX6_findStrengths 10 = .ok (.iconst 2, 1) := by decide +kernel
theorem dX6_findStrengths_11 : decode cX6_findStrengths 11 = .ok (.aload_n 1, 1) := by decide +kernel
theorem dX6_findStrengths_12 : decode cX6_findStrengths 12 = .ok (.getfield 144, 3) := by decide +kernel
theorem dX6_findStrengths_15 : decode cX6_findStrengths 15 = .ok (.iload_n 2, 1) := by decide +kernel
theorem dX6_findStrengths_16 : decode cX6_findStrengths 16 = .ok (.iaload, 1) := by decide +kernel
theorem dX6_findStrengths_17 : decode cX6_findStrengths 17 = .ok (.imul, 1) := by decide +kernel
theorem dX6_findStrengths_18 : decode cX6_findStrengths 18 = .ok (.aload_n 1, 1) := by decide +kernel
theorem dX6_findStrengths_19 : decode cX6_findStrengths 19 = .ok (.getfield 145, 3) := by decide +kernel
theorem dX6_findStrengths_22 : decode cX6_findStrengths 22 = .ok (.iload_n 2, 1) := by decide +kernel
theorem dX6_findStrengths_23 : decode cX6_findStrengths 23 = .ok (.iaload, 1) := by decide +kernel
theorem dX6_findStrengths_24 : decode cX6_findStrengths 24 = .ok (.iadd, 1) := by decide +kernel
theorem dX6_findStrengths_25 : decode cX6_findStrengths 25 = .ok (.istore_n 3, 1) := by decide +kernel
theorem dX6_findStrengths_26 : decode cX6_findStrengths 26 = .ok (.aload_n 0, 1) := by decide +kernel
theorem dX6_findStrengths_27 : decode cX6_findStrengths 27 = .ok (.iload_n 3, 1) := by decide +kernel
theorem dX6_findStrengths_28 : decode cX6_findStrengths 28 = .ok (.invokevirtual 105, 3) := by decide +kernel
theorem dX6_findStrengths_31 : decode cX6_findStrengths 31 = .ok (.ifCond .eq 32, 3) := by decide +kernel
theorem dX6_findStrengths_34 : decode cX6_findStrengths 34 = .ok (.aload_n 0, 1) := by decide +kernel
theorem dX6_findStrengths_35 : decode cX6_findStrengths 35 = .ok (.getfield 47, 3) := by decide +kernel
theorem dX6_findStrengths_38 : decode cX6_findStrengths 38 = .ok (.iconst 2, 1) := by decide +kernel
theorem dX6_findStrengths_39 : decode cX6_findStrengths 39 = .ok (.aload_n 1, 1) := by decide +kernel
theorem dX6_findStrengths_40 : decode cX6_findStrengths 40 = .ok (.getfield 144, 3) := by decide +kernel
theorem dX6_findStrengths_43 : decode cX6_findStrengths 43 = .ok (.iload_n 2, 1) := by decide +kernel
theorem dX6_findStrengths_44 : decode cX6_findStrengths 44 = .ok (.iaload, 1) := by decide +kernel
theorem dX6_findStrengths_45 : decode cX6_findStrengths 45 = .ok (.imul, 1) := by decide +kernel
theorem dX6_findStrengths_46 : decode cX6_findStrengths 46 = .ok (.aload_n 0, 1) := by decide +kernel
theorem dX6_findStrengths_47 : decode cX6_findStrengths 47 = .ok (.getfield 25, 3) := by decide +kernel
theorem dX6_findStrengths_50 : decode cX6_findStrengths 50 = .ok (.iload_n 3, 1) := by decide +kernel
theorem dX6_findStrengths_51 : decode cX6_findStrengths 51 = .ok (.iaload, 1) := by decide +kernel
theorem dX6_findStrengths_52 : decode cX6_findStrengths 52 = .ok (.iadd, 1) := by decide +kernel
theorem dX6_findStrengths_53 : decode cX6_findStrengths 53 = .ok (.dup2, 1) := by decide +kernel
theorem dX6_findStrengths_54 : decode cX6_findStrengths 54 = .ok (.iaload, 1) := by decide +kernel
theorem dX6_findStrengths_55 : decode cX6_findStrengths 55 = .ok (.aload_n 1, 1) := by decide +kernel
theorem dX6_findStrengths_56 : decode cX6_findStrengths 56 = .ok (.getfield 148, 3) := by decide +kernel
theorem dX6_findStrengths_59 : decode cX6_findStrengths 59 = .ok (.iload_n 2, 1) := by decide +kernel
theorem dX6_findStrengths_60 : decode cX6_findStrengths 60 = .ok (.iaload, 1) := by decide +kernel
theorem dX6_findStrengths_61 : decode cX6_findStrengths 61 = .ok (.iadd, 1) := by decide +kernel
theorem dX6_findStrengths_62 : decode cX6_findStrengths 62 = .ok (.iastore, 1) := by decide +kernel
theorem dX6_findStrengths_63 : decode cX6_findStrengths 63 = .ok (.iinc 2 1, 3) := by decide +kernel
theorem dX6_findStrengths_66 : decode cX6_findStrengths 66 = .ok (.goto (-64), 3) := by decide +kernel
theorem dX6_findStrengths_69 : decode cX6_findStrengths 69 = .ok (.return_, 1) := by decide +kernel
theorem dX6_sumUpStrengths_0 : decode cX6_sumUpStrengths 0 = .ok (.aload_n 1, 1) := by decide +kernel
theorem dX6_sumUpStrengths_1 : decode cX6_sumUpStrengths 1 = .ok (.getfield 56, 3) := by decide +kernel
theorem dX6_sumUpStrengths_4 : decode cX6_sumUpStrengths 4 = .ok (.iconst 1, 1) := by decide +kernel
theorem dX6_sumUpStrengths_5 : decode cX6_sumUpStrengths 5 = .ok (.isub, 1) := by decide +kernel
theorem dX6_sumUpStrengths_6 : decode cX6_sumUpStrengths 6 = .ok (.istore_n 2, 1) := by decide +kernel
theorem dX6_sumUpStrengths_7 : decode cX6_sumUpStrengths 7 = .ok (.iload_n 2, 1) := by decide +kernel
theorem dX6_sumUpStrengths_8 : decode cX6_sumUpStrengths 8 = .ok (.ifCond .le 50, 3) := by decide +kernel
theorem dX6_sumUpStrengths_11 : decode cX6_sumUpStrengths 11 = .ok (.iconst 0, 1) := by decide +kernel
theorem dX6_sumUpStrengths_12 : decode cX6_sumUpStrengths 12 = .ok (.istore_n 3, 1) := by decide +kernel
theorem dX6_sumUpStrengths_13 : decode cX6_sumUpStrengths 13 = .ok (.iload_n 3, 1) := by decide +kernel
theorem dX6_sumUpStrengths_14 : decode cX6_sumUpStrengths 14 = .ok (.iconst 2, 1) := by decide +kernel
theorem dX6_sumUpStrengths_15 : decode cX6_sumUpStrengths 15 = .ok (.if_icmp .ge 37, 3) := by decide +kernel
theorem dX6_sumUpStrengths_18 : decode cX6_sumUpStrengths 18 = .ok (.aload_n 0, 1) := by decide +kernel
theorem dX6_sumUpStrengths_19 : decode cX6_sumUpStrengths 19 = .ok (.getfield 47, 3) := by decide +kernel
theorem dX6_sumUpStrengths_22 : decode cX6_sumUpStrengths 22 = .ok (.iconst 2, 1) := by decide +kernel
theorem dX6_sumUpStrengths_23 : decode cX6_sumUpStrengths 23 = .ok (.aload_n 1, 1) := by decide +kernel
theorem dX6_sumUpStrengths_24 : decode cX6_sumUpStrengths 24 = .ok (.getfield 115, 3) := by decide +kernel
theorem dX6_sumUpStrengths_27 : decode cX6_sumUpStrengths 27 = .ok (.iload_n 2, 1) := by decide +kernel
theorem dX6_sumUpStrengths_28 : decode cX6_sumUpStrengths 28 = .ok (.iaload, 1) := by decide +kernel
theorem dX6_sumUpStrengths_29 : decode cX6_sumUpStrengths 29 = .ok (.imul, 1) := by decide +kernel
theorem dX6_sumUpStrengths_30 : decode cX6_sumUpStrengths 30 = .ok (.iload_n 3, 1) := by decide +kernel
theorem dX6_sumUpStrengths_31 : decode cX6_sumUpStrengths 31 = .ok (.iadd, 1) := by decide +kernel
theorem dX6_sumUpStrengths_32 : decode cX6_sumUpStrengths 32 = .ok (.dup2, 1) := by decide +kernel
theorem dX6_sumUpStrengths_33 : decode cX6_sumUpStrengths 33 = .ok (.iaload, 1) := by decide +kernel
theorem dX6_sumUpStrengths_34 : decode cX6_sumUpStrengths 34 = .ok (.aload_n 0, 1) := by decide +kernel
theorem dX6_sumUpStrengths_35 : decode cX6_sumUpStrengths 35 = .ok (.getfield 47, 3) := by decide +kernel
theorem dX6_sumUpStrengths_38 : decode cX6_sumUpStrengths 38 = .ok (.iconst 2, 1) := by decide +kernel
theorem dX6_sumUpStrengths_39 : decode cX6_sumUpStrengths 39 = .ok (.iload_n 2, 1) := by decide +kernel
theorem dX6_sumUpStrengths_40 : decode cX6_sumUpStrengths 40 = .ok (.imul, 1) := by decide +kernel
theorem dX6_sumUpStrengths_41 : decode cX6_sumUpStrengths 41 = .ok (.iload_n 3, 1) := by decide +kernel
theorem dX6_sumUpStrengths_42 : decode cX6_sumUpStrengths 42 = .ok (.iadd, 1) := by decide +kernel
theorem dX6_sumUpStrengths_43 : decode cX6_sumUpStrengths 43 = .ok (.iaload, 1) := by decide +kernel
theorem dX6_sumUpStrengths_44 : decode cX6_sumUpStrengths 44 = .ok (.iadd, 1) := by decide +kernel
theorem dX6_sumUpStrengths_45 : decode cX6_sumUpStrengths 45 = .ok (.iastore, 1) := by decide +kernel
theorem dX6_sumUpStrengths_46 : decode cX6_sumUpStrengths 46 = .ok (.iinc 3 1, 3) := by decide +kernel
theorem dX6_sumUpStrengths_49 : decode cX6_sumUpStrengths 49 = .ok (.goto (-36), 3) := by decide +kernel
theorem dX6_sumUpStrengths_52 : decode cX6_sumUpStrengths 52 = .ok (.iinc 2 (-1), 3) := by decide +kernel
theorem dX6_sumUpStrengths_55 : decode cX6_sumUpStrengths 55 = .ok (.goto (-48), 3) := by decide +kernel
theorem dX6_sumUpStrengths_58 : decode cX6_sumUpStrengths 58 = .ok (.return_, 1) := by decide +kernel
theorem dX6_shareLeak_0 : decode cX6_shareLeak 0 = .ok (.aload_n 0, 1) := by decide +kernel
theorem dX6_shareLeak_1 : decode cX6_shareLeak 1 = .ok (.getfield 35, 3) := by decide +kernel
theorem dX6_shareLeak_4 : decode cX6_shareLeak 4 = .ok (.istore_n 3, 1) := by decide +kernel
theorem dX6_shareLeak_5 : decode cX6_shareLeak 5 = .ok (.iconst 0, 1) := by decide +kernel
theorem dX6_shareLeak_6 : decode cX6_shareLeak 6 = .ok (.istore 4, 2) := by decide +kernel
theorem dX6_shareLeak_8 : decode cX6_shareLeak 8 = .ok (.iload 4, 2) := by decide +kernel
theorem dX6_shareLeak_10 : decode cX6_shareLeak 10 = .ok (.aload_n 1, 1) := by decide +kernel
theorem dX6_shareLeak_11 : decode cX6_shareLeak 11 = .ok (.getfield 141, 3) := by decide +kernel
theorem dX6_shareLeak_14 : decode cX6_shareLeak 14 = .ok (.if_icmp .ge 106, 3) := by decide +kernel
theorem dX6_shareLeak_17 : decode cX6_shareLeak 17 = .ok (.iconst 2, 1) := by decide +kernel
theorem dX6_shareLeak_18 : decode cX6_shareLeak 18 = .ok (.aload_n 1, 1) := by decide +kernel
theorem dX6_shareLeak_19 : decode cX6_shareLeak 19 = .ok (.getfield 144, 3) := by decide +kernel
theorem dX6_shareLeak_22 : decode cX6_shareLeak 22 = .ok (.iload 4, 2) := by decide +kernel
theorem dX6_shareLeak_24 : decode cX6_shareLeak 24 = .ok (.iaload, 1) := by decide +kernel
theorem dX6_shareLeak_25 : decode cX6_shareLeak 25 = .ok (.imul, 1) := by decide +kernel
theorem dX6_shareLeak_26 : decode cX6_shareLeak 26 = .ok (.aload_n 1, 1) := by decide +kernel
theorem dX6_shareLeak_27 : decode cX6_shareLeak 27 = .ok (.getfield 145, 3) := by decide +kernel
theorem dX6_shareLeak_30 : decode cX6_shareLeak 30 = .ok (.iload 4, 2) := by decide +kernel
theorem dX6_shareLeak_32 : decode cX6_shareLeak 32 = .ok (.iaload, 1) := by decide +kernel
theorem dX6_shareLeak_33 : decode cX6_shareLeak 33 = .ok (.iadd, 1) := by decide +kernel
theorem dX6_shareLeak_34 : decode cX6_shareLeak 34 = .ok (.istore 5, 2) := by decide +kernel
theorem dX6_shareLeak_36 : decode cX6_shareLeak 36 = .ok (.aload_n 0, 1) := by decide +kernel
theorem dX6_shareLeak_37 : decode cX6_shareLeak 37 = .ok (.getfield 25, 3) := by decide +kernel
theorem dX6_shareLeak_40 : decode cX6_shareLeak 40 = .ok (.iload 5, 2) := by decide +kernel
theorem dX6_shareLeak_42 : decode cX6_shareLeak 42 = .ok (.iaload, 1) := by decide +kernel
theorem dX6_shareLeak_43 : decode cX6_shareLeak 43 = .ok (.iload_n 2, 1) := by decide +kernel
theorem dX6_shareLeak_44 : decode cX6_shareLeak 44 = .ok (.if_icmp .ne 70, 3) := by decide +kernel
theorem dX6_shareLeak_47 : decode cX6_shareLeak 47 = .ok (.aload_n 0, 1) := by decide +kernel
theorem dX6_shareLeak_48 : decode cX6_shareLeak 48 = .ok (.getfield 38, 3) := by decide +kernel
theorem dX6_shareLeak_51 : decode cX6_shareLeak 51 = .ok (.iload 4, 2) := by decide +kernel
theorem dX6_shareLeak_53 : decode cX6_shareLeak 53 = .ok (.aload_n 0, 1) := by decide +kernel
theorem dX6_shareLeak_54 : decode cX6_shareLeak 54 = .ok (.iload 5, 2) := by decide +kernel
theorem dX6_shareLeak_56 : decode cX6_shareLeak 56 = .ok (.invokevirtual 105, 3) := by decide +kernel
theorem dX6_shareLeak_59 : decode cX6_shareLeak 59 = .ok (.ifCond .eq 17, 3) := by decide +kernel
theorem dX6_shareLeak_62 : decode cX6_shareLeak 62 = .ok (.aload_n 1, 1) := by decide +kernel
theorem dX6_shareLeak_63 : decode cX6_shareLeak 63 = .ok (.getfield 148, 3) := by decide +kernel
theorem dX6_shareLeak_66 : decode cX6_shareLeak 66 = .ok (.iload 4, 2) := by decide +kernel
theorem dX6_shareLeak_68 : decode cX6_shareLeak 68 = .ok (.iaload, 1) := by decide +kernel
theorem dX6_shareLeak_69 : decode cX6_shareLeak 69 = .ok (.iload_n 3, 1) := by decide +kernel
theorem dX6_shareLeak_70 : decode cX6_shareLeak 70 = .ok (.invokestatic 92, 3) := by decide +kernel
theorem dX6_shareLeak_73 : decode cX6_shareLeak 73 = .ok (.goto 4, 3) := by decide +kernel
theorem dX6_shareLeak_76 : decode cX6_shareLeak 76 = .ok (.iconst 0, 1) := by decide +kernel
theorem dX6_shareLeak_77 : decode cX6_shareLeak 77 = .ok (.iastore, 1) := by decide +kernel
theorem dX6_shareLeak_78 : decode cX6_shareLeak 78 = .ok (.iload_n 3, 1) := by decide +kernel
theorem dX6_shareLeak_79 : decode cX6_shareLeak 79 = .ok (.aload_n 0, 1) := by decide +kernel
theorem dX6_shareLeak_80 : decode cX6_shareLeak 80 = .ok (.getfield 38, 3) := by decide +kernel
theorem dX6_shareLeak_83 : decode cX6_shareLeak 83 = .ok (.iload 4, 2) := by decide +kernel
theorem dX6_shareLeak_85 : decode cX6_shareLeak 85 = .ok (.iaload, 1) := by decide +kernel
theorem dX6_shareLeak_86 : decode cX6_shareLeak 86 = .ok (.isub, 1) := by decide +kernel
theorem dX6_shareLeak_87 : decode cX6_shareLeak 87 = .ok (.istore_n 3, 1) := by decide +kernel
theorem dX6_shareLeak_88 : decode cX6_shareLeak 88 = .ok (.aload_n 0, 1) := by decide +kernel
theorem dX6_shareLeak_89 : decode cX6_shareLeak 89 = .ok (.getfield 44, 3) := by decide +kernel
theorem dX6_shareLeak_92 : decode cX6_shareLeak 92 = .ok (.iconst 2, 1) := by decide +kernel
theorem dX6_shareLeak_93 : decode cX6_shareLeak 93 = .ok (.aload_n 1, 1) := by decide +kernel
theorem dX6_shareLeak_94 : decode cX6_shareLeak 94 = .ok (.getfield 144, 3) := by decide +kernel
theorem dX6_shareLeak_97 : decode cX6_shareLeak 97 = .ok (.iload 4, 2) := by decide +kernel
theorem dX6_shareLeak_99 : decode cX6_shareLeak 99 = .ok (.iaload, 1) := by decide +kernel
theorem dX6_shareLeak_100 : decode cX6_shareLeak 100 = .ok (.imul, 1) := by decide +kernel
theorem dX6_shareLeak_101 : decode cX6_shareLeak 101 = .ok (.iload_n 2, 1) := by decide +kernel
theorem dX6_shareLeak_102 : decode cX6_shareLeak 102 = .ok (.iadd, 1) := by decide +kernel
theorem dX6_shareLeak_103 : decode cX6_shareLeak 103 = .ok (.dup2, 1) := by decide +kernel
theorem dX6_shareLeak_104 : decode cX6_shareLeak 104 = .ok (.iaload, 1) := by decide +kernel
theorem dX6_shareLeak_105 : decode cX6_shareLeak 105 = .ok (.aload_n 0, 1) := by decide +kernel
theorem dX6_shareLeak_106 : decode cX6_shareLeak 106 = .ok (.getfield 38, 3) := by decide +kernel
theorem dX6_shareLeak_109 : decode cX6_shareLeak 109 = .ok (.iload 4, 2) := by decide +kernel
theorem dX6_shareLeak_111 : decode cX6_shareLeak 111 = .ok (.iaload, 1) := by decide +kernel
theorem dX6_shareLeak_112 : decode cX6_shareLeak 112 = .ok (.iadd, 1) := by decide +kernel
theorem dX6_shareLeak_113 : decode cX6_shareLeak 113 = .ok (.iastore, 1) := by decide +kernel
theorem dX6_shareLeak_114 : decode cX6_shareLeak 114 = .ok (.iinc 4 1, 3) := by decide +kernel
theorem dX6_shareLeak_117 : decode cX6_shareLeak 117 = .ok (.goto (-109), 3) := by decide +kernel
theorem dX6_shareLeak_120 : decode cX6_shareLeak 120 = .ok (.return_, 1) := by decide +kernel
theorem dX6_sumUpCurrents_0 : decode cX6_sumUpCurrents 0 = .ok (.aload_n 1, 1) := by decide +kernel
theorem dX6_sumUpCurrents_1 : decode cX6_sumUpCurrents 1 = .ok (.getfield 56, 3) := by decide +kernel
theorem dX6_sumUpCurrents_4 : decode cX6_sumUpCurrents 4 = .ok (.iconst 1, 1) := by decide +kernel
theorem dX6_sumUpCurrents_5 : decode cX6_sumUpCurrents 5 = .ok (.isub, 1) := by decide +kernel
theorem dX6_sumUpCurrents_6 : decode cX6_sumUpCurrents 6 = .ok (.istore_n 2, 1) := by decide +kernel
theorem dX6_sumUpCurrents_7 : decode cX6_sumUpCurrents 7 = .ok (.iload_n 2, 1) := by decide +kernel
theorem dX6_sumUpCurrents_8 : decode cX6_sumUpCurrents 8 = .ok (.ifCond .le 71, 3) := by decide +kernel
theorem dX6_sumUpCurrents_11 : decode cX6_sumUpCurrents 11 = .ok (.aload_n 1, 1) := by decide +kernel
theorem dX6_sumUpCurrents_12 : decode cX6_sumUpCurrents 12 = .ok (.getfield 115, 3) := by decide +kernel
theorem dX6_sumUpCurrents_15 : decode cX6_sumUpCurrents 15 = .ok (.iload_n 2, 1) := by decide +kernel
theorem dX6_sumUpCurrents_16 : decode cX6_sumUpCurrents 16 = .ok (.iaload, 1) := by decide +kernel
theorem dX6_sumUpCurrents_17 : decode cX6_sumUpCurrents 17 = .ok (.istore_n 3, 1) := by decide +kernel
theorem dX6_sumUpCurrents_18 : decode cX6_sumUpCurrents 18 = .ok (.aload_n 0, 1) := by decide +kernel
theorem dX6_sumUpCurrents_19 : decode cX6_sumUpCurrents 19 = .ok (.getfield 41, 3) := by decide +kernel
theorem dX6_sumUpCurrents_22 : decode cX6_sumUpCurrents 22 = .ok (.iload_n 3, 1) := by decide +kernel
theorem dX6_sumUpCurrents_23 : decode cX6_sumUpCurrents 23 = .ok (.dup2, 1) := by decide +kernel
theorem dX6_sumUpCurrents_24 : decode cX6_sumUpCurrents 24 = .ok (.iaload, 1) := by decide +kernel
theorem dX6_sumUpCurrents_25 : decode cX6_sumUpCurrents 25 = .ok (.aload_n 0, 1) := by decide +kernel
theorem dX6_sumUpCurrents_26 : decode cX6_sumUpCurrents 26 = .ok (.getfield 41, 3) := by decide +kernel
theorem dX6_sumUpCurrents_29 : decode cX6_sumUpCurrents 29 = .ok (.iload_n 2, 1) := by decide +kernel
theorem dX6_sumUpCurrents_30 : decode cX6_sumUpCurrents 30 = .ok (.iaload, 1) := by decide +kernel
theorem dX6_sumUpCurrents_31 : decode cX6_sumUpCurrents 31 = .ok (.iadd, 1) := by decide +kernel
theorem dX6_sumUpCurrents_32 : decode cX6_sumUpCurrents 32 = .ok (.iastore, 1) := by decide +kernel
theorem dX6_sumUpCurrents_33 : decode cX6_sumUpCurrents 33 = .ok (.iconst 0, 1) := by decide +kernel
theorem dX6_sumUpCurrents_34 : decode cX6_sumUpCurrents 34 = .ok (.istore 4, 2) := by decide +kernel
theorem dX6_sumUpCurrents_36 : decode cX6_sumUpCurrents 36 = .ok (.iload 4, 2) := by decide +kernel
theorem dX6_sumUpCurrents_38 : decode cX6_sumUpCurrents 38 = .ok (.iconst 2, 1) := by decide +kernel
theorem dX6_sumUpCurrents_39 : decode cX6_sumUpCurrents 39 = .ok (.if_icmp .ge 34, 3) := by decide +kernel
theorem dX6_sumUpCurrents_42 : decode cX6_sumUpCurrents 42 = .ok (.aload_n 0, 1) := by decide +kernel
theorem dX6_sumUpCurrents_43 : decode cX6_sumUpCurrents 43 = .ok (.getfield 44, 3) := by decide +kernel
theorem dX6_sumUpCurrents_46 : decode cX6_sumUpCurrents 46 = .ok (.iconst 2, 1) := by decide +kernel
theorem dX6_sumUpCurrents_47 : decode cX6_sumUpCurrents 47 = .ok (.iload_n 3, 1) := by decide +kernel
theorem dX6_sumUpCurrents_48 : decode cX6_sumUpCurrents 48 = .ok (.imul, 1) := by decide +kernel
theorem dX6_sumUpCurrents_49 : decode cX6_sumUpCurrents 49 = .ok (.iload 4, 2) := by decide +kernel
theorem dX6_sumUpCurrents_51 : decode cX6_sumUpCurrents 51 = .ok (.iadd, 1) := by decide +kernel
theorem dX6_sumUpCurrents_52 : decode cX6_sumUpCurrents 52 = .ok (.dup2, 1) := by decide +kernel
theorem dX6_sumUpCurrents_53 : decode cX6_sumUpCurrents 53 = .ok (.iaload, 1) := by decide +kernel
theorem dX6_sumUpCurrents_54 : decode cX6_sumUpCurrents 54 = .ok (.aload_n 0, 1) := by decide +kernel
theorem dX6_sumUpCurrents_55 : decode cX6_sumUpCurrents 55 = .ok (.getfield 44, 3) := by decide +kernel
theorem dX6_sumUpCurrents_58 : decode cX6_sumUpCurrents 58 = .ok (.iconst 2, 1) := by decide +kernel
theorem dX6_sumUpCurrents_59 : decode cX6_sumUpCurrents 59 = .ok (.iload_n 2, 1) := by decide +kernel
theorem dX6_sumUpCurrents_60 : decode cX6_sumUpCurrents 60 = .ok (.imul, 1) := by decide +kernel
theorem dX6_sumUpCurrents_61 : decode cX6_sumUpCurrents 61 = .ok (.iload 4, 2) := by decide +kernel
theorem dX6_sumUpCurrents_63 : decode cX6_sumUpCurrents 63 = .ok (.iadd, 1) := by decide +kernel
theorem dX6_sumUpCurrents_64 : decode cX6_sumUpCurrents 64 = .ok (.iaload, 1) := by decide +kernel
theorem dX6_sumUpCurrents_65 : decode cX6_sumUpCurrents 65 = .ok (.iadd, 1) := by decide +kernel
theorem dX6_sumUpCurrents_66 : decode cX6_sumUpCurrents 66 = .ok (.iastore, 1) := by decide +kernel
theorem dX6_sumUpCurrents_67 : decode cX6_sumUpCurrents 67 = .ok (.iinc 4 1, 3) := by decide +kernel
theorem dX6_sumUpCurrents_70 : decode cX6_sumUpCurrents 70 = .ok (.goto (-34), 3) := by decide +kernel
theorem dX6_sumUpCurrents_73 : decode cX6_sumUpCurrents 73 = .ok (.iinc 2 (-1), 3) := by decide +kernel
theorem dX6_sumUpCurrents_76 : decode cX6_sumUpCurrents 76 = .ok (.goto (-69), 3) := by decide +kernel
theorem dX6_sumUpCurrents_79 : decode cX6_sumUpCurrents 79 = .ok (.return_, 1) := by decide +kernel
theorem dJ9_min_7cf53_0 : decode cJ9_min_7cf53 0 = .ok (.iload_n 0, 1) := by decide +kernel
theorem dJ9_min_7cf53_1 : decode cJ9_min_7cf53 1 = .ok (.iload_n 1, 1) := by decide +kernel
theorem dJ9_min_7cf53_2 : decode cJ9_min_7cf53 2 = .ok (.if_icmp .gt 7, 3) := by decide +kernel
theorem dJ9_min_7cf53_5 : decode cJ9_min_7cf53 5 = .ok (.iload_n 0, 1) := by decide +kernel
theorem dJ9_min_7cf53_6 : decode cJ9_min_7cf53 6 = .ok (.goto 4, 3) := by decide +kernel
theorem dJ9_min_7cf53_9 : decode cJ9_min_7cf53 9 = .ok (.iload_n 1, 1) := by decide +kernel
theorem dJ9_min_7cf53_10 : decode cJ9_min_7cf53 10 = .ok (.ireturn, 1) := by decide +kernel
