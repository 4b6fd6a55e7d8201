theorem dX7_init_0 : decode cX7_init 0 = .ok (.aload_n 0, 1) := by decide +kernel
theorem dX7_init_1 : decode cX7_init 1 = .ok (.invokespecial 1, 3) := by decide +kernel
theorem dX7_init_4 : decode cX7_init 4 = .ok (.aload_n 0, 1) := by decide +kernel
theorem dX7_init_5 : decode cX7_init 5 = .ok (.sipush 1385, 3) := by decide +kernel
theorem dX7_init_8 : decode cX7_init 8 = .ok (.newarray .int, 2) := by decide +kernel
theorem dX7_init_10 : decode cX7_init 10 = .ok (.putfield 7, 3) := by decide +kernel
theorem dX7_init_13 : decode cX7_init 13 = .ok (.aload_n 0, 1) := by decide +kernel
theorem dX7_init_14 : decode cX7_init 14 = .ok (.sipush 1385, 3) := by decide +kernel
theorem dX7_init_17 : decode cX7_init 17 = .ok (.newarray .int, 2) := by decide +kernel
theorem dX7_init_19 : decode cX7_init 19 = .ok (.putfield 13, 3) := by decide +kernel
theorem dX7_init_22 : decode cX7_init 22 = .ok (.aload_n 0, 1) := by decide +kernel
theorem dX7_init_23 : decode cX7_init 23 = .ok (.sipush 5540, 3) := by decide +kernel
theorem dX7_init_26 : decode cX7_init 26 = .ok (.newarray .int, 2) := by decide +kernel
theorem dX7_init_28 : decode cX7_init 28 = .ok (.putfield 16, 3) := by decide +kernel
theorem dX7_init_31 : decode cX7_init 31 = .ok (.aload_n 0, 1) := by decide +kernel
theorem dX7_init_32 : decode cX7_init 32 = .ok (.bipush 60, 2) := by decide +kernel
theorem dX7_init_34 : decode cX7_init 34 = .ok (.newarray .int, 2) := by decide +kernel
theorem dX7_init_36 : decode cX7_init 36 = .ok (.putfield 19, 3) := by decide +kernel
theorem dX7_init_39 : decode cX7_init 39 = .ok (.aload_n 0, 1) := by decide +kernel
theorem dX7_init_40 : decode cX7_init 40 = .ok (.bipush 120, 2) := by decide +kernel
theorem dX7_init_42 : decode cX7_init 42 = .ok (.newarray .int, 2) := by decide +kernel
theorem dX7_init_44 : decode cX7_init 44 = .ok (.putfield 22, 3) := by decide +kernel
theorem dX7_init_47 : decode cX7_init 47 = .ok (.aload_n 0, 1) := by decide +kernel
theorem dX7_init_48 : decode cX7_init 48 = .ok (.bipush 120, 2) := by decide +kernel
theorem dX7_init_50 : decode cX7_init 50 = .ok (.newarray .int, 2) := by decide +kernel
theorem dX7_init_52 : decode cX7_init 52 = .ok (.putfield 25, 3) := by decide +kernel
theorem dX7_init_55 : decode cX7_init 55 = .ok (.aload_n 0, 1) := by decide +kernel
theorem dX7_init_56 : decode cX7_init 56 = .ok (.bipush 120, 2) := by decide +kernel
theorem dX7_init_58 : decode cX7_init 58 = .ok (.newarray .int, 2) := by decide +kernel
theorem dX7_init_60 : decode cX7_init 60 = .ok (.putfield 28, 3) := by decide +kernel
theorem dX7_init_63 : decode cX7_init 63 = .ok (.aload_n 0, 1) := by decide +kernel
theorem dX7_init_64 : decode cX7_init 64 = .ok (.bipush 120, 2) := by decide +kernel
theorem dX7_init_66 : decode cX7_init 66 = .ok (.newarray .int, 2) := by decide +kernel
theorem dX7_init_68 : decode cX7_init 68 = .ok (.putfield 31, 3) := by decide +kernel
theorem dX7_init_71 : decode cX7_init 71 = .ok (.aload_n 0, 1) := by decide +kernel
theorem dX7_init_72 : decode cX7_init 72 = .ok (.bipush 120, 2) := by decide +kernel
theorem dX7_init_74 : decode cX7_init 74 = .ok (.newarray .int, 2) := by decide +kernel
theorem dX7_init_76 : decode cX7_init 76 = .ok (.putfield 34, 3) := by decide +kernel
theorem dX7_init_79 : decode cX7_init 79 = .ok (.aload_n 0, 1) := by decide +kernel
theorem dX7_init_80 : decode cX7_init 80 = .ok (.bipush 120, 2) := by decide +kernel
theorem dX7_init_82 : decode cX7_init 82 = .ok (.newarray .int, 2) := by decide +kernel
theorem dX7_init_84 : decode cX7_init 84 = .ok (.putfield 37, 3) := by decide +kernel
theorem dX7_init_87 : decode cX7_init 87 = .ok (.aload_n 0, 1) := by decide +kernel
theorem dX7_init_88 : decode cX7_init 88 = .ok (.bipush 61, 2) := by decide +kernel
theorem dX7_init_90 : decode cX7_init 90 = .ok (.newarray .int, 2) := by decide +kernel
theorem dX7_init_92 : decode cX7_init 92 = .ok (.putfield 40, 3) := by decide +kernel
theorem dX7_init_95 : decode cX7_init 95 = .ok (.aload_n 0, 1) := by decide +kernel
theorem dX7_init_96 : decode cX7_init 96 = .ok (.getfield 7, 3) := by decide +kernel
theorem dX7_init_99 : decode cX7_init 99 = .ok (.iconst 2, 1) := by decide +kernel
theorem dX7_init_100 : decode cX7_init 100 = .ok (.iconst 1, 1) := by decide +kernel
theorem dX7_init_101 : decode cX7_init 101 = .ok (.iastore, 1) := by decide +kernel
theorem dX7_init_102 : decode cX7_init 102 = .ok (.return_, 1) := by decide +kernel
theorem dX7_in_0 : decode cX7_in 0 = .ok (.iload_n 0, 1) := by decide +kernel
theorem dX7_in_1 : decode cX7_in 1 = .ok (.iload_n 1, 1) := by decide +kernel
theorem dX7_in_2 : decode cX7_in 2 = .ok (.if_icmp .lt 12, 3) := by decide +kernel
theorem dX7_in_5 : decode cX7_in 5 = .ok (.iload_n 0, 1) := by decide +kernel
theorem dX7_in_6 : decode cX7_in 6 = .ok (.iload_n 2, 1) := by decide +kernel
theorem dX7_in_7 : decode cX7_in 7 = .ok (.if_icmp .gt 7, 3) := by decide +kernel
theorem dX7_in_10 : decode cX7_in 10 = .ok (.iconst 1, 1) := by decide +kernel
theorem dX7_in_11 : decode cX7_in 11 = .ok (.goto 4, 3) := by decide +kernel
theorem dX7_in_14 : decode cX7_in 14 = .ok (.iconst 0, 1) := by decide +kernel
theorem dX7_in_15 : decode cX7_in 15 = .ok (.ireturn, 1) := by decide +kernel
theorem dX7_abs_0 : decode cX7_abs 0 = .ok (.iload_n 0, 1) := by decide +kernel
theorem dX7_abs_1 : decode cX7_abs 1 = .ok (.ifCond .ge 8, 3) := by decide +kernel
theorem dX7_abs_4 : decode cX7_abs 4 = .ok (.iload_n 0, 1) := by decide +kernel
theorem dX7_abs_5 : decode cX7_abs 5 = .ok (.ineg, 1) := by decide +kernel
theorem dX7_abs_6 : decode cX7_abs 6 = .ok (.goto 4, 3) := by decide +kernel
theorem dX7_abs_9 : decode cX7_abs 9 = .ok (.iload_n 0, 1) := by decide +kernel
theorem dX7_abs_10 : decode cX7_abs 10 = .ok (.ireturn, 1) := by decide +kernel
theorem dX7_record_0 : decode cX7_record 0 = .ok (.aload_n 0, 1) := by decide +kernel
theorem dX7_record_1 : decode cX7_record 1 = .ok (.getfield 43, 3) := by decide +kernel
theorem dX7_record_4 : decode cX7_record 4 = .ok (.iconst 4, 1) := by decide +kernel
theorem dX7_record_5 : decode cX7_record 5 = .ok (.if_icmp .ne 44, 3) := by decide +kernel
theorem dX7_record_8 : decode cX7_record 8 = .ok (.iconst 0, 1) := by decide +kernel
theorem dX7_record_9 : decode cX7_record 9 = .ok (.istore_n 1, 1) := by decide +kernel
theorem dX7_record_10 : decode cX7_record 10 = .ok (.iload_n 1, 1) := by decide +kernel
theorem dX7_record_11 : decode cX7_record 11 = .ok (.sipush 4155, 3) := by decide +kernel
theorem dX7_record_14 : decode cX7_record 14 = .ok (.if_icmp .ge 25, 3) := by decide +kernel
theorem dX7_record_17 : decode cX7_record 17 = .ok (.aload_n 0, 1) := by decide +kernel
theorem dX7_record_18 : decode cX7_record 18 = .ok (.getfield 16, 3) := by decide +kernel
theorem dX7_record_21 : decode cX7_record 21 = .ok (.iload_n 1, 1) := by decide +kernel
theorem dX7_record_22 : decode cX7_record 22 = .ok (.aload_n 0, 1) := by decide +kernel
theorem dX7_record_23 : decode cX7_record 23 = .ok (.getfield 16, 3) := by decide +kernel
theorem dX7_record_26 : decode cX7_record 26 = .ok (.iload_n 1, 1) := by decide +kernel
theorem dX7_record_27 : decode cX7_record 27 = .ok (.sipush 1385, 3) := by decide +kernel
theorem dX7_record_30 : decode cX7_record 30 = .ok (.iadd, 1) := by decide +kernel
theorem dX7_record_31 : decode cX7_record 31 = .ok (.iaload, 1) := by decide +kernel
theorem dX7_record_32 : decode cX7_record 32 = .ok (.iastore, 1) := by decide +kernel
theorem dX7_record_33 : decode cX7_record 33 = .ok (.iinc 1 1, 3) := by decide +kernel
theorem dX7_record_36 : decode cX7_record 36 = .ok (.goto (-26), 3) := by decide +kernel
theorem dX7_record_39 : decode cX7_record 39 = .ok (.aload_n 0, 1) := by decide +kernel
theorem dX7_record_40 : decode cX7_record 40 = .ok (.dup, 1) := by decide +kernel
theorem dX7_record_41 : decode cX7_record 41 = .ok (.getfield 43, 3) := by decide +kernel
theorem dX7_record_44 : decode cX7_record 44 = .ok (.iconst 1, 1) := by decide +kernel
theorem dX7_record_45 : decode cX7_record 45 = .ok (.isub, 1) := by decide +kernel
theorem dX7_record_46 : decode cX7_record 46 = .ok (.putfield 43, 3) := by decide +kernel
theorem dX7_record_49 : decode cX7_record 49 = .ok (.iconst 0, 1) := by decide +kernel
theorem dX7_record_50 : decode cX7_record 50 = .ok (.istore_n 1, 1) := by decide +kernel
theorem dX7_record_51 : decode cX7_record 51 = .ok (.iload_n 1, 1) := by decide +kernel
theorem dX7_record_52 : decode cX7_record 52 = .ok (.sipush 1385, 3) := by decide +kernel
theorem dX7_record_55 : decode cX7_record 55 = .ok (.if_icmp .ge 30, 3) := by decide +kernel
theorem dX7_record_58 : decode cX7_record 58 = .ok (.aload_n 0, 1) := by decide +kernel
theorem dX7_record_59 : decode cX7_record 59 = .ok (.getfield 16, 3) := by decide +kernel
theorem dX7_record_62 : decode cX7_record 62 = .ok (.sipush 1385, 3) := by decide +kernel
theorem dX7_record_65 : decode cX7_record 65 = .ok (.aload_n 0, 1) := by decide +kernel
theorem dX7_record_66 : decode cX7_record 66 = .ok (.getfield 43, 3) := by decide +kernel
theorem dX7_record_69 : decode cX7_record 69 = .ok (.imul, 1) := by decide +kernel
theorem dX7_record_70 : decode cX7_record 70 = .ok (.iload_n 1, 1) := by decide +kernel
theorem dX7_record_71 : decode cX7_record 71 = .ok (.iadd, 1) := by decide +kernel
theorem dX7_record_72 : decode cX7_record 72 = .ok (.aload_n 0, 1) := by decide +kernel
theorem dX7_record_73 : decode cX7_record 73 = .ok (.getfield 7, 3) := by decide +kernel
theorem dX7_record_76 : decode cX7_record 76 = .ok (.iload_n 1, 1) := by decide +kernel
theorem dX7_record_77 : decode cX7_record 77 = .ok (.iaload, 1) := by decide +kernel
theorem dX7_record_78 : decode cX7_record 78 = .ok (.iastore, 1) := by decide +kernel
theorem dX7_record_79 : decode cX7_record 79 = .ok (.iinc 1 1, 3) := by decide +kernel
theorem dX7_record_82 : decode cX7_record 82 = .ok (.goto (-31), 3) := by decide +kernel
theorem dX7_record_85 : decode cX7_record 85 = .ok (.aload_n 0, 1) := by decide +kernel
theorem dX7_record_86 : decode cX7_record 86 = .ok (.dup, 1) := by decide +kernel
theorem dX7_record_87 : decode cX7_record 87 = .ok (.getfield 43, 3) := by decide +kernel
theorem dX7_record_90 : decode cX7_record 90 = .ok (.iconst 1, 1) := by decide +kernel
theorem dX7_record_91 : decode cX7_record 91 = .ok (.iadd, 1) := by decide +kernel
theorem dX7_record_92 : decode cX7_record 92 = .ok (.putfield 43, 3) := by decide +kernel
theorem dX7_record_95 : decode cX7_record 95 = .ok (.return_, 1) := by decide +kernel
theorem dX7_isRow_0 : decode cX7_isRow 0 = .ok (.iload_n 1, 1) := by decide +kernel
theorem dX7_isRow_1 : decode cX7_isRow 1 = .ok (.iconst 0, 1) := by decide +kernel
theorem dX7_isRow_2 : decode cX7_isRow 2 = .ok (.aload_n 0, 1) := by decide +kernel
theorem dX7_isRow_3 : decode cX7_isRow 3 = .ok (.getfield 7, 3) := by decide +kernel
theorem dX7_isRow_6 : decode cX7_isRow 6 = .ok (.iconst 0, 1) := by decide +kernel
theorem dX7_isRow_7 : decode cX7_isRow 7 = .ok (.iaload, 1) := by decide +kernel
theorem dX7_isRow_8 : decode cX7_isRow 8 = .ok (.iconst 1, 1) := by decide +kernel
theorem dX7_isRow_9 : decode cX7_isRow 9 = .ok (.isub, 1) := by decide +kernel
theorem dX7_isRow_10 : decode cX7_isRow 10 = .ok (.invokestatic 47, 3) := by decide +kernel
theorem dX7_isRow_13 : decode cX7_isRow 13 = .ok (.ifCond .eq 21, 3) := by decide +kernel
theorem dX7_isRow_16 : decode cX7_isRow 16 = .ok (.aload_n 0, 1) := by decide +kernel
theorem dX7_isRow_17 : decode cX7_isRow 17 = .ok (.getfield 7, 3) := by decide +kernel
theorem dX7_isRow_20 : decode cX7_isRow 20 = .ok (.sipush 805, 3) := by decide +kernel
theorem dX7_isRow_23 : decode cX7_isRow 23 = .ok (.iload_n 1, 1) := by decide +kernel
theorem dX7_isRow_24 : decode cX7_isRow 24 = .ok (.iadd, 1) := by decide +kernel
theorem dX7_isRow_25 : decode cX7_isRow 25 = .ok (.iaload, 1) := by decide +kernel
theorem dX7_isRow_26 : decode cX7_isRow 26 = .ok (.iconst (-1), 1) := by decide +kernel
theorem dX7_isRow_27 : decode cX7_isRow 27 = .ok (.if_icmp .eq 7, 3) := by decide +kernel
theorem dX7_isRow_30 : decode cX7_isRow 30 = .ok (.iconst 1, 1) := by decide +kernel
theorem dX7_isRow_31 : decode cX7_isRow 31 = .ok (.goto 4, 3) := by decide +kernel
theorem dX7_isRow_34 : decode cX7_isRow 34 = .ok (.iconst 0, 1) := by decide +kernel
theorem dX7_isRow_35 : decode cX7_isRow 35 = .ok (.ireturn, 1) := by decide +kernel
theorem dX7_isSlice_0 : decode cX7_isSlice 0 = .ok (.iload_n 1, 1) := by decide +kernel
theorem dX7_isSlice_1 : decode cX7_isSlice 1 = .ok (.iconst 0, 1) := by decide +kernel
theorem dX7_isSlice_2 : decode cX7_isSlice 2 = .ok (.aload_n 0, 1) := by decide +kernel
theorem dX7_isSlice_3 : decode cX7_isSlice 3 = .ok (.getfield 7, 3) := by decide +kernel
theorem dX7_isSlice_6 : decode cX7_isSlice 6 = .ok (.iconst 1, 1) := by decide +kernel
theorem dX7_isSlice_7 : decode cX7_isSlice 7 = .ok (.iaload, 1) := by decide +kernel
theorem dX7_isSlice_8 : decode cX7_isSlice 8 = .ok (.iconst 1, 1) := by decide +kernel
theorem dX7_isSlice_9 : decode cX7_isSlice 9 = .ok (.isub, 1) := by decide +kernel
theorem dX7_isSlice_10 : decode cX7_isSlice 10 = .ok (.invokestatic 47, 3) := by decide +kernel
theorem dX7_isSlice_13 : decode cX7_isSlice 13 = .ok (.ifCond .eq 21, 3) := by decide +kernel
theorem dX7_isSlice_16 : decode cX7_isSlice 16 = .ok (.aload_n 0, 1) := by decide +kernel
theorem dX7_isSlice_17 : decode cX7_isSlice 17 = .ok (.getfield 7, 3) := by decide +kernel
theorem dX7_isSlice_20 : decode cX7_isSlice 20 = .ok (.sipush 1205, 3) := by decide +kernel
theorem dX7_isSlice_23 : decode cX7_isSlice 23 = .ok (.iload_n 1, 1) := by decide +kernel
theorem dX7_isSlice_24 : decode cX7_isSlice 24 = .ok (.iadd, 1) := by decide +kernel
theorem dX7_isSlice_25 : decode cX7_isSlice 25 = .ok (.iaload, 1) := by decide +kernel
theorem dX7_isSlice_26 : decode cX7_isSlice 26 = .ok (.iconst 1, 1) := by decide +kernel
theorem dX7_isSlice_27 : decode cX7_isSlice 27 = .ok (.if_icmp .ne 7, 3) := by decide +kernel
theorem dX7_isSlice_30 : decode cX7_isSlice 30 = .ok (.iconst 1, 1) := by decide +kernel
theorem dX7_isSlice_31 : decode cX7_isSlice 31 = .ok (.goto 4, 3) := by decide +kernel
theorem dX7_isSlice_34 : decode cX7_isSlice 34 = .ok (.iconst 0, 1) := by decide +kernel
theorem dX7_isSlice_35 : decode cX7_isSlice 35 = .ok (.ireturn, 1) := by decide +kernel
theorem dX7_isPlace_0 : decode cX7_isPlace 0 = .ok (.iload_n 1, 1) := by decide +kernel
theorem dX7_isPlace_1 : decode cX7_isPlace 1 = .ok (.bipush 60, 2) := by decide +kernel
theorem dX7_isPlace_3 : decode cX7_isPlace 3 = .ok (.if_icmp .eq 17, 3) := by decide +kernel
theorem dX7_isPlace_6 : decode cX7_isPlace 6 = .ok (.iload_n 1, 1) := by decide +kernel
theorem dX7_isPlace_7 : decode cX7_isPlace 7 = .ok (.bipush 61, 2) := by decide +kernel
theorem dX7_isPlace_9 : decode cX7_isPlace 9 = .ok (.if_icmp .eq 11, 3) := by decide +kernel
theorem dX7_isPlace_12 : decode cX7_isPlace 12 = .ok (.aload_n 0, 1) := by decide +kernel
theorem dX7_isPlace_13 : decode cX7_isPlace 13 = .ok (.iload_n 1, 1) := by decide +kernel
theorem dX7_isPlace_14 : decode cX7_isPlace 14 = .ok (.invokevirtual 51, 3) := by decide +kernel
theorem dX7_isPlace_17 : decode cX7_isPlace 17 = .ok (.ifCond .eq 7, 3) := by decide +kernel
theorem dX7_isPlace_20 : decode cX7_isPlace 20 = .ok (.iconst 1, 1) := by decide +kernel
theorem dX7_isPlace_21 : decode cX7_isPlace 21 = .ok (.goto 4, 3) := by decide +kernel
theorem dX7_isPlace_24 : decode cX7_isPlace 24 = .ok (.iconst 0, 1) := by decide +kernel
theorem dX7_isPlace_25 : decode cX7_isPlace 25 = .ok (.ireturn, 1) := by decide +kernel
theorem dX7_has_0 : decode cX7_has 0 = .ok (.iload_n 2, 1) := by decide +kernel
theorem dX7_has_1 : decode cX7_has 1 = .ok (.aload_n 0, 1) := by decide +kernel
theorem dX7_has_2 : decode cX7_has 2 = .ok (.getfield 7, 3) := by decide +kernel
theorem dX7_has_5 : decode cX7_has 5 = .ok (.sipush 1265, 3) := by decide +kernel
theorem dX7_has_8 : decode cX7_has 8 = .ok (.iload_n 1, 1) := by decide +kernel
theorem dX7_has_9 : decode cX7_has 9 = .ok (.iadd, 1) := by decide +kernel
theorem dX7_has_10 : decode cX7_has 10 = .ok (.iaload, 1) := by decide +kernel
theorem dX7_has_11 : decode cX7_has 11 = .ok (.aload_n 0, 1) := by decide +kernel
theorem dX7_has_12 : decode cX7_has 12 = .ok (.getfield 7, 3) := by decide +kernel
theorem dX7_has_15 : decode cX7_has 15 = .ok (.sipush 1325, 3) := by decide +kernel
theorem dX7_has_18 : decode cX7_has 18 = .ok (.iload_n 1, 1) := by decide +kernel
theorem dX7_has_19 : decode cX7_has 19 = .ok (.iadd, 1) := by decide +kernel
theorem dX7_has_20 : decode cX7_has 20 = .ok (.iaload, 1) := by decide +kernel
theorem dX7_has_21 : decode cX7_has 21 = .ok (.iconst 1, 1) := by decide +kernel
theorem dX7_has_22 : decode cX7_has 22 = .ok (.isub, 1) := by decide +kernel
theorem dX7_has_23 : decode cX7_has 23 = .ok (.invokestatic 47, 3) := by decide +kernel
theorem dX7_has_26 : decode cX7_has 26 = .ok (.ireturn, 1) := by decide +kernel
theorem dX7_owner_0 : decode cX7_owner 0 = .ok (.iconst 0, 1) := by decide +kernel
theorem dX7_owner_1 : decode cX7_owner 1 = .ok (.istore_n 2, 1) := by decide +kernel
theorem dX7_owner_2 : decode cX7_owner 2 = .ok (.iload_n 2, 1) := by decide +kernel
theorem dX7_owner_3 : decode cX7_owner 3 = .ok (.aload_n 0, 1) := by decide +kernel
theorem dX7_owner_4 : decode cX7_owner 4 = .ok (.getfield 7, 3) := by decide +kernel
theorem dX7_owner_7 : decode cX7_owner 7 = .ok (.iconst 1, 1) := by decide +kernel
theorem dX7_owner_8 : decode cX7_owner 8 = .ok (.iaload, 1) := by decide +kernel
theorem dX7_owner_9 : decode cX7_owner 9 = .ok (.if_icmp .ge 28, 3) := by decide +kernel
theorem dX7_owner_12 : decode cX7_owner 12 = .ok (.aload_n 0, 1) := by decide +kernel
theorem dX7_owner_13 : decode cX7_owner 13 = .ok (.iload_n 2, 1) := by decide +kernel
theorem dX7_owner_14 : decode cX7_owner 14 = .ok (.invokevirtual 51, 3) := by decide +kernel
theorem dX7_owner_17 : decode cX7_owner 17 = .ok (.ifCond .eq 14, 3) := by decide +kernel
theorem dX7_owner_20 : decode cX7_owner 20 = .ok (.aload_n 0, 1) := by decide +kernel
theorem dX7_owner_21 : decode cX7_owner 21 = .ok (.iload_n 2, 1) := by decide +kernel
theorem dX7_owner_22 : decode cX7_owner 22 = .ok (.iload_n 1, 1) := by decide +kernel
theorem dX7_owner_23 : decode cX7_owner 23 = .ok (.invokevirtual 55, 3) := by decide +kernel
theorem dX7_owner_26 : decode cX7_owner 26 = .ok (.ifCond .eq 5, 3) := by decide +kernel
theorem dX7_owner_29 : decode cX7_owner 29 = .ok (.iload_n 2, 1) := by decide +kernel
theorem dX7_owner_30 : decode cX7_owner 30 = .ok (.ireturn, 1) := by decide +kernel
theorem dX7_owner_31 : decode cX7_owner 31 = .ok (.iinc 2 1, 3) := by decide +kernel
theorem dX7_owner_34 : decode cX7_owner 34 = .ok (.goto (-32), 3) := by decide +kernel
theorem dX7_owner_37 : decode cX7_owner 37 = .ok (.sipush (-1005), 3) := by decide +kernel
theorem dX7_owner_40 : decode cX7_owner 40 = .ok (.ireturn, 1) := by decide +kernel
theorem dX7_belongsTo_0 : decode cX7_belongsTo 0 = .ok (.aload_n 0, 1) := by decide +kernel
theorem dX7_belongsTo_1 : decode cX7_belongsTo 1 = .ok (.iload_n 1, 1) := by decide +kernel
theorem dX7_belongsTo_2 : decode cX7_belongsTo 2 = .ok (.invokevirtual 59, 3) := by decide +kernel
theorem dX7_belongsTo_5 : decode cX7_belongsTo 5 = .ok (.istore_n 2, 1) := by decide +kernel
theorem dX7_belongsTo_6 : decode cX7_belongsTo 6 = .ok (.iload_n 2, 1) := by decide +kernel
theorem dX7_belongsTo_7 : decode cX7_belongsTo 7 = .ok (.sipush (-1005), 3) := by decide +kernel
theorem dX7_belongsTo_10 : decode cX7_belongsTo 10 = .ok (.if_icmp .eq 7, 3) := by decide +kernel
theorem dX7_belongsTo_13 : decode cX7_belongsTo 13 = .ok (.iload_n 2, 1) := by decide +kernel
theorem dX7_belongsTo_14 : decode cX7_belongsTo 14 = .ok (.goto 21, 3) := by decide +kernel
theorem dX7_belongsTo_17 : decode cX7_belongsTo 17 = .ok (.aload_n 0, 1) := by decide +kernel
theorem dX7_belongsTo_18 : decode cX7_belongsTo 18 = .ok (.getfield 7, 3) := by decide +kernel
theorem dX7_belongsTo_21 : decode cX7_belongsTo 21 = .ok (.iconst 2, 1) := by decide +kernel
theorem dX7_belongsTo_22 : decode cX7_belongsTo 22 = .ok (.iaload, 1) := by decide +kernel
theorem dX7_belongsTo_23 : decode cX7_belongsTo 23 = .ok (.iconst 1, 1) := by decide +kernel
theorem dX7_belongsTo_24 : decode cX7_belongsTo 24 = .ok (.if_icmp .ne 8, 3) := by decide +kernel
theorem dX7_belongsTo_27 : decode cX7_belongsTo 27 = .ok (.bipush 60, 2) := by decide +kernel
theorem dX7_belongsTo_29 : decode cX7_belongsTo 29 = .ok (.goto 6, 3) := by decide +kernel
theorem dX7_belongsTo_32 : decode cX7_belongsTo 32 = .ok (.sipush (-1005), 3) := by decide +kernel
theorem dX7_belongsTo_35 : decode cX7_belongsTo 35 = .ok (.ireturn, 1) := by decide +kernel
theorem dX7_rowsIn_0 : decode cX7_rowsIn 0 = .ok (.iconst 0, 1) := by decide +kernel
theorem dX7_rowsIn_1 : decode cX7_rowsIn 1 = .ok (.istore_n 2, 1) := by decide +kernel
theorem dX7_rowsIn_2 : decode cX7_rowsIn 2 = .ok (.iconst 0, 1) := by decide +kernel
theorem dX7_rowsIn_3 : decode cX7_rowsIn 3 = .ok (.istore_n 3, 1) := by decide +kernel
theorem dX7_rowsIn_4 : decode cX7_rowsIn 4 = .ok (.iload_n 3, 1) := by decide +kernel
theorem dX7_rowsIn_5 : decode cX7_rowsIn 5 = .ok (.aload_n 0, 1) := by decide +kernel
theorem dX7_rowsIn_6 : decode cX7_rowsIn 6 = .ok (.getfield 7, 3) := by decide +kernel
theorem dX7_rowsIn_9 : decode cX7_rowsIn 9 = .ok (.iconst 0, 1) := by decide +kernel
theorem dX7_rowsIn_10 : decode cX7_rowsIn 10 = .ok (.iaload, 1) := by decide +kernel
theorem dX7_rowsIn_11 : decode cX7_rowsIn 11 = .ok (.if_icmp .ge 31, 3) := by decide +kernel
theorem dX7_rowsIn_14 : decode cX7_rowsIn 14 = .ok (.iload_n 2, 1) := by decide +kernel
theorem dX7_rowsIn_15 : decode cX7_rowsIn 15 = .ok (.aload_n 0, 1) := by decide +kernel
theorem dX7_rowsIn_16 : decode cX7_rowsIn 16 = .ok (.getfield 7, 3) := by decide +kernel
theorem dX7_rowsIn_19 : decode cX7_rowsIn 19 = .ok (.sipush 805, 3) := by decide +kernel
theorem dX7_rowsIn_22 : decode cX7_rowsIn 22 = .ok (.iload_n 3, 1) := by decide +kernel
theorem dX7_rowsIn_23 : decode cX7_rowsIn 23 = .ok (.iadd, 1) := by decide +kernel
theorem dX7_rowsIn_24 : decode cX7_rowsIn 24 = .ok (.iaload, 1) := by decide +kernel
theorem dX7_rowsIn_25 : decode cX7_rowsIn 25 = .ok (.iload_n 1, 1) := by decide +kernel
theorem dX7_rowsIn_26 : decode cX7_rowsIn 26 = .ok (.if_icmp .ne 7, 3) := by decide +kernel
theorem dX7_rowsIn_29 : decode cX7_rowsIn 29 = .ok (.iconst 1, 1) := by decide +kernel
theorem dX7_rowsIn_30 : decode cX7_rowsIn 30 = .ok (.goto 4, 3) := by decide +kernel
theorem dX7_rowsIn_33 : decode cX7_rowsIn 33 = .ok (.iconst 0, 1) := by decide +kernel
theorem dX7_rowsIn_34 : decode cX7_rowsIn 34 = .ok (.iadd, 1) := by decide +kernel
theorem dX7_rowsIn_35 : decode cX7_rowsIn 35 = .ok (.istore_n 2, 1) := by decide +kernel
theorem dX7_rowsIn_36 : decode cX7_rowsIn 36 = .ok (.iinc 3 1, 3) := by decide +kernel
theorem dX7_rowsIn_39 : decode cX7_rowsIn 39 = .ok (.goto (-35), 3) := by decide +kernel
theorem dX7_rowsIn_42 : decode cX7_rowsIn 42 = .ok (.iload_n 2, 1) := by decide +kernel
theorem dX7_rowsIn_43 : decode cX7_rowsIn 43 = .ok (.ireturn, 1) := by decide +kernel
theorem dX7_isStray_0 : decode cX7_isStray 0 = .ok (.aload_n 0, 1) := by decide +kernel
theorem dX7_isStray_1 : decode cX7_isStray 1 = .ok (.getfield 7, 3) := by decide +kernel
theorem dX7_isStray_4 : decode cX7_isStray 4 = .ok (.sipush 805, 3) := by decide +kernel
theorem dX7_isStray_7 : decode cX7_isStray 7 = .ok (.iload_n 1, 1) := by decide +kernel
theorem dX7_isStray_8 : decode cX7_isStray 8 = .ok (.iadd, 1) := by decide +kernel
theorem dX7_isStray_9 : decode cX7_isStray 9 = .ok (.iaload, 1) := by decide +kernel
theorem dX7_isStray_10 : decode cX7_isStray 10 = .ok (.istore_n 2, 1) := by decide +kernel
theorem dX7_isStray_11 : decode cX7_isStray 11 = .ok (.iload_n 2, 1) := by decide +kernel
theorem dX7_isStray_12 : decode cX7_isStray 12 = .ok (.iconst (-1), 1) := by decide +kernel
theorem dX7_isStray_13 : decode cX7_isStray 13 = .ok (.if_icmp .eq 29, 3) := by decide +kernel
theorem dX7_isStray_16 : decode cX7_isStray 16 = .ok (.iload_n 2, 1) := by decide +kernel
theorem dX7_isStray_17 : decode cX7_isStray 17 = .ok (.bipush 61, 2) := by decide +kernel
theorem dX7_isStray_19 : decode cX7_isStray 19 = .ok (.if_icmp .eq 23, 3) := by decide +kernel
theorem dX7_isStray_22 : decode cX7_isStray 22 = .ok (.iload_n 2, 1) := by decide +kernel
theorem dX7_isStray_23 : decode cX7_isStray 23 = .ok (.aload_n 0, 1) := by decide +kernel
theorem dX7_isStray_24 : decode cX7_isStray 24 = .ok (.aload_n 0, 1) := by decide +kernel
theorem dX7_isStray_25 : decode cX7_isStray 25 = .ok (.getfield 7, 3) := by decide +kernel
theorem dX7_isStray_28 : decode cX7_isStray 28 = .ok (.iconst 5, 1) := by decide +kernel
theorem dX7_isStray_29 : decode cX7_isStray 29 = .ok (.iload_n 1, 1) := by decide +kernel
theorem dX7_isStray_30 : decode cX7_isStray 30 = .ok (.iadd, 1) := by decide +kernel
theorem dX7_isStray_31 : decode cX7_isStray 31 = .ok (.iaload, 1) := by decide +kernel
theorem dX7_isStray_32 : decode cX7_isStray 32 = .ok (.invokevirtual 63, 3) := by decide +kernel
theorem dX7_isStray_35 : decode cX7_isStray 35 = .ok (.if_icmp .eq 7, 3) := by decide +kernel
theorem dX7_isStray_38 : decode cX7_isStray 38 = .ok (.iconst 1, 1) := by decide +kernel
theorem dX7_isStray_39 : decode cX7_isStray 39 = .ok (.goto 4, 3) := by decide +kernel
theorem dX7_isStray_42 : decode cX7_isStray 42 = .ok (.iconst 0, 1) := by decide +kernel
theorem dX7_isStray_43 : decode cX7_isStray 43 = .ok (.ireturn, 1) := by decide +kernel
theorem dX7_slices_0 : decode cX7_slices 0 = .ok (.iconst 0, 1) := by decide +kernel
theorem dX7_slices_1 : decode cX7_slices 1 = .ok (.istore_n 1, 1) := by decide +kernel
theorem dX7_slices_2 : decode cX7_slices 2 = .ok (.iconst 0, 1) := by decide +kernel
theorem dX7_slices_3 : decode cX7_slices 3 = .ok (.istore_n 2, 1) := by decide +kernel
theorem dX7_slices_4 : decode cX7_slices 4 = .ok (.iload_n 2, 1) := by decide +kernel
theorem dX7_slices_5 : decode cX7_slices 5 = .ok (.aload_n 0, 1) := by decide +kernel
theorem dX7_slices_6 : decode cX7_slices 6 = .ok (.getfield 7, 3) := by decide +kernel
theorem dX7_slices_9 : decode cX7_slices 9 = .ok (.iconst 1, 1) := by decide +kernel
theorem dX7_slices_10 : decode cX7_slices 10 = .ok (.iaload, 1) := by decide +kernel
theorem dX7_slices_11 : decode cX7_slices 11 = .ok (.if_icmp .ge 22, 3) := by decide +kernel
theorem dX7_slices_14 : decode cX7_slices 14 = .ok (.iload_n 1, 1) := by decide +kernel
theorem dX7_slices_15 : decode cX7_slices 15 = .ok (.aload_n 0, 1) := by decide +kernel
theorem dX7_slices_16 : decode cX7_slices 16 = .ok (.getfield 7, 3) := by decide +kernel
theorem dX7_slices_19 : decode cX7_slices 19 = .ok (.sipush 1205, 3) := by decide +kernel
theorem dX7_slices_22 : decode cX7_slices 22 = .ok (.iload_n 2, 1) := by decide +kernel
theorem dX7_slices_23 : decode cX7_slices 23 = .ok (.iadd, 1) := by decide +kernel
theorem dX7_slices_24 : decode cX7_slices 24 = .ok (.iaload, 1) := by decide +kernel
theorem dX7_slices_25 : decode cX7_slices 25 = .ok (.iadd, 1) := by decide +kernel
theorem dX7_slices_26 : decode cX7_slices 26 = .ok (.istore_n 1, 1) := by decide +kernel
theorem dX7_slices_27 : decode cX7_slices 27 = .ok (.iinc 2 1, 3) := by decide +kernel
theorem dX7_slices_30 : decode cX7_slices 30 = .ok (.goto (-26), 3) := by decide +kernel
theorem dX7_slices_33 : decode cX7_slices 33 = .ok (.iload_n 1, 1) := by decide +kernel
theorem dX7_slices_34 : decode cX7_slices 34 = .ok (.ireturn, 1) := by decide +kernel
theorem dX7_isFullOfSlices_0 : decode cX7_isFullOfSlices 0 = .ok (.aload_n 0, 1) := by decide +kernel
theorem dX7_isFullOfSlices_1 : decode cX7_isFullOfSlices 1 = .ok (.invokevirtual 66, 3) := by decide +kernel
theorem dX7_isFullOfSlices_4 : decode cX7_isFullOfSlices 4 = .ok (.bipush 12, 2) := by decide +kernel
theorem dX7_isFullOfSlices_6 : decode cX7_isFullOfSlices 6 = .ok (.if_icmp .eq 14, 3) := by decide +kernel
theorem dX7_isFullOfSlices_9 : decode cX7_isFullOfSlices 9 = .ok (.aload_n 0, 1) := by decide +kernel
theorem dX7_isFullOfSlices_10 : decode cX7_isFullOfSlices 10 = .ok (.getfield 7, 3) := by decide +kernel
theorem dX7_isFullOfSlices_13 : decode cX7_isFullOfSlices 13 = .ok (.iconst 1, 1) := by decide +kernel
theorem dX7_isFullOfSlices_14 : decode cX7_isFullOfSlices 14 = .ok (.iaload, 1) := by decide +kernel
theorem dX7_isFullOfSlices_15 : decode cX7_isFullOfSlices 15 = .ok (.bipush 60, 2) := by decide +kernel
theorem dX7_isFullOfSlices_17 : decode cX7_isFullOfSlices 17 = .ok (.if_icmp .ne 7, 3) := by decide +kernel
theorem dX7_isFullOfSlices_20 : decode cX7_isFullOfSlices 20 = .ok (.iconst 1, 1) := by decide +kernel
theorem dX7_isFullOfSlices_21 : decode cX7_isFullOfSlices 21 = .ok (.goto 4, 3) := by decide +kernel
theorem dX7_isFullOfSlices_24 : decode cX7_isFullOfSlices 24 = .ok (.iconst 0, 1) := by decide +kernel
theorem dX7_isFullOfSlices_25 : decode cX7_isFullOfSlices 25 = .ok (.ireturn, 1) := by decide +kernel
theorem dX7_areBounds_0 : decode cX7_areBounds 0 = .ok (.iload_n 1, 1) := by decide +kernel
theorem dX7_areBounds_1 : decode cX7_areBounds 1 = .ok (.iconst 0, 1) := by decide +kernel
theorem dX7_areBounds_2 : decode cX7_areBounds 2 = .ok (.sipush 999, 3) := by decide +kernel
theorem dX7_areBounds_5 : decode cX7_areBounds 5 = .ok (.invokestatic 47, 3) := by decide +kernel
theorem dX7_areBounds_8 : decode cX7_areBounds 8 = .ok (.ifCond .eq 20, 3) := by decide +kernel
theorem dX7_areBounds_11 : decode cX7_areBounds 11 = .ok (.iload_n 2, 1) := by decide +kernel
theorem dX7_areBounds_12 : decode cX7_areBounds 12 = .ok (.iload_n 1, 1) := by decide +kernel
theorem dX7_areBounds_13 : decode cX7_areBounds 13 = .ok (.iconst 1, 1) := by decide +kernel
theorem dX7_areBounds_14 : decode cX7_areBounds 14 = .ok (.iadd, 1) := by decide +kernel
theorem dX7_areBounds_15 : decode cX7_areBounds 15 = .ok (.sipush 1000, 3) := by decide +kernel
theorem dX7_areBounds_18 : decode cX7_areBounds 18 = .ok (.invokestatic 47, 3) := by decide +kernel
theorem dX7_areBounds_21 : decode cX7_areBounds 21 = .ok (.ifCond .eq 7, 3) := by decide +kernel
theorem dX7_areBounds_24 : decode cX7_areBounds 24 = .ok (.iconst 1, 1) := by decide +kernel
theorem dX7_areBounds_25 : decode cX7_areBounds 25 = .ok (.goto 4, 3) := by decide +kernel
theorem dX7_areBounds_28 : decode cX7_areBounds 28 = .ok (.iconst 0, 1) := by decide +kernel
theorem dX7_areBounds_29 : decode cX7_areBounds 29 = .ok (.ireturn, 1) := by decide +kernel
theorem dX7_isTaken_0 : decode cX7_isTaken 0 = .ok (.iconst 0, 1) := by decide +kernel
theorem dX7_isTaken_1 : decode cX7_isTaken 1 = .ok (.istore_n 3, 1) := by decide +kernel
theorem dX7_isTaken_2 : decode cX7_isTaken 2 = .ok (.iload_n 3, 1) := by decide +kernel
theorem dX7_isTaken_3 : decode cX7_isTaken 3 = .ok (.aload_n 0, 1) := by decide +kernel
theorem dX7_isTaken_4 : decode cX7_isTaken 4 = .ok (.getfield 7, 3) := by decide +kernel
theorem dX7_isTaken_7 : decode cX7_isTaken 7 = .ok (.iconst 1, 1) := by decide +kernel
theorem dX7_isTaken_8 : decode cX7_isTaken 8 = .ok (.iaload, 1) := by decide +kernel
theorem dX7_isTaken_9 : decode cX7_isTaken 9 = .ok (.if_icmp .ge 47, 3) := by decide +kernel
theorem dX7_isTaken_12 : decode cX7_isTaken 12 = .ok (.aload_n 0, 1) := by decide +kernel
theorem dX7_isTaken_13 : decode cX7_isTaken 13 = .ok (.iload_n 3, 1) := by decide +kernel
theorem dX7_isTaken_14 : decode cX7_isTaken 14 = .ok (.invokevirtual 51, 3) := by decide +kernel
theorem dX7_isTaken_17 : decode cX7_isTaken 17 = .ok (.ifCond .eq 33, 3) := by decide +kernel
theorem dX7_isTaken_20 : decode cX7_isTaken 20 = .ok (.aload_n 0, 1) := by decide +kernel
theorem dX7_isTaken_21 : decode cX7_isTaken 21 = .ok (.getfield 7, 3) := by decide +kernel
theorem dX7_isTaken_24 : decode cX7_isTaken 24 = .ok (.sipush 1265, 3) := by decide +kernel
theorem dX7_isTaken_27 : decode cX7_isTaken 27 = .ok (.iload_n 3, 1) := by decide +kernel
theorem dX7_isTaken_28 : decode cX7_isTaken 28 = .ok (.iadd, 1) := by decide +kernel
theorem dX7_isTaken_29 : decode cX7_isTaken 29 = .ok (.iaload, 1) := by decide +kernel
theorem dX7_isTaken_30 : decode cX7_isTaken 30 = .ok (.iload_n 2, 1) := by decide +kernel
theorem dX7_isTaken_31 : decode cX7_isTaken 31 = .ok (.if_icmp .ge 19, 3) := by decide +kernel
theorem dX7_isTaken_34 : decode cX7_isTaken 34 = .ok (.iload_n 1, 1) := by decide +kernel
theorem dX7_isTaken_35 : decode cX7_isTaken 35 = .ok (.aload_n 0, 1) := by decide +kernel
theorem dX7_isTaken_36 : decode cX7_isTaken 36 = .ok (.getfield 7, 3) := by decide +kernel
theorem dX7_isTaken_39 : decode cX7_isTaken 39 = .ok (.sipush 1325, 3) := by decide +kernel
theorem dX7_isTaken_42 : decode cX7_isTaken 42 = .ok (.iload_n 3, 1) := by decide +kernel
theorem dX7_isTaken_43 : decode cX7_isTaken 43 = .ok (.iadd, 1) := by decide +kernel
theorem dX7_isTaken_44 : decode cX7_isTaken 44 = .ok (.iaload, 1) := by decide +kernel
theorem dX7_isTaken_45 : decode cX7_isTaken 45 = .ok (.if_icmp .ge 5, 3) := by decide +kernel
theorem dX7_isTaken_48 : decode cX7_isTaken 48 = .ok (.iconst 1, 1) := by decide +kernel
theorem dX7_isTaken_49 : decode cX7_isTaken 49 = .ok (.ireturn, 1) := by decide +kernel
theorem dX7_isTaken_50 : decode cX7_isTaken 50 = .ok (.iinc 3 1, 3) := by decide +kernel
theorem dX7_isTaken_53 : decode cX7_isTaken 53 = .ok (.goto (-51), 3) := by decide +kernel
theorem dX7_isTaken_56 : decode cX7_isTaken 56 = .ok (.iconst 0, 1) := by decide +kernel
theorem dX7_isTaken_57 : decode cX7_isTaken 57 = .ok (.ireturn, 1) := by decide +kernel
theorem dX7_rowsBetween_0 : decode cX7_rowsBetween 0 = .ok (.iconst 0, 1) := by decide +kernel
theorem dX7_rowsBetween_1 : decode cX7_rowsBetween 1 = .ok (.istore 4, 2) := by decide +kernel
theorem dX7_rowsBetween_3 : decode cX7_rowsBetween 3 = .ok (.iconst 0, 1) := by decide +kernel
theorem dX7_rowsBetween_4 : decode cX7_rowsBetween 4 = .ok (.istore 5, 2) := by decide +kernel
theorem dX7_rowsBetween_6 : decode cX7_rowsBetween 6 = .ok (.iload 5, 2) := by decide +kernel
theorem dX7_rowsBetween_8 : decode cX7_rowsBetween 8 = .ok (.aload_n 0, 1) := by decide +kernel
theorem dX7_rowsBetween_9 : decode cX7_rowsBetween 9 = .ok (.getfield 7, 3) := by decide +kernel
theorem dX7_rowsBetween_12 : decode cX7_rowsBetween 12 = .ok (.iconst 0, 1) := by decide +kernel
theorem dX7_rowsBetween_13 : decode cX7_rowsBetween 13 = .ok (.iaload, 1) := by decide +kernel
theorem dX7_rowsBetween_14 : decode cX7_rowsBetween 14 = .ok (.if_icmp .ge 53, 3) := by decide +kernel
theorem dX7_rowsBetween_17 : decode cX7_rowsBetween 17 = .ok (.iload 4, 2) := by decide +kernel
theorem dX7_rowsBetween_19 : decode cX7_rowsBetween 19 = .ok (.aload_n 0, 1) := by decide +kernel
theorem dX7_rowsBetween_20 : decode cX7_rowsBetween 20 = .ok (.getfield 7, 3) := by decide +kernel
theorem dX7_rowsBetween_23 : decode cX7_rowsBetween 23 = .ok (.sipush 805, 3) := by decide +kernel
theorem dX7_rowsBetween_26 : decode cX7_rowsBetween 26 = .ok (.iload 5, 2) := by decide +kernel
theorem dX7_rowsBetween_28 : decode cX7_rowsBetween 28 = .ok (.iadd, 1) := by decide +kernel
theorem dX7_rowsBetween_29 : decode cX7_rowsBetween 29 = .ok (.iaload, 1) := by decide +kernel
theorem dX7_rowsBetween_30 : decode cX7_rowsBetween 30 = .ok (.iload_n 1, 1) := by decide +kernel
theorem dX7_rowsBetween_31 : decode cX7_rowsBetween 31 = .ok (.if_icmp .ne 26, 3) := by decide +kernel
theorem dX7_rowsBetween_34 : decode cX7_rowsBetween 34 = .ok (.aload_n 0, 1) := by decide +kernel
theorem dX7_rowsBetween_35 : decode cX7_rowsBetween 35 = .ok (.getfield 7, 3) := by decide +kernel
theorem dX7_rowsBetween_38 : decode cX7_rowsBetween 38 = .ok (.iconst 5, 1) := by decide +kernel
theorem dX7_rowsBetween_39 : decode cX7_rowsBetween 39 = .ok (.iload 5, 2) := by decide +kernel
theorem dX7_rowsBetween_41 : decode cX7_rowsBetween 41 = .ok (.iadd, 1) := by decide +kernel
theorem dX7_rowsBetween_42 : decode cX7_rowsBetween 42 = .ok (.iaload, 1) := by decide +kernel
theorem dX7_rowsBetween_43 : decode cX7_rowsBetween 43 = .ok (.iload_n 2, 1) := by decide +kernel
theorem dX7_rowsBetween_44 : decode cX7_rowsBetween 44 = .ok (.iload_n 3, 1) := by decide +kernel
theorem dX7_rowsBetween_45 : decode cX7_rowsBetween 45 = .ok (.iconst 1, 1) := by decide +kernel
theorem dX7_rowsBetween_46 : decode cX7_rowsBetween 46 = .ok (.isub, 1) := by decide +kernel
theorem dX7_rowsBetween_47 : decode cX7_rowsBetween 47 = .ok (.invokestatic 47, 3) := by decide +kernel
theorem dX7_rowsBetween_50 : decode cX7_rowsBetween 50 = .ok (.ifCond .eq 7, 3) := by decide +kernel
theorem dX7_rowsBetween_53 : decode cX7_rowsBetween 53 = .ok (.iconst 1, 1) := by decide +kernel
theorem dX7_rowsBetween_54 : decode cX7_rowsBetween 54 = .ok (.goto 4, 3) := by decide +kernel
theorem dX7_rowsBetween_57 : decode cX7_rowsBetween 57 = .ok (.iconst 0, 1) := by decide +kernel
theorem dX7_rowsBetween_58 : decode cX7_rowsBetween 58 = .ok (.iadd, 1) := by decide +kernel
theorem dX7_rowsBetween_59 : decode cX7_rowsBetween 59 = .ok (.istore 4, 2) := by decide +kernel
theorem dX7_rowsBetween_61 : decode cX7_rowsBetween 61 = .ok (.iinc 5 1, 3) := by decide +kernel
theorem dX7_rowsBetween_64 : decode cX7_rowsBetween 64 = .ok (.goto (-58), 3) := by decide +kernel
theorem dX7_rowsBetween_67 : decode cX7_rowsBetween 67 = .ok (.iload 4, 2) := by decide +kernel
theorem dX7_rowsBetween_69 : decode cX7_rowsBetween 69 = .ok (.ireturn, 1) := by decide +kernel
theorem dX7_moveBetween_0 : decode cX7_moveBetween 0 = .ok (.iconst 0, 1) := by decide +kernel
theorem dX7_moveBetween_1 : decode cX7_moveBetween 1 = .ok (.istore 5, 2) := by decide +kernel
theorem dX7_moveBetween_3 : decode cX7_moveBetween 3 = .ok (.iload 5, 2) := by decide +kernel
theorem dX7_moveBetween_5 : decode cX7_moveBetween 5 = .ok (.aload_n 0, 1) := by decide +kernel
theorem dX7_moveBetween_6 : decode cX7_moveBetween 6 = .ok (.getfield 7, 3) := by decide +kernel
theorem dX7_moveBetween_9 : decode cX7_moveBetween 9 = .ok (.iconst 0, 1) := by decide +kernel
theorem dX7_moveBetween_10 : decode cX7_moveBetween 10 = .ok (.iaload, 1) := by decide +kernel
theorem dX7_moveBetween_11 : decode cX7_moveBetween 11 = .ok (.if_icmp .ge 56, 3) := by decide +kernel
theorem dX7_moveBetween_14 : decode cX7_moveBetween 14 = .ok (.aload_n 0, 1) := by decide +kernel
theorem dX7_moveBetween_15 : decode cX7_moveBetween 15 = .ok (.getfield 7, 3) := by decide +kernel
theorem dX7_moveBetween_18 : decode cX7_moveBetween 18 = .ok (.sipush 805, 3) := by decide +kernel
theorem dX7_moveBetween_21 : decode cX7_moveBetween 21 = .ok (.iload 5, 2) := by decide +kernel
theorem dX7_moveBetween_23 : decode cX7_moveBetween 23 = .ok (.iadd, 1) := by decide +kernel
theorem dX7_moveBetween_24 : decode cX7_moveBetween 24 = .ok (.iaload, 1) := by decide +kernel
theorem dX7_moveBetween_25 : decode cX7_moveBetween 25 = .ok (.iload_n 1, 1) := by decide +kernel
theorem dX7_moveBetween_26 : decode cX7_moveBetween 26 = .ok (.if_icmp .ne 35, 3) := by decide +kernel
theorem dX7_moveBetween_29 : decode cX7_moveBetween 29 = .ok (.aload_n 0, 1) := by decide +kernel
theorem dX7_moveBetween_30 : decode cX7_moveBetween 30 = .ok (.getfield 7, 3) := by decide +kernel
theorem dX7_moveBetween_33 : decode cX7_moveBetween 33 = .ok (.iconst 5, 1) := by decide +kernel
theorem dX7_moveBetween_34 : decode cX7_moveBetween 34 = .ok (.iload 5, 2) := by decide +kernel
theorem dX7_moveBetween_36 : decode cX7_moveBetween 36 = .ok (.iadd, 1) := by decide +kernel
theorem dX7_moveBetween_37 : decode cX7_moveBetween 37 = .ok (.iaload, 1) := by decide +kernel
theorem dX7_moveBetween_38 : decode cX7_moveBetween 38 = .ok (.iload_n 3, 1) := by decide +kernel
theorem dX7_moveBetween_39 : decode cX7_moveBetween 39 = .ok (.iload 4, 2) := by decide +kernel
theorem dX7_moveBetween_41 : decode cX7_moveBetween 41 = .ok (.iconst 1, 1) := by decide +kernel
theorem dX7_moveBetween_42 : decode cX7_moveBetween 42 = .ok (.isub, 1) := by decide +kernel
theorem dX7_moveBetween_43 : decode cX7_moveBetween 43 = .ok (.invokestatic 47, 3) := by decide +kernel
theorem dX7_moveBetween_46 : decode cX7_moveBetween 46 = .ok (.ifCond .eq 15, 3) := by decide +kernel
theorem dX7_moveBetween_49 : decode cX7_moveBetween 49 = .ok (.aload_n 0, 1) := by decide +kernel
theorem dX7_moveBetween_50 : decode cX7_moveBetween 50 = .ok (.getfield 7, 3) := by decide +kernel
theorem dX7_moveBetween_53 : decode cX7_moveBetween 53 = .ok (.sipush 805, 3) := by decide +kernel
theorem dX7_moveBetween_56 : decode cX7_moveBetween 56 = .ok (.iload 5, 2) := by decide +kernel
theorem dX7_moveBetween_58 : decode cX7_moveBetween 58 = .ok (.iadd, 1) := by decide +kernel
theorem dX7_moveBetween_59 : decode cX7_moveBetween 59 = .ok (.iload_n 2, 1) := by decide +kernel
theorem dX7_moveBetween_60 : decode cX7_moveBetween 60 = .ok (.iastore, 1) := by decide +kernel
theorem dX7_moveBetween_61 : decode cX7_moveBetween 61 = .ok (.iinc 5 1, 3) := by decide +kernel
theorem dX7_moveBetween_64 : decode cX7_moveBetween 64 = .ok (.goto (-61), 3) := by decide +kernel
theorem dX7_moveBetween_67 : decode cX7_moveBetween 67 = .ok (.return_, 1) := by decide +kernel
theorem dX7_cutSlice_0 : decode cX7_cutSlice 0 = .ok (.aload_n 0, 1) := by decide +kernel
theorem dX7_cutSlice_1 : decode cX7_cutSlice 1 = .ok (.getfield 7, 3) := by decide +kernel
theorem dX7_cutSlice_4 : decode cX7_cutSlice 4 = .ok (.iconst 1, 1) := by decide +kernel
theorem dX7_cutSlice_5 : decode cX7_cutSlice 5 = .ok (.iaload, 1) := by decide +kernel
theorem dX7_cutSlice_6 : decode cX7_cutSlice 6 = .ok (.istore_n 3, 1) := by decide +kernel
theorem dX7_cutSlice_7 : decode cX7_cutSlice 7 = .ok (.aload_n 0, 1) := by decide +kernel
theorem dX7_cutSlice_8 : decode cX7_cutSlice 8 = .ok (.getfield 7, 3) := by decide +kernel
theorem dX7_cutSlice_11 : decode cX7_cutSlice 11 = .ok (.iconst 1, 1) := by decide +kernel
theorem dX7_cutSlice_12 : decode cX7_cutSlice 12 = .ok (.dup2, 1) := by decide +kernel
theorem dX7_cutSlice_13 : decode cX7_cutSlice 13 = .ok (.iaload, 1) := by decide +kernel
theorem dX7_cutSlice_14 : decode cX7_cutSlice 14 = .ok (.iconst 1, 1) := by decide +kernel
theorem dX7_cutSlice_15 : decode cX7_cutSlice 15 = .ok (.iadd, 1) := by decide +kernel
theorem dX7_cutSlice_16 : decode cX7_cutSlice 16 = .ok (.iastore, 1) := by decide +kernel
theorem dX7_cutSlice_17 : decode cX7_cutSlice 17 = .ok (.aload_n 0, 1) := by decide +kernel
theorem dX7_cutSlice_18 : decode cX7_cutSlice 18 = .ok (.getfield 7, 3) := by decide +kernel
theorem dX7_cutSlice_21 : decode cX7_cutSlice 21 = .ok (.sipush 1205, 3) := by decide +kernel
theorem dX7_cutSlice_24 : decode cX7_cutSlice 24 = .ok (.iload_n 3, 1) := by decide +kernel
theorem dX7_cutSlice_25 : decode cX7_cutSlice 25 = .ok (.iadd, 1) := by decide +kernel
theorem dX7_cutSlice_26 : decode cX7_cutSlice 26 = .ok (.iconst 1, 1) := by decide +kernel
theorem dX7_cutSlice_27 : decode cX7_cutSlice 27 = .ok (.iastore, 1) := by decide +kernel
theorem dX7_cutSlice_28 : decode cX7_cutSlice 28 = .ok (.aload_n 0, 1) := by decide +kernel
theorem dX7_cutSlice_29 : decode cX7_cutSlice 29 = .ok (.getfield 7, 3) := by decide +kernel
theorem dX7_cutSlice_32 : decode cX7_cutSlice 32 = .ok (.sipush 1265, 3) := by decide +kernel
theorem dX7_cutSlice_35 : decode cX7_cutSlice 35 = .ok (.iload_n 3, 1) := by decide +kernel
theorem dX7_cutSlice_36 : decode cX7_cutSlice 36 = .ok (.iadd, 1) := by decide +kernel
theorem dX7_cutSlice_37 : decode cX7_cutSlice 37 = .ok (.iload_n 1, 1) := by decide +kernel
theorem dX7_cutSlice_38 : decode cX7_cutSlice 38 = .ok (.iastore, 1) := by decide +kernel
theorem dX7_cutSlice_39 : decode cX7_cutSlice 39 = .ok (.aload_n 0, 1) := by decide +kernel
theorem dX7_cutSlice_40 : decode cX7_cutSlice 40 = .ok (.getfield 7, 3) := by decide +kernel
theorem dX7_cutSlice_43 : decode cX7_cutSlice 43 = .ok (.sipush 1325, 3) := by decide +kernel
theorem dX7_cutSlice_46 : decode cX7_cutSlice 46 = .ok (.iload_n 3, 1) := by decide +kernel
theorem dX7_cutSlice_47 : decode cX7_cutSlice 47 = .ok (.iadd, 1) := by decide +kernel
theorem dX7_cutSlice_48 : decode cX7_cutSlice 48 = .ok (.iload_n 2, 1) := by decide +kernel
theorem dX7_cutSlice_49 : decode cX7_cutSlice 49 = .ok (.iastore, 1) := by decide +kernel
theorem dX7_cutSlice_50 : decode cX7_cutSlice 50 = .ok (.iload_n 3, 1) := by decide +kernel
theorem dX7_cutSlice_51 : decode cX7_cutSlice 51 = .ok (.ireturn, 1) := by decide +kernel
theorem dX7_addRow_0 : decode cX7_addRow 0 = .ok (.aload_n 0, 1) := by decide +kernel
theorem dX7_addRow_1 : decode cX7_addRow 1 = .ok (.getfield 7, 3) := by decide +kernel
theorem dX7_addRow_4 : decode cX7_addRow 4 = .ok (.iconst 0, 1) := by decide +kernel
theorem dX7_addRow_5 : decode cX7_addRow 5 = .ok (.iaload, 1) := by decide +kernel
theorem dX7_addRow_6 : decode cX7_addRow 6 = .ok (.istore 4, 2) := by decide +kernel
theorem dX7_addRow_8 : decode cX7_addRow 8 = .ok (.aload_n 0, 1) := by decide +kernel
theorem dX7_addRow_9 : decode cX7_addRow 9 = .ok (.getfield 7, 3) := by decide +kernel
theorem dX7_addRow_12 : decode cX7_addRow 12 = .ok (.iconst 0, 1) := by decide +kernel
theorem dX7_addRow_13 : decode cX7_addRow 13 = .ok (.dup2, 1) := by decide +kernel
theorem dX7_addRow_14 : decode cX7_addRow 14 = .ok (.iaload, 1) := by decide +kernel
theorem dX7_addRow_15 : decode cX7_addRow 15 = .ok (.iconst 1, 1) := by decide +kernel
theorem dX7_addRow_16 : decode cX7_addRow 16 = .ok (.iadd, 1) := by decide +kernel
theorem dX7_addRow_17 : decode cX7_addRow 17 = .ok (.iastore, 1) := by decide +kernel
theorem dX7_addRow_18 : decode cX7_addRow 18 = .ok (.aload_n 0, 1) := by decide +kernel
theorem dX7_addRow_19 : decode cX7_addRow 19 = .ok (.getfield 7, 3) := by decide +kernel
theorem dX7_addRow_22 : decode cX7_addRow 22 = .ok (.iconst 5, 1) := by decide +kernel
theorem dX7_addRow_23 : decode cX7_addRow 23 = .ok (.iload 4, 2) := by decide +kernel
theorem dX7_addRow_25 : decode cX7_addRow 25 = .ok (.iadd, 1) := by decide +kernel
theorem dX7_addRow_26 : decode cX7_addRow 26 = .ok (.iload_n 1, 1) := by decide +kernel
theorem dX7_addRow_27 : decode cX7_addRow 27 = .ok (.iastore, 1) := by decide +kernel
theorem dX7_addRow_28 : decode cX7_addRow 28 = .ok (.aload_n 0, 1) := by decide +kernel
theorem dX7_addRow_29 : decode cX7_addRow 29 = .ok (.getfield 7, 3) := by decide +kernel
theorem dX7_addRow_32 : decode cX7_addRow 32 = .ok (.sipush 405, 3) := by decide +kernel
theorem dX7_addRow_35 : decode cX7_addRow 35 = .ok (.iload 4, 2) := by decide +kernel
theorem dX7_addRow_37 : decode cX7_addRow 37 = .ok (.iadd, 1) := by decide +kernel
theorem dX7_addRow_38 : decode cX7_addRow 38 = .ok (.iload_n 2, 1) := by decide +kernel
theorem dX7_addRow_39 : decode cX7_addRow 39 = .ok (.iastore, 1) := by decide +kernel
theorem dX7_addRow_40 : decode cX7_addRow 40 = .ok (.aload_n 0, 1) := by decide +kernel
theorem dX7_addRow_41 : decode cX7_addRow 41 = .ok (.getfield 7, 3) := by decide +kernel
theorem dX7_addRow_44 : decode cX7_addRow 44 = .ok (.sipush 805, 3) := by decide +kernel
theorem dX7_addRow_47 : decode cX7_addRow 47 = .ok (.iload 4, 2) := by decide +kernel
theorem dX7_addRow_49 : decode cX7_addRow 49 = .ok (.iadd, 1) := by decide +kernel
theorem dX7_addRow_50 : decode cX7_addRow 50 = .ok (.iload_n 3, 1) := by decide +kernel
theorem dX7_addRow_51 : decode cX7_addRow 51 = .ok (.iastore, 1) := by decide +kernel
theorem dX7_addRow_52 : decode cX7_addRow 52 = .ok (.iload 4, 2) := by decide +kernel
theorem dX7_addRow_54 : decode cX7_addRow 54 = .ok (.ireturn, 1) := by decide +kernel
theorem dX7_put_0 : decode cX7_put 0 = .ok (.iload_n 1, 1) := by decide +kernel
theorem dX7_put_1 : decode cX7_put 1 = .ok (.iconst 0, 1) := by decide +kernel
theorem dX7_put_2 : decode cX7_put 2 = .ok (.sipush 999, 3) := by decide +kernel
theorem dX7_put_5 : decode cX7_put 5 = .ok (.invokestatic 47, 3) := by decide +kernel
theorem dX7_put_8 : decode cX7_put 8 = .ok (.ifCond .eq 16, 3) := by decide +kernel
theorem dX7_put_11 : decode cX7_put 11 = .ok (.iload_n 2, 1) := by decide +kernel
theorem dX7_put_12 : decode cX7_put 12 = .ok (.sipush (-999), 3) := by decide +kernel
theorem dX7_put_15 : decode cX7_put 15 = .ok (.sipush 999, 3) := by decide +kernel
theorem dX7_put_18 : decode cX7_put 18 = .ok (.invokestatic 47, 3) := by decide +kernel
theorem dX7_put_21 : decode cX7_put 21 = .ok (.ifCond .ne 7, 3) := by decide +kernel
theorem dX7_put_24 : decode cX7_put 24 = .ok (.sipush (-1002), 3) := by decide +kernel
theorem dX7_put_27 : decode cX7_put 27 = .ok (.ireturn, 1) := by decide +kernel
theorem dX7_put_28 : decode cX7_put 28 = .ok (.aload_n 0, 1) := by decide +kernel
theorem dX7_put_29 : decode cX7_put 29 = .ok (.iload_n 1, 1) := by decide +kernel
theorem dX7_put_30 : decode cX7_put 30 = .ok (.invokevirtual 63, 3) := by decide +kernel
theorem dX7_put_33 : decode cX7_put 33 = .ok (.istore_n 3, 1) := by decide +kernel
theorem dX7_put_34 : decode cX7_put 34 = .ok (.iload_n 3, 1) := by decide +kernel
theorem dX7_put_35 : decode cX7_put 35 = .ok (.sipush (-1005), 3) := by decide +kernel
theorem dX7_put_38 : decode cX7_put 38 = .ok (.if_icmp .ne 7, 3) := by decide +kernel
theorem dX7_put_41 : decode cX7_put 41 = .ok (.sipush (-1004), 3) := by decide +kernel
theorem dX7_put_44 : decode cX7_put 44 = .ok (.ireturn, 1) := by decide +kernel
theorem dX7_put_45 : decode cX7_put 45 = .ok (.aload_n 0, 1) := by decide +kernel
theorem dX7_put_46 : decode cX7_put 46 = .ok (.getfield 7, 3) := by decide +kernel
theorem dX7_put_49 : decode cX7_put 49 = .ok (.iconst 0, 1) := by decide +kernel
theorem dX7_put_50 : decode cX7_put 50 = .ok (.iaload, 1) := by decide +kernel
theorem dX7_put_51 : decode cX7_put 51 = .ok (.sipush 400, 3) := by decide +kernel
theorem dX7_put_54 : decode cX7_put 54 = .ok (.if_icmp .eq 13, 3) := by decide +kernel
theorem dX7_put_57 : decode cX7_put 57 = .ok (.aload_n 0, 1) := by decide +kernel
theorem dX7_put_58 : decode cX7_put 58 = .ok (.iload_n 3, 1) := by decide +kernel
theorem dX7_put_59 : decode cX7_put 59 = .ok (.invokevirtual 70, 3) := by decide +kernel
theorem dX7_put_62 : decode cX7_put 62 = .ok (.bipush 30, 2) := by decide +kernel
theorem dX7_put_64 : decode cX7_put 64 = .ok (.if_icmp .lt 7, 3) := by decide +kernel
theorem dX7_put_67 : decode cX7_put 67 = .ok (.sipush (-1003), 3) := by decide +kernel
theorem dX7_put_70 : decode cX7_put 70 = .ok (.ireturn, 1) := by decide +kernel
theorem dX7_put_71 : decode cX7_put 71 = .ok (.aload_n 0, 1) := by decide +kernel
theorem dX7_put_72 : decode cX7_put 72 = .ok (.invokevirtual 73, 3) := by decide +kernel
theorem dX7_put_75 : decode cX7_put 75 = .ok (.aload_n 0, 1) := by decide +kernel
theorem dX7_put_76 : decode cX7_put 76 = .ok (.iload_n 1, 1) := by decide +kernel
theorem dX7_put_77 : decode cX7_put 77 = .ok (.iload_n 2, 1) := by decide +kernel
theorem dX7_put_78 : decode cX7_put 78 = .ok (.iload_n 3, 1) := by decide +kernel
theorem dX7_put_79 : decode cX7_put 79 = .ok (.invokevirtual 76, 3) := by decide +kernel
theorem dX7_put_82 : decode cX7_put 82 = .ok (.ireturn, 1) := by decide +kernel
theorem dX7_stage_0 : decode cX7_stage 0 = .ok (.iload_n 1, 1) := by decide +kernel
theorem dX7_stage_1 : decode cX7_stage 1 = .ok (.iconst 0, 1) := by decide +kernel
theorem dX7_stage_2 : decode cX7_stage 2 = .ok (.sipush 999, 3) := by decide +kernel
theorem dX7_stage_5 : decode cX7_stage 5 = .ok (.invokestatic 47, 3) := by decide +kernel
theorem dX7_stage_8 : decode cX7_stage 8 = .ok (.ifCond .eq 16, 3) := by decide +kernel
theorem dX7_stage_11 : decode cX7_stage 11 = .ok (.iload_n 2, 1) := by decide +kernel
theorem dX7_stage_12 : decode cX7_stage 12 = .ok (.sipush (-999), 3) := by decide +kernel
theorem dX7_stage_15 : decode cX7_stage 15 = .ok (.sipush 999, 3) := by decide +kernel
theorem dX7_stage_18 : decode cX7_stage 18 = .ok (.invokestatic 47, 3) := by decide +kernel
theorem dX7_stage_21 : decode cX7_stage 21 = .ok (.ifCond .ne 7, 3) := by decide +kernel
theorem dX7_stage_24 : decode cX7_stage 24 = .ok (.sipush (-1002), 3) := by decide +kernel
theorem dX7_stage_27 : decode cX7_stage 27 = .ok (.ireturn, 1) := by decide +kernel
theorem dX7_stage_28 : decode cX7_stage 28 = .ok (.aload_n 0, 1) := by decide +kernel
theorem dX7_stage_29 : decode cX7_stage 29 = .ok (.getfield 7, 3) := by decide +kernel
theorem dX7_stage_32 : decode cX7_stage 32 = .ok (.iconst 0, 1) := by decide +kernel
theorem dX7_stage_33 : decode cX7_stage 33 = .ok (.iaload, 1) := by decide +kernel
theorem dX7_stage_34 : decode cX7_stage 34 = .ok (.sipush 400, 3) := by decide +kernel
theorem dX7_stage_37 : decode cX7_stage 37 = .ok (.if_icmp .eq 14, 3) := by decide +kernel
theorem dX7_stage_40 : decode cX7_stage 40 = .ok (.aload_n 0, 1) := by decide +kernel
theorem dX7_stage_41 : decode cX7_stage 41 = .ok (.bipush 61, 2) := by decide +kernel
theorem dX7_stage_43 : decode cX7_stage 43 = .ok (.invokevirtual 70, 3) := by decide +kernel
theorem dX7_stage_46 : decode cX7_stage 46 = .ok (.bipush 20, 2) := by decide +kernel
theorem dX7_stage_48 : decode cX7_stage 48 = .ok (.if_icmp .ne 7, 3) := by decide +kernel
theorem dX7_stage_51 : decode cX7_stage 51 = .ok (.sipush (-1003), 3) := by decide +kernel
theorem dX7_stage_54 : decode cX7_stage 54 = .ok (.ireturn, 1) := by decide +kernel
theorem dX7_stage_55 : decode cX7_stage 55 = .ok (.aload_n 0, 1) := by decide +kernel
theorem dX7_stage_56 : decode cX7_stage 56 = .ok (.invokevirtual 73, 3) := by decide +kernel
theorem dX7_stage_59 : decode cX7_stage 59 = .ok (.aload_n 0, 1) := by decide +kernel
theorem dX7_stage_60 : decode cX7_stage 60 = .ok (.iload_n 1, 1) := by decide +kernel
theorem dX7_stage_61 : decode cX7_stage 61 = .ok (.iload_n 2, 1) := by decide +kernel
theorem dX7_stage_62 : decode cX7_stage 62 = .ok (.bipush 61, 2) := by decide +kernel
theorem dX7_stage_64 : decode cX7_stage 64 = .ok (.invokevirtual 76, 3) := by decide +kernel
theorem dX7_stage_67 : decode cX7_stage 67 = .ok (.ireturn, 1) := by decide +kernel
theorem dX7_take_0 : decode cX7_take 0 = .ok (.aload_n 0, 1) := by decide +kernel
theorem dX7_take_1 : decode cX7_take 1 = .ok (.iload_n 1, 1) := by decide +kernel
theorem dX7_take_2 : decode cX7_take 2 = .ok (.invokevirtual 80, 3) := by decide +kernel
theorem dX7_take_5 : decode cX7_take 5 = .ok (.ifCond .ne 7, 3) := by decide +kernel
theorem dX7_take_8 : decode cX7_take 8 = .ok (.sipush (-1001), 3) := by decide +kernel
theorem dX7_take_11 : decode cX7_take 11 = .ok (.ireturn, 1) := by decide +kernel
theorem dX7_take_12 : decode cX7_take 12 = .ok (.aload_n 0, 1) := by decide +kernel
theorem dX7_take_13 : decode cX7_take 13 = .ok (.invokevirtual 73, 3) := by decide +kernel
theorem dX7_take_16 : decode cX7_take 16 = .ok (.aload_n 0, 1) := by decide +kernel
theorem dX7_take_17 : decode cX7_take 17 = .ok (.getfield 7, 3) := by decide +kernel
theorem dX7_take_20 : decode cX7_take 20 = .ok (.sipush 805, 3) := by decide +kernel
theorem dX7_take_23 : decode cX7_take 23 = .ok (.iload_n 1, 1) := by decide +kernel
theorem dX7_take_24 : decode cX7_take 24 = .ok (.iadd, 1) := by decide +kernel
theorem dX7_take_25 : decode cX7_take 25 = .ok (.iconst (-1), 1) := by decide +kernel
theorem dX7_take_26 : decode cX7_take 26 = .ok (.iastore, 1) := by decide +kernel
theorem dX7_take_27 : decode cX7_take 27 = .ok (.aload_n 0, 1) := by decide +kernel
theorem dX7_take_28 : decode cX7_take 28 = .ok (.getfield 7, 3) := by decide +kernel
theorem dX7_take_31 : decode cX7_take 31 = .ok (.iconst 5, 1) := by decide +kernel
theorem dX7_take_32 : decode cX7_take 32 = .ok (.iload_n 1, 1) := by decide +kernel
theorem dX7_take_33 : decode cX7_take 33 = .ok (.iadd, 1) := by decide +kernel
theorem dX7_take_34 : decode cX7_take 34 = .ok (.iaload, 1) := by decide +kernel
theorem dX7_take_35 : decode cX7_take 35 = .ok (.ireturn, 1) := by decide +kernel
theorem dX7_rekey_0 : decode cX7_rekey 0 = .ok (.aload_n 0, 1) := by decide +kernel
theorem dX7_rekey_1 : decode cX7_rekey 1 = .ok (.iload_n 1, 1) := by decide +kernel
theorem dX7_rekey_2 : decode cX7_rekey 2 = .ok (.invokevirtual 80, 3) := by decide +kernel
theorem dX7_rekey_5 : decode cX7_rekey 5 = .ok (.ifCond .ne 7, 3) := by decide +kernel
theorem dX7_rekey_8 : decode cX7_rekey 8 = .ok (.sipush (-1001), 3) := by decide +kernel
theorem dX7_rekey_11 : decode cX7_rekey 11 = .ok (.ireturn, 1) := by decide +kernel
theorem dX7_rekey_12 : decode cX7_rekey 12 = .ok (.iload_n 2, 1) := by decide +kernel
theorem dX7_rekey_13 : decode cX7_rekey 13 = .ok (.iconst 0, 1) := by decide +kernel
theorem dX7_rekey_14 : decode cX7_rekey 14 = .ok (.sipush 999, 3) := by decide +kernel
theorem dX7_rekey_17 : decode cX7_rekey 17 = .ok (.invokestatic 47, 3) := by decide +kernel
theorem dX7_rekey_20 : decode cX7_rekey 20 = .ok (.ifCond .ne 7, 3) := by decide +kernel
theorem dX7_rekey_23 : decode cX7_rekey 23 = .ok (.sipush (-1002), 3) := by decide +kernel
theorem dX7_rekey_26 : decode cX7_rekey 26 = .ok (.ireturn, 1) := by decide +kernel
theorem dX7_rekey_27 : decode cX7_rekey 27 = .ok (.aload_n 0, 1) := by decide +kernel
theorem dX7_rekey_28 : decode cX7_rekey 28 = .ok (.getfield 7, 3) := by decide +kernel
theorem dX7_rekey_31 : decode cX7_rekey 31 = .ok (.iconst 5, 1) := by decide +kernel
theorem dX7_rekey_32 : decode cX7_rekey 32 = .ok (.iload_n 1, 1) := by decide +kernel
theorem dX7_rekey_33 : decode cX7_rekey 33 = .ok (.iadd, 1) := by decide +kernel
theorem dX7_rekey_34 : decode cX7_rekey 34 = .ok (.iaload, 1) := by decide +kernel
theorem dX7_rekey_35 : decode cX7_rekey 35 = .ok (.istore_n 3, 1) := by decide +kernel
theorem dX7_rekey_36 : decode cX7_rekey 36 = .ok (.iload_n 3, 1) := by decide +kernel
theorem dX7_rekey_37 : decode cX7_rekey 37 = .ok (.iload_n 2, 1) := by decide +kernel
theorem dX7_rekey_38 : decode cX7_rekey 38 = .ok (.if_icmp .ne 7, 3) := by decide +kernel
theorem dX7_rekey_41 : decode cX7_rekey 41 = .ok (.sipush (-1005), 3) := by decide +kernel
theorem dX7_rekey_44 : decode cX7_rekey 44 = .ok (.ireturn, 1) := by decide +kernel
theorem dX7_rekey_45 : decode cX7_rekey 45 = .ok (.aload_n 0, 1) := by decide +kernel
theorem dX7_rekey_46 : decode cX7_rekey 46 = .ok (.getfield 7, 3) := by decide +kernel
theorem dX7_rekey_49 : decode cX7_rekey 49 = .ok (.sipush 805, 3) := by decide +kernel
theorem dX7_rekey_52 : decode cX7_rekey 52 = .ok (.iload_n 1, 1) := by decide +kernel
theorem dX7_rekey_53 : decode cX7_rekey 53 = .ok (.iadd, 1) := by decide +kernel
theorem dX7_rekey_54 : decode cX7_rekey 54 = .ok (.iaload, 1) := by decide +kernel
theorem dX7_rekey_55 : decode cX7_rekey 55 = .ok (.istore 4, 2) := by decide +kernel
theorem dX7_rekey_57 : decode cX7_rekey 57 = .ok (.iload 4, 2) := by decide +kernel
theorem dX7_rekey_59 : decode cX7_rekey 59 = .ok (.bipush 61, 2) := by decide +kernel
theorem dX7_rekey_61 : decode cX7_rekey 61 = .ok (.if_icmp .ne 8, 3) := by decide +kernel
theorem dX7_rekey_64 : decode cX7_rekey 64 = .ok (.bipush 61, 2) := by decide +kernel
theorem dX7_rekey_66 : decode cX7_rekey 66 = .ok (.goto 8, 3) := by decide +kernel
theorem dX7_rekey_69 : decode cX7_rekey 69 = .ok (.aload_n 0, 1) := by decide +kernel
theorem dX7_rekey_70 : decode cX7_rekey 70 = .ok (.iload_n 2, 1) := by decide +kernel
theorem dX7_rekey_71 : decode cX7_rekey 71 = .ok (.invokevirtual 63, 3) := by decide +kernel
theorem dX7_rekey_74 : decode cX7_rekey 74 = .ok (.istore 5, 2) := by decide +kernel
theorem dX7_rekey_76 : decode cX7_rekey 76 = .ok (.iload 5, 2) := by decide +kernel
theorem dX7_rekey_78 : decode cX7_rekey 78 = .ok (.sipush (-1005), 3) := by decide +kernel
theorem dX7_rekey_81 : decode cX7_rekey 81 = .ok (.if_icmp .ne 7, 3) := by decide +kernel
theorem dX7_rekey_84 : decode cX7_rekey 84 = .ok (.sipush (-1004), 3) := by decide +kernel
theorem dX7_rekey_87 : decode cX7_rekey 87 = .ok (.ireturn, 1) := by decide +kernel
theorem dX7_rekey_88 : decode cX7_rekey 88 = .ok (.iload 5, 2) := by decide +kernel
theorem dX7_rekey_90 : decode cX7_rekey 90 = .ok (.iload 4, 2) := by decide +kernel
theorem dX7_rekey_92 : decode cX7_rekey 92 = .ok (.if_icmp .eq 18, 3) := by decide +kernel
theorem dX7_rekey_95 : decode cX7_rekey 95 = .ok (.aload_n 0, 1) := by decide +kernel
theorem dX7_rekey_96 : decode cX7_rekey 96 = .ok (.iload 5, 2) := by decide +kernel
theorem dX7_rekey_98 : decode cX7_rekey 98 = .ok (.invokevirtual 70, 3) := by decide +kernel
theorem dX7_rekey_101 : decode cX7_rekey 101 = .ok (.bipush 30, 2) := by decide +kernel
theorem dX7_rekey_103 : decode cX7_rekey 103 = .ok (.if_icmp .lt 7, 3) := by decide +kernel
theorem dX7_rekey_106 : decode cX7_rekey 106 = .ok (.sipush (-1003), 3) := by decide +kernel
theorem dX7_rekey_109 : decode cX7_rekey 109 = .ok (.ireturn, 1) := by decide +kernel
theorem dX7_rekey_110 : decode cX7_rekey 110 = .ok (.aload_n 0, 1) := by decide +kernel
theorem dX7_rekey_111 : decode cX7_rekey 111 = .ok (.invokevirtual 73, 3) := by decide +kernel
theorem dX7_rekey_114 : decode cX7_rekey 114 = .ok (.aload_n 0, 1) := by decide +kernel
theorem dX7_rekey_115 : decode cX7_rekey 115 = .ok (.getfield 7, 3) := by decide +kernel
theorem dX7_rekey_118 : decode cX7_rekey 118 = .ok (.iconst 5, 1) := by decide +kernel
theorem dX7_rekey_119 : decode cX7_rekey 119 = .ok (.iload_n 1, 1) := by decide +kernel
theorem dX7_rekey_120 : decode cX7_rekey 120 = .ok (.iadd, 1) := by decide +kernel
theorem dX7_rekey_121 : decode cX7_rekey 121 = .ok (.iload_n 2, 1) := by decide +kernel
theorem dX7_rekey_122 : decode cX7_rekey 122 = .ok (.iastore, 1) := by decide +kernel
theorem dX7_rekey_123 : decode cX7_rekey 123 = .ok (.aload_n 0, 1) := by decide +kernel
theorem dX7_rekey_124 : decode cX7_rekey 124 = .ok (.getfield 7, 3) := by decide +kernel
theorem dX7_rekey_127 : decode cX7_rekey 127 = .ok (.sipush 805, 3) := by decide +kernel
theorem dX7_rekey_130 : decode cX7_rekey 130 = .ok (.iload_n 1, 1) := by decide +kernel
theorem dX7_rekey_131 : decode cX7_rekey 131 = .ok (.iadd, 1) := by decide +kernel
theorem dX7_rekey_132 : decode cX7_rekey 132 = .ok (.iload 5, 2) := by decide +kernel
theorem dX7_rekey_134 : decode cX7_rekey 134 = .ok (.iastore, 1) := by decide +kernel
theorem dX7_rekey_135 : decode cX7_rekey 135 = .ok (.iload_n 3, 1) := by decide +kernel
theorem dX7_rekey_136 : decode cX7_rekey 136 = .ok (.ireturn, 1) := by decide +kernel
theorem dX7_addSlice_0 : decode cX7_addSlice 0 = .ok (.aload_n 0, 1) := by decide +kernel
theorem dX7_addSlice_1 : decode cX7_addSlice 1 = .ok (.iload_n 1, 1) := by decide +kernel
theorem dX7_addSlice_2 : decode cX7_addSlice 2 = .ok (.iload_n 2, 1) := by decide +kernel
theorem dX7_addSlice_3 : decode cX7_addSlice 3 = .ok (.invokevirtual 83, 3) := by decide +kernel
theorem dX7_addSlice_6 : decode cX7_addSlice 6 = .ok (.ifCond .ne 7, 3) := by decide +kernel
theorem dX7_addSlice_9 : decode cX7_addSlice 9 = .ok (.sipush (-1002), 3) := by decide +kernel
theorem dX7_addSlice_12 : decode cX7_addSlice 12 = .ok (.ireturn, 1) := by decide +kernel
theorem dX7_addSlice_13 : decode cX7_addSlice 13 = .ok (.aload_n 0, 1) := by decide +kernel
theorem dX7_addSlice_14 : decode cX7_addSlice 14 = .ok (.iload_n 1, 1) := by decide +kernel
theorem dX7_addSlice_15 : decode cX7_addSlice 15 = .ok (.iload_n 2, 1) := by decide +kernel
theorem dX7_addSlice_16 : decode cX7_addSlice 16 = .ok (.invokevirtual 86, 3) := by decide +kernel
theorem dX7_addSlice_19 : decode cX7_addSlice 19 = .ok (.ifCond .ne 23, 3) := by decide +kernel
theorem dX7_addSlice_22 : decode cX7_addSlice 22 = .ok (.aload_n 0, 1) := by decide +kernel
theorem dX7_addSlice_23 : decode cX7_addSlice 23 = .ok (.getfield 7, 3) := by decide +kernel
theorem dX7_addSlice_26 : decode cX7_addSlice 26 = .ok (.iconst 4, 1) := by decide +kernel
theorem dX7_addSlice_27 : decode cX7_addSlice 27 = .ok (.iaload, 1) := by decide +kernel
theorem dX7_addSlice_28 : decode cX7_addSlice 28 = .ok (.ifCond .ne 18, 3) := by decide +kernel
theorem dX7_addSlice_31 : decode cX7_addSlice 31 = .ok (.aload_n 0, 1) := by decide +kernel
theorem dX7_addSlice_32 : decode cX7_addSlice 32 = .ok (.bipush 60, 2) := by decide +kernel
theorem dX7_addSlice_34 : decode cX7_addSlice 34 = .ok (.iload_n 1, 1) := by decide +kernel
theorem dX7_addSlice_35 : decode cX7_addSlice 35 = .ok (.iload_n 2, 1) := by decide +kernel
theorem dX7_addSlice_36 : decode cX7_addSlice 36 = .ok (.invokevirtual 89, 3) := by decide +kernel
theorem dX7_addSlice_39 : decode cX7_addSlice 39 = .ok (.ifCond .le 7, 3) := by decide +kernel
theorem dX7_addSlice_42 : decode cX7_addSlice 42 = .ok (.sipush (-1004), 3) := by decide +kernel
theorem dX7_addSlice_45 : decode cX7_addSlice 45 = .ok (.ireturn, 1) := by decide +kernel
theorem dX7_addSlice_46 : decode cX7_addSlice 46 = .ok (.aload_n 0, 1) := by decide +kernel
theorem dX7_addSlice_47 : decode cX7_addSlice 47 = .ok (.invokevirtual 92, 3) := by decide +kernel
theorem dX7_addSlice_50 : decode cX7_addSlice 50 = .ok (.ifCond .eq 7, 3) := by decide +kernel
theorem dX7_addSlice_53 : decode cX7_addSlice 53 = .ok (.sipush (-1003), 3) := by decide +kernel
theorem dX7_addSlice_56 : decode cX7_addSlice 56 = .ok (.ireturn, 1) := by decide +kernel
theorem dX7_addSlice_57 : decode cX7_addSlice 57 = .ok (.aload_n 0, 1) := by decide +kernel
theorem dX7_addSlice_58 : decode cX7_addSlice 58 = .ok (.invokevirtual 73, 3) := by decide +kernel
theorem dX7_addSlice_61 : decode cX7_addSlice 61 = .ok (.aload_n 0, 1) := by decide +kernel
theorem dX7_addSlice_62 : decode cX7_addSlice 62 = .ok (.iload_n 1, 1) := by decide +kernel
theorem dX7_addSlice_63 : decode cX7_addSlice 63 = .ok (.iload_n 2, 1) := by decide +kernel
theorem dX7_addSlice_64 : decode cX7_addSlice 64 = .ok (.invokevirtual 96, 3) := by decide +kernel
theorem dX7_addSlice_67 : decode cX7_addSlice 67 = .ok (.istore_n 3, 1) := by decide +kernel
theorem dX7_addSlice_68 : decode cX7_addSlice 68 = .ok (.aload_n 0, 1) := by decide +kernel
theorem dX7_addSlice_69 : decode cX7_addSlice 69 = .ok (.bipush 60, 2) := by decide +kernel
theorem dX7_addSlice_71 : decode cX7_addSlice 71 = .ok (.iload_n 3, 1) := by decide +kernel
theorem dX7_addSlice_72 : decode cX7_addSlice 72 = .ok (.iload_n 1, 1) := by decide +kernel
theorem dX7_addSlice_73 : decode cX7_addSlice 73 = .ok (.iload_n 2, 1) := by decide +kernel
theorem dX7_addSlice_74 : decode cX7_addSlice 74 = .ok (.invokevirtual 100, 3) := by decide +kernel
theorem dX7_addSlice_77 : decode cX7_addSlice 77 = .ok (.iload_n 3, 1) := by decide +kernel
theorem dX7_addSlice_78 : decode cX7_addSlice 78 = .ok (.ireturn, 1) := by decide +kernel
theorem dX7_dropSlice_0 : decode cX7_dropSlice 0 = .ok (.aload_n 0, 1) := by decide +kernel
theorem dX7_dropSlice_1 : decode cX7_dropSlice 1 = .ok (.iload_n 1, 1) := by decide +kernel
theorem dX7_dropSlice_2 : decode cX7_dropSlice 2 = .ok (.invokevirtual 51, 3) := by decide +kernel
theorem dX7_dropSlice_5 : decode cX7_dropSlice 5 = .ok (.ifCond .ne 7, 3) := by decide +kernel
theorem dX7_dropSlice_8 : decode cX7_dropSlice 8 = .ok (.sipush (-1001), 3) := by decide +kernel
theorem dX7_dropSlice_11 : decode cX7_dropSlice 11 = .ok (.ireturn, 1) := by decide +kernel
theorem dX7_dropSlice_12 : decode cX7_dropSlice 12 = .ok (.aload_n 0, 1) := by decide +kernel
theorem dX7_dropSlice_13 : decode cX7_dropSlice 13 = .ok (.iload_n 1, 1) := by decide +kernel
theorem dX7_dropSlice_14 : decode cX7_dropSlice 14 = .ok (.invokevirtual 70, 3) := by decide +kernel
theorem dX7_dropSlice_17 : decode cX7_dropSlice 17 = .ok (.istore_n 2, 1) := by decide +kernel
theorem dX7_dropSlice_18 : decode cX7_dropSlice 18 = .ok (.aload_n 0, 1) := by decide +kernel
theorem dX7_dropSlice_19 : decode cX7_dropSlice 19 = .ok (.invokevirtual 73, 3) := by decide +kernel
theorem dX7_dropSlice_22 : decode cX7_dropSlice 22 = .ok (.aload_n 0, 1) := by decide +kernel
theorem dX7_dropSlice_23 : decode cX7_dropSlice 23 = .ok (.iload_n 1, 1) := by decide +kernel
theorem dX7_dropSlice_24 : decode cX7_dropSlice 24 = .ok (.iconst (-1), 1) := by decide +kernel
theorem dX7_dropSlice_25 : decode cX7_dropSlice 25 = .ok (.iconst 0, 1) := by decide +kernel
theorem dX7_dropSlice_26 : decode cX7_dropSlice 26 = .ok (.sipush 1000, 3) := by decide +kernel
theorem dX7_dropSlice_29 : decode cX7_dropSlice 29 = .ok (.invokevirtual 100, 3) := by decide +kernel
theorem dX7_dropSlice_32 : decode cX7_dropSlice 32 = .ok (.aload_n 0, 1) := by decide +kernel
theorem dX7_dropSlice_33 : decode cX7_dropSlice 33 = .ok (.getfield 7, 3) := by decide +kernel
theorem dX7_dropSlice_36 : decode cX7_dropSlice 36 = .ok (.sipush 1205, 3) := by decide +kernel
theorem dX7_dropSlice_39 : decode cX7_dropSlice 39 = .ok (.iload_n 1, 1) := by decide +kernel
theorem dX7_dropSlice_40 : decode cX7_dropSlice 40 = .ok (.iadd, 1) := by decide +kernel
theorem dX7_dropSlice_41 : decode cX7_dropSlice 41 = .ok (.iconst 0, 1) := by decide +kernel
theorem dX7_dropSlice_42 : decode cX7_dropSlice 42 = .ok (.iastore, 1) := by decide +kernel
theorem dX7_dropSlice_43 : decode cX7_dropSlice 43 = .ok (.iload_n 2, 1) := by decide +kernel
theorem dX7_dropSlice_44 : decode cX7_dropSlice 44 = .ok (.ireturn, 1) := by decide +kernel
theorem dX7_detach_0 : decode cX7_detach 0 = .ok (.aload_n 0, 1) := by decide +kernel
theorem dX7_detach_1 : decode cX7_detach 1 = .ok (.iload_n 1, 1) := by decide +kernel
theorem dX7_detach_2 : decode cX7_detach 2 = .ok (.invokevirtual 51, 3) := by decide +kernel
theorem dX7_detach_5 : decode cX7_detach 5 = .ok (.ifCond .ne 7, 3) := by decide +kernel
theorem dX7_detach_8 : decode cX7_detach 8 = .ok (.sipush (-1001), 3) := by decide +kernel
theorem dX7_detach_11 : decode cX7_detach 11 = .ok (.ireturn, 1) := by decide +kernel
theorem dX7_detach_12 : decode cX7_detach 12 = .ok (.aload_n 0, 1) := by decide +kernel
theorem dX7_detach_13 : decode cX7_detach 13 = .ok (.bipush 61, 2) := by decide +kernel
theorem dX7_detach_15 : decode cX7_detach 15 = .ok (.invokevirtual 70, 3) := by decide +kernel
theorem dX7_detach_18 : decode cX7_detach 18 = .ok (.ifCond .le 7, 3) := by decide +kernel
theorem dX7_detach_21 : decode cX7_detach 21 = .ok (.sipush (-1004), 3) := by decide +kernel
theorem dX7_detach_24 : decode cX7_detach 24 = .ok (.ireturn, 1) := by decide +kernel
theorem dX7_detach_25 : decode cX7_detach 25 = .ok (.aload_n 0, 1) := by decide +kernel
theorem dX7_detach_26 : decode cX7_detach 26 = .ok (.iload_n 1, 1) := by decide +kernel
theorem dX7_detach_27 : decode cX7_detach 27 = .ok (.invokevirtual 70, 3) := by decide +kernel
theorem dX7_detach_30 : decode cX7_detach 30 = .ok (.istore_n 2, 1) := by decide +kernel
theorem dX7_detach_31 : decode cX7_detach 31 = .ok (.iload_n 2, 1) := by decide +kernel
theorem dX7_detach_32 : decode cX7_detach 32 = .ok (.bipush 20, 2) := by decide +kernel
theorem dX7_detach_34 : decode cX7_detach 34 = .ok (.if_icmp .le 7, 3) := by decide +kernel
theorem dX7_detach_37 : decode cX7_detach 37 = .ok (.sipush (-1003), 3) := by decide +kernel
theorem dX7_detach_40 : decode cX7_detach 40 = .ok (.ireturn, 1) := by decide +kernel
theorem dX7_detach_41 : decode cX7_detach 41 = .ok (.aload_n 0, 1) := by decide +kernel
theorem dX7_detach_42 : decode cX7_detach 42 = .ok (.invokevirtual 73, 3) := by decide +kernel
theorem dX7_detach_45 : decode cX7_detach 45 = .ok (.aload_n 0, 1) := by decide +kernel
theorem dX7_detach_46 : decode cX7_detach 46 = .ok (.iload_n 1, 1) := by decide +kernel
theorem dX7_detach_47 : decode cX7_detach 47 = .ok (.bipush 61, 2) := by decide +kernel
theorem dX7_detach_49 : decode cX7_detach 49 = .ok (.iconst 0, 1) := by decide +kernel
theorem dX7_detach_50 : decode cX7_detach 50 = .ok (.sipush 1000, 3) := by decide +kernel
theorem dX7_detach_53 : decode cX7_detach 53 = .ok (.invokevirtual 100, 3) := by decide +kernel
theorem dX7_detach_56 : decode cX7_detach 56 = .ok (.aload_n 0, 1) := by decide +kernel
theorem dX7_detach_57 : decode cX7_detach 57 = .ok (.getfield 7, 3) := by decide +kernel
theorem dX7_detach_60 : decode cX7_detach 60 = .ok (.sipush 1205, 3) := by decide +kernel
theorem dX7_detach_63 : decode cX7_detach 63 = .ok (.iload_n 1, 1) := by decide +kernel
theorem dX7_detach_64 : decode cX7_detach 64 = .ok (.iadd, 1) := by decide +kernel
theorem dX7_detach_65 : decode cX7_detach 65 = .ok (.iconst 0, 1) := by decide +kernel
theorem dX7_detach_66 : decode cX7_detach 66 = .ok (.iastore, 1) := by decide +kernel
theorem dX7_detach_67 : decode cX7_detach 67 = .ok (.iload_n 2, 1) := by decide +kernel
theorem dX7_detach_68 : decode cX7_detach 68 = .ok (.ireturn, 1) := by decide +kernel
theorem dX7_attach_0 : decode cX7_attach 0 = .ok (.aload_n 0, 1) := by decide +kernel
theorem dX7_attach_1 : decode cX7_attach 1 = .ok (.iload_n 1, 1) := by decide +kernel
theorem dX7_attach_2 : decode cX7_attach 2 = .ok (.iload_n 2, 1) := by decide +kernel
theorem dX7_attach_3 : decode cX7_attach 3 = .ok (.invokevirtual 83, 3) := by decide +kernel
theorem dX7_attach_6 : decode cX7_attach 6 = .ok (.ifCond .ne 7, 3) := by decide +kernel
theorem dX7_attach_9 : decode cX7_attach 9 = .ok (.sipush (-1002), 3) := by decide +kernel
theorem dX7_attach_12 : decode cX7_attach 12 = .ok (.ireturn, 1) := by decide +kernel
theorem dX7_attach_13 : decode cX7_attach 13 = .ok (.aload_n 0, 1) := by decide +kernel
theorem dX7_attach_14 : decode cX7_attach 14 = .ok (.iload_n 1, 1) := by decide +kernel
theorem dX7_attach_15 : decode cX7_attach 15 = .ok (.iload_n 2, 1) := by decide +kernel
theorem dX7_attach_16 : decode cX7_attach 16 = .ok (.invokevirtual 86, 3) := by decide +kernel
theorem dX7_attach_19 : decode cX7_attach 19 = .ok (.ifCond .ne 31, 3) := by decide +kernel
theorem dX7_attach_22 : decode cX7_attach 22 = .ok (.aload_n 0, 1) := by decide +kernel
theorem dX7_attach_23 : decode cX7_attach 23 = .ok (.bipush 61, 2) := by decide +kernel
theorem dX7_attach_25 : decode cX7_attach 25 = .ok (.iload_n 1, 1) := by decide +kernel
theorem dX7_attach_26 : decode cX7_attach 26 = .ok (.iload_n 2, 1) := by decide +kernel
theorem dX7_attach_27 : decode cX7_attach 27 = .ok (.invokevirtual 89, 3) := by decide +kernel
theorem dX7_attach_30 : decode cX7_attach 30 = .ok (.aload_n 0, 1) := by decide +kernel
theorem dX7_attach_31 : decode cX7_attach 31 = .ok (.bipush 61, 2) := by decide +kernel
theorem dX7_attach_33 : decode cX7_attach 33 = .ok (.invokevirtual 70, 3) := by decide +kernel
theorem dX7_attach_36 : decode cX7_attach 36 = .ok (.if_icmp .lt 14, 3) := by decide +kernel
theorem dX7_attach_39 : decode cX7_attach 39 = .ok (.aload_n 0, 1) := by decide +kernel
theorem dX7_attach_40 : decode cX7_attach 40 = .ok (.bipush 60, 2) := by decide +kernel
theorem dX7_attach_42 : decode cX7_attach 42 = .ok (.iload_n 1, 1) := by decide +kernel
theorem dX7_attach_43 : decode cX7_attach 43 = .ok (.iload_n 2, 1) := by decide +kernel
theorem dX7_attach_44 : decode cX7_attach 44 = .ok (.invokevirtual 89, 3) := by decide +kernel
theorem dX7_attach_47 : decode cX7_attach 47 = .ok (.ifCond .le 7, 3) := by decide +kernel
theorem dX7_attach_50 : decode cX7_attach 50 = .ok (.sipush (-1004), 3) := by decide +kernel
theorem dX7_attach_53 : decode cX7_attach 53 = .ok (.ireturn, 1) := by decide +kernel
theorem dX7_attach_54 : decode cX7_attach 54 = .ok (.aload_n 0, 1) := by decide +kernel
theorem dX7_attach_55 : decode cX7_attach 55 = .ok (.invokevirtual 92, 3) := by decide +kernel
theorem dX7_attach_58 : decode cX7_attach 58 = .ok (.ifCond .eq 7, 3) := by decide +kernel
theorem dX7_attach_61 : decode cX7_attach 61 = .ok (.sipush (-1003), 3) := by decide +kernel
theorem dX7_attach_64 : decode cX7_attach 64 = .ok (.ireturn, 1) := by decide +kernel
theorem dX7_attach_65 : decode cX7_attach 65 = .ok (.aload_n 0, 1) := by decide +kernel
theorem dX7_attach_66 : decode cX7_attach 66 = .ok (.invokevirtual 73, 3) := by decide +kernel
theorem dX7_attach_69 : decode cX7_attach 69 = .ok (.aload_n 0, 1) := by decide +kernel
theorem dX7_attach_70 : decode cX7_attach 70 = .ok (.iload_n 1, 1) := by decide +kernel
theorem dX7_attach_71 : decode cX7_attach 71 = .ok (.iload_n 2, 1) := by decide +kernel
theorem dX7_attach_72 : decode cX7_attach 72 = .ok (.invokevirtual 96, 3) := by decide +kernel
theorem dX7_attach_75 : decode cX7_attach 75 = .ok (.istore_n 3, 1) := by decide +kernel
theorem dX7_attach_76 : decode cX7_attach 76 = .ok (.aload_n 0, 1) := by decide +kernel
theorem dX7_attach_77 : decode cX7_attach 77 = .ok (.bipush 61, 2) := by decide +kernel
theorem dX7_attach_79 : decode cX7_attach 79 = .ok (.iload_n 3, 1) := by decide +kernel
theorem dX7_attach_80 : decode cX7_attach 80 = .ok (.iconst 0, 1) := by decide +kernel
theorem dX7_attach_81 : decode cX7_attach 81 = .ok (.sipush 1000, 3) := by decide +kernel
theorem dX7_attach_84 : decode cX7_attach 84 = .ok (.invokevirtual 100, 3) := by decide +kernel
theorem dX7_attach_87 : decode cX7_attach 87 = .ok (.iload_n 3, 1) := by decide +kernel
theorem dX7_attach_88 : decode cX7_attach 88 = .ok (.ireturn, 1) := by decide +kernel
theorem dX7_swap_0 : decode cX7_swap 0 = .ok (.aload_n 0, 1) := by decide +kernel
theorem dX7_swap_1 : decode cX7_swap 1 = .ok (.iload_n 1, 1) := by decide +kernel
theorem dX7_swap_2 : decode cX7_swap 2 = .ok (.invokevirtual 51, 3) := by decide +kernel
theorem dX7_swap_5 : decode cX7_swap 5 = .ok (.ifCond .ne 7, 3) := by decide +kernel
theorem dX7_swap_8 : decode cX7_swap 8 = .ok (.sipush (-1001), 3) := by decide +kernel
theorem dX7_swap_11 : decode cX7_swap 11 = .ok (.ireturn, 1) := by decide +kernel
theorem dX7_swap_12 : decode cX7_swap 12 = .ok (.iload_n 2, 1) := by decide +kernel
theorem dX7_swap_13 : decode cX7_swap 13 = .ok (.ifCond .eq 42, 3) := by decide +kernel
theorem dX7_swap_16 : decode cX7_swap 16 = .ok (.aload_n 0, 1) := by decide +kernel
theorem dX7_swap_17 : decode cX7_swap 17 = .ok (.bipush 61, 2) := by decide +kernel
theorem dX7_swap_19 : decode cX7_swap 19 = .ok (.aload_n 0, 1) := by decide +kernel
theorem dX7_swap_20 : decode cX7_swap 20 = .ok (.getfield 7, 3) := by decide +kernel
theorem dX7_swap_23 : decode cX7_swap 23 = .ok (.sipush 1265, 3) := by decide +kernel
theorem dX7_swap_26 : decode cX7_swap 26 = .ok (.iload_n 1, 1) := by decide +kernel
theorem dX7_swap_27 : decode cX7_swap 27 = .ok (.iadd, 1) := by decide +kernel
theorem dX7_swap_28 : decode cX7_swap 28 = .ok (.iaload, 1) := by decide +kernel
theorem dX7_swap_29 : decode cX7_swap 29 = .ok (.aload_n 0, 1) := by decide +kernel
theorem dX7_swap_30 : decode cX7_swap 30 = .ok (.getfield 7, 3) := by decide +kernel
theorem dX7_swap_33 : decode cX7_swap 33 = .ok (.sipush 1325, 3) := by decide +kernel
theorem dX7_swap_36 : decode cX7_swap 36 = .ok (.iload_n 1, 1) := by decide +kernel
theorem dX7_swap_37 : decode cX7_swap 37 = .ok (.iadd, 1) := by decide +kernel
theorem dX7_swap_38 : decode cX7_swap 38 = .ok (.iaload, 1) := by decide +kernel
theorem dX7_swap_39 : decode cX7_swap 39 = .ok (.invokevirtual 89, 3) := by decide +kernel
theorem dX7_swap_42 : decode cX7_swap 42 = .ok (.aload_n 0, 1) := by decide +kernel
theorem dX7_swap_43 : decode cX7_swap 43 = .ok (.bipush 61, 2) := by decide +kernel
theorem dX7_swap_45 : decode cX7_swap 45 = .ok (.invokevirtual 70, 3) := by decide +kernel
theorem dX7_swap_48 : decode cX7_swap 48 = .ok (.if_icmp .ge 7, 3) := by decide +kernel
theorem dX7_swap_51 : decode cX7_swap 51 = .ok (.sipush (-1004), 3) := by decide +kernel
theorem dX7_swap_54 : decode cX7_swap 54 = .ok (.ireturn, 1) := by decide +kernel
theorem dX7_swap_55 : decode cX7_swap 55 = .ok (.aload_n 0, 1) := by decide +kernel
theorem dX7_swap_56 : decode cX7_swap 56 = .ok (.iload_n 1, 1) := by decide +kernel
theorem dX7_swap_57 : decode cX7_swap 57 = .ok (.invokevirtual 70, 3) := by decide +kernel
theorem dX7_swap_60 : decode cX7_swap 60 = .ok (.bipush 20, 2) := by decide +kernel
theorem dX7_swap_62 : decode cX7_swap 62 = .ok (.if_icmp .le 7, 3) := by decide +kernel
theorem dX7_swap_65 : decode cX7_swap 65 = .ok (.sipush (-1003), 3) := by decide +kernel
theorem dX7_swap_68 : decode cX7_swap 68 = .ok (.ireturn, 1) := by decide +kernel
theorem dX7_swap_69 : decode cX7_swap 69 = .ok (.aload_n 0, 1) := by decide +kernel
theorem dX7_swap_70 : decode cX7_swap 70 = .ok (.invokevirtual 73, 3) := by decide +kernel
theorem dX7_swap_73 : decode cX7_swap 73 = .ok (.iconst 0, 1) := by decide +kernel
theorem dX7_swap_74 : decode cX7_swap 74 = .ok (.istore_n 3, 1) := by decide +kernel
theorem dX7_swap_75 : decode cX7_swap 75 = .ok (.iload_n 3, 1) := by decide +kernel
theorem dX7_swap_76 : decode cX7_swap 76 = .ok (.aload_n 0, 1) := by decide +kernel
theorem dX7_swap_77 : decode cX7_swap 77 = .ok (.getfield 7, 3) := by decide +kernel
theorem dX7_swap_80 : decode cX7_swap 80 = .ok (.iconst 0, 1) := by decide +kernel
theorem dX7_swap_81 : decode cX7_swap 81 = .ok (.iaload, 1) := by decide +kernel
theorem dX7_swap_82 : decode cX7_swap 82 = .ok (.if_icmp .ge 55, 3) := by decide +kernel
theorem dX7_swap_85 : decode cX7_swap 85 = .ok (.aload_n 0, 1) := by decide +kernel
theorem dX7_swap_86 : decode cX7_swap 86 = .ok (.getfield 7, 3) := by decide +kernel
theorem dX7_swap_89 : decode cX7_swap 89 = .ok (.sipush 805, 3) := by decide +kernel
theorem dX7_swap_92 : decode cX7_swap 92 = .ok (.iload_n 3, 1) := by decide +kernel
theorem dX7_swap_93 : decode cX7_swap 93 = .ok (.iadd, 1) := by decide +kernel
theorem dX7_swap_94 : decode cX7_swap 94 = .ok (.iaload, 1) := by decide +kernel
theorem dX7_swap_95 : decode cX7_swap 95 = .ok (.istore 4, 2) := by decide +kernel
theorem dX7_swap_97 : decode cX7_swap 97 = .ok (.aload_n 0, 1) := by decide +kernel
theorem dX7_swap_98 : decode cX7_swap 98 = .ok (.getfield 7, 3) := by decide +kernel
theorem dX7_swap_101 : decode cX7_swap 101 = .ok (.sipush 805, 3) := by decide +kernel
theorem dX7_swap_104 : decode cX7_swap 104 = .ok (.iload_n 3, 1) := by decide +kernel
theorem dX7_swap_105 : decode cX7_swap 105 = .ok (.iadd, 1) := by decide +kernel
theorem dX7_swap_106 : decode cX7_swap 106 = .ok (.iload 4, 2) := by decide +kernel
theorem dX7_swap_108 : decode cX7_swap 108 = .ok (.iload_n 1, 1) := by decide +kernel
theorem dX7_swap_109 : decode cX7_swap 109 = .ok (.if_icmp .ne 8, 3) := by decide +kernel
theorem dX7_swap_112 : decode cX7_swap 112 = .ok (.bipush 61, 2) := by decide +kernel
theorem dX7_swap_114 : decode cX7_swap 114 = .ok (.goto 16, 3) := by decide +kernel
theorem dX7_swap_117 : decode cX7_swap 117 = .ok (.iload 4, 2) := by decide +kernel
theorem dX7_swap_119 : decode cX7_swap 119 = .ok (.bipush 61, 2) := by decide +kernel
theorem dX7_swap_121 : decode cX7_swap 121 = .ok (.if_icmp .ne 7, 3) := by decide +kernel
theorem dX7_swap_124 : decode cX7_swap 124 = .ok (.iload_n 1, 1) := by decide +kernel
theorem dX7_swap_125 : decode cX7_swap 125 = .ok (.goto 5, 3) := by decide +kernel
theorem dX7_swap_128 : decode cX7_swap 128 = .ok (.iload 4, 2) := by decide +kernel
theorem dX7_swap_130 : decode cX7_swap 130 = .ok (.iastore, 1) := by decide +kernel
theorem dX7_swap_131 : decode cX7_swap 131 = .ok (.iinc 3 1, 3) := by decide +kernel
theorem dX7_swap_134 : decode cX7_swap 134 = .ok (.goto (-59), 3) := by decide +kernel
theorem dX7_swap_137 : decode cX7_swap 137 = .ok (.aload_n 0, 1) := by decide +kernel
theorem dX7_swap_138 : decode cX7_swap 138 = .ok (.iload_n 1, 1) := by decide +kernel
theorem dX7_swap_139 : decode cX7_swap 139 = .ok (.invokevirtual 70, 3) := by decide +kernel
theorem dX7_swap_142 : decode cX7_swap 142 = .ok (.ireturn, 1) := by decide +kernel
theorem dX7_split_0 : decode cX7_split 0 = .ok (.aload_n 0, 1) := by decide +kernel
theorem dX7_split_1 : decode cX7_split 1 = .ok (.iload_n 1, 1) := by decide +kernel
theorem dX7_split_2 : decode cX7_split 2 = .ok (.invokevirtual 51, 3) := by decide +kernel
theorem dX7_split_5 : decode cX7_split 5 = .ok (.ifCond .ne 7, 3) := by decide +kernel
theorem dX7_split_8 : decode cX7_split 8 = .ok (.sipush (-1001), 3) := by decide +kernel
theorem dX7_split_11 : decode cX7_split 11 = .ok (.ireturn, 1) := by decide +kernel
theorem dX7_split_12 : decode cX7_split 12 = .ok (.aload_n 0, 1) := by decide +kernel
theorem dX7_split_13 : decode cX7_split 13 = .ok (.getfield 7, 3) := by decide +kernel
theorem dX7_split_16 : decode cX7_split 16 = .ok (.sipush 1325, 3) := by decide +kernel
theorem dX7_split_19 : decode cX7_split 19 = .ok (.iload_n 1, 1) := by decide +kernel
theorem dX7_split_20 : decode cX7_split 20 = .ok (.iadd, 1) := by decide +kernel
theorem dX7_split_21 : decode cX7_split 21 = .ok (.iaload, 1) := by decide +kernel
theorem dX7_split_22 : decode cX7_split 22 = .ok (.istore_n 3, 1) := by decide +kernel
theorem dX7_split_23 : decode cX7_split 23 = .ok (.iload_n 2, 1) := by decide +kernel
theorem dX7_split_24 : decode cX7_split 24 = .ok (.aload_n 0, 1) := by decide +kernel
theorem dX7_split_25 : decode cX7_split 25 = .ok (.getfield 7, 3) := by decide +kernel
theorem dX7_split_28 : decode cX7_split 28 = .ok (.sipush 1265, 3) := by decide +kernel
theorem dX7_split_31 : decode cX7_split 31 = .ok (.iload_n 1, 1) := by decide +kernel
theorem dX7_split_32 : decode cX7_split 32 = .ok (.iadd, 1) := by decide +kernel
theorem dX7_split_33 : decode cX7_split 33 = .ok (.iaload, 1) := by decide +kernel
theorem dX7_split_34 : decode cX7_split 34 = .ok (.iconst 1, 1) := by decide +kernel
theorem dX7_split_35 : decode cX7_split 35 = .ok (.iadd, 1) := by decide +kernel
theorem dX7_split_36 : decode cX7_split 36 = .ok (.iload_n 3, 1) := by decide +kernel
theorem dX7_split_37 : decode cX7_split 37 = .ok (.iconst 1, 1) := by decide +kernel
theorem dX7_split_38 : decode cX7_split 38 = .ok (.isub, 1) := by decide +kernel
theorem dX7_split_39 : decode cX7_split 39 = .ok (.invokestatic 47, 3) := by decide +kernel
theorem dX7_split_42 : decode cX7_split 42 = .ok (.ifCond .ne 7, 3) := by decide +kernel
theorem dX7_split_45 : decode cX7_split 45 = .ok (.sipush (-1002), 3) := by decide +kernel
theorem dX7_split_48 : decode cX7_split 48 = .ok (.ireturn, 1) := by decide +kernel
theorem dX7_split_49 : decode cX7_split 49 = .ok (.aload_n 0, 1) := by decide +kernel
theorem dX7_split_50 : decode cX7_split 50 = .ok (.invokevirtual 92, 3) := by decide +kernel
theorem dX7_split_53 : decode cX7_split 53 = .ok (.ifCond .eq 7, 3) := by decide +kernel
theorem dX7_split_56 : decode cX7_split 56 = .ok (.sipush (-1003), 3) := by decide +kernel
theorem dX7_split_59 : decode cX7_split 59 = .ok (.ireturn, 1) := by decide +kernel
theorem dX7_split_60 : decode cX7_split 60 = .ok (.aload_n 0, 1) := by decide +kernel
theorem dX7_split_61 : decode cX7_split 61 = .ok (.invokevirtual 73, 3) := by decide +kernel
theorem dX7_split_64 : decode cX7_split 64 = .ok (.aload_n 0, 1) := by decide +kernel
theorem dX7_split_65 : decode cX7_split 65 = .ok (.getfield 7, 3) := by decide +kernel
theorem dX7_split_68 : decode cX7_split 68 = .ok (.sipush 1325, 3) := by decide +kernel
theorem dX7_split_71 : decode cX7_split 71 = .ok (.iload_n 1, 1) := by decide +kernel
theorem dX7_split_72 : decode cX7_split 72 = .ok (.iadd, 1) := by decide +kernel
theorem dX7_split_73 : decode cX7_split 73 = .ok (.iload_n 2, 1) := by decide +kernel
theorem dX7_split_74 : decode cX7_split 74 = .ok (.iastore, 1) := by decide +kernel
theorem dX7_split_75 : decode cX7_split 75 = .ok (.aload_n 0, 1) := by decide +kernel
theorem dX7_split_76 : decode cX7_split 76 = .ok (.iload_n 2, 1) := by decide +kernel
theorem dX7_split_77 : decode cX7_split 77 = .ok (.iload_n 3, 1) := by decide +kernel
theorem dX7_split_78 : decode cX7_split 78 = .ok (.invokevirtual 96, 3) := by decide +kernel
theorem dX7_split_81 : decode cX7_split 81 = .ok (.istore 4, 2) := by decide +kernel
theorem dX7_split_83 : decode cX7_split 83 = .ok (.aload_n 0, 1) := by decide +kernel
theorem dX7_split_84 : decode cX7_split 84 = .ok (.iload_n 1, 1) := by decide +kernel
theorem dX7_split_85 : decode cX7_split 85 = .ok (.iload 4, 2) := by decide +kernel
theorem dX7_split_87 : decode cX7_split 87 = .ok (.iload_n 2, 1) := by decide +kernel
theorem dX7_split_88 : decode cX7_split 88 = .ok (.iload_n 3, 1) := by decide +kernel
theorem dX7_split_89 : decode cX7_split 89 = .ok (.invokevirtual 100, 3) := by decide +kernel
theorem dX7_split_92 : decode cX7_split 92 = .ok (.iload 4, 2) := by decide +kernel
theorem dX7_split_94 : decode cX7_split 94 = .ok (.ireturn, 1) := by decide +kernel
theorem dX7_merge_0 : decode cX7_merge 0 = .ok (.aload_n 0, 1) := by decide +kernel
theorem dX7_merge_1 : decode cX7_merge 1 = .ok (.iload_n 1, 1) := by decide +kernel
theorem dX7_merge_2 : decode cX7_merge 2 = .ok (.invokevirtual 51, 3) := by decide +kernel
theorem dX7_merge_5 : decode cX7_merge 5 = .ok (.ifCond .eq 11, 3) := by decide +kernel
theorem dX7_merge_8 : decode cX7_merge 8 = .ok (.aload_n 0, 1) := by decide +kernel
theorem dX7_merge_9 : decode cX7_merge 9 = .ok (.iload_n 2, 1) := by decide +kernel
theorem dX7_merge_10 : decode cX7_merge 10 = .ok (.invokevirtual 51, 3) := by decide +kernel
theorem dX7_merge_13 : decode cX7_merge 13 = .ok (.ifCond .ne 7, 3) := by decide +kernel
theorem dX7_merge_16 : decode cX7_merge 16 = .ok (.sipush (-1001), 3) := by decide +kernel
theorem dX7_merge_19 : decode cX7_merge 19 = .ok (.ireturn, 1) := by decide +kernel
theorem dX7_merge_20 : decode cX7_merge 20 = .ok (.aload_n 0, 1) := by decide +kernel
theorem dX7_merge_21 : decode cX7_merge 21 = .ok (.getfield 7, 3) := by decide +kernel
theorem dX7_merge_24 : decode cX7_merge 24 = .ok (.sipush 1325, 3) := by decide +kernel
theorem dX7_merge_27 : decode cX7_merge 27 = .ok (.iload_n 1, 1) := by decide +kernel
theorem dX7_merge_28 : decode cX7_merge 28 = .ok (.iadd, 1) := by decide +kernel
theorem dX7_merge_29 : decode cX7_merge 29 = .ok (.iaload, 1) := by decide +kernel
theorem dX7_merge_30 : decode cX7_merge 30 = .ok (.aload_n 0, 1) := by decide +kernel
theorem dX7_merge_31 : decode cX7_merge 31 = .ok (.getfield 7, 3) := by decide +kernel
theorem dX7_merge_34 : decode cX7_merge 34 = .ok (.sipush 1265, 3) := by decide +kernel
theorem dX7_merge_37 : decode cX7_merge 37 = .ok (.iload_n 2, 1) := by decide +kernel
theorem dX7_merge_38 : decode cX7_merge 38 = .ok (.iadd, 1) := by decide +kernel
theorem dX7_merge_39 : decode cX7_merge 39 = .ok (.iaload, 1) := by decide +kernel
theorem dX7_merge_40 : decode cX7_merge 40 = .ok (.if_icmp .ne 7, 3) := by decide +kernel
theorem dX7_merge_43 : decode cX7_merge 43 = .ok (.iconst 1, 1) := by decide +kernel
theorem dX7_merge_44 : decode cX7_merge 44 = .ok (.goto 4, 3) := by decide +kernel
theorem dX7_merge_47 : decode cX7_merge 47 = .ok (.iconst 0, 1) := by decide +kernel
theorem dX7_merge_48 : decode cX7_merge 48 = .ok (.istore_n 3, 1) := by decide +kernel
theorem dX7_merge_49 : decode cX7_merge 49 = .ok (.iload_n 1, 1) := by decide +kernel
theorem dX7_merge_50 : decode cX7_merge 50 = .ok (.iload_n 2, 1) := by decide +kernel
theorem dX7_merge_51 : decode cX7_merge 51 = .ok (.if_icmp .eq 30, 3) := by decide +kernel
theorem dX7_merge_54 : decode cX7_merge 54 = .ok (.iload_n 3, 1) := by decide +kernel
theorem dX7_merge_55 : decode cX7_merge 55 = .ok (.ifCond .ne 30, 3) := by decide +kernel
theorem dX7_merge_58 : decode cX7_merge 58 = .ok (.aload_n 0, 1) := by decide +kernel
theorem dX7_merge_59 : decode cX7_merge 59 = .ok (.getfield 7, 3) := by decide +kernel
theorem dX7_merge_62 : decode cX7_merge 62 = .ok (.sipush 1325, 3) := by decide +kernel
theorem dX7_merge_65 : decode cX7_merge 65 = .ok (.iload_n 2, 1) := by decide +kernel
theorem dX7_merge_66 : decode cX7_merge 66 = .ok (.iadd, 1) := by decide +kernel
theorem dX7_merge_67 : decode cX7_merge 67 = .ok (.iaload, 1) := by decide +kernel
theorem dX7_merge_68 : decode cX7_merge 68 = .ok (.aload_n 0, 1) := by decide +kernel
theorem dX7_merge_69 : decode cX7_merge 69 = .ok (.getfield 7, 3) := by decide +kernel
theorem dX7_merge_72 : decode cX7_merge 72 = .ok (.sipush 1265, 3) := by decide +kernel
theorem dX7_merge_75 : decode cX7_merge 75 = .ok (.iload_n 1, 1) := by decide +kernel
theorem dX7_merge_76 : decode cX7_merge 76 = .ok (.iadd, 1) := by decide +kernel
theorem dX7_merge_77 : decode cX7_merge 77 = .ok (.iaload, 1) := by decide +kernel
theorem dX7_merge_78 : decode cX7_merge 78 = .ok (.if_icmp .eq 7, 3) := by decide +kernel
theorem dX7_merge_81 : decode cX7_merge 81 = .ok (.sipush (-1004), 3) := by decide +kernel
theorem dX7_merge_84 : decode cX7_merge 84 = .ok (.ireturn, 1) := by decide +kernel
theorem dX7_merge_85 : decode cX7_merge 85 = .ok (.aload_n 0, 1) := by decide +kernel
theorem dX7_merge_86 : decode cX7_merge 86 = .ok (.iload_n 1, 1) := by decide +kernel
theorem dX7_merge_87 : decode cX7_merge 87 = .ok (.invokevirtual 70, 3) := by decide +kernel
theorem dX7_merge_90 : decode cX7_merge 90 = .ok (.aload_n 0, 1) := by decide +kernel
theorem dX7_merge_91 : decode cX7_merge 91 = .ok (.iload_n 2, 1) := by decide +kernel
theorem dX7_merge_92 : decode cX7_merge 92 = .ok (.invokevirtual 70, 3) := by decide +kernel
theorem dX7_merge_95 : decode cX7_merge 95 = .ok (.iadd, 1) := by decide +kernel
theorem dX7_merge_96 : decode cX7_merge 96 = .ok (.istore 4, 2) := by decide +kernel
theorem dX7_merge_98 : decode cX7_merge 98 = .ok (.iload 4, 2) := by decide +kernel
theorem dX7_merge_100 : decode cX7_merge 100 = .ok (.bipush 30, 2) := by decide +kernel
theorem dX7_merge_102 : decode cX7_merge 102 = .ok (.if_icmp .le 7, 3) := by decide +kernel
theorem dX7_merge_105 : decode cX7_merge 105 = .ok (.sipush (-1003), 3) := by decide +kernel
theorem dX7_merge_108 : decode cX7_merge 108 = .ok (.ireturn, 1) := by decide +kernel
theorem dX7_merge_109 : decode cX7_merge 109 = .ok (.aload_n 0, 1) := by decide +kernel
theorem dX7_merge_110 : decode cX7_merge 110 = .ok (.invokevirtual 73, 3) := by decide +kernel
theorem dX7_merge_113 : decode cX7_merge 113 = .ok (.aload_n 0, 1) := by decide +kernel
theorem dX7_merge_114 : decode cX7_merge 114 = .ok (.iload_n 1, 1) := by decide +kernel
theorem dX7_merge_115 : decode cX7_merge 115 = .ok (.iload_n 2, 1) := by decide +kernel
theorem dX7_merge_116 : decode cX7_merge 116 = .ok (.iconst 0, 1) := by decide +kernel
theorem dX7_merge_117 : decode cX7_merge 117 = .ok (.sipush 1000, 3) := by decide +kernel
theorem dX7_merge_120 : decode cX7_merge 120 = .ok (.invokevirtual 100, 3) := by decide +kernel
theorem dX7_merge_123 : decode cX7_merge 123 = .ok (.iload_n 3, 1) := by decide +kernel
theorem dX7_merge_124 : decode cX7_merge 124 = .ok (.ifCond .eq 26, 3) := by decide +kernel
theorem dX7_merge_127 : decode cX7_merge 127 = .ok (.aload_n 0, 1) := by decide +kernel
theorem dX7_merge_128 : decode cX7_merge 128 = .ok (.getfield 7, 3) := by decide +kernel
theorem dX7_merge_131 : decode cX7_merge 131 = .ok (.sipush 1265, 3) := by decide +kernel
theorem dX7_merge_134 : decode cX7_merge 134 = .ok (.iload_n 2, 1) := by decide +kernel
theorem dX7_merge_135 : decode cX7_merge 135 = .ok (.iadd, 1) := by decide +kernel
theorem dX7_merge_136 : decode cX7_merge 136 = .ok (.aload_n 0, 1) := by decide +kernel
theorem dX7_merge_137 : decode cX7_merge 137 = .ok (.getfield 7, 3) := by decide +kernel
theorem dX7_merge_140 : decode cX7_merge 140 = .ok (.sipush 1265, 3) := by decide +kernel
theorem dX7_merge_143 : decode cX7_merge 143 = .ok (.iload_n 1, 1) := by decide +kernel
theorem dX7_merge_144 : decode cX7_merge 144 = .ok (.iadd, 1) := by decide +kernel
theorem dX7_merge_145 : decode cX7_merge 145 = .ok (.iaload, 1) := by decide +kernel
theorem dX7_merge_146 : decode cX7_merge 146 = .ok (.iastore, 1) := by decide +kernel
theorem dX7_merge_147 : decode cX7_merge 147 = .ok (.goto 23, 3) := by decide +kernel
theorem dX7_merge_150 : decode cX7_merge 150 = .ok (.aload_n 0, 1) := by decide +kernel
theorem dX7_merge_151 : decode cX7_merge 151 = .ok (.getfield 7, 3) := by decide +kernel
theorem dX7_merge_154 : decode cX7_merge 154 = .ok (.sipush 1325, 3) := by decide +kernel
theorem dX7_merge_157 : decode cX7_merge 157 = .ok (.iload_n 2, 1) := by decide +kernel
theorem dX7_merge_158 : decode cX7_merge 158 = .ok (.iadd, 1) := by decide +kernel
theorem dX7_merge_159 : decode cX7_merge 159 = .ok (.aload_n 0, 1) := by decide +kernel
theorem dX7_merge_160 : decode cX7_merge 160 = .ok (.getfield 7, 3) := by decide +kernel
theorem dX7_merge_163 : decode cX7_merge 163 = .ok (.sipush 1325, 3) := by decide +kernel
theorem dX7_merge_166 : decode cX7_merge 166 = .ok (.iload_n 1, 1) := by decide +kernel
theorem dX7_merge_167 : decode cX7_merge 167 = .ok (.iadd, 1) := by decide +kernel
theorem dX7_merge_168 : decode cX7_merge 168 = .ok (.iaload, 1) := by decide +kernel
theorem dX7_merge_169 : decode cX7_merge 169 = .ok (.iastore, 1) := by decide +kernel
theorem dX7_merge_170 : decode cX7_merge 170 = .ok (.aload_n 0, 1) := by decide +kernel
theorem dX7_merge_171 : decode cX7_merge 171 = .ok (.getfield 7, 3) := by decide +kernel
theorem dX7_merge_174 : decode cX7_merge 174 = .ok (.sipush 1205, 3) := by decide +kernel
theorem dX7_merge_177 : decode cX7_merge 177 = .ok (.iload_n 1, 1) := by decide +kernel
theorem dX7_merge_178 : decode cX7_merge 178 = .ok (.iadd, 1) := by decide +kernel
theorem dX7_merge_179 : decode cX7_merge 179 = .ok (.iconst 0, 1) := by decide +kernel
theorem dX7_merge_180 : decode cX7_merge 180 = .ok (.iastore, 1) := by decide +kernel
theorem dX7_merge_181 : decode cX7_merge 181 = .ok (.iload 4, 2) := by decide +kernel
theorem dX7_merge_183 : decode cX7_merge 183 = .ok (.ireturn, 1) := by decide +kernel
theorem dX7_freeKeys_0 : decode cX7_freeKeys 0 = .ok (.sipush 1000, 3) := by decide +kernel
theorem dX7_freeKeys_3 : decode cX7_freeKeys 3 = .ok (.istore_n 1, 1) := by decide +kernel
theorem dX7_freeKeys_4 : decode cX7_freeKeys 4 = .ok (.iconst 0, 1) := by decide +kernel
theorem dX7_freeKeys_5 : decode cX7_freeKeys 5 = .ok (.istore_n 2, 1) := by decide +kernel
theorem dX7_freeKeys_6 : decode cX7_freeKeys 6 = .ok (.iload_n 2, 1) := by decide +kernel
theorem dX7_freeKeys_7 : decode cX7_freeKeys 7 = .ok (.aload_n 0, 1) := by decide +kernel
theorem dX7_freeKeys_8 : decode cX7_freeKeys 8 = .ok (.getfield 7, 3) := by decide +kernel
theorem dX7_freeKeys_11 : decode cX7_freeKeys 11 = .ok (.iconst 1, 1) := by decide +kernel
theorem dX7_freeKeys_12 : decode cX7_freeKeys 12 = .ok (.iaload, 1) := by decide +kernel
theorem dX7_freeKeys_13 : decode cX7_freeKeys 13 = .ok (.if_icmp .ge 51, 3) := by decide +kernel
theorem dX7_freeKeys_16 : decode cX7_freeKeys 16 = .ok (.iload_n 1, 1) := by decide +kernel
theorem dX7_freeKeys_17 : decode cX7_freeKeys 17 = .ok (.aload_n 0, 1) := by decide +kernel
theorem dX7_freeKeys_18 : decode cX7_freeKeys 18 = .ok (.getfield 7, 3) := by decide +kernel
theorem dX7_freeKeys_21 : decode cX7_freeKeys 21 = .ok (.sipush 1205, 3) := by decide +kernel
theorem dX7_freeKeys_24 : decode cX7_freeKeys 24 = .ok (.iload_n 2, 1) := by decide +kernel
theorem dX7_freeKeys_25 : decode cX7_freeKeys 25 = .ok (.iadd, 1) := by decide +kernel
theorem dX7_freeKeys_26 : decode cX7_freeKeys 26 = .ok (.iaload, 1) := by decide +kernel
theorem dX7_freeKeys_27 : decode cX7_freeKeys 27 = .ok (.iconst 1, 1) := by decide +kernel
theorem dX7_freeKeys_28 : decode cX7_freeKeys 28 = .ok (.if_icmp .ne 27, 3) := by decide +kernel
theorem dX7_freeKeys_31 : decode cX7_freeKeys 31 = .ok (.aload_n 0, 1) := by decide +kernel
theorem dX7_freeKeys_32 : decode cX7_freeKeys 32 = .ok (.getfield 7, 3) := by decide +kernel
theorem dX7_freeKeys_35 : decode cX7_freeKeys 35 = .ok (.sipush 1325, 3) := by decide +kernel
theorem dX7_freeKeys_38 : decode cX7_freeKeys 38 = .ok (.iload_n 2, 1) := by decide +kernel
theorem dX7_freeKeys_39 : decode cX7_freeKeys 39 = .ok (.iadd, 1) := by decide +kernel
theorem dX7_freeKeys_40 : decode cX7_freeKeys 40 = .ok (.iaload, 1) := by decide +kernel
theorem dX7_freeKeys_41 : decode cX7_freeKeys 41 = .ok (.aload_n 0, 1) := by decide +kernel
theorem dX7_freeKeys_42 : decode cX7_freeKeys 42 = .ok (.getfield 7, 3) := by decide +kernel
theorem dX7_freeKeys_45 : decode cX7_freeKeys 45 = .ok (.sipush 1265, 3) := by decide +kernel
theorem dX7_freeKeys_48 : decode cX7_freeKeys 48 = .ok (.iload_n 2, 1) := by decide +kernel
theorem dX7_freeKeys_49 : decode cX7_freeKeys 49 = .ok (.iadd, 1) := by decide +kernel
theorem dX7_freeKeys_50 : decode cX7_freeKeys 50 = .ok (.iaload, 1) := by decide +kernel
theorem dX7_freeKeys_51 : decode cX7_freeKeys 51 = .ok (.isub, 1) := by decide +kernel
theorem dX7_freeKeys_52 : decode cX7_freeKeys 52 = .ok (.goto 4, 3) := by decide +kernel
theorem dX7_freeKeys_55 : decode cX7_freeKeys 55 = .ok (.iconst 0, 1) := by decide +kernel
theorem dX7_freeKeys_56 : decode cX7_freeKeys 56 = .ok (.isub, 1) := by decide +kernel
theorem dX7_freeKeys_57 : decode cX7_freeKeys 57 = .ok (.istore_n 1, 1) := by decide +kernel
theorem dX7_freeKeys_58 : decode cX7_freeKeys 58 = .ok (.iinc 2 1, 3) := by decide +kernel
theorem dX7_freeKeys_61 : decode cX7_freeKeys 61 = .ok (.goto (-55), 3) := by decide +kernel
theorem dX7_freeKeys_64 : decode cX7_freeKeys 64 = .ok (.iload_n 1, 1) := by decide +kernel
theorem dX7_freeKeys_65 : decode cX7_freeKeys 65 = .ok (.ireturn, 1) := by decide +kernel
theorem dX7_useDefault_0 : decode cX7_useDefault 0 = .ok (.aload_n 0, 1) := by decide +kernel
theorem dX7_useDefault_1 : decode cX7_useDefault 1 = .ok (.getfield 7, 3) := by decide +kernel
theorem dX7_useDefault_4 : decode cX7_useDefault 4 = .ok (.iconst 2, 1) := by decide +kernel
theorem dX7_useDefault_5 : decode cX7_useDefault 5 = .ok (.iaload, 1) := by decide +kernel
theorem dX7_useDefault_6 : decode cX7_useDefault 6 = .ok (.iconst 1, 1) := by decide +kernel
theorem dX7_useDefault_7 : decode cX7_useDefault 7 = .ok (.if_icmp .ne 7, 3) := by decide +kernel
theorem dX7_useDefault_10 : decode cX7_useDefault 10 = .ok (.iconst 1, 1) := by decide +kernel
theorem dX7_useDefault_11 : decode cX7_useDefault 11 = .ok (.goto 4, 3) := by decide +kernel
theorem dX7_useDefault_14 : decode cX7_useDefault 14 = .ok (.iconst 0, 1) := by decide +kernel
theorem dX7_useDefault_15 : decode cX7_useDefault 15 = .ok (.iload_n 1, 1) := by decide +kernel
theorem dX7_useDefault_16 : decode cX7_useDefault 16 = .ok (.if_icmp .ne 7, 3) := by decide +kernel
theorem dX7_useDefault_19 : decode cX7_useDefault 19 = .ok (.sipush (-1005), 3) := by decide +kernel
theorem dX7_useDefault_22 : decode cX7_useDefault 22 = .ok (.ireturn, 1) := by decide +kernel
theorem dX7_useDefault_23 : decode cX7_useDefault 23 = .ok (.iload_n 1, 1) := by decide +kernel
theorem dX7_useDefault_24 : decode cX7_useDefault 24 = .ok (.ifCond .ne 16, 3) := by decide +kernel
theorem dX7_useDefault_27 : decode cX7_useDefault 27 = .ok (.aload_n 0, 1) := by decide +kernel
theorem dX7_useDefault_28 : decode cX7_useDefault 28 = .ok (.bipush 60, 2) := by decide +kernel
theorem dX7_useDefault_30 : decode cX7_useDefault 30 = .ok (.invokevirtual 70, 3) := by decide +kernel
theorem dX7_useDefault_33 : decode cX7_useDefault 33 = .ok (.ifCond .le 7, 3) := by decide +kernel
theorem dX7_useDefault_36 : decode cX7_useDefault 36 = .ok (.sipush (-1004), 3) := by decide +kernel
theorem dX7_useDefault_39 : decode cX7_useDefault 39 = .ok (.ireturn, 1) := by decide +kernel
theorem dX7_useDefault_40 : decode cX7_useDefault 40 = .ok (.aload_n 0, 1) := by decide +kernel
theorem dX7_useDefault_41 : decode cX7_useDefault 41 = .ok (.invokevirtual 73, 3) := by decide +kernel
theorem dX7_useDefault_44 : decode cX7_useDefault 44 = .ok (.aload_n 0, 1) := by decide +kernel
theorem dX7_useDefault_45 : decode cX7_useDefault 45 = .ok (.getfield 7, 3) := by decide +kernel
theorem dX7_useDefault_48 : decode cX7_useDefault 48 = .ok (.iconst 2, 1) := by decide +kernel
theorem dX7_useDefault_49 : decode cX7_useDefault 49 = .ok (.iload_n 1, 1) := by decide +kernel
theorem dX7_useDefault_50 : decode cX7_useDefault 50 = .ok (.ifCond .eq 7, 3) := by decide +kernel
theorem dX7_useDefault_53 : decode cX7_useDefault 53 = .ok (.iconst 1, 1) := by decide +kernel
theorem dX7_useDefault_54 : decode cX7_useDefault 54 = .ok (.goto 4, 3) := by decide +kernel
theorem dX7_useDefault_57 : decode cX7_useDefault 57 = .ok (.iconst 0, 1) := by decide +kernel
theorem dX7_useDefault_58 : decode cX7_useDefault 58 = .ok (.iastore, 1) := by decide +kernel
theorem dX7_useDefault_59 : decode cX7_useDefault 59 = .ok (.aload_n 0, 1) := by decide +kernel
theorem dX7_useDefault_60 : decode cX7_useDefault 60 = .ok (.invokevirtual 104, 3) := by decide +kernel
theorem dX7_useDefault_63 : decode cX7_useDefault 63 = .ok (.ireturn, 1) := by decide +kernel
theorem dX7_strays_0 : decode cX7_strays 0 = .ok (.iconst 0, 1) := by decide +kernel
theorem dX7_strays_1 : decode cX7_strays 1 = .ok (.istore_n 1, 1) := by decide +kernel
theorem dX7_strays_2 : decode cX7_strays 2 = .ok (.iconst 0, 1) := by decide +kernel
theorem dX7_strays_3 : decode cX7_strays 3 = .ok (.istore_n 2, 1) := by decide +kernel
theorem dX7_strays_4 : decode cX7_strays 4 = .ok (.iload_n 2, 1) := by decide +kernel
theorem dX7_strays_5 : decode cX7_strays 5 = .ok (.aload_n 0, 1) := by decide +kernel
theorem dX7_strays_6 : decode cX7_strays 6 = .ok (.getfield 7, 3) := by decide +kernel
theorem dX7_strays_9 : decode cX7_strays 9 = .ok (.iconst 0, 1) := by decide +kernel
theorem dX7_strays_10 : decode cX7_strays 10 = .ok (.iaload, 1) := by decide +kernel
theorem dX7_strays_11 : decode cX7_strays 11 = .ok (.if_icmp .ge 25, 3) := by decide +kernel
theorem dX7_strays_14 : decode cX7_strays 14 = .ok (.iload_n 1, 1) := by decide +kernel
theorem dX7_strays_15 : decode cX7_strays 15 = .ok (.aload_n 0, 1) := by decide +kernel
theorem dX7_strays_16 : decode cX7_strays 16 = .ok (.iload_n 2, 1) := by decide +kernel
theorem dX7_strays_17 : decode cX7_strays 17 = .ok (.invokevirtual 107, 3) := by decide +kernel
theorem dX7_strays_20 : decode cX7_strays 20 = .ok (.ifCond .eq 7, 3) := by decide +kernel
theorem dX7_strays_23 : decode cX7_strays 23 = .ok (.iconst 1, 1) := by decide +kernel
theorem dX7_strays_24 : decode cX7_strays 24 = .ok (.goto 4, 3) := by decide +kernel
theorem dX7_strays_27 : decode cX7_strays 27 = .ok (.iconst 0, 1) := by decide +kernel
theorem dX7_strays_28 : decode cX7_strays 28 = .ok (.iadd, 1) := by decide +kernel
theorem dX7_strays_29 : decode cX7_strays 29 = .ok (.istore_n 1, 1) := by decide +kernel
theorem dX7_strays_30 : decode cX7_strays 30 = .ok (.iinc 2 1, 3) := by decide +kernel
theorem dX7_strays_33 : decode cX7_strays 33 = .ok (.goto (-29), 3) := by decide +kernel
theorem dX7_strays_36 : decode cX7_strays 36 = .ok (.iload_n 1, 1) := by decide +kernel
theorem dX7_strays_37 : decode cX7_strays 37 = .ok (.ireturn, 1) := by decide +kernel
theorem dX7_mend_0 : decode cX7_mend 0 = .ok (.aload_n 0, 1) := by decide +kernel
theorem dX7_mend_1 : decode cX7_mend 1 = .ok (.invokevirtual 110, 3) := by decide +kernel
theorem dX7_mend_4 : decode cX7_mend 4 = .ok (.istore_n 1, 1) := by decide +kernel
theorem dX7_mend_5 : decode cX7_mend 5 = .ok (.iload_n 1, 1) := by decide +kernel
theorem dX7_mend_6 : decode cX7_mend 6 = .ok (.ifCond .ne 7, 3) := by decide +kernel
theorem dX7_mend_9 : decode cX7_mend 9 = .ok (.sipush (-1005), 3) := by decide +kernel
theorem dX7_mend_12 : decode cX7_mend 12 = .ok (.ireturn, 1) := by decide +kernel
theorem dX7_mend_13 : decode cX7_mend 13 = .ok (.iconst 0, 1) := by decide +kernel
theorem dX7_mend_14 : decode cX7_mend 14 = .ok (.istore_n 2, 1) := by decide +kernel
theorem dX7_mend_15 : decode cX7_mend 15 = .ok (.iload_n 2, 1) := by decide +kernel
theorem dX7_mend_16 : decode cX7_mend 16 = .ok (.aload_n 0, 1) := by decide +kernel
theorem dX7_mend_17 : decode cX7_mend 17 = .ok (.getfield 7, 3) := by decide +kernel
theorem dX7_mend_20 : decode cX7_mend 20 = .ok (.iconst 0, 1) := by decide +kernel
theorem dX7_mend_21 : decode cX7_mend 21 = .ok (.iaload, 1) := by decide +kernel
theorem dX7_mend_22 : decode cX7_mend 22 = .ok (.if_icmp .ge 39, 3) := by decide +kernel
theorem dX7_mend_25 : decode cX7_mend 25 = .ok (.aload_n 0, 1) := by decide +kernel
theorem dX7_mend_26 : decode cX7_mend 26 = .ok (.iload_n 2, 1) := by decide +kernel
theorem dX7_mend_27 : decode cX7_mend 27 = .ok (.invokevirtual 107, 3) := by decide +kernel
theorem dX7_mend_30 : decode cX7_mend 30 = .ok (.ifCond .eq 25, 3) := by decide +kernel
theorem dX7_mend_33 : decode cX7_mend 33 = .ok (.aload_n 0, 1) := by decide +kernel
theorem dX7_mend_34 : decode cX7_mend 34 = .ok (.aload_n 0, 1) := by decide +kernel
theorem dX7_mend_35 : decode cX7_mend 35 = .ok (.getfield 7, 3) := by decide +kernel
theorem dX7_mend_38 : decode cX7_mend 38 = .ok (.iconst 5, 1) := by decide +kernel
theorem dX7_mend_39 : decode cX7_mend 39 = .ok (.iload_n 2, 1) := by decide +kernel
theorem dX7_mend_40 : decode cX7_mend 40 = .ok (.iadd, 1) := by decide +kernel
theorem dX7_mend_41 : decode cX7_mend 41 = .ok (.iaload, 1) := by decide +kernel
theorem dX7_mend_42 : decode cX7_mend 42 = .ok (.invokevirtual 63, 3) := by decide +kernel
theorem dX7_mend_45 : decode cX7_mend 45 = .ok (.sipush (-1005), 3) := by decide +kernel
theorem dX7_mend_48 : decode cX7_mend 48 = .ok (.if_icmp .ne 7, 3) := by decide +kernel
theorem dX7_mend_51 : decode cX7_mend 51 = .ok (.sipush (-1004), 3) := by decide +kernel
theorem dX7_mend_54 : decode cX7_mend 54 = .ok (.ireturn, 1) := by decide +kernel
theorem dX7_mend_55 : decode cX7_mend 55 = .ok (.iinc 2 1, 3) := by decide +kernel
theorem dX7_mend_58 : decode cX7_mend 58 = .ok (.goto (-43), 3) := by decide +kernel
theorem dX7_mend_61 : decode cX7_mend 61 = .ok (.iconst 0, 1) := by decide +kernel
theorem dX7_mend_62 : decode cX7_mend 62 = .ok (.istore_n 2, 1) := by decide +kernel
theorem dX7_mend_63 : decode cX7_mend 63 = .ok (.iload_n 2, 1) := by decide +kernel
theorem dX7_mend_64 : decode cX7_mend 64 = .ok (.bipush 60, 2) := by decide +kernel
theorem dX7_mend_66 : decode cX7_mend 66 = .ok (.if_icmp .gt 20, 3) := by decide +kernel
theorem dX7_mend_69 : decode cX7_mend 69 = .ok (.aload_n 0, 1) := by decide +kernel
theorem dX7_mend_70 : decode cX7_mend 70 = .ok (.getfield 40, 3) := by decide +kernel
theorem dX7_mend_73 : decode cX7_mend 73 = .ok (.iload_n 2, 1) := by decide +kernel
theorem dX7_mend_74 : decode cX7_mend 74 = .ok (.aload_n 0, 1) := by decide +kernel
theorem dX7_mend_75 : decode cX7_mend 75 = .ok (.iload_n 2, 1) := by decide +kernel
theorem dX7_mend_76 : decode cX7_mend 76 = .ok (.invokevirtual 70, 3) := by decide +kernel
theorem dX7_mend_79 : decode cX7_mend 79 = .ok (.iastore, 1) := by decide +kernel
theorem dX7_mend_80 : decode cX7_mend 80 = .ok (.iinc 2 1, 3) := by decide +kernel
theorem dX7_mend_83 : decode cX7_mend 83 = .ok (.goto (-20), 3) := by decide +kernel
theorem dX7_mend_86 : decode cX7_mend 86 = .ok (.iconst 0, 1) := by decide +kernel
theorem dX7_mend_87 : decode cX7_mend 87 = .ok (.istore_n 2, 1) := by decide +kernel
theorem dX7_mend_88 : decode cX7_mend 88 = .ok (.iload_n 2, 1) := by decide +kernel
theorem dX7_mend_89 : decode cX7_mend 89 = .ok (.aload_n 0, 1) := by decide +kernel
theorem dX7_mend_90 : decode cX7_mend 90 = .ok (.getfield 7, 3) := by decide +kernel
theorem dX7_mend_93 : decode cX7_mend 93 = .ok (.iconst 0, 1) := by decide +kernel
theorem dX7_mend_94 : decode cX7_mend 94 = .ok (.iaload, 1) := by decide +kernel
theorem dX7_mend_95 : decode cX7_mend 95 = .ok (.if_icmp .ge 74, 3) := by decide +kernel
theorem dX7_mend_98 : decode cX7_mend 98 = .ok (.aload_n 0, 1) := by decide +kernel
theorem dX7_mend_99 : decode cX7_mend 99 = .ok (.iload_n 2, 1) := by decide +kernel
theorem dX7_mend_100 : decode cX7_mend 100 = .ok (.invokevirtual 107, 3) := by decide +kernel
theorem dX7_mend_103 : decode cX7_mend 103 = .ok (.ifCond .eq 60, 3) := by decide +kernel
theorem dX7_mend_106 : decode cX7_mend 106 = .ok (.aload_n 0, 1) := by decide +kernel
theorem dX7_mend_107 : decode cX7_mend 107 = .ok (.aload_n 0, 1) := by decide +kernel
theorem dX7_mend_108 : decode cX7_mend 108 = .ok (.getfield 7, 3) := by decide +kernel
theorem dX7_mend_111 : decode cX7_mend 111 = .ok (.iconst 5, 1) := by decide +kernel
theorem dX7_mend_112 : decode cX7_mend 112 = .ok (.iload_n 2, 1) := by decide +kernel
theorem dX7_mend_113 : decode cX7_mend 113 = .ok (.iadd, 1) := by decide +kernel
theorem dX7_mend_114 : decode cX7_mend 114 = .ok (.iaload, 1) := by decide +kernel
theorem dX7_mend_115 : decode cX7_mend 115 = .ok (.invokevirtual 63, 3) := by decide +kernel
theorem dX7_mend_118 : decode cX7_mend 118 = .ok (.istore_n 3, 1) := by decide +kernel
theorem dX7_mend_119 : decode cX7_mend 119 = .ok (.aload_n 0, 1) := by decide +kernel
theorem dX7_mend_120 : decode cX7_mend 120 = .ok (.getfield 40, 3) := by decide +kernel
theorem dX7_mend_123 : decode cX7_mend 123 = .ok (.iload_n 3, 1) := by decide +kernel
theorem dX7_mend_124 : decode cX7_mend 124 = .ok (.iaload, 1) := by decide +kernel
theorem dX7_mend_125 : decode cX7_mend 125 = .ok (.bipush 30, 2) := by decide +kernel
theorem dX7_mend_127 : decode cX7_mend 127 = .ok (.if_icmp .lt 7, 3) := by decide +kernel
theorem dX7_mend_130 : decode cX7_mend 130 = .ok (.sipush (-1003), 3) := by decide +kernel
theorem dX7_mend_133 : decode cX7_mend 133 = .ok (.ireturn, 1) := by decide +kernel
theorem dX7_mend_134 : decode cX7_mend 134 = .ok (.aload_n 0, 1) := by decide +kernel
theorem dX7_mend_135 : decode cX7_mend 135 = .ok (.getfield 40, 3) := by decide +kernel
theorem dX7_mend_138 : decode cX7_mend 138 = .ok (.iload_n 3, 1) := by decide +kernel
theorem dX7_mend_139 : decode cX7_mend 139 = .ok (.dup2, 1) := by decide +kernel
theorem dX7_mend_140 : decode cX7_mend 140 = .ok (.iaload, 1) := by decide +kernel
theorem dX7_mend_141 : decode cX7_mend 141 = .ok (.iconst 1, 1) := by decide +kernel
theorem dX7_mend_142 : decode cX7_mend 142 = .ok (.iadd, 1) := by decide +kernel
theorem dX7_mend_143 : decode cX7_mend 143 = .ok (.iastore, 1) := by decide +kernel
theorem dX7_mend_144 : decode cX7_mend 144 = .ok (.aload_n 0, 1) := by decide +kernel
theorem dX7_mend_145 : decode cX7_mend 145 = .ok (.getfield 40, 3) := by decide +kernel
theorem dX7_mend_148 : decode cX7_mend 148 = .ok (.aload_n 0, 1) := by decide +kernel
theorem dX7_mend_149 : decode cX7_mend 149 = .ok (.getfield 7, 3) := by decide +kernel
theorem dX7_mend_152 : decode cX7_mend 152 = .ok (.sipush 805, 3) := by decide +kernel
theorem dX7_mend_155 : decode cX7_mend 155 = .ok (.iload_n 2, 1) := by decide +kernel
theorem dX7_mend_156 : decode cX7_mend 156 = .ok (.iadd, 1) := by decide +kernel
theorem dX7_mend_157 : decode cX7_mend 157 = .ok (.iaload, 1) := by decide +kernel
theorem dX7_mend_158 : decode cX7_mend 158 = .ok (.dup2, 1) := by decide +kernel
theorem dX7_mend_159 : decode cX7_mend 159 = .ok (.iaload, 1) := by decide +kernel
theorem dX7_mend_160 : decode cX7_mend 160 = .ok (.iconst 1, 1) := by decide +kernel
theorem dX7_mend_161 : decode cX7_mend 161 = .ok (.isub, 1) := by decide +kernel
theorem dX7_mend_162 : decode cX7_mend 162 = .ok (.iastore, 1) := by decide +kernel
theorem dX7_mend_163 : decode cX7_mend 163 = .ok (.iinc 2 1, 3) := by decide +kernel
theorem dX7_mend_166 : decode cX7_mend 166 = .ok (.goto (-78), 3) := by decide +kernel
theorem dX7_mend_169 : decode cX7_mend 169 = .ok (.aload_n 0, 1) := by decide +kernel
theorem dX7_mend_170 : decode cX7_mend 170 = .ok (.invokevirtual 73, 3) := by decide +kernel
theorem dX7_mend_173 : decode cX7_mend 173 = .ok (.iconst 0, 1) := by decide +kernel
theorem dX7_mend_174 : decode cX7_mend 174 = .ok (.istore_n 2, 1) := by decide +kernel
theorem dX7_mend_175 : decode cX7_mend 175 = .ok (.iload_n 2, 1) := by decide +kernel
theorem dX7_mend_176 : decode cX7_mend 176 = .ok (.aload_n 0, 1) := by decide +kernel
theorem dX7_mend_177 : decode cX7_mend 177 = .ok (.getfield 7, 3) := by decide +kernel
theorem dX7_mend_180 : decode cX7_mend 180 = .ok (.iconst 0, 1) := by decide +kernel
theorem dX7_mend_181 : decode cX7_mend 181 = .ok (.iaload, 1) := by decide +kernel
theorem dX7_mend_182 : decode cX7_mend 182 = .ok (.if_icmp .ge 39, 3) := by decide +kernel
theorem dX7_mend_185 : decode cX7_mend 185 = .ok (.aload_n 0, 1) := by decide +kernel
theorem dX7_mend_186 : decode cX7_mend 186 = .ok (.iload_n 2, 1) := by decide +kernel
theorem dX7_mend_187 : decode cX7_mend 187 = .ok (.invokevirtual 107, 3) := by decide +kernel
theorem dX7_mend_190 : decode cX7_mend 190 = .ok (.ifCond .eq 25, 3) := by decide +kernel
theorem dX7_mend_193 : decode cX7_mend 193 = .ok (.aload_n 0, 1) := by decide +kernel
theorem dX7_mend_194 : decode cX7_mend 194 = .ok (.getfield 7, 3) := by decide +kernel
theorem dX7_mend_197 : decode cX7_mend 197 = .ok (.sipush 805, 3) := by decide +kernel
theorem dX7_mend_200 : decode cX7_mend 200 = .ok (.iload_n 2, 1) := by decide +kernel
theorem dX7_mend_201 : decode cX7_mend 201 = .ok (.iadd, 1) := by decide +kernel
theorem dX7_mend_202 : decode cX7_mend 202 = .ok (.aload_n 0, 1) := by decide +kernel
theorem dX7_mend_203 : decode cX7_mend 203 = .ok (.aload_n 0, 1) := by decide +kernel
theorem dX7_mend_204 : decode cX7_mend 204 = .ok (.getfield 7, 3) := by decide +kernel
theorem dX7_mend_207 : decode cX7_mend 207 = .ok (.iconst 5, 1) := by decide +kernel
theorem dX7_mend_208 : decode cX7_mend 208 = .ok (.iload_n 2, 1) := by decide +kernel
theorem dX7_mend_209 : decode cX7_mend 209 = .ok (.iadd, 1) := by decide +kernel
theorem dX7_mend_210 : decode cX7_mend 210 = .ok (.iaload, 1) := by decide +kernel
theorem dX7_mend_211 : decode cX7_mend 211 = .ok (.invokevirtual 63, 3) := by decide +kernel
theorem dX7_mend_214 : decode cX7_mend 214 = .ok (.iastore, 1) := by decide +kernel
theorem dX7_mend_215 : decode cX7_mend 215 = .ok (.iinc 2 1, 3) := by decide +kernel
theorem dX7_mend_218 : decode cX7_mend 218 = .ok (.goto (-43), 3) := by decide +kernel
theorem dX7_mend_221 : decode cX7_mend 221 = .ok (.iload_n 1, 1) := by decide +kernel
theorem dX7_mend_222 : decode cX7_mend 222 = .ok (.ireturn, 1) := by decide +kernel
theorem dX7_set_0 : decode cX7_set 0 = .ok (.iload_n 1, 1) := by decide +kernel
theorem dX7_set_1 : decode cX7_set 1 = .ok (.iconst 0, 1) := by decide +kernel
theorem dX7_set_2 : decode cX7_set 2 = .ok (.iconst 1, 1) := by decide +kernel
theorem dX7_set_3 : decode cX7_set 3 = .ok (.invokestatic 47, 3) := by decide +kernel
theorem dX7_set_6 : decode cX7_set 6 = .ok (.ifCond .eq 14, 3) := by decide +kernel
theorem dX7_set_9 : decode cX7_set 9 = .ok (.iload_n 2, 1) := by decide +kernel
theorem dX7_set_10 : decode cX7_set 10 = .ok (.iconst 0, 1) := by decide +kernel
theorem dX7_set_11 : decode cX7_set 11 = .ok (.iconst 2, 1) := by decide +kernel
theorem dX7_set_12 : decode cX7_set 12 = .ok (.iload_n 1, 1) := by decide +kernel
theorem dX7_set_13 : decode cX7_set 13 = .ok (.isub, 1) := by decide +kernel
theorem dX7_set_14 : decode cX7_set 14 = .ok (.invokestatic 47, 3) := by decide +kernel
theorem dX7_set_17 : decode cX7_set 17 = .ok (.ifCond .ne 7, 3) := by decide +kernel
theorem dX7_set_20 : decode cX7_set 20 = .ok (.sipush (-1002), 3) := by decide +kernel
theorem dX7_set_23 : decode cX7_set 23 = .ok (.ireturn, 1) := by decide +kernel
theorem dX7_set_24 : decode cX7_set 24 = .ok (.aload_n 0, 1) := by decide +kernel
theorem dX7_set_25 : decode cX7_set 25 = .ok (.getfield 7, 3) := by decide +kernel
theorem dX7_set_28 : decode cX7_set 28 = .ok (.iconst 3, 1) := by decide +kernel
theorem dX7_set_29 : decode cX7_set 29 = .ok (.iload_n 1, 1) := by decide +kernel
theorem dX7_set_30 : decode cX7_set 30 = .ok (.iadd, 1) := by decide +kernel
theorem dX7_set_31 : decode cX7_set 31 = .ok (.iaload, 1) := by decide +kernel
theorem dX7_set_32 : decode cX7_set 32 = .ok (.istore_n 3, 1) := by decide +kernel
theorem dX7_set_33 : decode cX7_set 33 = .ok (.iload_n 3, 1) := by decide +kernel
theorem dX7_set_34 : decode cX7_set 34 = .ok (.iload_n 2, 1) := by decide +kernel
theorem dX7_set_35 : decode cX7_set 35 = .ok (.if_icmp .ne 7, 3) := by decide +kernel
theorem dX7_set_38 : decode cX7_set 38 = .ok (.sipush (-1005), 3) := by decide +kernel
theorem dX7_set_41 : decode cX7_set 41 = .ok (.ireturn, 1) := by decide +kernel
theorem dX7_set_42 : decode cX7_set 42 = .ok (.aload_n 0, 1) := by decide +kernel
theorem dX7_set_43 : decode cX7_set 43 = .ok (.invokevirtual 73, 3) := by decide +kernel
theorem dX7_set_46 : decode cX7_set 46 = .ok (.aload_n 0, 1) := by decide +kernel
theorem dX7_set_47 : decode cX7_set 47 = .ok (.getfield 7, 3) := by decide +kernel
theorem dX7_set_50 : decode cX7_set 50 = .ok (.iconst 3, 1) := by decide +kernel
theorem dX7_set_51 : decode cX7_set 51 = .ok (.iload_n 1, 1) := by decide +kernel
theorem dX7_set_52 : decode cX7_set 52 = .ok (.iadd, 1) := by decide +kernel
theorem dX7_set_53 : decode cX7_set 53 = .ok (.iload_n 2, 1) := by decide +kernel
theorem dX7_set_54 : decode cX7_set 54 = .ok (.iastore, 1) := by decide +kernel
theorem dX7_set_55 : decode cX7_set 55 = .ok (.iload_n 3, 1) := by decide +kernel
theorem dX7_set_56 : decode cX7_set 56 = .ok (.ireturn, 1) := by decide +kernel
theorem dX7_type_0 : decode cX7_type 0 = .ok (.aload_n 0, 1) := by decide +kernel
theorem dX7_type_1 : decode cX7_type 1 = .ok (.getfield 113, 3) := by decide +kernel
theorem dX7_type_4 : decode cX7_type 4 = .ok (.bipush 60, 2) := by decide +kernel
theorem dX7_type_6 : decode cX7_type 6 = .ok (.if_icmp .ne 7, 3) := by decide +kernel
theorem dX7_type_9 : decode cX7_type 9 = .ok (.sipush (-1003), 3) := by decide +kernel
theorem dX7_type_12 : decode cX7_type 12 = .ok (.ireturn, 1) := by decide +kernel
theorem dX7_type_13 : decode cX7_type 13 = .ok (.aload_n 0, 1) := by decide +kernel
theorem dX7_type_14 : decode cX7_type 14 = .ok (.getfield 19, 3) := by decide +kernel
theorem dX7_type_17 : decode cX7_type 17 = .ok (.aload_n 0, 1) := by decide +kernel
theorem dX7_type_18 : decode cX7_type 18 = .ok (.getfield 113, 3) := by decide +kernel
theorem dX7_type_21 : decode cX7_type 21 = .ok (.iload_n 1, 1) := by decide +kernel
theorem dX7_type_22 : decode cX7_type 22 = .ok (.iastore, 1) := by decide +kernel
theorem dX7_type_23 : decode cX7_type 23 = .ok (.aload_n 0, 1) := by decide +kernel
theorem dX7_type_24 : decode cX7_type 24 = .ok (.dup, 1) := by decide +kernel
theorem dX7_type_25 : decode cX7_type 25 = .ok (.getfield 113, 3) := by decide +kernel
theorem dX7_type_28 : decode cX7_type 28 = .ok (.iconst 1, 1) := by decide +kernel
theorem dX7_type_29 : decode cX7_type 29 = .ok (.iadd, 1) := by decide +kernel
theorem dX7_type_30 : decode cX7_type 30 = .ok (.putfield 113, 3) := by decide +kernel
theorem dX7_type_33 : decode cX7_type 33 = .ok (.aload_n 0, 1) := by decide +kernel
theorem dX7_type_34 : decode cX7_type 34 = .ok (.getfield 113, 3) := by decide +kernel
theorem dX7_type_37 : decode cX7_type 37 = .ok (.ireturn, 1) := by decide +kernel
theorem dX7_clearText_0 : decode cX7_clearText 0 = .ok (.aload_n 0, 1) := by decide +kernel
theorem dX7_clearText_1 : decode cX7_clearText 1 = .ok (.getfield 113, 3) := by decide +kernel
theorem dX7_clearText_4 : decode cX7_clearText 4 = .ok (.istore_n 1, 1) := by decide +kernel
theorem dX7_clearText_5 : decode cX7_clearText 5 = .ok (.aload_n 0, 1) := by decide +kernel
theorem dX7_clearText_6 : decode cX7_clearText 6 = .ok (.iconst 0, 1) := by decide +kernel
theorem dX7_clearText_7 : decode cX7_clearText 7 = .ok (.putfield 113, 3) := by decide +kernel
theorem dX7_clearText_10 : decode cX7_clearText 10 = .ok (.iload_n 1, 1) := by decide +kernel
theorem dX7_clearText_11 : decode cX7_clearText 11 = .ok (.ireturn, 1) := by decide +kernel
theorem dX7_isNext_0 : decode cX7_isNext 0 = .ok (.aload_n 0, 1) := by decide +kernel
theorem dX7_isNext_1 : decode cX7_isNext 1 = .ok (.getfield 116, 3) := by decide +kernel
theorem dX7_isNext_4 : decode cX7_isNext 4 = .ok (.aload_n 0, 1) := by decide +kernel
theorem dX7_isNext_5 : decode cX7_isNext 5 = .ok (.getfield 113, 3) := by decide +kernel
theorem dX7_isNext_8 : decode cX7_isNext 8 = .ok (.if_icmp .ge 24, 3) := by decide +kernel
theorem dX7_isNext_11 : decode cX7_isNext 11 = .ok (.aload_n 0, 1) := by decide +kernel
theorem dX7_isNext_12 : decode cX7_isNext 12 = .ok (.getfield 19, 3) := by decide +kernel
theorem dX7_isNext_15 : decode cX7_isNext 15 = .ok (.aload_n 0, 1) := by decide +kernel
theorem dX7_isNext_16 : decode cX7_isNext 16 = .ok (.getfield 116, 3) := by decide +kernel
theorem dX7_isNext_19 : decode cX7_isNext 19 = .ok (.iaload, 1) := by decide +kernel
theorem dX7_isNext_20 : decode cX7_isNext 20 = .ok (.iload_n 1, 1) := by decide +kernel
theorem dX7_isNext_21 : decode cX7_isNext 21 = .ok (.iload_n 2, 1) := by decide +kernel
theorem dX7_isNext_22 : decode cX7_isNext 22 = .ok (.invokestatic 47, 3) := by decide +kernel
theorem dX7_isNext_25 : decode cX7_isNext 25 = .ok (.ifCond .eq 7, 3) := by decide +kernel
theorem dX7_isNext_28 : decode cX7_isNext 28 = .ok (.iconst 1, 1) := by decide +kernel
theorem dX7_isNext_29 : decode cX7_isNext 29 = .ok (.goto 4, 3) := by decide +kernel
theorem dX7_isNext_32 : decode cX7_isNext 32 = .ok (.iconst 0, 1) := by decide +kernel
theorem dX7_isNext_33 : decode cX7_isNext 33 = .ok (.ireturn, 1) := by decide +kernel
theorem dX7_add_0 : decode cX7_add 0 = .ok (.aload_n 0, 1) := by decide +kernel
theorem dX7_add_1 : decode cX7_add 1 = .ok (.getfield 22, 3) := by decide +kernel
theorem dX7_add_4 : decode cX7_add 4 = .ok (.aload_n 0, 1) := by decide +kernel
theorem dX7_add_5 : decode cX7_add 5 = .ok (.getfield 119, 3) := by decide +kernel
theorem dX7_add_8 : decode cX7_add 8 = .ok (.iload_n 1, 1) := by decide +kernel
theorem dX7_add_9 : decode cX7_add 9 = .ok (.iastore, 1) := by decide +kernel
theorem dX7_add_10 : decode cX7_add 10 = .ok (.aload_n 0, 1) := by decide +kernel
theorem dX7_add_11 : decode cX7_add 11 = .ok (.getfield 25, 3) := by decide +kernel
theorem dX7_add_14 : decode cX7_add 14 = .ok (.aload_n 0, 1) := by decide +kernel
theorem dX7_add_15 : decode cX7_add 15 = .ok (.getfield 119, 3) := by decide +kernel
theorem dX7_add_18 : decode cX7_add 18 = .ok (.iload_n 2, 1) := by decide +kernel
theorem dX7_add_19 : decode cX7_add 19 = .ok (.iastore, 1) := by decide +kernel
theorem dX7_add_20 : decode cX7_add 20 = .ok (.aload_n 0, 1) := by decide +kernel
theorem dX7_add_21 : decode cX7_add 21 = .ok (.getfield 28, 3) := by decide +kernel
theorem dX7_add_24 : decode cX7_add 24 = .ok (.aload_n 0, 1) := by decide +kernel
theorem dX7_add_25 : decode cX7_add 25 = .ok (.getfield 119, 3) := by decide +kernel
theorem dX7_add_28 : decode cX7_add 28 = .ok (.iload_n 3, 1) := by decide +kernel
theorem dX7_add_29 : decode cX7_add 29 = .ok (.iastore, 1) := by decide +kernel
theorem dX7_add_30 : decode cX7_add 30 = .ok (.aload_n 0, 1) := by decide +kernel
theorem dX7_add_31 : decode cX7_add 31 = .ok (.dup, 1) := by decide +kernel
theorem dX7_add_32 : decode cX7_add 32 = .ok (.getfield 119, 3) := by decide +kernel
theorem dX7_add_35 : decode cX7_add 35 = .ok (.iconst 1, 1) := by decide +kernel
theorem dX7_add_36 : decode cX7_add 36 = .ok (.iadd, 1) := by decide +kernel
theorem dX7_add_37 : decode cX7_add 37 = .ok (.putfield 119, 3) := by decide +kernel
theorem dX7_add_40 : decode cX7_add 40 = .ok (.return_, 1) := by decide +kernel
theorem dX7_settle_0 : decode cX7_settle 0 = .ok (.aload_n 0, 1) := by decide +kernel
theorem dX7_settle_1 : decode cX7_settle 1 = .ok (.getfield 122, 3) := by decide +kernel
theorem dX7_settle_4 : decode cX7_settle 4 = .ok (.ifCond .le 61, 3) := by decide +kernel
theorem dX7_settle_7 : decode cX7_settle 7 = .ok (.aload_n 0, 1) := by decide +kernel
theorem dX7_settle_8 : decode cX7_settle 8 = .ok (.getfield 31, 3) := by decide +kernel
theorem dX7_settle_11 : decode cX7_settle 11 = .ok (.aload_n 0, 1) := by decide +kernel
theorem dX7_settle_12 : decode cX7_settle 12 = .ok (.getfield 122, 3) := by decide +kernel
theorem dX7_settle_15 : decode cX7_settle 15 = .ok (.iconst 1, 1) := by decide +kernel
theorem dX7_settle_16 : decode cX7_settle 16 = .ok (.isub, 1) := by decide +kernel
theorem dX7_settle_17 : decode cX7_settle 17 = .ok (.iaload, 1) := by decide +kernel
theorem dX7_settle_18 : decode cX7_settle 18 = .ok (.iconst 4, 1) := by decide +kernel
theorem dX7_settle_19 : decode cX7_settle 19 = .ok (.if_icmp .eq 46, 3) := by decide +kernel
theorem dX7_settle_22 : decode cX7_settle 22 = .ok (.aload_n 0, 1) := by decide +kernel
theorem dX7_settle_23 : decode cX7_settle 23 = .ok (.getfield 31, 3) := by decide +kernel
theorem dX7_settle_26 : decode cX7_settle 26 = .ok (.aload_n 0, 1) := by decide +kernel
theorem dX7_settle_27 : decode cX7_settle 27 = .ok (.getfield 122, 3) := by decide +kernel
theorem dX7_settle_30 : decode cX7_settle 30 = .ok (.iconst 1, 1) := by decide +kernel
theorem dX7_settle_31 : decode cX7_settle 31 = .ok (.isub, 1) := by decide +kernel
theorem dX7_settle_32 : decode cX7_settle 32 = .ok (.iaload, 1) := by decide +kernel
theorem dX7_settle_33 : decode cX7_settle 33 = .ok (.iload_n 1, 1) := by decide +kernel
theorem dX7_settle_34 : decode cX7_settle 34 = .ok (.if_icmp .gt 31, 3) := by decide +kernel
theorem dX7_settle_37 : decode cX7_settle 37 = .ok (.aload_n 0, 1) := by decide +kernel
theorem dX7_settle_38 : decode cX7_settle 38 = .ok (.dup, 1) := by decide +kernel
theorem dX7_settle_39 : decode cX7_settle 39 = .ok (.getfield 122, 3) := by decide +kernel
theorem dX7_settle_42 : decode cX7_settle 42 = .ok (.iconst 1, 1) := by decide +kernel
theorem dX7_settle_43 : decode cX7_settle 43 = .ok (.isub, 1) := by decide +kernel
theorem dX7_settle_44 : decode cX7_settle 44 = .ok (.putfield 122, 3) := by decide +kernel
theorem dX7_settle_47 : decode cX7_settle 47 = .ok (.aload_n 0, 1) := by decide +kernel
theorem dX7_settle_48 : decode cX7_settle 48 = .ok (.aload_n 0, 1) := by decide +kernel
theorem dX7_settle_49 : decode cX7_settle 49 = .ok (.getfield 31, 3) := by decide +kernel
theorem dX7_settle_52 : decode cX7_settle 52 = .ok (.aload_n 0, 1) := by decide +kernel
theorem dX7_settle_53 : decode cX7_settle 53 = .ok (.getfield 122, 3) := by decide +kernel
theorem dX7_settle_56 : decode cX7_settle 56 = .ok (.iaload, 1) := by decide +kernel
theorem dX7_settle_57 : decode cX7_settle 57 = .ok (.iconst 0, 1) := by decide +kernel
theorem dX7_settle_58 : decode cX7_settle 58 = .ok (.iconst 0, 1) := by decide +kernel
theorem dX7_settle_59 : decode cX7_settle 59 = .ok (.invokevirtual 125, 3) := by decide +kernel
theorem dX7_settle_62 : decode cX7_settle 62 = .ok (.goto (-62), 3) := by decide +kernel
theorem dX7_settle_65 : decode cX7_settle 65 = .ok (.return_, 1) := by decide +kernel
theorem dX7_readNumber_0 : decode cX7_readNumber 0 = .ok (.aload_n 0, 1) := by decide +kernel
theorem dX7_readNumber_1 : decode cX7_readNumber 1 = .ok (.bipush 45, 2) := by decide +kernel
theorem dX7_readNumber_3 : decode cX7_readNumber 3 = .ok (.bipush 45, 2) := by decide +kernel
theorem dX7_readNumber_5 : decode cX7_readNumber 5 = .ok (.invokevirtual 129, 3) := by decide +kernel
theorem dX7_readNumber_8 : decode cX7_readNumber 8 = .ok (.istore_n 3, 1) := by decide +kernel
theorem dX7_readNumber_9 : decode cX7_readNumber 9 = .ok (.aload_n 0, 1) := by decide +kernel
theorem dX7_readNumber_10 : decode cX7_readNumber 10 = .ok (.dup, 1) := by decide +kernel
theorem dX7_readNumber_11 : decode cX7_readNumber 11 = .ok (.getfield 116, 3) := by decide +kernel
theorem dX7_readNumber_14 : decode cX7_readNumber 14 = .ok (.iload_n 3, 1) := by decide +kernel
theorem dX7_readNumber_15 : decode cX7_readNumber 15 = .ok (.ifCond .eq 7, 3) := by decide +kernel
theorem dX7_readNumber_18 : decode cX7_readNumber 18 = .ok (.iconst 1, 1) := by decide +kernel
theorem dX7_readNumber_19 : decode cX7_readNumber 19 = .ok (.goto 4, 3) := by decide +kernel
theorem dX7_readNumber_22 : decode cX7_readNumber 22 = .ok (.iconst 0, 1) := by decide +kernel
theorem dX7_readNumber_23 : decode cX7_readNumber 23 = .ok (.iadd, 1) := by decide +kernel
theorem dX7_readNumber_24 : decode cX7_readNumber 24 = .ok (.putfield 116, 3) := by decide +kernel
theorem dX7_readNumber_27 : decode cX7_readNumber 27 = .ok (.aload_n 0, 1) := by decide +kernel
theorem dX7_readNumber_28 : decode cX7_readNumber 28 = .ok (.bipush 48, 2) := by decide +kernel
theorem dX7_readNumber_30 : decode cX7_readNumber 30 = .ok (.bipush 57, 2) := by decide +kernel
theorem dX7_readNumber_32 : decode cX7_readNumber 32 = .ok (.invokevirtual 129, 3) := by decide +kernel
theorem dX7_readNumber_35 : decode cX7_readNumber 35 = .ok (.ifCond .ne 5, 3) := by decide +kernel
theorem dX7_readNumber_38 : decode cX7_readNumber 38 = .ok (.iconst 0, 1) := by decide +kernel
theorem dX7_readNumber_39 : decode cX7_readNumber 39 = .ok (.ireturn, 1) := by decide +kernel
theorem dX7_readNumber_40 : decode cX7_readNumber 40 = .ok (.aload_n 0, 1) := by decide +kernel
theorem dX7_readNumber_41 : decode cX7_readNumber 41 = .ok (.getfield 19, 3) := by decide +kernel
theorem dX7_readNumber_44 : decode cX7_readNumber 44 = .ok (.aload_n 0, 1) := by decide +kernel
theorem dX7_readNumber_45 : decode cX7_readNumber 45 = .ok (.getfield 116, 3) := by decide +kernel
theorem dX7_readNumber_48 : decode cX7_readNumber 48 = .ok (.iaload, 1) := by decide +kernel
theorem dX7_readNumber_49 : decode cX7_readNumber 49 = .ok (.bipush 48, 2) := by decide +kernel
theorem dX7_readNumber_51 : decode cX7_readNumber 51 = .ok (.isub, 1) := by decide +kernel
theorem dX7_readNumber_52 : decode cX7_readNumber 52 = .ok (.istore 4, 2) := by decide +kernel
theorem dX7_readNumber_54 : decode cX7_readNumber 54 = .ok (.aload_n 0, 1) := by decide +kernel
theorem dX7_readNumber_55 : decode cX7_readNumber 55 = .ok (.dup, 1) := by decide +kernel
theorem dX7_readNumber_56 : decode cX7_readNumber 56 = .ok (.getfield 116, 3) := by decide +kernel
theorem dX7_readNumber_59 : decode cX7_readNumber 59 = .ok (.iconst 1, 1) := by decide +kernel
theorem dX7_readNumber_60 : decode cX7_readNumber 60 = .ok (.iadd, 1) := by decide +kernel
theorem dX7_readNumber_61 : decode cX7_readNumber 61 = .ok (.putfield 116, 3) := by decide +kernel
theorem dX7_readNumber_64 : decode cX7_readNumber 64 = .ok (.iload 4, 2) := by decide +kernel
theorem dX7_readNumber_66 : decode cX7_readNumber 66 = .ok (.ifCond .le 71, 3) := by decide +kernel
theorem dX7_readNumber_69 : decode cX7_readNumber 69 = .ok (.aload_n 0, 1) := by decide +kernel
theorem dX7_readNumber_70 : decode cX7_readNumber 70 = .ok (.bipush 48, 2) := by decide +kernel
theorem dX7_readNumber_72 : decode cX7_readNumber 72 = .ok (.bipush 57, 2) := by decide +kernel
theorem dX7_readNumber_74 : decode cX7_readNumber 74 = .ok (.invokevirtual 129, 3) := by decide +kernel
theorem dX7_readNumber_77 : decode cX7_readNumber 77 = .ok (.ifCond .eq 60, 3) := by decide +kernel
theorem dX7_readNumber_80 : decode cX7_readNumber 80 = .ok (.bipush 10, 2) := by decide +kernel
theorem dX7_readNumber_82 : decode cX7_readNumber 82 = .ok (.iload 4, 2) := by decide +kernel
theorem dX7_readNumber_84 : decode cX7_readNumber 84 = .ok (.imul, 1) := by decide +kernel
theorem dX7_readNumber_85 : decode cX7_readNumber 85 = .ok (.aload_n 0, 1) := by decide +kernel
theorem dX7_readNumber_86 : decode cX7_readNumber 86 = .ok (.getfield 19, 3) := by decide +kernel
theorem dX7_readNumber_89 : decode cX7_readNumber 89 = .ok (.aload_n 0, 1) := by decide +kernel
theorem dX7_readNumber_90 : decode cX7_readNumber 90 = .ok (.getfield 116, 3) := by decide +kernel
theorem dX7_readNumber_93 : decode cX7_readNumber 93 = .ok (.iaload, 1) := by decide +kernel
theorem dX7_readNumber_94 : decode cX7_readNumber 94 = .ok (.iadd, 1) := by decide +kernel
theorem dX7_readNumber_95 : decode cX7_readNumber 95 = .ok (.bipush 48, 2) := by decide +kernel
theorem dX7_readNumber_97 : decode cX7_readNumber 97 = .ok (.isub, 1) := by decide +kernel
theorem dX7_readNumber_98 : decode cX7_readNumber 98 = .ok (.sipush 999, 3) := by decide +kernel
theorem dX7_readNumber_101 : decode cX7_readNumber 101 = .ok (.if_icmp .gt 36, 3) := by decide +kernel
theorem dX7_readNumber_104 : decode cX7_readNumber 104 = .ok (.bipush 10, 2) := by decide +kernel
theorem dX7_readNumber_106 : decode cX7_readNumber 106 = .ok (.iload 4, 2) := by decide +kernel
theorem dX7_readNumber_108 : decode cX7_readNumber 108 = .ok (.imul, 1) := by decide +kernel
theorem dX7_readNumber_109 : decode cX7_readNumber 109 = .ok (.aload_n 0, 1) := by decide +kernel
theorem dX7_readNumber_110 : decode cX7_readNumber 110 = .ok (.getfield 19, 3) := by decide +kernel
theorem dX7_readNumber_113 : decode cX7_readNumber 113 = .ok (.aload_n 0, 1) := by decide +kernel
theorem dX7_readNumber_114 : decode cX7_readNumber 114 = .ok (.getfield 116, 3) := by decide +kernel
theorem dX7_readNumber_117 : decode cX7_readNumber 117 = .ok (.iaload, 1) := by decide +kernel
theorem dX7_readNumber_118 : decode cX7_readNumber 118 = .ok (.iadd, 1) := by decide +kernel
theorem dX7_readNumber_119 : decode cX7_readNumber 119 = .ok (.bipush 48, 2) := by decide +kernel
theorem dX7_readNumber_121 : decode cX7_readNumber 121 = .ok (.isub, 1) := by decide +kernel
theorem dX7_readNumber_122 : decode cX7_readNumber 122 = .ok (.istore 4, 2) := by decide +kernel
theorem dX7_readNumber_124 : decode cX7_readNumber 124 = .ok (.aload_n 0, 1) := by decide +kernel
theorem dX7_readNumber_125 : decode cX7_readNumber 125 = .ok (.dup, 1) := by decide +kernel
theorem dX7_readNumber_126 : decode cX7_readNumber 126 = .ok (.getfield 116, 3) := by decide +kernel
theorem dX7_readNumber_129 : decode cX7_readNumber 129 = .ok (.iconst 1, 1) := by decide +kernel
theorem dX7_readNumber_130 : decode cX7_readNumber 130 = .ok (.iadd, 1) := by decide +kernel
theorem dX7_readNumber_131 : decode cX7_readNumber 131 = .ok (.putfield 116, 3) := by decide +kernel
theorem dX7_readNumber_134 : decode cX7_readNumber 134 = .ok (.goto (-70), 3) := by decide +kernel
theorem dX7_readNumber_137 : decode cX7_readNumber 137 = .ok (.aload_n 0, 1) := by decide +kernel
theorem dX7_readNumber_138 : decode cX7_readNumber 138 = .ok (.iload_n 1, 1) := by decide +kernel
theorem dX7_readNumber_139 : decode cX7_readNumber 139 = .ok (.iload_n 2, 1) := by decide +kernel
theorem dX7_readNumber_140 : decode cX7_readNumber 140 = .ok (.iload_n 3, 1) := by decide +kernel
theorem dX7_readNumber_141 : decode cX7_readNumber 141 = .ok (.ifCond .eq 9, 3) := by decide +kernel
theorem dX7_readNumber_144 : decode cX7_readNumber 144 = .ok (.iload 4, 2) := by decide +kernel
theorem dX7_readNumber_146 : decode cX7_readNumber 146 = .ok (.ineg, 1) := by decide +kernel
theorem dX7_readNumber_147 : decode cX7_readNumber 147 = .ok (.goto 5, 3) := by decide +kernel
theorem dX7_readNumber_150 : decode cX7_readNumber 150 = .ok (.iload 4, 2) := by decide +kernel
theorem dX7_readNumber_152 : decode cX7_readNumber 152 = .ok (.invokevirtual 125, 3) := by decide +kernel
theorem dX7_readNumber_155 : decode cX7_readNumber 155 = .ok (.iconst 1, 1) := by decide +kernel
theorem dX7_readNumber_156 : decode cX7_readNumber 156 = .ok (.ireturn, 1) := by decide +kernel
theorem dX7_isSign_0 : decode cX7_isSign 0 = .ok (.aload_n 0, 1) := by decide +kernel
theorem dX7_isSign_1 : decode cX7_isSign 1 = .ok (.bipush 60, 2) := by decide +kernel
theorem dX7_isSign_3 : decode cX7_isSign 3 = .ok (.bipush 62, 2) := by decide +kernel
theorem dX7_isSign_5 : decode cX7_isSign 5 = .ok (.invokevirtual 129, 3) := by decide +kernel
theorem dX7_isSign_8 : decode cX7_isSign 8 = .ok (.ifCond .ne 14, 3) := by decide +kernel
theorem dX7_isSign_11 : decode cX7_isSign 11 = .ok (.aload_n 0, 1) := by decide +kernel
theorem dX7_isSign_12 : decode cX7_isSign 12 = .ok (.bipush 35, 2) := by decide +kernel
theorem dX7_isSign_14 : decode cX7_isSign 14 = .ok (.bipush 35, 2) := by decide +kernel
theorem dX7_isSign_16 : decode cX7_isSign 16 = .ok (.invokevirtual 129, 3) := by decide +kernel
theorem dX7_isSign_19 : decode cX7_isSign 19 = .ok (.ifCond .eq 7, 3) := by decide +kernel
theorem dX7_isSign_22 : decode cX7_isSign 22 = .ok (.iconst 1, 1) := by decide +kernel
theorem dX7_isSign_23 : decode cX7_isSign 23 = .ok (.goto 4, 3) := by decide +kernel
theorem dX7_isSign_26 : decode cX7_isSign 26 = .ok (.iconst 0, 1) := by decide +kernel
theorem dX7_isSign_27 : decode cX7_isSign 27 = .ok (.ireturn, 1) := by decide +kernel
theorem dX7_read_0 : decode cX7_read 0 = .ok (.aload_n 0, 1) := by decide +kernel
theorem dX7_read_1 : decode cX7_read 1 = .ok (.iconst 0, 1) := by decide +kernel
theorem dX7_read_2 : decode cX7_read 2 = .ok (.putfield 119, 3) := by decide +kernel
theorem dX7_read_5 : decode cX7_read 5 = .ok (.aload_n 0, 1) := by decide +kernel
theorem dX7_read_6 : decode cX7_read 6 = .ok (.iconst 0, 1) := by decide +kernel
theorem dX7_read_7 : decode cX7_read 7 = .ok (.putfield 122, 3) := by decide +kernel
theorem dX7_read_10 : decode cX7_read 10 = .ok (.aload_n 0, 1) := by decide +kernel
theorem dX7_read_11 : decode cX7_read 11 = .ok (.iconst 0, 1) := by decide +kernel
theorem dX7_read_12 : decode cX7_read 12 = .ok (.putfield 116, 3) := by decide +kernel
theorem dX7_read_15 : decode cX7_read 15 = .ok (.iconst 0, 1) := by decide +kernel
theorem dX7_read_16 : decode cX7_read 16 = .ok (.istore_n 1, 1) := by decide +kernel
theorem dX7_read_17 : decode cX7_read 17 = .ok (.iconst 0, 1) := by decide +kernel
theorem dX7_read_18 : decode cX7_read 18 = .ok (.istore_n 2, 1) := by decide +kernel
theorem dX7_read_19 : decode cX7_read 19 = .ok (.iconst 1, 1) := by decide +kernel
theorem dX7_read_20 : decode cX7_read 20 = .ok (.istore_n 3, 1) := by decide +kernel
theorem dX7_read_21 : decode cX7_read 21 = .ok (.iload_n 3, 1) := by decide +kernel
theorem dX7_read_22 : decode cX7_read 22 = .ok (.ifCond .ne 14, 3) := by decide +kernel
theorem dX7_read_25 : decode cX7_read 25 = .ok (.aload_n 0, 1) := by decide +kernel
theorem dX7_read_26 : decode cX7_read 26 = .ok (.getfield 116, 3) := by decide +kernel
theorem dX7_read_29 : decode cX7_read 29 = .ok (.aload_n 0, 1) := by decide +kernel
theorem dX7_read_30 : decode cX7_read 30 = .ok (.getfield 113, 3) := by decide +kernel
theorem dX7_read_33 : decode cX7_read 33 = .ok (.if_icmp .ge 385, 3) := by decide +kernel
theorem dX7_read_36 : decode cX7_read 36 = .ok (.iload_n 3, 1) := by decide +kernel
theorem dX7_read_37 : decode cX7_read 37 = .ok (.ifCond .eq 55, 3) := by decide +kernel
theorem dX7_read_40 : decode cX7_read 40 = .ok (.aload_n 0, 1) := by decide +kernel
theorem dX7_read_41 : decode cX7_read 41 = .ok (.bipush 33, 2) := by decide +kernel
theorem dX7_read_43 : decode cX7_read 43 = .ok (.bipush 33, 2) := by decide +kernel
theorem dX7_read_45 : decode cX7_read 45 = .ok (.invokevirtual 129, 3) := by decide +kernel
theorem dX7_read_48 : decode cX7_read 48 = .ok (.ifCond .eq 44, 3) := by decide +kernel
theorem dX7_read_51 : decode cX7_read 51 = .ok (.iload_n 2, 1) := by decide +kernel
theorem dX7_read_52 : decode cX7_read 52 = .ok (.iconst 5, 1) := by decide +kernel
theorem dX7_read_53 : decode cX7_read 53 = .ok (.if_icmp .ge 39, 3) := by decide +kernel
theorem dX7_read_56 : decode cX7_read 56 = .ok (.aload_n 0, 1) := by decide +kernel
theorem dX7_read_57 : decode cX7_read 57 = .ok (.getfield 31, 3) := by decide +kernel
theorem dX7_read_60 : decode cX7_read 60 = .ok (.aload_n 0, 1) := by decide +kernel
theorem dX7_read_61 : decode cX7_read 61 = .ok (.getfield 122, 3) := by decide +kernel
theorem dX7_read_64 : decode cX7_read 64 = .ok (.iconst 1, 1) := by decide +kernel
theorem dX7_read_65 : decode cX7_read 65 = .ok (.iastore, 1) := by decide +kernel
theorem dX7_read_66 : decode cX7_read 66 = .ok (.aload_n 0, 1) := by decide +kernel
theorem dX7_read_67 : decode cX7_read 67 = .ok (.dup, 1) := by decide +kernel
theorem dX7_read_68 : decode cX7_read 68 = .ok (.getfield 122, 3) := by decide +kernel
theorem dX7_read_71 : decode cX7_read 71 = .ok (.iconst 1, 1) := by decide +kernel
theorem dX7_read_72 : decode cX7_read 72 = .ok (.iadd, 1) := by decide +kernel
theorem dX7_read_73 : decode cX7_read 73 = .ok (.putfield 122, 3) := by decide +kernel
theorem dX7_read_76 : decode cX7_read 76 = .ok (.iinc 2 1, 3) := by decide +kernel
theorem dX7_read_79 : decode cX7_read 79 = .ok (.aload_n 0, 1) := by decide +kernel
theorem dX7_read_80 : decode cX7_read 80 = .ok (.dup, 1) := by decide +kernel
theorem dX7_read_81 : decode cX7_read 81 = .ok (.getfield 116, 3) := by decide +kernel
theorem dX7_read_84 : decode cX7_read 84 = .ok (.iconst 1, 1) := by decide +kernel
theorem dX7_read_85 : decode cX7_read 85 = .ok (.iadd, 1) := by decide +kernel
theorem dX7_read_86 : decode cX7_read 86 = .ok (.putfield 116, 3) := by decide +kernel
theorem dX7_read_89 : decode cX7_read 89 = .ok (.goto (-68), 3) := by decide +kernel
theorem dX7_read_92 : decode cX7_read 92 = .ok (.iload_n 3, 1) := by decide +kernel
theorem dX7_read_93 : decode cX7_read 93 = .ok (.ifCond .eq 57, 3) := by decide +kernel
theorem dX7_read_96 : decode cX7_read 96 = .ok (.aload_n 0, 1) := by decide +kernel
theorem dX7_read_97 : decode cX7_read 97 = .ok (.bipush 40, 2) := by decide +kernel
theorem dX7_read_99 : decode cX7_read 99 = .ok (.bipush 40, 2) := by decide +kernel
theorem dX7_read_101 : decode cX7_read 101 = .ok (.invokevirtual 129, 3) := by decide +kernel
theorem dX7_read_104 : decode cX7_read 104 = .ok (.ifCond .eq 46, 3) := by decide +kernel
theorem dX7_read_107 : decode cX7_read 107 = .ok (.iload_n 1, 1) := by decide +kernel
theorem dX7_read_108 : decode cX7_read 108 = .ok (.iconst 5, 1) := by decide +kernel
theorem dX7_read_109 : decode cX7_read 109 = .ok (.if_icmp .ge 41, 3) := by decide +kernel
theorem dX7_read_112 : decode cX7_read 112 = .ok (.aload_n 0, 1) := by decide +kernel
theorem dX7_read_113 : decode cX7_read 113 = .ok (.getfield 31, 3) := by decide +kernel
theorem dX7_read_116 : decode cX7_read 116 = .ok (.aload_n 0, 1) := by decide +kernel
theorem dX7_read_117 : decode cX7_read 117 = .ok (.getfield 122, 3) := by decide +kernel
theorem dX7_read_120 : decode cX7_read 120 = .ok (.iconst 4, 1) := by decide +kernel
theorem dX7_read_121 : decode cX7_read 121 = .ok (.iastore, 1) := by decide +kernel
theorem dX7_read_122 : decode cX7_read 122 = .ok (.aload_n 0, 1) := by decide +kernel
theorem dX7_read_123 : decode cX7_read 123 = .ok (.dup, 1) := by decide +kernel
theorem dX7_read_124 : decode cX7_read 124 = .ok (.getfield 122, 3) := by decide +kernel
theorem dX7_read_127 : decode cX7_read 127 = .ok (.iconst 1, 1) := by decide +kernel
theorem dX7_read_128 : decode cX7_read 128 = .ok (.iadd, 1) := by decide +kernel
theorem dX7_read_129 : decode cX7_read 129 = .ok (.putfield 122, 3) := by decide +kernel
theorem dX7_read_132 : decode cX7_read 132 = .ok (.iinc 1 1, 3) := by decide +kernel
theorem dX7_read_135 : decode cX7_read 135 = .ok (.iconst 0, 1) := by decide +kernel
theorem dX7_read_136 : decode cX7_read 136 = .ok (.istore_n 2, 1) := by decide +kernel
theorem dX7_read_137 : decode cX7_read 137 = .ok (.aload_n 0, 1) := by decide +kernel
theorem dX7_read_138 : decode cX7_read 138 = .ok (.dup, 1) := by decide +kernel
theorem dX7_read_139 : decode cX7_read 139 = .ok (.getfield 116, 3) := by decide +kernel
theorem dX7_read_142 : decode cX7_read 142 = .ok (.iconst 1, 1) := by decide +kernel
theorem dX7_read_143 : decode cX7_read 143 = .ok (.iadd, 1) := by decide +kernel
theorem dX7_read_144 : decode cX7_read 144 = .ok (.putfield 116, 3) := by decide +kernel
theorem dX7_read_147 : decode cX7_read 147 = .ok (.goto (-126), 3) := by decide +kernel
theorem dX7_read_150 : decode cX7_read 150 = .ok (.iload_n 3, 1) := by decide +kernel
theorem dX7_read_151 : decode cX7_read 151 = .ok (.ifCond .eq 118, 3) := by decide +kernel
theorem dX7_read_154 : decode cX7_read 154 = .ok (.aload_n 0, 1) := by decide +kernel
theorem dX7_read_155 : decode cX7_read 155 = .ok (.bipush 107, 2) := by decide +kernel
theorem dX7_read_157 : decode cX7_read 157 = .ok (.bipush 107, 2) := by decide +kernel
theorem dX7_read_159 : decode cX7_read 159 = .ok (.invokevirtual 129, 3) := by decide +kernel
theorem dX7_read_162 : decode cX7_read 162 = .ok (.ifCond .ne 14, 3) := by decide +kernel
theorem dX7_read_165 : decode cX7_read 165 = .ok (.aload_n 0, 1) := by decide +kernel
theorem dX7_read_166 : decode cX7_read 166 = .ok (.bipush 118, 2) := by decide +kernel
theorem dX7_read_168 : decode cX7_read 168 = .ok (.bipush 118, 2) := by decide +kernel
theorem dX7_read_170 : decode cX7_read 170 = .ok (.invokevirtual 129, 3) := by decide +kernel
theorem dX7_read_173 : decode cX7_read 173 = .ok (.ifCond .eq 96, 3) := by decide +kernel
theorem dX7_read_176 : decode cX7_read 176 = .ok (.aload_n 0, 1) := by decide +kernel
theorem dX7_read_177 : decode cX7_read 177 = .ok (.getfield 19, 3) := by decide +kernel
theorem dX7_read_180 : decode cX7_read 180 = .ok (.aload_n 0, 1) := by decide +kernel
theorem dX7_read_181 : decode cX7_read 181 = .ok (.getfield 116, 3) := by decide +kernel
theorem dX7_read_184 : decode cX7_read 184 = .ok (.iaload, 1) := by decide +kernel
theorem dX7_read_185 : decode cX7_read 185 = .ok (.bipush 107, 2) := by decide +kernel
theorem dX7_read_187 : decode cX7_read 187 = .ok (.if_icmp .ne 7, 3) := by decide +kernel
theorem dX7_read_190 : decode cX7_read 190 = .ok (.iconst 5, 1) := by decide +kernel
theorem dX7_read_191 : decode cX7_read 191 = .ok (.goto 5, 3) := by decide +kernel
theorem dX7_read_194 : decode cX7_read 194 = .ok (.bipush 6, 2) := by decide +kernel
theorem dX7_read_196 : decode cX7_read 196 = .ok (.istore 4, 2) := by decide +kernel
theorem dX7_read_198 : decode cX7_read 198 = .ok (.aload_n 0, 1) := by decide +kernel
theorem dX7_read_199 : decode cX7_read 199 = .ok (.dup, 1) := by decide +kernel
theorem dX7_read_200 : decode cX7_read 200 = .ok (.getfield 116, 3) := by decide +kernel
theorem dX7_read_203 : decode cX7_read 203 = .ok (.iconst 1, 1) := by decide +kernel
theorem dX7_read_204 : decode cX7_read 204 = .ok (.iadd, 1) := by decide +kernel
theorem dX7_read_205 : decode cX7_read 205 = .ok (.putfield 116, 3) := by decide +kernel
theorem dX7_read_208 : decode cX7_read 208 = .ok (.aload_n 0, 1) := by decide +kernel
theorem dX7_read_209 : decode cX7_read 209 = .ok (.invokevirtual 132, 3) := by decide +kernel
theorem dX7_read_212 : decode cX7_read 212 = .ok (.ifCond .ne 8, 3) := by decide +kernel
theorem dX7_read_215 : decode cX7_read 215 = .ok (.aload_n 0, 1) := by decide +kernel
theorem dX7_read_216 : decode cX7_read 216 = .ok (.getfield 116, 3) := by decide +kernel
theorem dX7_read_219 : decode cX7_read 219 = .ok (.ireturn, 1) := by decide +kernel
theorem dX7_read_220 : decode cX7_read 220 = .ok (.aload_n 0, 1) := by decide +kernel
theorem dX7_read_221 : decode cX7_read 221 = .ok (.getfield 19, 3) := by decide +kernel
theorem dX7_read_224 : decode cX7_read 224 = .ok (.aload_n 0, 1) := by decide +kernel
theorem dX7_read_225 : decode cX7_read 225 = .ok (.getfield 116, 3) := by decide +kernel
theorem dX7_read_228 : decode cX7_read 228 = .ok (.iaload, 1) := by decide +kernel
theorem dX7_read_229 : decode cX7_read 229 = .ok (.istore 5, 2) := by decide +kernel
theorem dX7_read_231 : decode cX7_read 231 = .ok (.aload_n 0, 1) := by decide +kernel
theorem dX7_read_232 : decode cX7_read 232 = .ok (.dup, 1) := by decide +kernel
theorem dX7_read_233 : decode cX7_read 233 = .ok (.getfield 116, 3) := by decide +kernel
theorem dX7_read_236 : decode cX7_read 236 = .ok (.iconst 1, 1) := by decide +kernel
theorem dX7_read_237 : decode cX7_read 237 = .ok (.iadd, 1) := by decide +kernel
theorem dX7_read_238 : decode cX7_read 238 = .ok (.putfield 116, 3) := by decide +kernel
theorem dX7_read_241 : decode cX7_read 241 = .ok (.aload_n 0, 1) := by decide +kernel
theorem dX7_read_242 : decode cX7_read 242 = .ok (.iload 4, 2) := by decide +kernel
theorem dX7_read_244 : decode cX7_read 244 = .ok (.iload 5, 2) := by decide +kernel
theorem dX7_read_246 : decode cX7_read 246 = .ok (.invokevirtual 135, 3) := by decide +kernel
theorem dX7_read_249 : decode cX7_read 249 = .ok (.ifCond .ne 8, 3) := by decide +kernel
theorem dX7_read_252 : decode cX7_read 252 = .ok (.aload_n 0, 1) := by decide +kernel
theorem dX7_read_253 : decode cX7_read 253 = .ok (.getfield 116, 3) := by decide +kernel
theorem dX7_read_256 : decode cX7_read 256 = .ok (.ireturn, 1) := by decide +kernel
theorem dX7_read_257 : decode cX7_read 257 = .ok (.aload_n 0, 1) := by decide +kernel
theorem dX7_read_258 : decode cX7_read 258 = .ok (.iconst 1, 1) := by decide +kernel
theorem dX7_read_259 : decode cX7_read 259 = .ok (.invokevirtual 138, 3) := by decide +kernel
theorem dX7_read_262 : decode cX7_read 262 = .ok (.iconst 0, 1) := by decide +kernel
theorem dX7_read_263 : decode cX7_read 263 = .ok (.istore_n 2, 1) := by decide +kernel
theorem dX7_read_264 : decode cX7_read 264 = .ok (.iconst 0, 1) := by decide +kernel
theorem dX7_read_265 : decode cX7_read 265 = .ok (.istore_n 3, 1) := by decide +kernel
theorem dX7_read_266 : decode cX7_read 266 = .ok (.goto (-245), 3) := by decide +kernel
theorem dX7_read_269 : decode cX7_read 269 = .ok (.iload_n 3, 1) := by decide +kernel
theorem dX7_read_270 : decode cX7_read 270 = .ok (.ifCond .ne 88, 3) := by decide +kernel
theorem dX7_read_273 : decode cX7_read 273 = .ok (.aload_n 0, 1) := by decide +kernel
theorem dX7_read_274 : decode cX7_read 274 = .ok (.bipush 38, 2) := by decide +kernel
theorem dX7_read_276 : decode cX7_read 276 = .ok (.bipush 38, 2) := by decide +kernel
theorem dX7_read_278 : decode cX7_read 278 = .ok (.invokevirtual 129, 3) := by decide +kernel
theorem dX7_read_281 : decode cX7_read 281 = .ok (.ifCond .ne 14, 3) := by decide +kernel
theorem dX7_read_284 : decode cX7_read 284 = .ok (.aload_n 0, 1) := by decide +kernel
theorem dX7_read_285 : decode cX7_read 285 = .ok (.bipush 124, 2) := by decide +kernel
theorem dX7_read_287 : decode cX7_read 287 = .ok (.bipush 124, 2) := by decide +kernel
theorem dX7_read_289 : decode cX7_read 289 = .ok (.invokevirtual 129, 3) := by decide +kernel
theorem dX7_read_292 : decode cX7_read 292 = .ok (.ifCond .eq 66, 3) := by decide +kernel
theorem dX7_read_295 : decode cX7_read 295 = .ok (.aload_n 0, 1) := by decide +kernel
theorem dX7_read_296 : decode cX7_read 296 = .ok (.getfield 19, 3) := by decide +kernel
theorem dX7_read_299 : decode cX7_read 299 = .ok (.aload_n 0, 1) := by decide +kernel
theorem dX7_read_300 : decode cX7_read 300 = .ok (.getfield 116, 3) := by decide +kernel
theorem dX7_read_303 : decode cX7_read 303 = .ok (.iaload, 1) := by decide +kernel
theorem dX7_read_304 : decode cX7_read 304 = .ok (.bipush 38, 2) := by decide +kernel
theorem dX7_read_306 : decode cX7_read 306 = .ok (.if_icmp .ne 7, 3) := by decide +kernel
theorem dX7_read_309 : decode cX7_read 309 = .ok (.iconst 2, 1) := by decide +kernel
theorem dX7_read_310 : decode cX7_read 310 = .ok (.goto 4, 3) := by decide +kernel
theorem dX7_read_313 : decode cX7_read 313 = .ok (.iconst 3, 1) := by decide +kernel
theorem dX7_read_314 : decode cX7_read 314 = .ok (.istore 4, 2) := by decide +kernel
theorem dX7_read_316 : decode cX7_read 316 = .ok (.aload_n 0, 1) := by decide +kernel
theorem dX7_read_317 : decode cX7_read 317 = .ok (.iload 4, 2) := by decide +kernel
theorem dX7_read_319 : decode cX7_read 319 = .ok (.invokevirtual 138, 3) := by decide +kernel
theorem dX7_read_322 : decode cX7_read 322 = .ok (.aload_n 0, 1) := by decide +kernel
theorem dX7_read_323 : decode cX7_read 323 = .ok (.getfield 31, 3) := by decide +kernel
theorem dX7_read_326 : decode cX7_read 326 = .ok (.aload_n 0, 1) := by decide +kernel
theorem dX7_read_327 : decode cX7_read 327 = .ok (.getfield 122, 3) := by decide +kernel
theorem dX7_read_330 : decode cX7_read 330 = .ok (.iload 4, 2) := by decide +kernel
theorem dX7_read_332 : decode cX7_read 332 = .ok (.iastore, 1) := by decide +kernel
theorem dX7_read_333 : decode cX7_read 333 = .ok (.aload_n 0, 1) := by decide +kernel
theorem dX7_read_334 : decode cX7_read 334 = .ok (.dup, 1) := by decide +kernel
theorem dX7_read_335 : decode cX7_read 335 = .ok (.getfield 122, 3) := by decide +kernel
theorem dX7_read_338 : decode cX7_read 338 = .ok (.iconst 1, 1) := by decide +kernel
theorem dX7_read_339 : decode cX7_read 339 = .ok (.iadd, 1) := by decide +kernel
theorem dX7_read_340 : decode cX7_read 340 = .ok (.putfield 122, 3) := by decide +kernel
theorem dX7_read_343 : decode cX7_read 343 = .ok (.aload_n 0, 1) := by decide +kernel
theorem dX7_read_344 : decode cX7_read 344 = .ok (.dup, 1) := by decide +kernel
theorem dX7_read_345 : decode cX7_read 345 = .ok (.getfield 116, 3) := by decide +kernel
theorem dX7_read_348 : decode cX7_read 348 = .ok (.iconst 1, 1) := by decide +kernel
theorem dX7_read_349 : decode cX7_read 349 = .ok (.iadd, 1) := by decide +kernel
theorem dX7_read_350 : decode cX7_read 350 = .ok (.putfield 116, 3) := by decide +kernel
theorem dX7_read_353 : decode cX7_read 353 = .ok (.iconst 1, 1) := by decide +kernel
theorem dX7_read_354 : decode cX7_read 354 = .ok (.istore_n 3, 1) := by decide +kernel
theorem dX7_read_355 : decode cX7_read 355 = .ok (.goto (-334), 3) := by decide +kernel
theorem dX7_read_358 : decode cX7_read 358 = .ok (.iload_n 3, 1) := by decide +kernel
theorem dX7_read_359 : decode cX7_read 359 = .ok (.ifCond .ne 54, 3) := by decide +kernel
theorem dX7_read_362 : decode cX7_read 362 = .ok (.aload_n 0, 1) := by decide +kernel
theorem dX7_read_363 : decode cX7_read 363 = .ok (.bipush 41, 2) := by decide +kernel
theorem dX7_read_365 : decode cX7_read 365 = .ok (.bipush 41, 2) := by decide +kernel
theorem dX7_read_367 : decode cX7_read 367 = .ok (.invokevirtual 129, 3) := by decide +kernel
theorem dX7_read_370 : decode cX7_read 370 = .ok (.ifCond .eq 43, 3) := by decide +kernel
theorem dX7_read_373 : decode cX7_read 373 = .ok (.iload_n 1, 1) := by decide +kernel
theorem dX7_read_374 : decode cX7_read 374 = .ok (.ifCond .le 39, 3) := by decide +kernel
theorem dX7_read_377 : decode cX7_read 377 = .ok (.aload_n 0, 1) := by decide +kernel
theorem dX7_read_378 : decode cX7_read 378 = .ok (.iconst 3, 1) := by decide +kernel
theorem dX7_read_379 : decode cX7_read 379 = .ok (.invokevirtual 138, 3) := by decide +kernel
theorem dX7_read_382 : decode cX7_read 382 = .ok (.aload_n 0, 1) := by decide +kernel
theorem dX7_read_383 : decode cX7_read 383 = .ok (.dup, 1) := by decide +kernel
theorem dX7_read_384 : decode cX7_read 384 = .ok (.getfield 122, 3) := by decide +kernel
theorem dX7_read_387 : decode cX7_read 387 = .ok (.iconst 1, 1) := by decide +kernel
theorem dX7_read_388 : decode cX7_read 388 = .ok (.isub, 1) := by decide +kernel
theorem dX7_read_389 : decode cX7_read 389 = .ok (.putfield 122, 3) := by decide +kernel
theorem dX7_read_392 : decode cX7_read 392 = .ok (.aload_n 0, 1) := by decide +kernel
theorem dX7_read_393 : decode cX7_read 393 = .ok (.iconst 1, 1) := by decide +kernel
theorem dX7_read_394 : decode cX7_read 394 = .ok (.invokevirtual 138, 3) := by decide +kernel
theorem dX7_read_397 : decode cX7_read 397 = .ok (.iinc 1 (-1), 3) := by decide +kernel
theorem dX7_read_400 : decode cX7_read 400 = .ok (.aload_n 0, 1) := by decide +kernel
theorem dX7_read_401 : decode cX7_read 401 = .ok (.dup, 1) := by decide +kernel
theorem dX7_read_402 : decode cX7_read 402 = .ok (.getfield 116, 3) := by decide +kernel
theorem dX7_read_405 : decode cX7_read 405 = .ok (.iconst 1, 1) := by decide +kernel
theorem dX7_read_406 : decode cX7_read 406 = .ok (.iadd, 1) := by decide +kernel
theorem dX7_read_407 : decode cX7_read 407 = .ok (.putfield 116, 3) := by decide +kernel
theorem dX7_read_410 : decode cX7_read 410 = .ok (.goto (-389), 3) := by decide +kernel
theorem dX7_read_413 : decode cX7_read 413 = .ok (.aload_n 0, 1) := by decide +kernel
theorem dX7_read_414 : decode cX7_read 414 = .ok (.getfield 116, 3) := by decide +kernel
theorem dX7_read_417 : decode cX7_read 417 = .ok (.ireturn, 1) := by decide +kernel
theorem dX7_read_418 : decode cX7_read 418 = .ok (.iload_n 1, 1) := by decide +kernel
theorem dX7_read_419 : decode cX7_read 419 = .ok (.ifCond .le 8, 3) := by decide +kernel
theorem dX7_read_422 : decode cX7_read 422 = .ok (.aload_n 0, 1) := by decide +kernel
theorem dX7_read_423 : decode cX7_read 423 = .ok (.getfield 113, 3) := by decide +kernel
theorem dX7_read_426 : decode cX7_read 426 = .ok (.ireturn, 1) := by decide +kernel
theorem dX7_read_427 : decode cX7_read 427 = .ok (.aload_n 0, 1) := by decide +kernel
theorem dX7_read_428 : decode cX7_read 428 = .ok (.iconst 3, 1) := by decide +kernel
theorem dX7_read_429 : decode cX7_read 429 = .ok (.invokevirtual 138, 3) := by decide +kernel
theorem dX7_read_432 : decode cX7_read 432 = .ok (.sipush (-1005), 3) := by decide +kernel
theorem dX7_read_435 : decode cX7_read 435 = .ok (.ireturn, 1) := by decide +kernel
theorem dX7_fault_0 : decode cX7_fault 0 = .ok (.aload_n 0, 1) := by decide +kernel
theorem dX7_fault_1 : decode cX7_fault 1 = .ok (.invokevirtual 142, 3) := by decide +kernel
theorem dX7_fault_4 : decode cX7_fault 4 = .ok (.ireturn, 1) := by decide +kernel
theorem dX7_undo_0 : decode cX7_undo 0 = .ok (.aload_n 0, 1) := by decide +kernel
theorem dX7_undo_1 : decode cX7_undo 1 = .ok (.getfield 43, 3) := by decide +kernel
theorem dX7_undo_4 : decode cX7_undo 4 = .ok (.ifCond .ne 7, 3) := by decide +kernel
theorem dX7_undo_7 : decode cX7_undo 7 = .ok (.sipush (-1005), 3) := by decide +kernel
theorem dX7_undo_10 : decode cX7_undo 10 = .ok (.ireturn, 1) := by decide +kernel
theorem dX7_undo_11 : decode cX7_undo 11 = .ok (.aload_n 0, 1) := by decide +kernel
theorem dX7_undo_12 : decode cX7_undo 12 = .ok (.dup, 1) := by decide +kernel
theorem dX7_undo_13 : decode cX7_undo 13 = .ok (.getfield 43, 3) := by decide +kernel
theorem dX7_undo_16 : decode cX7_undo 16 = .ok (.iconst 1, 1) := by decide +kernel
theorem dX7_undo_17 : decode cX7_undo 17 = .ok (.isub, 1) := by decide +kernel
theorem dX7_undo_18 : decode cX7_undo 18 = .ok (.putfield 43, 3) := by decide +kernel
theorem dX7_undo_21 : decode cX7_undo 21 = .ok (.iconst 0, 1) := by decide +kernel
theorem dX7_undo_22 : decode cX7_undo 22 = .ok (.istore_n 1, 1) := by decide +kernel
theorem dX7_undo_23 : decode cX7_undo 23 = .ok (.iload_n 1, 1) := by decide +kernel
theorem dX7_undo_24 : decode cX7_undo 24 = .ok (.sipush 1385, 3) := by decide +kernel
theorem dX7_undo_27 : decode cX7_undo 27 = .ok (.if_icmp .ge 30, 3) := by decide +kernel
theorem dX7_undo_30 : decode cX7_undo 30 = .ok (.aload_n 0, 1) := by decide +kernel
theorem dX7_undo_31 : decode cX7_undo 31 = .ok (.getfield 7, 3) := by decide +kernel
theorem dX7_undo_34 : decode cX7_undo 34 = .ok (.iload_n 1, 1) := by decide +kernel
theorem dX7_undo_35 : decode cX7_undo 35 = .ok (.aload_n 0, 1) := by decide +kernel
theorem dX7_undo_36 : decode cX7_undo 36 = .ok (.getfield 16, 3) := by decide +kernel
theorem dX7_undo_39 : decode cX7_undo 39 = .ok (.sipush 1385, 3) := by decide +kernel
theorem dX7_undo_42 : decode cX7_undo 42 = .ok (.aload_n 0, 1) := by decide +kernel
theorem dX7_undo_43 : decode cX7_undo 43 = .ok (.getfield 43, 3) := by decide +kernel
theorem dX7_undo_46 : decode cX7_undo 46 = .ok (.imul, 1) := by decide +kernel
theorem dX7_undo_47 : decode cX7_undo 47 = .ok (.iload_n 1, 1) := by decide +kernel
theorem dX7_undo_48 : decode cX7_undo 48 = .ok (.iadd, 1) := by decide +kernel
theorem dX7_undo_49 : decode cX7_undo 49 = .ok (.iaload, 1) := by decide +kernel
theorem dX7_undo_50 : decode cX7_undo 50 = .ok (.iastore, 1) := by decide +kernel
theorem dX7_undo_51 : decode cX7_undo 51 = .ok (.iinc 1 1, 3) := by decide +kernel
theorem dX7_undo_54 : decode cX7_undo 54 = .ok (.goto (-31), 3) := by decide +kernel
theorem dX7_undo_57 : decode cX7_undo 57 = .ok (.aload_n 0, 1) := by decide +kernel
theorem dX7_undo_58 : decode cX7_undo 58 = .ok (.getfield 43, 3) := by decide +kernel
theorem dX7_undo_61 : decode cX7_undo 61 = .ok (.ireturn, 1) := by decide +kernel
theorem dX7_keep_0 : decode cX7_keep 0 = .ok (.iconst 0, 1) := by decide +kernel
theorem dX7_keep_1 : decode cX7_keep 1 = .ok (.istore_n 1, 1) := by decide +kernel
theorem dX7_keep_2 : decode cX7_keep 2 = .ok (.iload_n 1, 1) := by decide +kernel
theorem dX7_keep_3 : decode cX7_keep 3 = .ok (.sipush 1385, 3) := by decide +kernel
theorem dX7_keep_6 : decode cX7_keep 6 = .ok (.if_icmp .ge 21, 3) := by decide +kernel
theorem dX7_keep_9 : decode cX7_keep 9 = .ok (.aload_n 0, 1) := by decide +kernel
theorem dX7_keep_10 : decode cX7_keep 10 = .ok (.getfield 13, 3) := by decide +kernel
theorem dX7_keep_13 : decode cX7_keep 13 = .ok (.iload_n 1, 1) := by decide +kernel
theorem dX7_keep_14 : decode cX7_keep 14 = .ok (.aload_n 0, 1) := by decide +kernel
theorem dX7_keep_15 : decode cX7_keep 15 = .ok (.getfield 7, 3) := by decide +kernel
theorem dX7_keep_18 : decode cX7_keep 18 = .ok (.iload_n 1, 1) := by decide +kernel
theorem dX7_keep_19 : decode cX7_keep 19 = .ok (.iaload, 1) := by decide +kernel
theorem dX7_keep_20 : decode cX7_keep 20 = .ok (.iastore, 1) := by decide +kernel
theorem dX7_keep_21 : decode cX7_keep 21 = .ok (.iinc 1 1, 3) := by decide +kernel
theorem dX7_keep_24 : decode cX7_keep 24 = .ok (.goto (-22), 3) := by decide +kernel
theorem dX7_keep_27 : decode cX7_keep 27 = .ok (.aload_n 0, 1) := by decide +kernel
theorem dX7_keep_28 : decode cX7_keep 28 = .ok (.iconst 1, 1) := by decide +kernel
theorem dX7_keep_29 : decode cX7_keep 29 = .ok (.putfield 145, 3) := by decide +kernel
theorem dX7_keep_32 : decode cX7_keep 32 = .ok (.aload_n 0, 1) := by decide +kernel
theorem dX7_keep_33 : decode cX7_keep 33 = .ok (.invokevirtual 66, 3) := by decide +kernel
theorem dX7_keep_36 : decode cX7_keep 36 = .ok (.ireturn, 1) := by decide +kernel
theorem dX7_restore_0 : decode cX7_restore 0 = .ok (.aload_n 0, 1) := by decide +kernel
theorem dX7_restore_1 : decode cX7_restore 1 = .ok (.getfield 145, 3) := by decide +kernel
theorem dX7_restore_4 : decode cX7_restore 4 = .ok (.ifCond .ne 7, 3) := by decide +kernel
theorem dX7_restore_7 : decode cX7_restore 7 = .ok (.sipush (-1005), 3) := by decide +kernel
theorem dX7_restore_10 : decode cX7_restore 10 = .ok (.ireturn, 1) := by decide +kernel
theorem dX7_restore_11 : decode cX7_restore 11 = .ok (.aload_n 0, 1) := by decide +kernel
theorem dX7_restore_12 : decode cX7_restore 12 = .ok (.invokevirtual 73, 3) := by decide +kernel
theorem dX7_restore_15 : decode cX7_restore 15 = .ok (.iconst 0, 1) := by decide +kernel
theorem dX7_restore_16 : decode cX7_restore 16 = .ok (.istore_n 1, 1) := by decide +kernel
theorem dX7_restore_17 : decode cX7_restore 17 = .ok (.iload_n 1, 1) := by decide +kernel
theorem dX7_restore_18 : decode cX7_restore 18 = .ok (.sipush 1385, 3) := by decide +kernel
theorem dX7_restore_21 : decode cX7_restore 21 = .ok (.if_icmp .ge 21, 3) := by decide +kernel
theorem dX7_restore_24 : decode cX7_restore 24 = .ok (.aload_n 0, 1) := by decide +kernel
theorem dX7_restore_25 : decode cX7_restore 25 = .ok (.getfield 7, 3) := by decide +kernel
theorem dX7_restore_28 : decode cX7_restore 28 = .ok (.iload_n 1, 1) := by decide +kernel
theorem dX7_restore_29 : decode cX7_restore 29 = .ok (.aload_n 0, 1) := by decide +kernel
theorem dX7_restore_30 : decode cX7_restore 30 = .ok (.getfield 13, 3) := by decide +kernel
theorem dX7_restore_33 : decode cX7_restore 33 = .ok (.iload_n 1, 1) := by decide +kernel
theorem dX7_restore_34 : decode cX7_restore 34 = .ok (.iaload, 1) := by decide +kernel
theorem dX7_restore_35 : decode cX7_restore 35 = .ok (.iastore, 1) := by decide +kernel
theorem dX7_restore_36 : decode cX7_restore 36 = .ok (.iinc 1 1, 3) := by decide +kernel
theorem dX7_restore_39 : decode cX7_restore 39 = .ok (.goto (-22), 3) := by decide +kernel
theorem dX7_restore_42 : decode cX7_restore 42 = .ok (.aload_n 0, 1) := by decide +kernel
theorem dX7_restore_43 : decode cX7_restore 43 = .ok (.invokevirtual 66, 3) := by decide +kernel
theorem dX7_restore_46 : decode cX7_restore 46 = .ok (.ireturn, 1) := by decide +kernel
theorem dX7_passesTest_0 : decode cX7_passesTest 0 = .ok (.iload_n 1, 1) := by decide +kernel
theorem dX7_passesTest_1 : decode cX7_passesTest 1 = .ok (.bipush 60, 2) := by decide +kernel
theorem dX7_passesTest_3 : decode cX7_passesTest 3 = .ok (.if_icmp .ne 16, 3) := by decide +kernel
theorem dX7_passesTest_6 : decode cX7_passesTest 6 = .ok (.iload_n 0, 1) := by decide +kernel
theorem dX7_passesTest_7 : decode cX7_passesTest 7 = .ok (.iload_n 2, 1) := by decide +kernel
theorem dX7_passesTest_8 : decode cX7_passesTest 8 = .ok (.if_icmp .ge 7, 3) := by decide +kernel
theorem dX7_passesTest_11 : decode cX7_passesTest 11 = .ok (.iconst 1, 1) := by decide +kernel
theorem dX7_passesTest_12 : decode cX7_passesTest 12 = .ok (.goto 55, 3) := by decide +kernel
theorem dX7_passesTest_15 : decode cX7_passesTest 15 = .ok (.iconst 0, 1) := by decide +kernel
theorem dX7_passesTest_16 : decode cX7_passesTest 16 = .ok (.goto 51, 3) := by decide +kernel
theorem dX7_passesTest_19 : decode cX7_passesTest 19 = .ok (.iload_n 1, 1) := by decide +kernel
theorem dX7_passesTest_20 : decode cX7_passesTest 20 = .ok (.bipush 62, 2) := by decide +kernel
theorem dX7_passesTest_22 : decode cX7_passesTest 22 = .ok (.if_icmp .ne 16, 3) := by decide +kernel
theorem dX7_passesTest_25 : decode cX7_passesTest 25 = .ok (.iload_n 0, 1) := by decide +kernel
theorem dX7_passesTest_26 : decode cX7_passesTest 26 = .ok (.iload_n 2, 1) := by decide +kernel
theorem dX7_passesTest_27 : decode cX7_passesTest 27 = .ok (.if_icmp .le 7, 3) := by decide +kernel
theorem dX7_passesTest_30 : decode cX7_passesTest 30 = .ok (.iconst 1, 1) := by decide +kernel
theorem dX7_passesTest_31 : decode cX7_passesTest 31 = .ok (.goto 36, 3) := by decide +kernel
theorem dX7_passesTest_34 : decode cX7_passesTest 34 = .ok (.iconst 0, 1) := by decide +kernel
theorem dX7_passesTest_35 : decode cX7_passesTest 35 = .ok (.goto 32, 3) := by decide +kernel
theorem dX7_passesTest_38 : decode cX7_passesTest 38 = .ok (.iload_n 1, 1) := by decide +kernel
theorem dX7_passesTest_39 : decode cX7_passesTest 39 = .ok (.bipush 61, 2) := by decide +kernel
theorem dX7_passesTest_41 : decode cX7_passesTest 41 = .ok (.if_icmp .ne 16, 3) := by decide +kernel
theorem dX7_passesTest_44 : decode cX7_passesTest 44 = .ok (.iload_n 0, 1) := by decide +kernel
theorem dX7_passesTest_45 : decode cX7_passesTest 45 = .ok (.iload_n 2, 1) := by decide +kernel
theorem dX7_passesTest_46 : decode cX7_passesTest 46 = .ok (.if_icmp .ne 7, 3) := by decide +kernel
theorem dX7_passesTest_49 : decode cX7_passesTest 49 = .ok (.iconst 1, 1) := by decide +kernel
theorem dX7_passesTest_50 : decode cX7_passesTest 50 = .ok (.goto 17, 3) := by decide +kernel
theorem dX7_passesTest_53 : decode cX7_passesTest 53 = .ok (.iconst 0, 1) := by decide +kernel
theorem dX7_passesTest_54 : decode cX7_passesTest 54 = .ok (.goto 13, 3) := by decide +kernel
theorem dX7_passesTest_57 : decode cX7_passesTest 57 = .ok (.iload_n 0, 1) := by decide +kernel
theorem dX7_passesTest_58 : decode cX7_passesTest 58 = .ok (.iload_n 2, 1) := by decide +kernel
theorem dX7_passesTest_59 : decode cX7_passesTest 59 = .ok (.if_icmp .eq 7, 3) := by decide +kernel
theorem dX7_passesTest_62 : decode cX7_passesTest 62 = .ok (.iconst 1, 1) := by decide +kernel
theorem dX7_passesTest_63 : decode cX7_passesTest 63 = .ok (.goto 4, 3) := by decide +kernel
theorem dX7_passesTest_66 : decode cX7_passesTest 66 = .ok (.iconst 0, 1) := by decide +kernel
theorem dX7_passesTest_67 : decode cX7_passesTest 67 = .ok (.ireturn, 1) := by decide +kernel
theorem dX7_push_0 : decode cX7_push 0 = .ok (.aload_n 0, 1) := by decide +kernel
theorem dX7_push_1 : decode cX7_push 1 = .ok (.getfield 34, 3) := by decide +kernel
theorem dX7_push_4 : decode cX7_push 4 = .ok (.aload_n 0, 1) := by decide +kernel
theorem dX7_push_5 : decode cX7_push 5 = .ok (.getfield 149, 3) := by decide +kernel
theorem dX7_push_8 : decode cX7_push 8 = .ok (.iload_n 1, 1) := by decide +kernel
theorem dX7_push_9 : decode cX7_push 9 = .ok (.iastore, 1) := by decide +kernel
theorem dX7_push_10 : decode cX7_push 10 = .ok (.aload_n 0, 1) := by decide +kernel
theorem dX7_push_11 : decode cX7_push 11 = .ok (.getfield 37, 3) := by decide +kernel
theorem dX7_push_14 : decode cX7_push 14 = .ok (.aload_n 0, 1) := by decide +kernel
theorem dX7_push_15 : decode cX7_push 15 = .ok (.getfield 149, 3) := by decide +kernel
theorem dX7_push_18 : decode cX7_push 18 = .ok (.iload_n 2, 1) := by decide +kernel
theorem dX7_push_19 : decode cX7_push 19 = .ok (.iastore, 1) := by decide +kernel
theorem dX7_push_20 : decode cX7_push 20 = .ok (.aload_n 0, 1) := by decide +kernel
theorem dX7_push_21 : decode cX7_push 21 = .ok (.dup, 1) := by decide +kernel
theorem dX7_push_22 : decode cX7_push 22 = .ok (.getfield 149, 3) := by decide +kernel
theorem dX7_push_25 : decode cX7_push 25 = .ok (.iconst 1, 1) := by decide +kernel
theorem dX7_push_26 : decode cX7_push 26 = .ok (.iadd, 1) := by decide +kernel
theorem dX7_push_27 : decode cX7_push 27 = .ok (.putfield 149, 3) := by decide +kernel
theorem dX7_push_30 : decode cX7_push 30 = .ok (.return_, 1) := by decide +kernel
theorem dX7_truth_0 : decode cX7_truth 0 = .ok (.aload_n 0, 1) := by decide +kernel
theorem dX7_truth_1 : decode cX7_truth 1 = .ok (.iconst 0, 1) := by decide +kernel
theorem dX7_truth_2 : decode cX7_truth 2 = .ok (.putfield 149, 3) := by decide +kernel
theorem dX7_truth_5 : decode cX7_truth 5 = .ok (.iconst 0, 1) := by decide +kernel
theorem dX7_truth_6 : decode cX7_truth 6 = .ok (.istore 4, 2) := by decide +kernel
theorem dX7_truth_8 : decode cX7_truth 8 = .ok (.iload 4, 2) := by decide +kernel
theorem dX7_truth_10 : decode cX7_truth 10 = .ok (.aload_n 0, 1) := by decide +kernel
theorem dX7_truth_11 : decode cX7_truth 11 = .ok (.getfield 119, 3) := by decide +kernel
theorem dX7_truth_14 : decode cX7_truth 14 = .ok (.if_icmp .ge 229, 3) := by decide +kernel
theorem dX7_truth_17 : decode cX7_truth 17 = .ok (.aload_n 0, 1) := by decide +kernel
theorem dX7_truth_18 : decode cX7_truth 18 = .ok (.getfield 22, 3) := by decide +kernel
theorem dX7_truth_21 : decode cX7_truth 21 = .ok (.iload 4, 2) := by decide +kernel
theorem dX7_truth_23 : decode cX7_truth 23 = .ok (.iaload, 1) := by decide +kernel
theorem dX7_truth_24 : decode cX7_truth 24 = .ok (.iconst 5, 1) := by decide +kernel
theorem dX7_truth_25 : decode cX7_truth 25 = .ok (.if_icmp .ne 37, 3) := by decide +kernel
theorem dX7_truth_28 : decode cX7_truth 28 = .ok (.aload_n 0, 1) := by decide +kernel
theorem dX7_truth_29 : decode cX7_truth 29 = .ok (.iload_n 1, 1) := by decide +kernel
theorem dX7_truth_30 : decode cX7_truth 30 = .ok (.aload_n 0, 1) := by decide +kernel
theorem dX7_truth_31 : decode cX7_truth 31 = .ok (.getfield 25, 3) := by decide +kernel
theorem dX7_truth_34 : decode cX7_truth 34 = .ok (.iload 4, 2) := by decide +kernel
theorem dX7_truth_36 : decode cX7_truth 36 = .ok (.iaload, 1) := by decide +kernel
theorem dX7_truth_37 : decode cX7_truth 37 = .ok (.aload_n 0, 1) := by decide +kernel
theorem dX7_truth_38 : decode cX7_truth 38 = .ok (.getfield 28, 3) := by decide +kernel
theorem dX7_truth_41 : decode cX7_truth 41 = .ok (.iload 4, 2) := by decide +kernel
theorem dX7_truth_43 : decode cX7_truth 43 = .ok (.iaload, 1) := by decide +kernel
theorem dX7_truth_44 : decode cX7_truth 44 = .ok (.invokestatic 152, 3) := by decide +kernel
theorem dX7_truth_47 : decode cX7_truth 47 = .ok (.ifCond .eq 7, 3) := by decide +kernel
theorem dX7_truth_50 : decode cX7_truth 50 = .ok (.iconst 2, 1) := by decide +kernel
theorem dX7_truth_51 : decode cX7_truth 51 = .ok (.goto 4, 3) := by decide +kernel
theorem dX7_truth_54 : decode cX7_truth 54 = .ok (.iconst 0, 1) := by decide +kernel
theorem dX7_truth_55 : decode cX7_truth 55 = .ok (.iconst 0, 1) := by decide +kernel
theorem dX7_truth_56 : decode cX7_truth 56 = .ok (.invokevirtual 155, 3) := by decide +kernel
theorem dX7_truth_59 : decode cX7_truth 59 = .ok (.goto 178, 3) := by decide +kernel
theorem dX7_truth_62 : decode cX7_truth 62 = .ok (.aload_n 0, 1) := by decide +kernel
theorem dX7_truth_63 : decode cX7_truth 63 = .ok (.getfield 22, 3) := by decide +kernel
theorem dX7_truth_66 : decode cX7_truth 66 = .ok (.iload 4, 2) := by decide +kernel
theorem dX7_truth_68 : decode cX7_truth 68 = .ok (.iaload, 1) := by decide +kernel
theorem dX7_truth_69 : decode cX7_truth 69 = .ok (.bipush 6, 2) := by decide +kernel
theorem dX7_truth_71 : decode cX7_truth 71 = .ok (.if_icmp .ne 45, 3) := by decide +kernel
theorem dX7_truth_74 : decode cX7_truth 74 = .ok (.aload_n 0, 1) := by decide +kernel
theorem dX7_truth_75 : decode cX7_truth 75 = .ok (.iload_n 3, 1) := by decide +kernel
theorem dX7_truth_76 : decode cX7_truth 76 = .ok (.ifCond .ne 7, 3) := by decide +kernel
theorem dX7_truth_79 : decode cX7_truth 79 = .ok (.iconst 1, 1) := by decide +kernel
theorem dX7_truth_80 : decode cX7_truth 80 = .ok (.goto 29, 3) := by decide +kernel
theorem dX7_truth_83 : decode cX7_truth 83 = .ok (.iload_n 2, 1) := by decide +kernel
theorem dX7_truth_84 : decode cX7_truth 84 = .ok (.aload_n 0, 1) := by decide +kernel
theorem dX7_truth_85 : decode cX7_truth 85 = .ok (.getfield 25, 3) := by decide +kernel
theorem dX7_truth_88 : decode cX7_truth 88 = .ok (.iload 4, 2) := by decide +kernel
theorem dX7_truth_90 : decode cX7_truth 90 = .ok (.iaload, 1) := by decide +kernel
theorem dX7_truth_91 : decode cX7_truth 91 = .ok (.aload_n 0, 1) := by decide +kernel
theorem dX7_truth_92 : decode cX7_truth 92 = .ok (.getfield 28, 3) := by decide +kernel
theorem dX7_truth_95 : decode cX7_truth 95 = .ok (.iload 4, 2) := by decide +kernel
theorem dX7_truth_97 : decode cX7_truth 97 = .ok (.iaload, 1) := by decide +kernel
theorem dX7_truth_98 : decode cX7_truth 98 = .ok (.invokestatic 152, 3) := by decide +kernel
theorem dX7_truth_101 : decode cX7_truth 101 = .ok (.ifCond .eq 7, 3) := by decide +kernel
theorem dX7_truth_104 : decode cX7_truth 104 = .ok (.iconst 2, 1) := by decide +kernel
theorem dX7_truth_105 : decode cX7_truth 105 = .ok (.goto 4, 3) := by decide +kernel
theorem dX7_truth_108 : decode cX7_truth 108 = .ok (.iconst 0, 1) := by decide +kernel
theorem dX7_truth_109 : decode cX7_truth 109 = .ok (.iconst 0, 1) := by decide +kernel
theorem dX7_truth_110 : decode cX7_truth 110 = .ok (.invokevirtual 155, 3) := by decide +kernel
theorem dX7_truth_113 : decode cX7_truth 113 = .ok (.goto 124, 3) := by decide +kernel
theorem dX7_truth_116 : decode cX7_truth 116 = .ok (.aload_n 0, 1) := by decide +kernel
theorem dX7_truth_117 : decode cX7_truth 117 = .ok (.getfield 22, 3) := by decide +kernel
theorem dX7_truth_120 : decode cX7_truth 120 = .ok (.iload 4, 2) := by decide +kernel
theorem dX7_truth_122 : decode cX7_truth 122 = .ok (.iaload, 1) := by decide +kernel
theorem dX7_truth_123 : decode cX7_truth 123 = .ok (.iconst 1, 1) := by decide +kernel
theorem dX7_truth_124 : decode cX7_truth 124 = .ok (.if_icmp .ne 30, 3) := by decide +kernel
theorem dX7_truth_127 : decode cX7_truth 127 = .ok (.aload_n 0, 1) := by decide +kernel
theorem dX7_truth_128 : decode cX7_truth 128 = .ok (.getfield 34, 3) := by decide +kernel
theorem dX7_truth_131 : decode cX7_truth 131 = .ok (.aload_n 0, 1) := by decide +kernel
theorem dX7_truth_132 : decode cX7_truth 132 = .ok (.getfield 149, 3) := by decide +kernel
theorem dX7_truth_135 : decode cX7_truth 135 = .ok (.iconst 1, 1) := by decide +kernel
theorem dX7_truth_136 : decode cX7_truth 136 = .ok (.isub, 1) := by decide +kernel
theorem dX7_truth_137 : decode cX7_truth 137 = .ok (.iconst 2, 1) := by decide +kernel
theorem dX7_truth_138 : decode cX7_truth 138 = .ok (.aload_n 0, 1) := by decide +kernel
theorem dX7_truth_139 : decode cX7_truth 139 = .ok (.getfield 34, 3) := by decide +kernel
theorem dX7_truth_142 : decode cX7_truth 142 = .ok (.aload_n 0, 1) := by decide +kernel
theorem dX7_truth_143 : decode cX7_truth 143 = .ok (.getfield 149, 3) := by decide +kernel
theorem dX7_truth_146 : decode cX7_truth 146 = .ok (.iconst 1, 1) := by decide +kernel
theorem dX7_truth_147 : decode cX7_truth 147 = .ok (.isub, 1) := by decide +kernel
theorem dX7_truth_148 : decode cX7_truth 148 = .ok (.iaload, 1) := by decide +kernel
theorem dX7_truth_149 : decode cX7_truth 149 = .ok (.isub, 1) := by decide +kernel
theorem dX7_truth_150 : decode cX7_truth 150 = .ok (.iastore, 1) := by decide +kernel
theorem dX7_truth_151 : decode cX7_truth 151 = .ok (.goto 86, 3) := by decide +kernel
theorem dX7_truth_154 : decode cX7_truth 154 = .ok (.aload_n 0, 1) := by decide +kernel
theorem dX7_truth_155 : decode cX7_truth 155 = .ok (.dup, 1) := by decide +kernel
theorem dX7_truth_156 : decode cX7_truth 156 = .ok (.getfield 149, 3) := by decide +kernel
theorem dX7_truth_159 : decode cX7_truth 159 = .ok (.iconst 1, 1) := by decide +kernel
theorem dX7_truth_160 : decode cX7_truth 160 = .ok (.isub, 1) := by decide +kernel
theorem dX7_truth_161 : decode cX7_truth 161 = .ok (.putfield 149, 3) := by decide +kernel
theorem dX7_truth_164 : decode cX7_truth 164 = .ok (.aload_n 0, 1) := by decide +kernel
theorem dX7_truth_165 : decode cX7_truth 165 = .ok (.getfield 34, 3) := by decide +kernel
theorem dX7_truth_168 : decode cX7_truth 168 = .ok (.aload_n 0, 1) := by decide +kernel
theorem dX7_truth_169 : decode cX7_truth 169 = .ok (.getfield 149, 3) := by decide +kernel
theorem dX7_truth_172 : decode cX7_truth 172 = .ok (.iconst 1, 1) := by decide +kernel
theorem dX7_truth_173 : decode cX7_truth 173 = .ok (.isub, 1) := by decide +kernel
theorem dX7_truth_174 : decode cX7_truth 174 = .ok (.iaload, 1) := by decide +kernel
theorem dX7_truth_175 : decode cX7_truth 175 = .ok (.istore 5, 2) := by decide +kernel
theorem dX7_truth_177 : decode cX7_truth 177 = .ok (.aload_n 0, 1) := by decide +kernel
theorem dX7_truth_178 : decode cX7_truth 178 = .ok (.getfield 34, 3) := by decide +kernel
theorem dX7_truth_181 : decode cX7_truth 181 = .ok (.aload_n 0, 1) := by decide +kernel
theorem dX7_truth_182 : decode cX7_truth 182 = .ok (.getfield 149, 3) := by decide +kernel
theorem dX7_truth_185 : decode cX7_truth 185 = .ok (.iaload, 1) := by decide +kernel
theorem dX7_truth_186 : decode cX7_truth 186 = .ok (.istore 6, 2) := by decide +kernel
theorem dX7_truth_188 : decode cX7_truth 188 = .ok (.aload_n 0, 1) := by decide +kernel
theorem dX7_truth_189 : decode cX7_truth 189 = .ok (.getfield 34, 3) := by decide +kernel
theorem dX7_truth_192 : decode cX7_truth 192 = .ok (.aload_n 0, 1) := by decide +kernel
theorem dX7_truth_193 : decode cX7_truth 193 = .ok (.getfield 149, 3) := by decide +kernel
theorem dX7_truth_196 : decode cX7_truth 196 = .ok (.iconst 1, 1) := by decide +kernel
theorem dX7_truth_197 : decode cX7_truth 197 = .ok (.isub, 1) := by decide +kernel
theorem dX7_truth_198 : decode cX7_truth 198 = .ok (.aload_n 0, 1) := by decide +kernel
theorem dX7_truth_199 : decode cX7_truth 199 = .ok (.getfield 22, 3) := by decide +kernel
theorem dX7_truth_202 : decode cX7_truth 202 = .ok (.iload 4, 2) := by decide +kernel
theorem dX7_truth_204 : decode cX7_truth 204 = .ok (.iaload, 1) := by decide +kernel
theorem dX7_truth_205 : decode cX7_truth 205 = .ok (.iconst 2, 1) := by decide +kernel
theorem dX7_truth_206 : decode cX7_truth 206 = .ok (.if_icmp .ne 7, 3) := by decide +kernel
theorem dX7_truth_209 : decode cX7_truth 209 = .ok (.iconst 1, 1) := by decide +kernel
theorem dX7_truth_210 : decode cX7_truth 210 = .ok (.goto 4, 3) := by decide +kernel
theorem dX7_truth_213 : decode cX7_truth 213 = .ok (.iconst 0, 1) := by decide +kernel
theorem dX7_truth_214 : decode cX7_truth 214 = .ok (.iload 5, 2) := by decide +kernel
theorem dX7_truth_216 : decode cX7_truth 216 = .ok (.iload 6, 2) := by decide +kernel
theorem dX7_truth_218 : decode cX7_truth 218 = .ok (.if_icmp .ge 7, 3) := by decide +kernel
theorem dX7_truth_221 : decode cX7_truth 221 = .ok (.iconst 1, 1) := by decide +kernel
theorem dX7_truth_222 : decode cX7_truth 222 = .ok (.goto 4, 3) := by decide +kernel
theorem dX7_truth_225 : decode cX7_truth 225 = .ok (.iconst 0, 1) := by decide +kernel
theorem dX7_truth_226 : decode cX7_truth 226 = .ok (.if_icmp .ne 8, 3) := by decide +kernel
theorem dX7_truth_229 : decode cX7_truth 229 = .ok (.iload 5, 2) := by decide +kernel
theorem dX7_truth_231 : decode cX7_truth 231 = .ok (.goto 5, 3) := by decide +kernel
theorem dX7_truth_234 : decode cX7_truth 234 = .ok (.iload 6, 2) := by decide +kernel
theorem dX7_truth_236 : decode cX7_truth 236 = .ok (.iastore, 1) := by decide +kernel
theorem dX7_truth_237 : decode cX7_truth 237 = .ok (.iinc 4 1, 3) := by decide +kernel
theorem dX7_truth_240 : decode cX7_truth 240 = .ok (.goto (-232), 3) := by decide +kernel
theorem dX7_truth_243 : decode cX7_truth 243 = .ok (.aload_n 0, 1) := by decide +kernel
theorem dX7_truth_244 : decode cX7_truth 244 = .ok (.getfield 34, 3) := by decide +kernel
theorem dX7_truth_247 : decode cX7_truth 247 = .ok (.iconst 0, 1) := by decide +kernel
theorem dX7_truth_248 : decode cX7_truth 248 = .ok (.iaload, 1) := by decide +kernel
theorem dX7_truth_249 : decode cX7_truth 249 = .ok (.ireturn, 1) := by decide +kernel
theorem dX7_passing_0 : decode cX7_passing 0 = .ok (.iconst 0, 1) := by decide +kernel
theorem dX7_passing_1 : decode cX7_passing 1 = .ok (.istore 4, 2) := by decide +kernel
theorem dX7_passing_3 : decode cX7_passing 3 = .ok (.iload_n 0, 1) := by decide +kernel
theorem dX7_passing_4 : decode cX7_passing 4 = .ok (.istore 5, 2) := by decide +kernel
theorem dX7_passing_6 : decode cX7_passing 6 = .ok (.iload 5, 2) := by decide +kernel
theorem dX7_passing_8 : decode cX7_passing 8 = .ok (.iload_n 1, 1) := by decide +kernel
theorem dX7_passing_9 : decode cX7_passing 9 = .ok (.if_icmp .gt 29, 3) := by decide +kernel
theorem dX7_passing_12 : decode cX7_passing 12 = .ok (.iload 4, 2) := by decide +kernel
theorem dX7_passing_14 : decode cX7_passing 14 = .ok (.iload 5, 2) := by decide +kernel
theorem dX7_passing_16 : decode cX7_passing 16 = .ok (.iload_n 2, 1) := by decide +kernel
theorem dX7_passing_17 : decode cX7_passing 17 = .ok (.iload_n 3, 1) := by decide +kernel
theorem dX7_passing_18 : decode cX7_passing 18 = .ok (.invokestatic 152, 3) := by decide +kernel
theorem dX7_passing_21 : decode cX7_passing 21 = .ok (.ifCond .eq 7, 3) := by decide +kernel
theorem dX7_passing_24 : decode cX7_passing 24 = .ok (.iconst 1, 1) := by decide +kernel
theorem dX7_passing_25 : decode cX7_passing 25 = .ok (.goto 4, 3) := by decide +kernel
theorem dX7_passing_28 : decode cX7_passing 28 = .ok (.iconst 0, 1) := by decide +kernel
theorem dX7_passing_29 : decode cX7_passing 29 = .ok (.iadd, 1) := by decide +kernel
theorem dX7_passing_30 : decode cX7_passing 30 = .ok (.istore 4, 2) := by decide +kernel
theorem dX7_passing_32 : decode cX7_passing 32 = .ok (.iinc 5 1, 3) := by decide +kernel
theorem dX7_passing_35 : decode cX7_passing 35 = .ok (.goto (-29), 3) := by decide +kernel
theorem dX7_passing_38 : decode cX7_passing 38 = .ok (.iload 4, 2) := by decide +kernel
theorem dX7_passing_40 : decode cX7_passing 40 = .ok (.ireturn, 1) := by decide +kernel
theorem dX7_canHold_0 : decode cX7_canHold 0 = .ok (.aload_n 0, 1) := by decide +kernel
theorem dX7_canHold_1 : decode cX7_canHold 1 = .ok (.iconst 0, 1) := by decide +kernel
theorem dX7_canHold_2 : decode cX7_canHold 2 = .ok (.putfield 149, 3) := by decide +kernel
theorem dX7_canHold_5 : decode cX7_canHold 5 = .ok (.iconst 0, 1) := by decide +kernel
theorem dX7_canHold_6 : decode cX7_canHold 6 = .ok (.istore_n 3, 1) := by decide +kernel
theorem dX7_canHold_7 : decode cX7_canHold 7 = .ok (.iload_n 3, 1) := by decide +kernel
theorem dX7_canHold_8 : decode cX7_canHold 8 = .ok (.aload_n 0, 1) := by decide +kernel
theorem dX7_canHold_9 : decode cX7_canHold 9 = .ok (.getfield 119, 3) := by decide +kernel
theorem dX7_canHold_12 : decode cX7_canHold 12 = .ok (.if_icmp .ge 297, 3) := by decide +kernel
theorem dX7_canHold_15 : decode cX7_canHold 15 = .ok (.aload_n 0, 1) := by decide +kernel
theorem dX7_canHold_16 : decode cX7_canHold 16 = .ok (.getfield 22, 3) := by decide +kernel
theorem dX7_canHold_19 : decode cX7_canHold 19 = .ok (.iload_n 3, 1) := by decide +kernel
theorem dX7_canHold_20 : decode cX7_canHold 20 = .ok (.iaload, 1) := by decide +kernel
theorem dX7_canHold_21 : decode cX7_canHold 21 = .ok (.iconst 5, 1) := by decide +kernel
theorem dX7_canHold_22 : decode cX7_canHold 22 = .ok (.if_icmp .ne 54, 3) := by decide +kernel
theorem dX7_canHold_25 : decode cX7_canHold 25 = .ok (.iload_n 1, 1) := by decide +kernel
theorem dX7_canHold_26 : decode cX7_canHold 26 = .ok (.iload_n 2, 1) := by decide +kernel
theorem dX7_canHold_27 : decode cX7_canHold 27 = .ok (.aload_n 0, 1) := by decide +kernel
theorem dX7_canHold_28 : decode cX7_canHold 28 = .ok (.getfield 25, 3) := by decide +kernel
theorem dX7_canHold_31 : decode cX7_canHold 31 = .ok (.iload_n 3, 1) := by decide +kernel
theorem dX7_canHold_32 : decode cX7_canHold 32 = .ok (.iaload, 1) := by decide +kernel
theorem dX7_canHold_33 : decode cX7_canHold 33 = .ok (.aload_n 0, 1) := by decide +kernel
theorem dX7_canHold_34 : decode cX7_canHold 34 = .ok (.getfield 28, 3) := by decide +kernel
theorem dX7_canHold_37 : decode cX7_canHold 37 = .ok (.iload_n 3, 1) := by decide +kernel
theorem dX7_canHold_38 : decode cX7_canHold 38 = .ok (.iaload, 1) := by decide +kernel
theorem dX7_canHold_39 : decode cX7_canHold 39 = .ok (.invokestatic 159, 3) := by decide +kernel
theorem dX7_canHold_42 : decode cX7_canHold 42 = .ok (.istore 4, 2) := by decide +kernel
theorem dX7_canHold_44 : decode cX7_canHold 44 = .ok (.aload_n 0, 1) := by decide +kernel
theorem dX7_canHold_45 : decode cX7_canHold 45 = .ok (.iload 4, 2) := by decide +kernel
theorem dX7_canHold_47 : decode cX7_canHold 47 = .ok (.ifCond .le 7, 3) := by decide +kernel
theorem dX7_canHold_50 : decode cX7_canHold 50 = .ok (.iconst 1, 1) := by decide +kernel
theorem dX7_canHold_51 : decode cX7_canHold 51 = .ok (.goto 4, 3) := by decide +kernel
theorem dX7_canHold_54 : decode cX7_canHold 54 = .ok (.iconst 0, 1) := by decide +kernel
theorem dX7_canHold_55 : decode cX7_canHold 55 = .ok (.iload 4, 2) := by decide +kernel
theorem dX7_canHold_57 : decode cX7_canHold 57 = .ok (.iload_n 2, 1) := by decide +kernel
theorem dX7_canHold_58 : decode cX7_canHold 58 = .ok (.iload_n 1, 1) := by decide +kernel
theorem dX7_canHold_59 : decode cX7_canHold 59 = .ok (.isub, 1) := by decide +kernel
theorem dX7_canHold_60 : decode cX7_canHold 60 = .ok (.iconst 1, 1) := by decide +kernel
theorem dX7_canHold_61 : decode cX7_canHold 61 = .ok (.iadd, 1) := by decide +kernel
theorem dX7_canHold_62 : decode cX7_canHold 62 = .ok (.if_icmp .ne 7, 3) := by decide +kernel
theorem dX7_canHold_65 : decode cX7_canHold 65 = .ok (.iconst 1, 1) := by decide +kernel
theorem dX7_canHold_66 : decode cX7_canHold 66 = .ok (.goto 4, 3) := by decide +kernel
theorem dX7_canHold_69 : decode cX7_canHold 69 = .ok (.iconst 0, 1) := by decide +kernel
theorem dX7_canHold_70 : decode cX7_canHold 70 = .ok (.invokevirtual 155, 3) := by decide +kernel
theorem dX7_canHold_73 : decode cX7_canHold 73 = .ok (.goto 230, 3) := by decide +kernel
theorem dX7_canHold_76 : decode cX7_canHold 76 = .ok (.aload_n 0, 1) := by decide +kernel
theorem dX7_canHold_77 : decode cX7_canHold 77 = .ok (.getfield 22, 3) := by decide +kernel
theorem dX7_canHold_80 : decode cX7_canHold 80 = .ok (.iload_n 3, 1) := by decide +kernel
theorem dX7_canHold_81 : decode cX7_canHold 81 = .ok (.iaload, 1) := by decide +kernel
theorem dX7_canHold_82 : decode cX7_canHold 82 = .ok (.bipush 6, 2) := by decide +kernel
theorem dX7_canHold_84 : decode cX7_canHold 84 = .ok (.if_icmp .ne 12, 3) := by decide +kernel
theorem dX7_canHold_87 : decode cX7_canHold 87 = .ok (.aload_n 0, 1) := by decide +kernel
theorem dX7_canHold_88 : decode cX7_canHold 88 = .ok (.iconst 1, 1) := by decide +kernel
theorem dX7_canHold_89 : decode cX7_canHold 89 = .ok (.iconst 0, 1) := by decide +kernel
theorem dX7_canHold_90 : decode cX7_canHold 90 = .ok (.invokevirtual 155, 3) := by decide +kernel
theorem dX7_canHold_93 : decode cX7_canHold 93 = .ok (.goto 210, 3) := by decide +kernel
theorem dX7_canHold_96 : decode cX7_canHold 96 = .ok (.aload_n 0, 1) := by decide +kernel
theorem dX7_canHold_97 : decode cX7_canHold 97 = .ok (.getfield 22, 3) := by decide +kernel
theorem dX7_canHold_100 : decode cX7_canHold 100 = .ok (.iload_n 3, 1) := by decide +kernel
theorem dX7_canHold_101 : decode cX7_canHold 101 = .ok (.iaload, 1) := by decide +kernel
theorem dX7_canHold_102 : decode cX7_canHold 102 = .ok (.iconst 1, 1) := by decide +kernel
theorem dX7_canHold_103 : decode cX7_canHold 103 = .ok (.if_icmp .ne 58, 3) := by decide +kernel
theorem dX7_canHold_106 : decode cX7_canHold 106 = .ok (.aload_n 0, 1) := by decide +kernel
theorem dX7_canHold_107 : decode cX7_canHold 107 = .ok (.getfield 34, 3) := by decide +kernel
theorem dX7_canHold_110 : decode cX7_canHold 110 = .ok (.aload_n 0, 1) := by decide +kernel
theorem dX7_canHold_111 : decode cX7_canHold 111 = .ok (.getfield 149, 3) := by decide +kernel
theorem dX7_canHold_114 : decode cX7_canHold 114 = .ok (.iconst 1, 1) := by decide +kernel
theorem dX7_canHold_115 : decode cX7_canHold 115 = .ok (.isub, 1) := by decide +kernel
theorem dX7_canHold_116 : decode cX7_canHold 116 = .ok (.iaload, 1) := by decide +kernel
theorem dX7_canHold_117 : decode cX7_canHold 117 = .ok (.istore 4, 2) := by decide +kernel
theorem dX7_canHold_119 : decode cX7_canHold 119 = .ok (.aload_n 0, 1) := by decide +kernel
theorem dX7_canHold_120 : decode cX7_canHold 120 = .ok (.getfield 34, 3) := by decide +kernel
theorem dX7_canHold_123 : decode cX7_canHold 123 = .ok (.aload_n 0, 1) := by decide +kernel
theorem dX7_canHold_124 : decode cX7_canHold 124 = .ok (.getfield 149, 3) := by decide +kernel
theorem dX7_canHold_127 : decode cX7_canHold 127 = .ok (.iconst 1, 1) := by decide +kernel
theorem dX7_canHold_128 : decode cX7_canHold 128 = .ok (.isub, 1) := by decide +kernel
theorem dX7_canHold_129 : decode cX7_canHold 129 = .ok (.iconst 1, 1) := by decide +kernel
theorem dX7_canHold_130 : decode cX7_canHold 130 = .ok (.aload_n 0, 1) := by decide +kernel
theorem dX7_canHold_131 : decode cX7_canHold 131 = .ok (.getfield 37, 3) := by decide +kernel
theorem dX7_canHold_134 : decode cX7_canHold 134 = .ok (.aload_n 0, 1) := by decide +kernel
theorem dX7_canHold_135 : decode cX7_canHold 135 = .ok (.getfield 149, 3) := by decide +kernel
theorem dX7_canHold_138 : decode cX7_canHold 138 = .ok (.iconst 1, 1) := by decide +kernel
theorem dX7_canHold_139 : decode cX7_canHold 139 = .ok (.isub, 1) := by decide +kernel
theorem dX7_canHold_140 : decode cX7_canHold 140 = .ok (.iaload, 1) := by decide +kernel
theorem dX7_canHold_141 : decode cX7_canHold 141 = .ok (.isub, 1) := by decide +kernel
theorem dX7_canHold_142 : decode cX7_canHold 142 = .ok (.iastore, 1) := by decide +kernel
theorem dX7_canHold_143 : decode cX7_canHold 143 = .ok (.aload_n 0, 1) := by decide +kernel
theorem dX7_canHold_144 : decode cX7_canHold 144 = .ok (.getfield 37, 3) := by decide +kernel
theorem dX7_canHold_147 : decode cX7_canHold 147 = .ok (.aload_n 0, 1) := by decide +kernel
theorem dX7_canHold_148 : decode cX7_canHold 148 = .ok (.getfield 149, 3) := by decide +kernel
theorem dX7_canHold_151 : decode cX7_canHold 151 = .ok (.iconst 1, 1) := by decide +kernel
theorem dX7_canHold_152 : decode cX7_canHold 152 = .ok (.isub, 1) := by decide +kernel
theorem dX7_canHold_153 : decode cX7_canHold 153 = .ok (.iconst 1, 1) := by decide +kernel
theorem dX7_canHold_154 : decode cX7_canHold 154 = .ok (.iload 4, 2) := by decide +kernel
theorem dX7_canHold_156 : decode cX7_canHold 156 = .ok (.isub, 1) := by decide +kernel
theorem dX7_canHold_157 : decode cX7_canHold 157 = .ok (.iastore, 1) := by decide +kernel
theorem dX7_canHold_158 : decode cX7_canHold 158 = .ok (.goto 145, 3) := by decide +kernel
theorem dX7_canHold_161 : decode cX7_canHold 161 = .ok (.aload_n 0, 1) := by decide +kernel
theorem dX7_canHold_162 : decode cX7_canHold 162 = .ok (.dup, 1) := by decide +kernel
theorem dX7_canHold_163 : decode cX7_canHold 163 = .ok (.getfield 149, 3) := by decide +kernel
theorem dX7_canHold_166 : decode cX7_canHold 166 = .ok (.iconst 1, 1) := by decide +kernel
theorem dX7_canHold_167 : decode cX7_canHold 167 = .ok (.isub, 1) := by decide +kernel
theorem dX7_canHold_168 : decode cX7_canHold 168 = .ok (.putfield 149, 3) := by decide +kernel
theorem dX7_canHold_171 : decode cX7_canHold 171 = .ok (.aload_n 0, 1) := by decide +kernel
theorem dX7_canHold_172 : decode cX7_canHold 172 = .ok (.getfield 34, 3) := by decide +kernel
theorem dX7_canHold_175 : decode cX7_canHold 175 = .ok (.aload_n 0, 1) := by decide +kernel
theorem dX7_canHold_176 : decode cX7_canHold 176 = .ok (.getfield 149, 3) := by decide +kernel
theorem dX7_canHold_179 : decode cX7_canHold 179 = .ok (.iconst 1, 1) := by decide +kernel
theorem dX7_canHold_180 : decode cX7_canHold 180 = .ok (.isub, 1) := by decide +kernel
theorem dX7_canHold_181 : decode cX7_canHold 181 = .ok (.aload_n 0, 1) := by decide +kernel
theorem dX7_canHold_182 : decode cX7_canHold 182 = .ok (.getfield 22, 3) := by decide +kernel
theorem dX7_canHold_185 : decode cX7_canHold 185 = .ok (.iload_n 3, 1) := by decide +kernel
theorem dX7_canHold_186 : decode cX7_canHold 186 = .ok (.iaload, 1) := by decide +kernel
theorem dX7_canHold_187 : decode cX7_canHold 187 = .ok (.iconst 2, 1) := by decide +kernel
theorem dX7_canHold_188 : decode cX7_canHold 188 = .ok (.if_icmp .ne 27, 3) := by decide +kernel
theorem dX7_canHold_191 : decode cX7_canHold 191 = .ok (.aload_n 0, 1) := by decide +kernel
theorem dX7_canHold_192 : decode cX7_canHold 192 = .ok (.getfield 34, 3) := by decide +kernel
theorem dX7_canHold_195 : decode cX7_canHold 195 = .ok (.aload_n 0, 1) := by decide +kernel
theorem dX7_canHold_196 : decode cX7_canHold 196 = .ok (.getfield 149, 3) := by decide +kernel
theorem dX7_canHold_199 : decode cX7_canHold 199 = .ok (.iconst 1, 1) := by decide +kernel
theorem dX7_canHold_200 : decode cX7_canHold 200 = .ok (.isub, 1) := by decide +kernel
theorem dX7_canHold_201 : decode cX7_canHold 201 = .ok (.iaload, 1) := by decide +kernel
theorem dX7_canHold_202 : decode cX7_canHold 202 = .ok (.aload_n 0, 1) := by decide +kernel
theorem dX7_canHold_203 : decode cX7_canHold 203 = .ok (.getfield 34, 3) := by decide +kernel
theorem dX7_canHold_206 : decode cX7_canHold 206 = .ok (.aload_n 0, 1) := by decide +kernel
theorem dX7_canHold_207 : decode cX7_canHold 207 = .ok (.getfield 149, 3) := by decide +kernel
theorem dX7_canHold_210 : decode cX7_canHold 210 = .ok (.iaload, 1) := by decide +kernel
theorem dX7_canHold_211 : decode cX7_canHold 211 = .ok (.iand, 1) := by decide +kernel
theorem dX7_canHold_212 : decode cX7_canHold 212 = .ok (.goto 24, 3) := by decide +kernel
theorem dX7_canHold_215 : decode cX7_canHold 215 = .ok (.aload_n 0, 1) := by decide +kernel
theorem dX7_canHold_216 : decode cX7_canHold 216 = .ok (.getfield 34, 3) := by decide +kernel
theorem dX7_canHold_219 : decode cX7_canHold 219 = .ok (.aload_n 0, 1) := by decide +kernel
theorem dX7_canHold_220 : decode cX7_canHold 220 = .ok (.getfield 149, 3) := by decide +kernel
theorem dX7_canHold_223 : decode cX7_canHold 223 = .ok (.iconst 1, 1) := by decide +kernel
theorem dX7_canHold_224 : decode cX7_canHold 224 = .ok (.isub, 1) := by decide +kernel
theorem dX7_canHold_225 : decode cX7_canHold 225 = .ok (.iaload, 1) := by decide +kernel
theorem dX7_canHold_226 : decode cX7_canHold 226 = .ok (.aload_n 0, 1) := by decide +kernel
theorem dX7_canHold_227 : decode cX7_canHold 227 = .ok (.getfield 34, 3) := by decide +kernel
theorem dX7_canHold_230 : decode cX7_canHold 230 = .ok (.aload_n 0, 1) := by decide +kernel
theorem dX7_canHold_231 : decode cX7_canHold 231 = .ok (.getfield 149, 3) := by decide +kernel
theorem dX7_canHold_234 : decode cX7_canHold 234 = .ok (.iaload, 1) := by decide +kernel
theorem dX7_canHold_235 : decode cX7_canHold 235 = .ok (.ior, 1) := by decide +kernel
theorem dX7_canHold_236 : decode cX7_canHold 236 = .ok (.iastore, 1) := by decide +kernel
theorem dX7_canHold_237 : decode cX7_canHold 237 = .ok (.aload_n 0, 1) := by decide +kernel
theorem dX7_canHold_238 : decode cX7_canHold 238 = .ok (.getfield 37, 3) := by decide +kernel
theorem dX7_canHold_241 : decode cX7_canHold 241 = .ok (.aload_n 0, 1) := by decide +kernel
theorem dX7_canHold_242 : decode cX7_canHold 242 = .ok (.getfield 149, 3) := by decide +kernel
theorem dX7_canHold_245 : decode cX7_canHold 245 = .ok (.iconst 1, 1) := by decide +kernel
theorem dX7_canHold_246 : decode cX7_canHold 246 = .ok (.isub, 1) := by decide +kernel
theorem dX7_canHold_247 : decode cX7_canHold 247 = .ok (.aload_n 0, 1) := by decide +kernel
theorem dX7_canHold_248 : decode cX7_canHold 248 = .ok (.getfield 22, 3) := by decide +kernel
theorem dX7_canHold_251 : decode cX7_canHold 251 = .ok (.iload_n 3, 1) := by decide +kernel
theorem dX7_canHold_252 : decode cX7_canHold 252 = .ok (.iaload, 1) := by decide +kernel
theorem dX7_canHold_253 : decode cX7_canHold 253 = .ok (.iconst 2, 1) := by decide +kernel
theorem dX7_canHold_254 : decode cX7_canHold 254 = .ok (.if_icmp .ne 27, 3) := by decide +kernel
theorem dX7_canHold_257 : decode cX7_canHold 257 = .ok (.aload_n 0, 1) := by decide +kernel
theorem dX7_canHold_258 : decode cX7_canHold 258 = .ok (.getfield 37, 3) := by decide +kernel
theorem dX7_canHold_261 : decode cX7_canHold 261 = .ok (.aload_n 0, 1) := by decide +kernel
theorem dX7_canHold_262 : decode cX7_canHold 262 = .ok (.getfield 149, 3) := by decide +kernel
theorem dX7_canHold_265 : decode cX7_canHold 265 = .ok (.iconst 1, 1) := by decide +kernel
theorem dX7_canHold_266 : decode cX7_canHold 266 = .ok (.isub, 1) := by decide +kernel
theorem dX7_canHold_267 : decode cX7_canHold 267 = .ok (.iaload, 1) := by decide +kernel
theorem dX7_canHold_268 : decode cX7_canHold 268 = .ok (.aload_n 0, 1) := by decide +kernel
theorem dX7_canHold_269 : decode cX7_canHold 269 = .ok (.getfield 37, 3) := by decide +kernel
theorem dX7_canHold_272 : decode cX7_canHold 272 = .ok (.aload_n 0, 1) := by decide +kernel
theorem dX7_canHold_273 : decode cX7_canHold 273 = .ok (.getfield 149, 3) := by decide +kernel
theorem dX7_canHold_276 : decode cX7_canHold 276 = .ok (.iaload, 1) := by decide +kernel
theorem dX7_canHold_277 : decode cX7_canHold 277 = .ok (.iand, 1) := by decide +kernel
theorem dX7_canHold_278 : decode cX7_canHold 278 = .ok (.goto 24, 3) := by decide +kernel
theorem dX7_canHold_281 : decode cX7_canHold 281 = .ok (.aload_n 0, 1) := by decide +kernel
theorem dX7_canHold_282 : decode cX7_canHold 282 = .ok (.getfield 37, 3) := by decide +kernel
theorem dX7_canHold_285 : decode cX7_canHold 285 = .ok (.aload_n 0, 1) := by decide +kernel
theorem dX7_canHold_286 : decode cX7_canHold 286 = .ok (.getfield 149, 3) := by decide +kernel
theorem dX7_canHold_289 : decode cX7_canHold 289 = .ok (.iconst 1, 1) := by decide +kernel
theorem dX7_canHold_290 : decode cX7_canHold 290 = .ok (.isub, 1) := by decide +kernel
theorem dX7_canHold_291 : decode cX7_canHold 291 = .ok (.iaload, 1) := by decide +kernel
theorem dX7_canHold_292 : decode cX7_canHold 292 = .ok (.aload_n 0, 1) := by decide +kernel
theorem dX7_canHold_293 : decode cX7_canHold 293 = .ok (.getfield 37, 3) := by decide +kernel
theorem dX7_canHold_296 : decode cX7_canHold 296 = .ok (.aload_n 0, 1) := by decide +kernel
theorem dX7_canHold_297 : decode cX7_canHold 297 = .ok (.getfield 149, 3) := by decide +kernel
theorem dX7_canHold_300 : decode cX7_canHold 300 = .ok (.iaload, 1) := by decide +kernel
theorem dX7_canHold_301 : decode cX7_canHold 301 = .ok (.ior, 1) := by decide +kernel
theorem dX7_canHold_302 : decode cX7_canHold 302 = .ok (.iastore, 1) := by decide +kernel
theorem dX7_canHold_303 : decode cX7_canHold 303 = .ok (.iinc 3 1, 3) := by decide +kernel
theorem dX7_canHold_306 : decode cX7_canHold 306 = .ok (.goto (-299), 3) := by decide +kernel
theorem dX7_canHold_309 : decode cX7_canHold 309 = .ok (.aload_n 0, 1) := by decide +kernel
theorem dX7_canHold_310 : decode cX7_canHold 310 = .ok (.getfield 34, 3) := by decide +kernel
theorem dX7_canHold_313 : decode cX7_canHold 313 = .ok (.iconst 0, 1) := by decide +kernel
theorem dX7_canHold_314 : decode cX7_canHold 314 = .ok (.iaload, 1) := by decide +kernel
theorem dX7_canHold_315 : decode cX7_canHold 315 = .ok (.iconst 1, 1) := by decide +kernel
theorem dX7_canHold_316 : decode cX7_canHold 316 = .ok (.if_icmp .ne 7, 3) := by decide +kernel
theorem dX7_canHold_319 : decode cX7_canHold 319 = .ok (.iconst 1, 1) := by decide +kernel
theorem dX7_canHold_320 : decode cX7_canHold 320 = .ok (.goto 4, 3) := by decide +kernel
theorem dX7_canHold_323 : decode cX7_canHold 323 = .ok (.iconst 0, 1) := by decide +kernel
theorem dX7_canHold_324 : decode cX7_canHold 324 = .ok (.ireturn, 1) := by decide +kernel
theorem dX7_hasKey_0 : decode cX7_hasKey 0 = .ok (.iconst 0, 1) := by decide +kernel
theorem dX7_hasKey_1 : decode cX7_hasKey 1 = .ok (.istore_n 2, 1) := by decide +kernel
theorem dX7_hasKey_2 : decode cX7_hasKey 2 = .ok (.iload_n 2, 1) := by decide +kernel
theorem dX7_hasKey_3 : decode cX7_hasKey 3 = .ok (.sipush 1000, 3) := by decide +kernel
theorem dX7_hasKey_6 : decode cX7_hasKey 6 = .ok (.if_icmp .ge 57, 3) := by decide +kernel
theorem dX7_hasKey_9 : decode cX7_hasKey 9 = .ok (.iload_n 1, 1) := by decide +kernel
theorem dX7_hasKey_10 : decode cX7_hasKey 10 = .ok (.bipush 60, 2) := by decide +kernel
theorem dX7_hasKey_12 : decode cX7_hasKey 12 = .ok (.if_icmp .ne 22, 3) := by decide +kernel
theorem dX7_hasKey_15 : decode cX7_hasKey 15 = .ok (.aload_n 0, 1) := by decide +kernel
theorem dX7_hasKey_16 : decode cX7_hasKey 16 = .ok (.iload_n 2, 1) := by decide +kernel
theorem dX7_hasKey_17 : decode cX7_hasKey 17 = .ok (.invokevirtual 59, 3) := by decide +kernel
theorem dX7_hasKey_20 : decode cX7_hasKey 20 = .ok (.sipush (-1005), 3) := by decide +kernel
theorem dX7_hasKey_23 : decode cX7_hasKey 23 = .ok (.if_icmp .ne 7, 3) := by decide +kernel
theorem dX7_hasKey_26 : decode cX7_hasKey 26 = .ok (.iconst 1, 1) := by decide +kernel
theorem dX7_hasKey_27 : decode cX7_hasKey 27 = .ok (.goto 13, 3) := by decide +kernel
theorem dX7_hasKey_30 : decode cX7_hasKey 30 = .ok (.iconst 0, 1) := by decide +kernel
theorem dX7_hasKey_31 : decode cX7_hasKey 31 = .ok (.goto 9, 3) := by decide +kernel
theorem dX7_hasKey_34 : decode cX7_hasKey 34 = .ok (.aload_n 0, 1) := by decide +kernel
theorem dX7_hasKey_35 : decode cX7_hasKey 35 = .ok (.iload_n 1, 1) := by decide +kernel
theorem dX7_hasKey_36 : decode cX7_hasKey 36 = .ok (.iload_n 2, 1) := by decide +kernel
theorem dX7_hasKey_37 : decode cX7_hasKey 37 = .ok (.invokevirtual 55, 3) := by decide +kernel
theorem dX7_hasKey_40 : decode cX7_hasKey 40 = .ok (.istore_n 3, 1) := by decide +kernel
theorem dX7_hasKey_41 : decode cX7_hasKey 41 = .ok (.iload_n 3, 1) := by decide +kernel
theorem dX7_hasKey_42 : decode cX7_hasKey 42 = .ok (.ifCond .eq 15, 3) := by decide +kernel
theorem dX7_hasKey_45 : decode cX7_hasKey 45 = .ok (.aload_n 0, 1) := by decide +kernel
theorem dX7_hasKey_46 : decode cX7_hasKey 46 = .ok (.iload_n 2, 1) := by decide +kernel
theorem dX7_hasKey_47 : decode cX7_hasKey 47 = .ok (.iconst 0, 1) := by decide +kernel
theorem dX7_hasKey_48 : decode cX7_hasKey 48 = .ok (.iconst 0, 1) := by decide +kernel
theorem dX7_hasKey_49 : decode cX7_hasKey 49 = .ok (.invokevirtual 163, 3) := by decide +kernel
theorem dX7_hasKey_52 : decode cX7_hasKey 52 = .ok (.ifCond .le 5, 3) := by decide +kernel
theorem dX7_hasKey_55 : decode cX7_hasKey 55 = .ok (.iconst 1, 1) := by decide +kernel
theorem dX7_hasKey_56 : decode cX7_hasKey 56 = .ok (.ireturn, 1) := by decide +kernel
theorem dX7_hasKey_57 : decode cX7_hasKey 57 = .ok (.iinc 2 1, 3) := by decide +kernel
theorem dX7_hasKey_60 : decode cX7_hasKey 60 = .ok (.goto (-58), 3) := by decide +kernel
theorem dX7_hasKey_63 : decode cX7_hasKey 63 = .ok (.iconst 0, 1) := by decide +kernel
theorem dX7_hasKey_64 : decode cX7_hasKey 64 = .ok (.ireturn, 1) := by decide +kernel
theorem dX7_looks_0 : decode cX7_looks 0 = .ok (.iload_n 1, 1) := by decide +kernel
theorem dX7_looks_1 : decode cX7_looks 1 = .ok (.bipush 60, 2) := by decide +kernel
theorem dX7_looks_3 : decode cX7_looks 3 = .ok (.if_icmp .ne 14, 3) := by decide +kernel
theorem dX7_looks_6 : decode cX7_looks 6 = .ok (.aload_n 0, 1) := by decide +kernel
theorem dX7_looks_7 : decode cX7_looks 7 = .ok (.getfield 7, 3) := by decide +kernel
theorem dX7_looks_10 : decode cX7_looks 10 = .ok (.iconst 2, 1) := by decide +kernel
theorem dX7_looks_11 : decode cX7_looks 11 = .ok (.iaload, 1) := by decide +kernel
theorem dX7_looks_12 : decode cX7_looks 12 = .ok (.ifCond .ne 5, 3) := by decide +kernel
theorem dX7_looks_15 : decode cX7_looks 15 = .ok (.iconst 0, 1) := by decide +kernel
theorem dX7_looks_16 : decode cX7_looks 16 = .ok (.ireturn, 1) := by decide +kernel
theorem dX7_looks_17 : decode cX7_looks 17 = .ok (.iload_n 2, 1) := by decide +kernel
theorem dX7_looks_18 : decode cX7_looks 18 = .ok (.ifCond .eq 14, 3) := by decide +kernel
theorem dX7_looks_21 : decode cX7_looks 21 = .ok (.iload_n 1, 1) := by decide +kernel
theorem dX7_looks_22 : decode cX7_looks 22 = .ok (.bipush 60, 2) := by decide +kernel
theorem dX7_looks_24 : decode cX7_looks 24 = .ok (.if_icmp .ne 10, 3) := by decide +kernel
theorem dX7_looks_27 : decode cX7_looks 27 = .ok (.iload_n 2, 1) := by decide +kernel
theorem dX7_looks_28 : decode cX7_looks 28 = .ok (.iconst 1, 1) := by decide +kernel
theorem dX7_looks_29 : decode cX7_looks 29 = .ok (.if_icmp .ne 5, 3) := by decide +kernel
theorem dX7_looks_32 : decode cX7_looks 32 = .ok (.iconst 1, 1) := by decide +kernel
theorem dX7_looks_33 : decode cX7_looks 33 = .ok (.ireturn, 1) := by decide +kernel
theorem dX7_looks_34 : decode cX7_looks 34 = .ok (.iload_n 2, 1) := by decide +kernel
theorem dX7_looks_35 : decode cX7_looks 35 = .ok (.iconst 1, 1) := by decide +kernel
theorem dX7_looks_36 : decode cX7_looks 36 = .ok (.if_icmp .ne 32, 3) := by decide +kernel
theorem dX7_looks_39 : decode cX7_looks 39 = .ok (.aload_n 0, 1) := by decide +kernel
theorem dX7_looks_40 : decode cX7_looks 40 = .ok (.aload_n 0, 1) := by decide +kernel
theorem dX7_looks_41 : decode cX7_looks 41 = .ok (.getfield 7, 3) := by decide +kernel
theorem dX7_looks_44 : decode cX7_looks 44 = .ok (.sipush 1265, 3) := by decide +kernel
theorem dX7_looks_47 : decode cX7_looks 47 = .ok (.iload_n 1, 1) := by decide +kernel
theorem dX7_looks_48 : decode cX7_looks 48 = .ok (.iadd, 1) := by decide +kernel
theorem dX7_looks_49 : decode cX7_looks 49 = .ok (.iaload, 1) := by decide +kernel
theorem dX7_looks_50 : decode cX7_looks 50 = .ok (.aload_n 0, 1) := by decide +kernel
theorem dX7_looks_51 : decode cX7_looks 51 = .ok (.getfield 7, 3) := by decide +kernel
theorem dX7_looks_54 : decode cX7_looks 54 = .ok (.sipush 1325, 3) := by decide +kernel
theorem dX7_looks_57 : decode cX7_looks 57 = .ok (.iload_n 1, 1) := by decide +kernel
theorem dX7_looks_58 : decode cX7_looks 58 = .ok (.iadd, 1) := by decide +kernel
theorem dX7_looks_59 : decode cX7_looks 59 = .ok (.iaload, 1) := by decide +kernel
theorem dX7_looks_60 : decode cX7_looks 60 = .ok (.iconst 1, 1) := by decide +kernel
theorem dX7_looks_61 : decode cX7_looks 61 = .ok (.isub, 1) := by decide +kernel
theorem dX7_looks_62 : decode cX7_looks 62 = .ok (.invokevirtual 167, 3) := by decide +kernel
theorem dX7_looks_65 : decode cX7_looks 65 = .ok (.goto 8, 3) := by decide +kernel
theorem dX7_looks_68 : decode cX7_looks 68 = .ok (.aload_n 0, 1) := by decide +kernel
theorem dX7_looks_69 : decode cX7_looks 69 = .ok (.iload_n 1, 1) := by decide +kernel
theorem dX7_looks_70 : decode cX7_looks 70 = .ok (.invokevirtual 170, 3) := by decide +kernel
theorem dX7_looks_73 : decode cX7_looks 73 = .ok (.ireturn, 1) := by decide +kernel
theorem dX7_look_0 : decode cX7_look 0 = .ok (.iconst 0, 1) := by decide +kernel
theorem dX7_look_1 : decode cX7_look 1 = .ok (.istore_n 1, 1) := by decide +kernel
theorem dX7_look_2 : decode cX7_look 2 = .ok (.iload_n 1, 1) := by decide +kernel
theorem dX7_look_3 : decode cX7_look 3 = .ok (.bipush 60, 2) := by decide +kernel
theorem dX7_look_5 : decode cX7_look 5 = .ok (.if_icmp .gt 48, 3) := by decide +kernel
theorem dX7_look_8 : decode cX7_look 8 = .ok (.aload_n 0, 1) := by decide +kernel
theorem dX7_look_9 : decode cX7_look 9 = .ok (.getfield 40, 3) := by decide +kernel
theorem dX7_look_12 : decode cX7_look 12 = .ok (.iload_n 1, 1) := by decide +kernel
theorem dX7_look_13 : decode cX7_look 13 = .ok (.iload_n 1, 1) := by decide +kernel
theorem dX7_look_14 : decode cX7_look 14 = .ok (.bipush 60, 2) := by decide +kernel
theorem dX7_look_16 : decode cX7_look 16 = .ok (.if_icmp .eq 11, 3) := by decide +kernel
theorem dX7_look_19 : decode cX7_look 19 = .ok (.aload_n 0, 1) := by decide +kernel
theorem dX7_look_20 : decode cX7_look 20 = .ok (.iload_n 1, 1) := by decide +kernel
theorem dX7_look_21 : decode cX7_look 21 = .ok (.invokevirtual 51, 3) := by decide +kernel
theorem dX7_look_24 : decode cX7_look 24 = .ok (.ifCond .eq 21, 3) := by decide +kernel
theorem dX7_look_27 : decode cX7_look 27 = .ok (.aload_n 0, 1) := by decide +kernel
theorem dX7_look_28 : decode cX7_look 28 = .ok (.iload_n 1, 1) := by decide +kernel
theorem dX7_look_29 : decode cX7_look 29 = .ok (.aload_n 0, 1) := by decide +kernel
theorem dX7_look_30 : decode cX7_look 30 = .ok (.getfield 7, 3) := by decide +kernel
theorem dX7_look_33 : decode cX7_look 33 = .ok (.iconst 3, 1) := by decide +kernel
theorem dX7_look_34 : decode cX7_look 34 = .ok (.iaload, 1) := by decide +kernel
theorem dX7_look_35 : decode cX7_look 35 = .ok (.invokevirtual 173, 3) := by decide +kernel
theorem dX7_look_38 : decode cX7_look 38 = .ok (.ifCond .eq 7, 3) := by decide +kernel
theorem dX7_look_41 : decode cX7_look 41 = .ok (.iconst 1, 1) := by decide +kernel
theorem dX7_look_42 : decode cX7_look 42 = .ok (.goto 4, 3) := by decide +kernel
theorem dX7_look_45 : decode cX7_look 45 = .ok (.iconst 0, 1) := by decide +kernel
theorem dX7_look_46 : decode cX7_look 46 = .ok (.iastore, 1) := by decide +kernel
theorem dX7_look_47 : decode cX7_look 47 = .ok (.iinc 1 1, 3) := by decide +kernel
theorem dX7_look_50 : decode cX7_look 50 = .ok (.goto (-48), 3) := by decide +kernel
theorem dX7_look_53 : decode cX7_look 53 = .ok (.return_, 1) := by decide +kernel
theorem dX7_isPassed_0 : decode cX7_isPassed 0 = .ok (.aload_n 0, 1) := by decide +kernel
theorem dX7_isPassed_1 : decode cX7_isPassed 1 = .ok (.aload_n 0, 1) := by decide +kernel
theorem dX7_isPassed_2 : decode cX7_isPassed 2 = .ok (.getfield 7, 3) := by decide +kernel
theorem dX7_isPassed_5 : decode cX7_isPassed 5 = .ok (.iconst 5, 1) := by decide +kernel
theorem dX7_isPassed_6 : decode cX7_isPassed 6 = .ok (.iload_n 1, 1) := by decide +kernel
theorem dX7_isPassed_7 : decode cX7_isPassed 7 = .ok (.iadd, 1) := by decide +kernel
theorem dX7_isPassed_8 : decode cX7_isPassed 8 = .ok (.iaload, 1) := by decide +kernel
theorem dX7_isPassed_9 : decode cX7_isPassed 9 = .ok (.aload_n 0, 1) := by decide +kernel
theorem dX7_isPassed_10 : decode cX7_isPassed 10 = .ok (.getfield 7, 3) := by decide +kernel
theorem dX7_isPassed_13 : decode cX7_isPassed 13 = .ok (.sipush 405, 3) := by decide +kernel
theorem dX7_isPassed_16 : decode cX7_isPassed 16 = .ok (.iload_n 1, 1) := by decide +kernel
theorem dX7_isPassed_17 : decode cX7_isPassed 17 = .ok (.iadd, 1) := by decide +kernel
theorem dX7_isPassed_18 : decode cX7_isPassed 18 = .ok (.iaload, 1) := by decide +kernel
theorem dX7_isPassed_19 : decode cX7_isPassed 19 = .ok (.iconst 1, 1) := by decide +kernel
theorem dX7_isPassed_20 : decode cX7_isPassed 20 = .ok (.invokevirtual 163, 3) := by decide +kernel
theorem dX7_isPassed_23 : decode cX7_isPassed 23 = .ok (.iconst 2, 1) := by decide +kernel
theorem dX7_isPassed_24 : decode cX7_isPassed 24 = .ok (.if_icmp .ne 7, 3) := by decide +kernel
theorem dX7_isPassed_27 : decode cX7_isPassed 27 = .ok (.iconst 1, 1) := by decide +kernel
theorem dX7_isPassed_28 : decode cX7_isPassed 28 = .ok (.goto 4, 3) := by decide +kernel
theorem dX7_isPassed_31 : decode cX7_isPassed 31 = .ok (.iconst 0, 1) := by decide +kernel
theorem dX7_isPassed_32 : decode cX7_isPassed 32 = .ok (.ireturn, 1) := by decide +kernel
theorem dX7_isInTable_0 : decode cX7_isInTable 0 = .ok (.aload_n 0, 1) := by decide +kernel
theorem dX7_isInTable_1 : decode cX7_isInTable 1 = .ok (.getfield 7, 3) := by decide +kernel
theorem dX7_isInTable_4 : decode cX7_isInTable 4 = .ok (.sipush 805, 3) := by decide +kernel
theorem dX7_isInTable_7 : decode cX7_isInTable 7 = .ok (.iload_n 1, 1) := by decide +kernel
theorem dX7_isInTable_8 : decode cX7_isInTable 8 = .ok (.iadd, 1) := by decide +kernel
theorem dX7_isInTable_9 : decode cX7_isInTable 9 = .ok (.iaload, 1) := by decide +kernel
theorem dX7_isInTable_10 : decode cX7_isInTable 10 = .ok (.iconst (-1), 1) := by decide +kernel
theorem dX7_isInTable_11 : decode cX7_isInTable 11 = .ok (.if_icmp .eq 22, 3) := by decide +kernel
theorem dX7_isInTable_14 : decode cX7_isInTable 14 = .ok (.aload_n 0, 1) := by decide +kernel
theorem dX7_isInTable_15 : decode cX7_isInTable 15 = .ok (.getfield 7, 3) := by decide +kernel
theorem dX7_isInTable_18 : decode cX7_isInTable 18 = .ok (.sipush 805, 3) := by decide +kernel
theorem dX7_isInTable_21 : decode cX7_isInTable 21 = .ok (.iload_n 1, 1) := by decide +kernel
theorem dX7_isInTable_22 : decode cX7_isInTable 22 = .ok (.iadd, 1) := by decide +kernel
theorem dX7_isInTable_23 : decode cX7_isInTable 23 = .ok (.iaload, 1) := by decide +kernel
theorem dX7_isInTable_24 : decode cX7_isInTable 24 = .ok (.bipush 61, 2) := by decide +kernel
theorem dX7_isInTable_26 : decode cX7_isInTable 26 = .ok (.if_icmp .eq 7, 3) := by decide +kernel
theorem dX7_isInTable_29 : decode cX7_isInTable 29 = .ok (.iconst 1, 1) := by decide +kernel
theorem dX7_isInTable_30 : decode cX7_isInTable 30 = .ok (.goto 4, 3) := by decide +kernel
theorem dX7_isInTable_33 : decode cX7_isInTable 33 = .ok (.iconst 0, 1) := by decide +kernel
theorem dX7_isInTable_34 : decode cX7_isInTable 34 = .ok (.ireturn, 1) := by decide +kernel
theorem dX7_isAnswer_0 : decode cX7_isAnswer 0 = .ok (.aload_n 0, 1) := by decide +kernel
theorem dX7_isAnswer_1 : decode cX7_isAnswer 1 = .ok (.iload_n 1, 1) := by decide +kernel
theorem dX7_isAnswer_2 : decode cX7_isAnswer 2 = .ok (.invokevirtual 176, 3) := by decide +kernel
theorem dX7_isAnswer_5 : decode cX7_isAnswer 5 = .ok (.ifCond .eq 34, 3) := by decide +kernel
theorem dX7_isAnswer_8 : decode cX7_isAnswer 8 = .ok (.aload_n 0, 1) := by decide +kernel
theorem dX7_isAnswer_9 : decode cX7_isAnswer 9 = .ok (.getfield 40, 3) := by decide +kernel
theorem dX7_isAnswer_12 : decode cX7_isAnswer 12 = .ok (.aload_n 0, 1) := by decide +kernel
theorem dX7_isAnswer_13 : decode cX7_isAnswer 13 = .ok (.getfield 7, 3) := by decide +kernel
theorem dX7_isAnswer_16 : decode cX7_isAnswer 16 = .ok (.sipush 805, 3) := by decide +kernel
theorem dX7_isAnswer_19 : decode cX7_isAnswer 19 = .ok (.iload_n 1, 1) := by decide +kernel
theorem dX7_isAnswer_20 : decode cX7_isAnswer 20 = .ok (.iadd, 1) := by decide +kernel
theorem dX7_isAnswer_21 : decode cX7_isAnswer 21 = .ok (.iaload, 1) := by decide +kernel
theorem dX7_isAnswer_22 : decode cX7_isAnswer 22 = .ok (.iaload, 1) := by decide +kernel
theorem dX7_isAnswer_23 : decode cX7_isAnswer 23 = .ok (.iconst 1, 1) := by decide +kernel
theorem dX7_isAnswer_24 : decode cX7_isAnswer 24 = .ok (.if_icmp .ne 15, 3) := by decide +kernel
theorem dX7_isAnswer_27 : decode cX7_isAnswer 27 = .ok (.aload_n 0, 1) := by decide +kernel
theorem dX7_isAnswer_28 : decode cX7_isAnswer 28 = .ok (.iload_n 1, 1) := by decide +kernel
theorem dX7_isAnswer_29 : decode cX7_isAnswer 29 = .ok (.invokevirtual 179, 3) := by decide +kernel
theorem dX7_isAnswer_32 : decode cX7_isAnswer 32 = .ok (.ifCond .eq 7, 3) := by decide +kernel
theorem dX7_isAnswer_35 : decode cX7_isAnswer 35 = .ok (.iconst 1, 1) := by decide +kernel
theorem dX7_isAnswer_36 : decode cX7_isAnswer 36 = .ok (.goto 4, 3) := by decide +kernel
theorem dX7_isAnswer_39 : decode cX7_isAnswer 39 = .ok (.iconst 0, 1) := by decide +kernel
theorem dX7_isAnswer_40 : decode cX7_isAnswer 40 = .ok (.ireturn, 1) := by decide +kernel
theorem dX7_ask_0 : decode cX7_ask 0 = .ok (.aload_n 0, 1) := by decide +kernel
theorem dX7_ask_1 : decode cX7_ask 1 = .ok (.invokevirtual 142, 3) := by decide +kernel
theorem dX7_ask_4 : decode cX7_ask 4 = .ok (.sipush (-1005), 3) := by decide +kernel
theorem dX7_ask_7 : decode cX7_ask 7 = .ok (.if_icmp .eq 7, 3) := by decide +kernel
theorem dX7_ask_10 : decode cX7_ask 10 = .ok (.sipush (-1001), 3) := by decide +kernel
theorem dX7_ask_13 : decode cX7_ask 13 = .ok (.ireturn, 1) := by decide +kernel
theorem dX7_ask_14 : decode cX7_ask 14 = .ok (.iload_n 1, 1) := by decide +kernel
theorem dX7_ask_15 : decode cX7_ask 15 = .ok (.iconst 0, 1) := by decide +kernel
theorem dX7_ask_16 : decode cX7_ask 16 = .ok (.iconst 5, 1) := by decide +kernel
theorem dX7_ask_17 : decode cX7_ask 17 = .ok (.invokestatic 47, 3) := by decide +kernel
theorem dX7_ask_20 : decode cX7_ask 20 = .ok (.ifCond .ne 7, 3) := by decide +kernel
theorem dX7_ask_23 : decode cX7_ask 23 = .ok (.sipush (-1002), 3) := by decide +kernel
theorem dX7_ask_26 : decode cX7_ask 26 = .ok (.ireturn, 1) := by decide +kernel
theorem dX7_ask_27 : decode cX7_ask 27 = .ok (.aload_n 0, 1) := by decide +kernel
theorem dX7_ask_28 : decode cX7_ask 28 = .ok (.invokevirtual 182, 3) := by decide +kernel
theorem dX7_ask_31 : decode cX7_ask 31 = .ok (.iconst 0, 1) := by decide +kernel
theorem dX7_ask_32 : decode cX7_ask 32 = .ok (.istore_n 2, 1) := by decide +kernel
theorem dX7_ask_33 : decode cX7_ask 33 = .ok (.iconst 0, 1) := by decide +kernel
theorem dX7_ask_34 : decode cX7_ask 34 = .ok (.istore_n 3, 1) := by decide +kernel
theorem dX7_ask_35 : decode cX7_ask 35 = .ok (.iconst 0, 1) := by decide +kernel
theorem dX7_ask_36 : decode cX7_ask 36 = .ok (.istore 4, 2) := by decide +kernel
theorem dX7_ask_38 : decode cX7_ask 38 = .ok (.iconst 0, 1) := by decide +kernel
theorem dX7_ask_39 : decode cX7_ask 39 = .ok (.istore 5, 2) := by decide +kernel
theorem dX7_ask_41 : decode cX7_ask 41 = .ok (.iconst 0, 1) := by decide +kernel
theorem dX7_ask_42 : decode cX7_ask 42 = .ok (.istore 6, 2) := by decide +kernel
theorem dX7_ask_44 : decode cX7_ask 44 = .ok (.iconst 0, 1) := by decide +kernel
theorem dX7_ask_45 : decode cX7_ask 45 = .ok (.istore 7, 2) := by decide +kernel
theorem dX7_ask_47 : decode cX7_ask 47 = .ok (.iload 7, 2) := by decide +kernel
theorem dX7_ask_49 : decode cX7_ask 49 = .ok (.bipush 60, 2) := by decide +kernel
theorem dX7_ask_51 : decode cX7_ask 51 = .ok (.if_icmp .gt 21, 3) := by decide +kernel
theorem dX7_ask_54 : decode cX7_ask 54 = .ok (.iload 4, 2) := by decide +kernel
theorem dX7_ask_56 : decode cX7_ask 56 = .ok (.aload_n 0, 1) := by decide +kernel
theorem dX7_ask_57 : decode cX7_ask 57 = .ok (.getfield 40, 3) := by decide +kernel
theorem dX7_ask_60 : decode cX7_ask 60 = .ok (.iload 7, 2) := by decide +kernel
theorem dX7_ask_62 : decode cX7_ask 62 = .ok (.iaload, 1) := by decide +kernel
theorem dX7_ask_63 : decode cX7_ask 63 = .ok (.iadd, 1) := by decide +kernel
theorem dX7_ask_64 : decode cX7_ask 64 = .ok (.istore 4, 2) := by decide +kernel
theorem dX7_ask_66 : decode cX7_ask 66 = .ok (.iinc 7 1, 3) := by decide +kernel
theorem dX7_ask_69 : decode cX7_ask 69 = .ok (.goto (-22), 3) := by decide +kernel
theorem dX7_ask_72 : decode cX7_ask 72 = .ok (.iconst 0, 1) := by decide +kernel
theorem dX7_ask_73 : decode cX7_ask 73 = .ok (.istore 7, 2) := by decide +kernel
theorem dX7_ask_75 : decode cX7_ask 75 = .ok (.iload 7, 2) := by decide +kernel
theorem dX7_ask_77 : decode cX7_ask 77 = .ok (.aload_n 0, 1) := by decide +kernel
theorem dX7_ask_78 : decode cX7_ask 78 = .ok (.getfield 7, 3) := by decide +kernel
theorem dX7_ask_81 : decode cX7_ask 81 = .ok (.iconst 0, 1) := by decide +kernel
theorem dX7_ask_82 : decode cX7_ask 82 = .ok (.iaload, 1) := by decide +kernel
theorem dX7_ask_83 : decode cX7_ask 83 = .ok (.if_icmp .ge 102, 3) := by decide +kernel
theorem dX7_ask_86 : decode cX7_ask 86 = .ok (.aload_n 0, 1) := by decide +kernel
theorem dX7_ask_87 : decode cX7_ask 87 = .ok (.iload 7, 2) := by decide +kernel
theorem dX7_ask_89 : decode cX7_ask 89 = .ok (.invokevirtual 176, 3) := by decide +kernel
theorem dX7_ask_92 : decode cX7_ask 92 = .ok (.ifCond .eq 87, 3) := by decide +kernel
theorem dX7_ask_95 : decode cX7_ask 95 = .ok (.aload_n 0, 1) := by decide +kernel
theorem dX7_ask_96 : decode cX7_ask 96 = .ok (.iload 7, 2) := by decide +kernel
theorem dX7_ask_98 : decode cX7_ask 98 = .ok (.invokevirtual 185, 3) := by decide +kernel
theorem dX7_ask_101 : decode cX7_ask 101 = .ok (.istore 8, 2) := by decide +kernel
theorem dX7_ask_103 : decode cX7_ask 103 = .ok (.iload_n 2, 1) := by decide +kernel
theorem dX7_ask_104 : decode cX7_ask 104 = .ok (.iload 8, 2) := by decide +kernel
theorem dX7_ask_106 : decode cX7_ask 106 = .ok (.ifCond .eq 7, 3) := by decide +kernel
theorem dX7_ask_109 : decode cX7_ask 109 = .ok (.iconst 1, 1) := by decide +kernel
theorem dX7_ask_110 : decode cX7_ask 110 = .ok (.goto 4, 3) := by decide +kernel
theorem dX7_ask_113 : decode cX7_ask 113 = .ok (.iconst 0, 1) := by decide +kernel
theorem dX7_ask_114 : decode cX7_ask 114 = .ok (.iadd, 1) := by decide +kernel
theorem dX7_ask_115 : decode cX7_ask 115 = .ok (.istore_n 2, 1) := by decide +kernel
theorem dX7_ask_116 : decode cX7_ask 116 = .ok (.iload_n 3, 1) := by decide +kernel
theorem dX7_ask_117 : decode cX7_ask 117 = .ok (.iload 8, 2) := by decide +kernel
theorem dX7_ask_119 : decode cX7_ask 119 = .ok (.ifCond .eq 17, 3) := by decide +kernel
theorem dX7_ask_122 : decode cX7_ask 122 = .ok (.aload_n 0, 1) := by decide +kernel
theorem dX7_ask_123 : decode cX7_ask 123 = .ok (.getfield 7, 3) := by decide +kernel
theorem dX7_ask_126 : decode cX7_ask 126 = .ok (.sipush 405, 3) := by decide +kernel
theorem dX7_ask_129 : decode cX7_ask 129 = .ok (.iload 7, 2) := by decide +kernel
theorem dX7_ask_131 : decode cX7_ask 131 = .ok (.iadd, 1) := by decide +kernel
theorem dX7_ask_132 : decode cX7_ask 132 = .ok (.iaload, 1) := by decide +kernel
theorem dX7_ask_133 : decode cX7_ask 133 = .ok (.goto 4, 3) := by decide +kernel
theorem dX7_ask_136 : decode cX7_ask 136 = .ok (.iconst 0, 1) := by decide +kernel
theorem dX7_ask_137 : decode cX7_ask 137 = .ok (.iadd, 1) := by decide +kernel
theorem dX7_ask_138 : decode cX7_ask 138 = .ok (.istore_n 3, 1) := by decide +kernel
theorem dX7_ask_139 : decode cX7_ask 139 = .ok (.iload 5, 2) := by decide +kernel
theorem dX7_ask_141 : decode cX7_ask 141 = .ok (.aload_n 0, 1) := by decide +kernel
theorem dX7_ask_142 : decode cX7_ask 142 = .ok (.getfield 40, 3) := by decide +kernel
theorem dX7_ask_145 : decode cX7_ask 145 = .ok (.aload_n 0, 1) := by decide +kernel
theorem dX7_ask_146 : decode cX7_ask 146 = .ok (.getfield 7, 3) := by decide +kernel
theorem dX7_ask_149 : decode cX7_ask 149 = .ok (.sipush 805, 3) := by decide +kernel
theorem dX7_ask_152 : decode cX7_ask 152 = .ok (.iload 7, 2) := by decide +kernel
theorem dX7_ask_154 : decode cX7_ask 154 = .ok (.iadd, 1) := by decide +kernel
theorem dX7_ask_155 : decode cX7_ask 155 = .ok (.iaload, 1) := by decide +kernel
theorem dX7_ask_156 : decode cX7_ask 156 = .ok (.iaload, 1) := by decide +kernel
theorem dX7_ask_157 : decode cX7_ask 157 = .ok (.iadd, 1) := by decide +kernel
theorem dX7_ask_158 : decode cX7_ask 158 = .ok (.istore 5, 2) := by decide +kernel
theorem dX7_ask_160 : decode cX7_ask 160 = .ok (.iload 6, 2) := by decide +kernel
theorem dX7_ask_162 : decode cX7_ask 162 = .ok (.aload_n 0, 1) := by decide +kernel
theorem dX7_ask_163 : decode cX7_ask 163 = .ok (.iload 7, 2) := by decide +kernel
theorem dX7_ask_165 : decode cX7_ask 165 = .ok (.invokevirtual 179, 3) := by decide +kernel
theorem dX7_ask_168 : decode cX7_ask 168 = .ok (.ifCond .eq 7, 3) := by decide +kernel
theorem dX7_ask_171 : decode cX7_ask 171 = .ok (.iconst 1, 1) := by decide +kernel
theorem dX7_ask_172 : decode cX7_ask 172 = .ok (.goto 4, 3) := by decide +kernel
theorem dX7_ask_175 : decode cX7_ask 175 = .ok (.iconst 0, 1) := by decide +kernel
theorem dX7_ask_176 : decode cX7_ask 176 = .ok (.iadd, 1) := by decide +kernel
theorem dX7_ask_177 : decode cX7_ask 177 = .ok (.istore 6, 2) := by decide +kernel
theorem dX7_ask_179 : decode cX7_ask 179 = .ok (.iinc 7 1, 3) := by decide +kernel
theorem dX7_ask_182 : decode cX7_ask 182 = .ok (.goto (-107), 3) := by decide +kernel
theorem dX7_ask_185 : decode cX7_ask 185 = .ok (.iload_n 1, 1) := by decide +kernel
theorem dX7_ask_186 : decode cX7_ask 186 = .ok (.ifCond .ne 7, 3) := by decide +kernel
theorem dX7_ask_189 : decode cX7_ask 189 = .ok (.iload_n 2, 1) := by decide +kernel
theorem dX7_ask_190 : decode cX7_ask 190 = .ok (.goto 46, 3) := by decide +kernel
theorem dX7_ask_193 : decode cX7_ask 193 = .ok (.iload_n 1, 1) := by decide +kernel
theorem dX7_ask_194 : decode cX7_ask 194 = .ok (.iconst 1, 1) := by decide +kernel
theorem dX7_ask_195 : decode cX7_ask 195 = .ok (.if_icmp .ne 7, 3) := by decide +kernel
theorem dX7_ask_198 : decode cX7_ask 198 = .ok (.iload_n 3, 1) := by decide +kernel
theorem dX7_ask_199 : decode cX7_ask 199 = .ok (.goto 37, 3) := by decide +kernel
theorem dX7_ask_202 : decode cX7_ask 202 = .ok (.iload_n 1, 1) := by decide +kernel
theorem dX7_ask_203 : decode cX7_ask 203 = .ok (.iconst 2, 1) := by decide +kernel
theorem dX7_ask_204 : decode cX7_ask 204 = .ok (.if_icmp .ne 8, 3) := by decide +kernel
theorem dX7_ask_207 : decode cX7_ask 207 = .ok (.iload 4, 2) := by decide +kernel
theorem dX7_ask_209 : decode cX7_ask 209 = .ok (.goto 27, 3) := by decide +kernel
theorem dX7_ask_212 : decode cX7_ask 212 = .ok (.iload_n 1, 1) := by decide +kernel
theorem dX7_ask_213 : decode cX7_ask 213 = .ok (.iconst 3, 1) := by decide +kernel
theorem dX7_ask_214 : decode cX7_ask 214 = .ok (.if_icmp .ne 8, 3) := by decide +kernel
theorem dX7_ask_217 : decode cX7_ask 217 = .ok (.iload 5, 2) := by decide +kernel
theorem dX7_ask_219 : decode cX7_ask 219 = .ok (.goto 17, 3) := by decide +kernel
theorem dX7_ask_222 : decode cX7_ask 222 = .ok (.iload_n 1, 1) := by decide +kernel
theorem dX7_ask_223 : decode cX7_ask 223 = .ok (.iconst 4, 1) := by decide +kernel
theorem dX7_ask_224 : decode cX7_ask 224 = .ok (.if_icmp .ne 8, 3) := by decide +kernel
theorem dX7_ask_227 : decode cX7_ask 227 = .ok (.iload 6, 2) := by decide +kernel
theorem dX7_ask_229 : decode cX7_ask 229 = .ok (.goto 7, 3) := by decide +kernel
theorem dX7_ask_232 : decode cX7_ask 232 = .ok (.iload 6, 2) := by decide +kernel
theorem dX7_ask_234 : decode cX7_ask 234 = .ok (.iload_n 2, 1) := by decide +kernel
theorem dX7_ask_235 : decode cX7_ask 235 = .ok (.isub, 1) := by decide +kernel
theorem dX7_ask_236 : decode cX7_ask 236 = .ok (.ireturn, 1) := by decide +kernel
theorem dX7_answer_0 : decode cX7_answer 0 = .ok (.aload_n 0, 1) := by decide +kernel
theorem dX7_answer_1 : decode cX7_answer 1 = .ok (.invokevirtual 142, 3) := by decide +kernel
theorem dX7_answer_4 : decode cX7_answer 4 = .ok (.sipush (-1005), 3) := by decide +kernel
theorem dX7_answer_7 : decode cX7_answer 7 = .ok (.if_icmp .eq 7, 3) := by decide +kernel
theorem dX7_answer_10 : decode cX7_answer 10 = .ok (.sipush (-1001), 3) := by decide +kernel
theorem dX7_answer_13 : decode cX7_answer 13 = .ok (.ireturn, 1) := by decide +kernel
theorem dX7_answer_14 : decode cX7_answer 14 = .ok (.iload_n 1, 1) := by decide +kernel
theorem dX7_answer_15 : decode cX7_answer 15 = .ok (.ifCond .ge 7, 3) := by decide +kernel
theorem dX7_answer_18 : decode cX7_answer 18 = .ok (.sipush (-1002), 3) := by decide +kernel
theorem dX7_answer_21 : decode cX7_answer 21 = .ok (.ireturn, 1) := by decide +kernel
theorem dX7_answer_22 : decode cX7_answer 22 = .ok (.aload_n 0, 1) := by decide +kernel
theorem dX7_answer_23 : decode cX7_answer 23 = .ok (.invokevirtual 182, 3) := by decide +kernel
theorem dX7_answer_26 : decode cX7_answer 26 = .ok (.iload_n 1, 1) := by decide +kernel
theorem dX7_answer_27 : decode cX7_answer 27 = .ok (.istore_n 2, 1) := by decide +kernel
theorem dX7_answer_28 : decode cX7_answer 28 = .ok (.iconst 0, 1) := by decide +kernel
theorem dX7_answer_29 : decode cX7_answer 29 = .ok (.istore_n 3, 1) := by decide +kernel
theorem dX7_answer_30 : decode cX7_answer 30 = .ok (.iload_n 3, 1) := by decide +kernel
theorem dX7_answer_31 : decode cX7_answer 31 = .ok (.aload_n 0, 1) := by decide +kernel
theorem dX7_answer_32 : decode cX7_answer 32 = .ok (.getfield 7, 3) := by decide +kernel
theorem dX7_answer_35 : decode cX7_answer 35 = .ok (.iconst 0, 1) := by decide +kernel
theorem dX7_answer_36 : decode cX7_answer 36 = .ok (.iaload, 1) := by decide +kernel
theorem dX7_answer_37 : decode cX7_answer 37 = .ok (.if_icmp .ge 26, 3) := by decide +kernel
theorem dX7_answer_40 : decode cX7_answer 40 = .ok (.aload_n 0, 1) := by decide +kernel
theorem dX7_answer_41 : decode cX7_answer 41 = .ok (.iload_n 3, 1) := by decide +kernel
theorem dX7_answer_42 : decode cX7_answer 42 = .ok (.invokevirtual 185, 3) := by decide +kernel
theorem dX7_answer_45 : decode cX7_answer 45 = .ok (.ifCond .eq 12, 3) := by decide +kernel
theorem dX7_answer_48 : decode cX7_answer 48 = .ok (.iload_n 2, 1) := by decide +kernel
theorem dX7_answer_49 : decode cX7_answer 49 = .ok (.ifCond .ne 5, 3) := by decide +kernel
theorem dX7_answer_52 : decode cX7_answer 52 = .ok (.iload_n 3, 1) := by decide +kernel
theorem dX7_answer_53 : decode cX7_answer 53 = .ok (.ireturn, 1) := by decide +kernel
theorem dX7_answer_54 : decode cX7_answer 54 = .ok (.iinc 2 (-1), 3) := by decide +kernel
theorem dX7_answer_57 : decode cX7_answer 57 = .ok (.iinc 3 1, 3) := by decide +kernel
theorem dX7_answer_60 : decode cX7_answer 60 = .ok (.goto (-30), 3) := by decide +kernel
theorem dX7_answer_63 : decode cX7_answer 63 = .ok (.sipush (-1005), 3) := by decide +kernel
theorem dX7_answer_66 : decode cX7_answer 66 = .ok (.ireturn, 1) := by decide +kernel
theorem dX7_looksInto_0 : decode cX7_looksInto 0 = .ok (.iload_n 1, 1) := by decide +kernel
theorem dX7_looksInto_1 : decode cX7_looksInto 1 = .ok (.bipush 60, 2) := by decide +kernel
theorem dX7_looksInto_3 : decode cX7_looksInto 3 = .ok (.if_icmp .eq 11, 3) := by decide +kernel
theorem dX7_looksInto_6 : decode cX7_looksInto 6 = .ok (.aload_n 0, 1) := by decide +kernel
theorem dX7_looksInto_7 : decode cX7_looksInto 7 = .ok (.iload_n 1, 1) := by decide +kernel
theorem dX7_looksInto_8 : decode cX7_looksInto 8 = .ok (.invokevirtual 51, 3) := by decide +kernel
theorem dX7_looksInto_11 : decode cX7_looksInto 11 = .ok (.ifCond .eq 13, 3) := by decide +kernel
theorem dX7_looksInto_14 : decode cX7_looksInto 14 = .ok (.aload_n 0, 1) := by decide +kernel
theorem dX7_looksInto_15 : decode cX7_looksInto 15 = .ok (.invokevirtual 142, 3) := by decide +kernel
theorem dX7_looksInto_18 : decode cX7_looksInto 18 = .ok (.sipush (-1005), 3) := by decide +kernel
theorem dX7_looksInto_21 : decode cX7_looksInto 21 = .ok (.if_icmp .eq 7, 3) := by decide +kernel
theorem dX7_looksInto_24 : decode cX7_looksInto 24 = .ok (.sipush (-1001), 3) := by decide +kernel
theorem dX7_looksInto_27 : decode cX7_looksInto 27 = .ok (.ireturn, 1) := by decide +kernel
theorem dX7_looksInto_28 : decode cX7_looksInto 28 = .ok (.iload_n 2, 1) := by decide +kernel
theorem dX7_looksInto_29 : decode cX7_looksInto 29 = .ok (.iconst 0, 1) := by decide +kernel
theorem dX7_looksInto_30 : decode cX7_looksInto 30 = .ok (.iconst 2, 1) := by decide +kernel
theorem dX7_looksInto_31 : decode cX7_looksInto 31 = .ok (.invokestatic 47, 3) := by decide +kernel
theorem dX7_looksInto_34 : decode cX7_looksInto 34 = .ok (.ifCond .ne 7, 3) := by decide +kernel
theorem dX7_looksInto_37 : decode cX7_looksInto 37 = .ok (.sipush (-1002), 3) := by decide +kernel
theorem dX7_looksInto_40 : decode cX7_looksInto 40 = .ok (.ireturn, 1) := by decide +kernel
theorem dX7_looksInto_41 : decode cX7_looksInto 41 = .ok (.aload_n 0, 1) := by decide +kernel
theorem dX7_looksInto_42 : decode cX7_looksInto 42 = .ok (.iload_n 1, 1) := by decide +kernel
theorem dX7_looksInto_43 : decode cX7_looksInto 43 = .ok (.iload_n 2, 1) := by decide +kernel
theorem dX7_looksInto_44 : decode cX7_looksInto 44 = .ok (.invokevirtual 173, 3) := by decide +kernel
theorem dX7_looksInto_47 : decode cX7_looksInto 47 = .ok (.ifCond .eq 7, 3) := by decide +kernel
theorem dX7_looksInto_50 : decode cX7_looksInto 50 = .ok (.iconst 1, 1) := by decide +kernel
theorem dX7_looksInto_51 : decode cX7_looksInto 51 = .ok (.goto 4, 3) := by decide +kernel
theorem dX7_looksInto_54 : decode cX7_looksInto 54 = .ok (.iconst 0, 1) := by decide +kernel
theorem dX7_looksInto_55 : decode cX7_looksInto 55 = .ok (.ireturn, 1) := by decide +kernel
theorem dX7_passes_0 : decode cX7_passes 0 = .ok (.aload_n 0, 1) := by decide +kernel
theorem dX7_passes_1 : decode cX7_passes 1 = .ok (.iload_n 1, 1) := by decide +kernel
theorem dX7_passes_2 : decode cX7_passes 2 = .ok (.invokevirtual 80, 3) := by decide +kernel
theorem dX7_passes_5 : decode cX7_passes 5 = .ok (.ifCond .eq 13, 3) := by decide +kernel
theorem dX7_passes_8 : decode cX7_passes 8 = .ok (.aload_n 0, 1) := by decide +kernel
theorem dX7_passes_9 : decode cX7_passes 9 = .ok (.invokevirtual 142, 3) := by decide +kernel
theorem dX7_passes_12 : decode cX7_passes 12 = .ok (.sipush (-1005), 3) := by decide +kernel
theorem dX7_passes_15 : decode cX7_passes 15 = .ok (.if_icmp .eq 7, 3) := by decide +kernel
theorem dX7_passes_18 : decode cX7_passes 18 = .ok (.sipush (-1001), 3) := by decide +kernel
theorem dX7_passes_21 : decode cX7_passes 21 = .ok (.ireturn, 1) := by decide +kernel
theorem dX7_passes_22 : decode cX7_passes 22 = .ok (.aload_n 0, 1) := by decide +kernel
theorem dX7_passes_23 : decode cX7_passes 23 = .ok (.iload_n 1, 1) := by decide +kernel
theorem dX7_passes_24 : decode cX7_passes 24 = .ok (.invokevirtual 179, 3) := by decide +kernel
theorem dX7_passes_27 : decode cX7_passes 27 = .ok (.ifCond .eq 7, 3) := by decide +kernel
theorem dX7_passes_30 : decode cX7_passes 30 = .ok (.iconst 1, 1) := by decide +kernel
theorem dX7_passes_31 : decode cX7_passes 31 = .ok (.goto 4, 3) := by decide +kernel
theorem dX7_passes_34 : decode cX7_passes 34 = .ok (.iconst 0, 1) := by decide +kernel
theorem dX7_passes_35 : decode cX7_passes 35 = .ok (.ireturn, 1) := by decide +kernel
theorem dX7_spared_0 : decode cX7_spared 0 = .ok (.aload_n 0, 1) := by decide +kernel
theorem dX7_spared_1 : decode cX7_spared 1 = .ok (.invokevirtual 142, 3) := by decide +kernel
theorem dX7_spared_4 : decode cX7_spared 4 = .ok (.sipush (-1005), 3) := by decide +kernel
theorem dX7_spared_7 : decode cX7_spared 7 = .ok (.if_icmp .eq 7, 3) := by decide +kernel
theorem dX7_spared_10 : decode cX7_spared 10 = .ok (.ldc2_w 188, 3) := by decide +kernel
theorem dX7_spared_13 : decode cX7_spared 13 = .ok (.dreturn, 1) := by decide +kernel
theorem dX7_spared_14 : decode cX7_spared 14 = .ok (.aload_n 0, 1) := by decide +kernel
theorem dX7_spared_15 : decode cX7_spared 15 = .ok (.invokevirtual 182, 3) := by decide +kernel
theorem dX7_spared_18 : decode cX7_spared 18 = .ok (.iconst 0, 1) := by decide +kernel
theorem dX7_spared_19 : decode cX7_spared 19 = .ok (.istore_n 1, 1) := by decide +kernel
theorem dX7_spared_20 : decode cX7_spared 20 = .ok (.iconst 0, 1) := by decide +kernel
theorem dX7_spared_21 : decode cX7_spared 21 = .ok (.istore_n 2, 1) := by decide +kernel
theorem dX7_spared_22 : decode cX7_spared 22 = .ok (.iconst 0, 1) := by decide +kernel
theorem dX7_spared_23 : decode cX7_spared 23 = .ok (.istore_n 3, 1) := by decide +kernel
theorem dX7_spared_24 : decode cX7_spared 24 = .ok (.iload_n 3, 1) := by decide +kernel
theorem dX7_spared_25 : decode cX7_spared 25 = .ok (.aload_n 0, 1) := by decide +kernel
theorem dX7_spared_26 : decode cX7_spared 26 = .ok (.getfield 7, 3) := by decide +kernel
theorem dX7_spared_29 : decode cX7_spared 29 = .ok (.iconst 0, 1) := by decide +kernel
theorem dX7_spared_30 : decode cX7_spared 30 = .ok (.iaload, 1) := by decide +kernel
theorem dX7_spared_31 : decode cX7_spared 31 = .ok (.if_icmp .ge 38, 3) := by decide +kernel
theorem dX7_spared_34 : decode cX7_spared 34 = .ok (.aload_n 0, 1) := by decide +kernel
theorem dX7_spared_35 : decode cX7_spared 35 = .ok (.iload_n 3, 1) := by decide +kernel
theorem dX7_spared_36 : decode cX7_spared 36 = .ok (.invokevirtual 176, 3) := by decide +kernel
theorem dX7_spared_39 : decode cX7_spared 39 = .ok (.ifCond .eq 24, 3) := by decide +kernel
theorem dX7_spared_42 : decode cX7_spared 42 = .ok (.iinc 1 1, 3) := by decide +kernel
theorem dX7_spared_45 : decode cX7_spared 45 = .ok (.iload_n 2, 1) := by decide +kernel
theorem dX7_spared_46 : decode cX7_spared 46 = .ok (.aload_n 0, 1) := by decide +kernel
theorem dX7_spared_47 : decode cX7_spared 47 = .ok (.getfield 40, 3) := by decide +kernel
theorem dX7_spared_50 : decode cX7_spared 50 = .ok (.aload_n 0, 1) := by decide +kernel
theorem dX7_spared_51 : decode cX7_spared 51 = .ok (.getfield 7, 3) := by decide +kernel
theorem dX7_spared_54 : decode cX7_spared 54 = .ok (.sipush 805, 3) := by decide +kernel
theorem dX7_spared_57 : decode cX7_spared 57 = .ok (.iload_n 3, 1) := by decide +kernel
theorem dX7_spared_58 : decode cX7_spared 58 = .ok (.iadd, 1) := by decide +kernel
theorem dX7_spared_59 : decode cX7_spared 59 = .ok (.iaload, 1) := by decide +kernel
theorem dX7_spared_60 : decode cX7_spared 60 = .ok (.iaload, 1) := by decide +kernel
theorem dX7_spared_61 : decode cX7_spared 61 = .ok (.iadd, 1) := by decide +kernel
theorem dX7_spared_62 : decode cX7_spared 62 = .ok (.istore_n 2, 1) := by decide +kernel
theorem dX7_spared_63 : decode cX7_spared 63 = .ok (.iinc 3 1, 3) := by decide +kernel
theorem dX7_spared_66 : decode cX7_spared 66 = .ok (.goto (-42), 3) := by decide +kernel
theorem dX7_spared_69 : decode cX7_spared 69 = .ok (.iload_n 1, 1) := by decide +kernel
theorem dX7_spared_70 : decode cX7_spared 70 = .ok (.ifCond .ne 7, 3) := by decide +kernel
theorem dX7_spared_73 : decode cX7_spared 73 = .ok (.dconst 0, 1) := by decide +kernel
theorem dX7_spared_74 : decode cX7_spared 74 = .ok (.goto 10, 3) := by decide +kernel
theorem dX7_spared_77 : decode cX7_spared 77 = .ok (.dconst 1, 1) := by decide +kernel
theorem dX7_spared_78 : decode cX7_spared 78 = .ok (.iload_n 2, 1) := by decide +kernel
theorem dX7_spared_79 : decode cX7_spared 79 = .ok (.i2d, 1) := by decide +kernel
theorem dX7_spared_80 : decode cX7_spared 80 = .ok (.iload_n 1, 1) := by decide +kernel
theorem dX7_spared_81 : decode cX7_spared 81 = .ok (.i2d, 1) := by decide +kernel
theorem dX7_spared_82 : decode cX7_spared 82 = .ok (.ddiv, 1) := by decide +kernel
theorem dX7_spared_83 : decode cX7_spared 83 = .ok (.dsub, 1) := by decide +kernel
theorem dX7_spared_84 : decode cX7_spared 84 = .ok (.dreturn, 1) := by decide +kernel
theorem dX7_row_0 : decode cX7_row 0 = .ok (.aload_n 0, 1) := by decide +kernel
theorem dX7_row_1 : decode cX7_row 1 = .ok (.iload_n 1, 1) := by decide +kernel
theorem dX7_row_2 : decode cX7_row 2 = .ok (.invokevirtual 80, 3) := by decide +kernel
theorem dX7_row_5 : decode cX7_row 5 = .ok (.ifCond .ne 7, 3) := by decide +kernel
theorem dX7_row_8 : decode cX7_row 8 = .ok (.sipush (-1001), 3) := by decide +kernel
theorem dX7_row_11 : decode cX7_row 11 = .ok (.ireturn, 1) := by decide +kernel
theorem dX7_row_12 : decode cX7_row 12 = .ok (.iload_n 2, 1) := by decide +kernel
theorem dX7_row_13 : decode cX7_row 13 = .ok (.tableswitch 93 0 4 #[35, 44, 55, 66, 79], 35) := by decide +kernel
theorem dX7_row_48 : decode cX7_row 48 = .ok (.aload_n 0, 1) := by decide +kernel
theorem dX7_row_49 : decode cX7_row 49 = .ok (.getfield 7, 3) := by decide +kernel
theorem dX7_row_52 : decode cX7_row 52 = .ok (.iconst 5, 1) := by decide +kernel
theorem dX7_row_53 : decode cX7_row 53 = .ok (.iload_n 1, 1) := by decide +kernel
theorem dX7_row_54 : decode cX7_row 54 = .ok (.iadd, 1) := by decide +kernel
theorem dX7_row_55 : decode cX7_row 55 = .ok (.iaload, 1) := by decide +kernel
theorem dX7_row_56 : decode cX7_row 56 = .ok (.ireturn, 1) := by decide +kernel
theorem dX7_row_57 : decode cX7_row 57 = .ok (.aload_n 0, 1) := by decide +kernel
theorem dX7_row_58 : decode cX7_row 58 = .ok (.getfield 7, 3) := by decide +kernel
theorem dX7_row_61 : decode cX7_row 61 = .ok (.sipush 405, 3) := by decide +kernel
theorem dX7_row_64 : decode cX7_row 64 = .ok (.iload_n 1, 1) := by decide +kernel
theorem dX7_row_65 : decode cX7_row 65 = .ok (.iadd, 1) := by decide +kernel
theorem dX7_row_66 : decode cX7_row 66 = .ok (.iaload, 1) := by decide +kernel
theorem dX7_row_67 : decode cX7_row 67 = .ok (.ireturn, 1) := by decide +kernel
theorem dX7_row_68 : decode cX7_row 68 = .ok (.aload_n 0, 1) := by decide +kernel
theorem dX7_row_69 : decode cX7_row 69 = .ok (.getfield 7, 3) := by decide +kernel
theorem dX7_row_72 : decode cX7_row 72 = .ok (.sipush 805, 3) := by decide +kernel
theorem dX7_row_75 : decode cX7_row 75 = .ok (.iload_n 1, 1) := by decide +kernel
theorem dX7_row_76 : decode cX7_row 76 = .ok (.iadd, 1) := by decide +kernel
theorem dX7_row_77 : decode cX7_row 77 = .ok (.iaload, 1) := by decide +kernel
theorem dX7_row_78 : decode cX7_row 78 = .ok (.ireturn, 1) := by decide +kernel
theorem dX7_row_79 : decode cX7_row 79 = .ok (.aload_n 0, 1) := by decide +kernel
theorem dX7_row_80 : decode cX7_row 80 = .ok (.aload_n 0, 1) := by decide +kernel
theorem dX7_row_81 : decode cX7_row 81 = .ok (.getfield 7, 3) := by decide +kernel
theorem dX7_row_84 : decode cX7_row 84 = .ok (.iconst 5, 1) := by decide +kernel
theorem dX7_row_85 : decode cX7_row 85 = .ok (.iload_n 1, 1) := by decide +kernel
theorem dX7_row_86 : decode cX7_row 86 = .ok (.iadd, 1) := by decide +kernel
theorem dX7_row_87 : decode cX7_row 87 = .ok (.iaload, 1) := by decide +kernel
theorem dX7_row_88 : decode cX7_row 88 = .ok (.invokevirtual 63, 3) := by decide +kernel
theorem dX7_row_91 : decode cX7_row 91 = .ok (.ireturn, 1) := by decide +kernel
theorem dX7_row_92 : decode cX7_row 92 = .ok (.aload_n 0, 1) := by decide +kernel
theorem dX7_row_93 : decode cX7_row 93 = .ok (.iload_n 1, 1) := by decide +kernel
theorem dX7_row_94 : decode cX7_row 94 = .ok (.invokevirtual 107, 3) := by decide +kernel
theorem dX7_row_97 : decode cX7_row 97 = .ok (.ifCond .eq 7, 3) := by decide +kernel
theorem dX7_row_100 : decode cX7_row 100 = .ok (.iconst 1, 1) := by decide +kernel
theorem dX7_row_101 : decode cX7_row 101 = .ok (.goto 4, 3) := by decide +kernel
theorem dX7_row_104 : decode cX7_row 104 = .ok (.iconst 0, 1) := by decide +kernel
theorem dX7_row_105 : decode cX7_row 105 = .ok (.ireturn, 1) := by decide +kernel
theorem dX7_row_106 : decode cX7_row 106 = .ok (.sipush (-1002), 3) := by decide +kernel
theorem dX7_row_109 : decode cX7_row 109 = .ok (.ireturn, 1) := by decide +kernel
theorem dX7_slice_0 : decode cX7_slice 0 = .ok (.aload_n 0, 1) := by decide +kernel
theorem dX7_slice_1 : decode cX7_slice 1 = .ok (.iload_n 1, 1) := by decide +kernel
theorem dX7_slice_2 : decode cX7_slice 2 = .ok (.invokevirtual 190, 3) := by decide +kernel
theorem dX7_slice_5 : decode cX7_slice 5 = .ok (.ifCond .ne 7, 3) := by decide +kernel
theorem dX7_slice_8 : decode cX7_slice 8 = .ok (.sipush (-1001), 3) := by decide +kernel
theorem dX7_slice_11 : decode cX7_slice 11 = .ok (.ireturn, 1) := by decide +kernel
theorem dX7_slice_12 : decode cX7_slice 12 = .ok (.iload_n 2, 1) := by decide +kernel
theorem dX7_slice_13 : decode cX7_slice 13 = .ok (.iconst 0, 1) := by decide +kernel
theorem dX7_slice_14 : decode cX7_slice 14 = .ok (.bipush 6, 2) := by decide +kernel
theorem dX7_slice_16 : decode cX7_slice 16 = .ok (.invokestatic 47, 3) := by decide +kernel
theorem dX7_slice_19 : decode cX7_slice 19 = .ok (.ifCond .ne 7, 3) := by decide +kernel
theorem dX7_slice_22 : decode cX7_slice 22 = .ok (.sipush (-1002), 3) := by decide +kernel
theorem dX7_slice_25 : decode cX7_slice 25 = .ok (.ireturn, 1) := by decide +kernel
theorem dX7_slice_26 : decode cX7_slice 26 = .ok (.iload_n 2, 1) := by decide +kernel
theorem dX7_slice_27 : decode cX7_slice 27 = .ok (.iconst 2, 1) := by decide +kernel
theorem dX7_slice_28 : decode cX7_slice 28 = .ok (.if_icmp .ge 36, 3) := by decide +kernel
theorem dX7_slice_31 : decode cX7_slice 31 = .ok (.iload_n 1, 1) := by decide +kernel
theorem dX7_slice_32 : decode cX7_slice 32 = .ok (.bipush 60, 2) := by decide +kernel
theorem dX7_slice_34 : decode cX7_slice 34 = .ok (.if_icmp .lt 9, 3) := by decide +kernel
theorem dX7_slice_37 : decode cX7_slice 37 = .ok (.sipush (-1005), 3) := by decide +kernel
theorem dX7_slice_40 : decode cX7_slice 40 = .ok (.goto 23, 3) := by decide +kernel
theorem dX7_slice_43 : decode cX7_slice 43 = .ok (.aload_n 0, 1) := by decide +kernel
theorem dX7_slice_44 : decode cX7_slice 44 = .ok (.getfield 7, 3) := by decide +kernel
theorem dX7_slice_47 : decode cX7_slice 47 = .ok (.iload_n 2, 1) := by decide +kernel
theorem dX7_slice_48 : decode cX7_slice 48 = .ok (.ifCond .ne 9, 3) := by decide +kernel
theorem dX7_slice_51 : decode cX7_slice 51 = .ok (.sipush 1265, 3) := by decide +kernel
theorem dX7_slice_54 : decode cX7_slice 54 = .ok (.goto 6, 3) := by decide +kernel
theorem dX7_slice_57 : decode cX7_slice 57 = .ok (.sipush 1325, 3) := by decide +kernel
theorem dX7_slice_60 : decode cX7_slice 60 = .ok (.iload_n 1, 1) := by decide +kernel
theorem dX7_slice_61 : decode cX7_slice 61 = .ok (.iadd, 1) := by decide +kernel
theorem dX7_slice_62 : decode cX7_slice 62 = .ok (.iaload, 1) := by decide +kernel
theorem dX7_slice_63 : decode cX7_slice 63 = .ok (.ireturn, 1) := by decide +kernel
theorem dX7_slice_64 : decode cX7_slice 64 = .ok (.iconst 0, 1) := by decide +kernel
theorem dX7_slice_65 : decode cX7_slice 65 = .ok (.istore_n 3, 1) := by decide +kernel
theorem dX7_slice_66 : decode cX7_slice 66 = .ok (.sipush (-1005), 3) := by decide +kernel
theorem dX7_slice_69 : decode cX7_slice 69 = .ok (.istore 4, 2) := by decide +kernel
theorem dX7_slice_71 : decode cX7_slice 71 = .ok (.sipush (-1005), 3) := by decide +kernel
theorem dX7_slice_74 : decode cX7_slice 74 = .ok (.istore 5, 2) := by decide +kernel
theorem dX7_slice_76 : decode cX7_slice 76 = .ok (.iconst 0, 1) := by decide +kernel
theorem dX7_slice_77 : decode cX7_slice 77 = .ok (.istore 6, 2) := by decide +kernel
theorem dX7_slice_79 : decode cX7_slice 79 = .ok (.iconst 0, 1) := by decide +kernel
theorem dX7_slice_80 : decode cX7_slice 80 = .ok (.istore 7, 2) := by decide +kernel
theorem dX7_slice_82 : decode cX7_slice 82 = .ok (.iconst 0, 1) := by decide +kernel
theorem dX7_slice_83 : decode cX7_slice 83 = .ok (.istore 8, 2) := by decide +kernel
theorem dX7_slice_85 : decode cX7_slice 85 = .ok (.iload 8, 2) := by decide +kernel
theorem dX7_slice_87 : decode cX7_slice 87 = .ok (.aload_n 0, 1) := by decide +kernel
theorem dX7_slice_88 : decode cX7_slice 88 = .ok (.getfield 7, 3) := by decide +kernel
theorem dX7_slice_91 : decode cX7_slice 91 = .ok (.iconst 0, 1) := by decide +kernel
theorem dX7_slice_92 : decode cX7_slice 92 = .ok (.iaload, 1) := by decide +kernel
theorem dX7_slice_93 : decode cX7_slice 93 = .ok (.if_icmp .ge 113, 3) := by decide +kernel
theorem dX7_slice_96 : decode cX7_slice 96 = .ok (.aload_n 0, 1) := by decide +kernel
theorem dX7_slice_97 : decode cX7_slice 97 = .ok (.getfield 7, 3) := by decide +kernel
theorem dX7_slice_100 : decode cX7_slice 100 = .ok (.sipush 805, 3) := by decide +kernel
theorem dX7_slice_103 : decode cX7_slice 103 = .ok (.iload 8, 2) := by decide +kernel
theorem dX7_slice_105 : decode cX7_slice 105 = .ok (.iadd, 1) := by decide +kernel
theorem dX7_slice_106 : decode cX7_slice 106 = .ok (.iaload, 1) := by decide +kernel
theorem dX7_slice_107 : decode cX7_slice 107 = .ok (.iload_n 1, 1) := by decide +kernel
theorem dX7_slice_108 : decode cX7_slice 108 = .ok (.if_icmp .ne 92, 3) := by decide +kernel
theorem dX7_slice_111 : decode cX7_slice 111 = .ok (.aload_n 0, 1) := by decide +kernel
theorem dX7_slice_112 : decode cX7_slice 112 = .ok (.getfield 7, 3) := by decide +kernel
theorem dX7_slice_115 : decode cX7_slice 115 = .ok (.iconst 5, 1) := by decide +kernel
theorem dX7_slice_116 : decode cX7_slice 116 = .ok (.iload 8, 2) := by decide +kernel
theorem dX7_slice_118 : decode cX7_slice 118 = .ok (.iadd, 1) := by decide +kernel
theorem dX7_slice_119 : decode cX7_slice 119 = .ok (.iaload, 1) := by decide +kernel
theorem dX7_slice_120 : decode cX7_slice 120 = .ok (.istore 9, 2) := by decide +kernel
theorem dX7_slice_122 : decode cX7_slice 122 = .ok (.iinc 3 1, 3) := by decide +kernel
theorem dX7_slice_125 : decode cX7_slice 125 = .ok (.iload 4, 2) := by decide +kernel
theorem dX7_slice_127 : decode cX7_slice 127 = .ok (.sipush (-1005), 3) := by decide +kernel
theorem dX7_slice_130 : decode cX7_slice 130 = .ok (.if_icmp .eq 10, 3) := by decide +kernel
theorem dX7_slice_133 : decode cX7_slice 133 = .ok (.iload 9, 2) := by decide +kernel
theorem dX7_slice_135 : decode cX7_slice 135 = .ok (.iload 4, 2) := by decide +kernel
theorem dX7_slice_137 : decode cX7_slice 137 = .ok (.if_icmp .ge 8, 3) := by decide +kernel
theorem dX7_slice_140 : decode cX7_slice 140 = .ok (.iload 9, 2) := by decide +kernel
theorem dX7_slice_142 : decode cX7_slice 142 = .ok (.goto 5, 3) := by decide +kernel
theorem dX7_slice_145 : decode cX7_slice 145 = .ok (.iload 4, 2) := by decide +kernel
theorem dX7_slice_147 : decode cX7_slice 147 = .ok (.istore 4, 2) := by decide +kernel
theorem dX7_slice_149 : decode cX7_slice 149 = .ok (.iload 9, 2) := by decide +kernel
theorem dX7_slice_151 : decode cX7_slice 151 = .ok (.iload 5, 2) := by decide +kernel
theorem dX7_slice_153 : decode cX7_slice 153 = .ok (.if_icmp .le 8, 3) := by decide +kernel
theorem dX7_slice_156 : decode cX7_slice 156 = .ok (.iload 9, 2) := by decide +kernel
theorem dX7_slice_158 : decode cX7_slice 158 = .ok (.goto 5, 3) := by decide +kernel
theorem dX7_slice_161 : decode cX7_slice 161 = .ok (.iload 5, 2) := by decide +kernel
theorem dX7_slice_163 : decode cX7_slice 163 = .ok (.istore 5, 2) := by decide +kernel
theorem dX7_slice_165 : decode cX7_slice 165 = .ok (.iload 6, 2) := by decide +kernel
theorem dX7_slice_167 : decode cX7_slice 167 = .ok (.aload_n 0, 1) := by decide +kernel
theorem dX7_slice_168 : decode cX7_slice 168 = .ok (.getfield 7, 3) := by decide +kernel
theorem dX7_slice_171 : decode cX7_slice 171 = .ok (.sipush 405, 3) := by decide +kernel
theorem dX7_slice_174 : decode cX7_slice 174 = .ok (.iload 8, 2) := by decide +kernel
theorem dX7_slice_176 : decode cX7_slice 176 = .ok (.iadd, 1) := by decide +kernel
theorem dX7_slice_177 : decode cX7_slice 177 = .ok (.iaload, 1) := by decide +kernel
theorem dX7_slice_178 : decode cX7_slice 178 = .ok (.iadd, 1) := by decide +kernel
theorem dX7_slice_179 : decode cX7_slice 179 = .ok (.istore 6, 2) := by decide +kernel
theorem dX7_slice_181 : decode cX7_slice 181 = .ok (.iload 7, 2) := by decide +kernel
theorem dX7_slice_183 : decode cX7_slice 183 = .ok (.aload_n 0, 1) := by decide +kernel
theorem dX7_slice_184 : decode cX7_slice 184 = .ok (.iload 8, 2) := by decide +kernel
theorem dX7_slice_186 : decode cX7_slice 186 = .ok (.invokevirtual 107, 3) := by decide +kernel
theorem dX7_slice_189 : decode cX7_slice 189 = .ok (.ifCond .eq 7, 3) := by decide +kernel
theorem dX7_slice_192 : decode cX7_slice 192 = .ok (.iconst 1, 1) := by decide +kernel
theorem dX7_slice_193 : decode cX7_slice 193 = .ok (.goto 4, 3) := by decide +kernel
theorem dX7_slice_196 : decode cX7_slice 196 = .ok (.iconst 0, 1) := by decide +kernel
theorem dX7_slice_197 : decode cX7_slice 197 = .ok (.iadd, 1) := by decide +kernel
theorem dX7_slice_198 : decode cX7_slice 198 = .ok (.istore 7, 2) := by decide +kernel
theorem dX7_slice_200 : decode cX7_slice 200 = .ok (.iinc 8 1, 3) := by decide +kernel
theorem dX7_slice_203 : decode cX7_slice 203 = .ok (.goto (-118), 3) := by decide +kernel
theorem dX7_slice_206 : decode cX7_slice 206 = .ok (.iload_n 2, 1) := by decide +kernel
theorem dX7_slice_207 : decode cX7_slice 207 = .ok (.iconst 2, 1) := by decide +kernel
theorem dX7_slice_208 : decode cX7_slice 208 = .ok (.if_icmp .ne 7, 3) := by decide +kernel
theorem dX7_slice_211 : decode cX7_slice 211 = .ok (.iload_n 3, 1) := by decide +kernel
theorem dX7_slice_212 : decode cX7_slice 212 = .ok (.goto 35, 3) := by decide +kernel
theorem dX7_slice_215 : decode cX7_slice 215 = .ok (.iload_n 2, 1) := by decide +kernel
theorem dX7_slice_216 : decode cX7_slice 216 = .ok (.iconst 3, 1) := by decide +kernel
theorem dX7_slice_217 : decode cX7_slice 217 = .ok (.if_icmp .ne 8, 3) := by decide +kernel
theorem dX7_slice_220 : decode cX7_slice 220 = .ok (.iload 4, 2) := by decide +kernel
theorem dX7_slice_222 : decode cX7_slice 222 = .ok (.goto 25, 3) := by decide +kernel
theorem dX7_slice_225 : decode cX7_slice 225 = .ok (.iload_n 2, 1) := by decide +kernel
theorem dX7_slice_226 : decode cX7_slice 226 = .ok (.iconst 4, 1) := by decide +kernel
theorem dX7_slice_227 : decode cX7_slice 227 = .ok (.if_icmp .ne 8, 3) := by decide +kernel
theorem dX7_slice_230 : decode cX7_slice 230 = .ok (.iload 5, 2) := by decide +kernel
theorem dX7_slice_232 : decode cX7_slice 232 = .ok (.goto 15, 3) := by decide +kernel
theorem dX7_slice_235 : decode cX7_slice 235 = .ok (.iload_n 2, 1) := by decide +kernel
theorem dX7_slice_236 : decode cX7_slice 236 = .ok (.iconst 5, 1) := by decide +kernel
theorem dX7_slice_237 : decode cX7_slice 237 = .ok (.if_icmp .ne 8, 3) := by decide +kernel
theorem dX7_slice_240 : decode cX7_slice 240 = .ok (.iload 6, 2) := by decide +kernel
theorem dX7_slice_242 : decode cX7_slice 242 = .ok (.goto 5, 3) := by decide +kernel
theorem dX7_slice_245 : decode cX7_slice 245 = .ok (.iload 7, 2) := by decide +kernel
theorem dX7_slice_247 : decode cX7_slice 247 = .ok (.ireturn, 1) := by decide +kernel
theorem dX7_ordered_0 : decode cX7_ordered 0 = .ok (.iload_n 1, 1) := by decide +kernel
theorem dX7_ordered_1 : decode cX7_ordered 1 = .ok (.ifCond .ge 7, 3) := by decide +kernel
theorem dX7_ordered_4 : decode cX7_ordered 4 = .ok (.sipush (-1002), 3) := by decide +kernel
theorem dX7_ordered_7 : decode cX7_ordered 7 = .ok (.ireturn, 1) := by decide +kernel
theorem dX7_ordered_8 : decode cX7_ordered 8 = .ok (.iload_n 1, 1) := by decide +kernel
theorem dX7_ordered_9 : decode cX7_ordered 9 = .ok (.istore_n 2, 1) := by decide +kernel
theorem dX7_ordered_10 : decode cX7_ordered 10 = .ok (.iconst 0, 1) := by decide +kernel
theorem dX7_ordered_11 : decode cX7_ordered 11 = .ok (.istore_n 3, 1) := by decide +kernel
theorem dX7_ordered_12 : decode cX7_ordered 12 = .ok (.iload_n 3, 1) := by decide +kernel
theorem dX7_ordered_13 : decode cX7_ordered 13 = .ok (.sipush 1000, 3) := by decide +kernel
theorem dX7_ordered_16 : decode cX7_ordered 16 = .ok (.if_icmp .ge 49, 3) := by decide +kernel
theorem dX7_ordered_19 : decode cX7_ordered 19 = .ok (.aload_n 0, 1) := by decide +kernel
theorem dX7_ordered_20 : decode cX7_ordered 20 = .ok (.iload_n 3, 1) := by decide +kernel
theorem dX7_ordered_21 : decode cX7_ordered 21 = .ok (.invokevirtual 59, 3) := by decide +kernel
theorem dX7_ordered_24 : decode cX7_ordered 24 = .ok (.istore 4, 2) := by decide +kernel
theorem dX7_ordered_26 : decode cX7_ordered 26 = .ok (.iload 4, 2) := by decide +kernel
theorem dX7_ordered_28 : decode cX7_ordered 28 = .ok (.sipush (-1005), 3) := by decide +kernel
theorem dX7_ordered_31 : decode cX7_ordered 31 = .ok (.if_icmp .eq 28, 3) := by decide +kernel
theorem dX7_ordered_34 : decode cX7_ordered 34 = .ok (.aload_n 0, 1) := by decide +kernel
theorem dX7_ordered_35 : decode cX7_ordered 35 = .ok (.getfield 7, 3) := by decide +kernel
theorem dX7_ordered_38 : decode cX7_ordered 38 = .ok (.sipush 1265, 3) := by decide +kernel
theorem dX7_ordered_41 : decode cX7_ordered 41 = .ok (.iload 4, 2) := by decide +kernel
theorem dX7_ordered_43 : decode cX7_ordered 43 = .ok (.iadd, 1) := by decide +kernel
theorem dX7_ordered_44 : decode cX7_ordered 44 = .ok (.iaload, 1) := by decide +kernel
theorem dX7_ordered_45 : decode cX7_ordered 45 = .ok (.iload_n 3, 1) := by decide +kernel
theorem dX7_ordered_46 : decode cX7_ordered 46 = .ok (.if_icmp .ne 13, 3) := by decide +kernel
theorem dX7_ordered_49 : decode cX7_ordered 49 = .ok (.iload_n 2, 1) := by decide +kernel
theorem dX7_ordered_50 : decode cX7_ordered 50 = .ok (.ifCond .ne 6, 3) := by decide +kernel
theorem dX7_ordered_53 : decode cX7_ordered 53 = .ok (.iload 4, 2) := by decide +kernel
theorem dX7_ordered_55 : decode cX7_ordered 55 = .ok (.ireturn, 1) := by decide +kernel
theorem dX7_ordered_56 : decode cX7_ordered 56 = .ok (.iinc 2 (-1), 3) := by decide +kernel
theorem dX7_ordered_59 : decode cX7_ordered 59 = .ok (.iinc 3 1, 3) := by decide +kernel
theorem dX7_ordered_62 : decode cX7_ordered 62 = .ok (.goto (-50), 3) := by decide +kernel
theorem dX7_ordered_65 : decode cX7_ordered 65 = .ok (.sipush (-1005), 3) := by decide +kernel
theorem dX7_ordered_68 : decode cX7_ordered 68 = .ok (.ireturn, 1) := by decide +kernel
theorem dX7_lies_0 : decode cX7_lies 0 = .ok (.aload_n 0, 1) := by decide +kernel
theorem dX7_lies_1 : decode cX7_lies 1 = .ok (.iload_n 1, 1) := by decide +kernel
theorem dX7_lies_2 : decode cX7_lies 2 = .ok (.invokevirtual 190, 3) := by decide +kernel
theorem dX7_lies_5 : decode cX7_lies 5 = .ok (.ifCond .ne 7, 3) := by decide +kernel
theorem dX7_lies_8 : decode cX7_lies 8 = .ok (.sipush (-1001), 3) := by decide +kernel
theorem dX7_lies_11 : decode cX7_lies 11 = .ok (.ireturn, 1) := by decide +kernel
theorem dX7_lies_12 : decode cX7_lies 12 = .ok (.iload_n 2, 1) := by decide +kernel
theorem dX7_lies_13 : decode cX7_lies 13 = .ok (.ifCond .ge 7, 3) := by decide +kernel
theorem dX7_lies_16 : decode cX7_lies 16 = .ok (.sipush (-1002), 3) := by decide +kernel
theorem dX7_lies_19 : decode cX7_lies 19 = .ok (.ireturn, 1) := by decide +kernel
theorem dX7_lies_20 : decode cX7_lies 20 = .ok (.iconst 0, 1) := by decide +kernel
theorem dX7_lies_21 : decode cX7_lies 21 = .ok (.istore_n 3, 1) := by decide +kernel
theorem dX7_lies_22 : decode cX7_lies 22 = .ok (.iload_n 3, 1) := by decide +kernel
theorem dX7_lies_23 : decode cX7_lies 23 = .ok (.aload_n 0, 1) := by decide +kernel
theorem dX7_lies_24 : decode cX7_lies 24 = .ok (.getfield 7, 3) := by decide +kernel
theorem dX7_lies_27 : decode cX7_lies 27 = .ok (.iconst 0, 1) := by decide +kernel
theorem dX7_lies_28 : decode cX7_lies 28 = .ok (.iaload, 1) := by decide +kernel
theorem dX7_lies_29 : decode cX7_lies 29 = .ok (.if_icmp .ge 137, 3) := by decide +kernel
theorem dX7_lies_32 : decode cX7_lies 32 = .ok (.aload_n 0, 1) := by decide +kernel
theorem dX7_lies_33 : decode cX7_lies 33 = .ok (.getfield 7, 3) := by decide +kernel
theorem dX7_lies_36 : decode cX7_lies 36 = .ok (.sipush 805, 3) := by decide +kernel
theorem dX7_lies_39 : decode cX7_lies 39 = .ok (.iload_n 3, 1) := by decide +kernel
theorem dX7_lies_40 : decode cX7_lies 40 = .ok (.iadd, 1) := by decide +kernel
theorem dX7_lies_41 : decode cX7_lies 41 = .ok (.iaload, 1) := by decide +kernel
theorem dX7_lies_42 : decode cX7_lies 42 = .ok (.iload_n 1, 1) := by decide +kernel
theorem dX7_lies_43 : decode cX7_lies 43 = .ok (.if_icmp .ne 117, 3) := by decide +kernel
theorem dX7_lies_46 : decode cX7_lies 46 = .ok (.iconst 0, 1) := by decide +kernel
theorem dX7_lies_47 : decode cX7_lies 47 = .ok (.istore 4, 2) := by decide +kernel
theorem dX7_lies_49 : decode cX7_lies 49 = .ok (.iconst 0, 1) := by decide +kernel
theorem dX7_lies_50 : decode cX7_lies 50 = .ok (.istore 5, 2) := by decide +kernel
theorem dX7_lies_52 : decode cX7_lies 52 = .ok (.iload 5, 2) := by decide +kernel
theorem dX7_lies_54 : decode cX7_lies 54 = .ok (.aload_n 0, 1) := by decide +kernel
theorem dX7_lies_55 : decode cX7_lies 55 = .ok (.getfield 7, 3) := by decide +kernel
theorem dX7_lies_58 : decode cX7_lies 58 = .ok (.iconst 0, 1) := by decide +kernel
theorem dX7_lies_59 : decode cX7_lies 59 = .ok (.iaload, 1) := by decide +kernel
theorem dX7_lies_60 : decode cX7_lies 60 = .ok (.if_icmp .ge 92, 3) := by decide +kernel
theorem dX7_lies_63 : decode cX7_lies 63 = .ok (.aload_n 0, 1) := by decide +kernel
theorem dX7_lies_64 : decode cX7_lies 64 = .ok (.getfield 7, 3) := by decide +kernel
theorem dX7_lies_67 : decode cX7_lies 67 = .ok (.sipush 805, 3) := by decide +kernel
theorem dX7_lies_70 : decode cX7_lies 70 = .ok (.iload 5, 2) := by decide +kernel
theorem dX7_lies_72 : decode cX7_lies 72 = .ok (.iadd, 1) := by decide +kernel
theorem dX7_lies_73 : decode cX7_lies 73 = .ok (.iaload, 1) := by decide +kernel
theorem dX7_lies_74 : decode cX7_lies 74 = .ok (.iload_n 1, 1) := by decide +kernel
theorem dX7_lies_75 : decode cX7_lies 75 = .ok (.if_icmp .ne 53, 3) := by decide +kernel
theorem dX7_lies_78 : decode cX7_lies 78 = .ok (.aload_n 0, 1) := by decide +kernel
theorem dX7_lies_79 : decode cX7_lies 79 = .ok (.getfield 7, 3) := by decide +kernel
theorem dX7_lies_82 : decode cX7_lies 82 = .ok (.iconst 5, 1) := by decide +kernel
theorem dX7_lies_83 : decode cX7_lies 83 = .ok (.iload 5, 2) := by decide +kernel
theorem dX7_lies_85 : decode cX7_lies 85 = .ok (.iadd, 1) := by decide +kernel
theorem dX7_lies_86 : decode cX7_lies 86 = .ok (.iaload, 1) := by decide +kernel
theorem dX7_lies_87 : decode cX7_lies 87 = .ok (.aload_n 0, 1) := by decide +kernel
theorem dX7_lies_88 : decode cX7_lies 88 = .ok (.getfield 7, 3) := by decide +kernel
theorem dX7_lies_91 : decode cX7_lies 91 = .ok (.iconst 5, 1) := by decide +kernel
theorem dX7_lies_92 : decode cX7_lies 92 = .ok (.iload_n 3, 1) := by decide +kernel
theorem dX7_lies_93 : decode cX7_lies 93 = .ok (.iadd, 1) := by decide +kernel
theorem dX7_lies_94 : decode cX7_lies 94 = .ok (.iaload, 1) := by decide +kernel
theorem dX7_lies_95 : decode cX7_lies 95 = .ok (.if_icmp .lt 29, 3) := by decide +kernel
theorem dX7_lies_98 : decode cX7_lies 98 = .ok (.aload_n 0, 1) := by decide +kernel
theorem dX7_lies_99 : decode cX7_lies 99 = .ok (.getfield 7, 3) := by decide +kernel
theorem dX7_lies_102 : decode cX7_lies 102 = .ok (.iconst 5, 1) := by decide +kernel
theorem dX7_lies_103 : decode cX7_lies 103 = .ok (.iload 5, 2) := by decide +kernel
theorem dX7_lies_105 : decode cX7_lies 105 = .ok (.iadd, 1) := by decide +kernel
theorem dX7_lies_106 : decode cX7_lies 106 = .ok (.iaload, 1) := by decide +kernel
theorem dX7_lies_107 : decode cX7_lies 107 = .ok (.aload_n 0, 1) := by decide +kernel
theorem dX7_lies_108 : decode cX7_lies 108 = .ok (.getfield 7, 3) := by decide +kernel
theorem dX7_lies_111 : decode cX7_lies 111 = .ok (.iconst 5, 1) := by decide +kernel
theorem dX7_lies_112 : decode cX7_lies 112 = .ok (.iload_n 3, 1) := by decide +kernel
theorem dX7_lies_113 : decode cX7_lies 113 = .ok (.iadd, 1) := by decide +kernel
theorem dX7_lies_114 : decode cX7_lies 114 = .ok (.iaload, 1) := by decide +kernel
theorem dX7_lies_115 : decode cX7_lies 115 = .ok (.if_icmp .ne 13, 3) := by decide +kernel
theorem dX7_lies_118 : decode cX7_lies 118 = .ok (.iload 5, 2) := by decide +kernel
theorem dX7_lies_120 : decode cX7_lies 120 = .ok (.iload_n 3, 1) := by decide +kernel
theorem dX7_lies_121 : decode cX7_lies 121 = .ok (.if_icmp .ge 7, 3) := by decide +kernel
theorem dX7_lies_124 : decode cX7_lies 124 = .ok (.iconst 1, 1) := by decide +kernel
theorem dX7_lies_125 : decode cX7_lies 125 = .ok (.goto 4, 3) := by decide +kernel
theorem dX7_lies_128 : decode cX7_lies 128 = .ok (.iconst 0, 1) := by decide +kernel
theorem dX7_lies_129 : decode cX7_lies 129 = .ok (.istore 6, 2) := by decide +kernel
theorem dX7_lies_131 : decode cX7_lies 131 = .ok (.iload 4, 2) := by decide +kernel
theorem dX7_lies_133 : decode cX7_lies 133 = .ok (.iload 6, 2) := by decide +kernel
theorem dX7_lies_135 : decode cX7_lies 135 = .ok (.ifCond .eq 7, 3) := by decide +kernel
theorem dX7_lies_138 : decode cX7_lies 138 = .ok (.iconst 1, 1) := by decide +kernel
theorem dX7_lies_139 : decode cX7_lies 139 = .ok (.goto 4, 3) := by decide +kernel
theorem dX7_lies_142 : decode cX7_lies 142 = .ok (.iconst 0, 1) := by decide +kernel
theorem dX7_lies_143 : decode cX7_lies 143 = .ok (.iadd, 1) := by decide +kernel
theorem dX7_lies_144 : decode cX7_lies 144 = .ok (.istore 4, 2) := by decide +kernel
theorem dX7_lies_146 : decode cX7_lies 146 = .ok (.iinc 5 1, 3) := by decide +kernel
theorem dX7_lies_149 : decode cX7_lies 149 = .ok (.goto (-97), 3) := by decide +kernel
theorem dX7_lies_152 : decode cX7_lies 152 = .ok (.iload 4, 2) := by decide +kernel
theorem dX7_lies_154 : decode cX7_lies 154 = .ok (.iload_n 2, 1) := by decide +kernel
theorem dX7_lies_155 : decode cX7_lies 155 = .ok (.if_icmp .ne 5, 3) := by decide +kernel
theorem dX7_lies_158 : decode cX7_lies 158 = .ok (.iload_n 3, 1) := by decide +kernel
theorem dX7_lies_159 : decode cX7_lies 159 = .ok (.ireturn, 1) := by decide +kernel
theorem dX7_lies_160 : decode cX7_lies 160 = .ok (.iinc 3 1, 3) := by decide +kernel
theorem dX7_lies_163 : decode cX7_lies 163 = .ok (.goto (-141), 3) := by decide +kernel
theorem dX7_lies_166 : decode cX7_lies 166 = .ok (.sipush (-1005), 3) := by decide +kernel
theorem dX7_lies_169 : decode cX7_lies 169 = .ok (.ireturn, 1) := by decide +kernel
theorem dX7_belongs_0 : decode cX7_belongs 0 = .ok (.iload_n 1, 1) := by decide +kernel
theorem dX7_belongs_1 : decode cX7_belongs 1 = .ok (.iconst 0, 1) := by decide +kernel
theorem dX7_belongs_2 : decode cX7_belongs 2 = .ok (.sipush 999, 3) := by decide +kernel
theorem dX7_belongs_5 : decode cX7_belongs 5 = .ok (.invokestatic 47, 3) := by decide +kernel
theorem dX7_belongs_8 : decode cX7_belongs 8 = .ok (.ifCond .eq 11, 3) := by decide +kernel
theorem dX7_belongs_11 : decode cX7_belongs 11 = .ok (.aload_n 0, 1) := by decide +kernel
theorem dX7_belongs_12 : decode cX7_belongs 12 = .ok (.iload_n 1, 1) := by decide +kernel
theorem dX7_belongs_13 : decode cX7_belongs 13 = .ok (.invokevirtual 63, 3) := by decide +kernel
theorem dX7_belongs_16 : decode cX7_belongs 16 = .ok (.goto 6, 3) := by decide +kernel
theorem dX7_belongs_19 : decode cX7_belongs 19 = .ok (.sipush (-1002), 3) := by decide +kernel
theorem dX7_belongs_22 : decode cX7_belongs 22 = .ok (.ireturn, 1) := by decide +kernel
theorem dX7_gap_0 : decode cX7_gap 0 = .ok (.iload_n 1, 1) := by decide +kernel
theorem dX7_gap_1 : decode cX7_gap 1 = .ok (.ifCond .lt 12, 3) := by decide +kernel
theorem dX7_gap_4 : decode cX7_gap 4 = .ok (.iload_n 2, 1) := by decide +kernel
theorem dX7_gap_5 : decode cX7_gap 5 = .ok (.iconst 0, 1) := by decide +kernel
theorem dX7_gap_6 : decode cX7_gap 6 = .ok (.iconst 1, 1) := by decide +kernel
theorem dX7_gap_7 : decode cX7_gap 7 = .ok (.invokestatic 47, 3) := by decide +kernel
theorem dX7_gap_10 : decode cX7_gap 10 = .ok (.ifCond .ne 7, 3) := by decide +kernel
theorem dX7_gap_13 : decode cX7_gap 13 = .ok (.sipush (-1002), 3) := by decide +kernel
theorem dX7_gap_16 : decode cX7_gap 16 = .ok (.ireturn, 1) := by decide +kernel
theorem dX7_gap_17 : decode cX7_gap 17 = .ok (.iload_n 1, 1) := by decide +kernel
theorem dX7_gap_18 : decode cX7_gap 18 = .ok (.istore_n 3, 1) := by decide +kernel
theorem dX7_gap_19 : decode cX7_gap 19 = .ok (.iconst 0, 1) := by decide +kernel
theorem dX7_gap_20 : decode cX7_gap 20 = .ok (.istore 4, 2) := by decide +kernel
theorem dX7_gap_22 : decode cX7_gap 22 = .ok (.iload 4, 2) := by decide +kernel
theorem dX7_gap_24 : decode cX7_gap 24 = .ok (.sipush 1000, 3) := by decide +kernel
theorem dX7_gap_27 : decode cX7_gap 27 = .ok (.if_icmp .ge 93, 3) := by decide +kernel
theorem dX7_gap_30 : decode cX7_gap 30 = .ok (.aload_n 0, 1) := by decide +kernel
theorem dX7_gap_31 : decode cX7_gap 31 = .ok (.iload 4, 2) := by decide +kernel
theorem dX7_gap_33 : decode cX7_gap 33 = .ok (.invokevirtual 59, 3) := by decide +kernel
theorem dX7_gap_36 : decode cX7_gap 36 = .ok (.sipush (-1005), 3) := by decide +kernel
theorem dX7_gap_39 : decode cX7_gap 39 = .ok (.if_icmp .ne 75, 3) := by decide +kernel
theorem dX7_gap_42 : decode cX7_gap 42 = .ok (.iload 4, 2) := by decide +kernel
theorem dX7_gap_44 : decode cX7_gap 44 = .ok (.ifCond .eq 17, 3) := by decide +kernel
theorem dX7_gap_47 : decode cX7_gap 47 = .ok (.aload_n 0, 1) := by decide +kernel
theorem dX7_gap_48 : decode cX7_gap 48 = .ok (.iload 4, 2) := by decide +kernel
theorem dX7_gap_50 : decode cX7_gap 50 = .ok (.iconst 1, 1) := by decide +kernel
theorem dX7_gap_51 : decode cX7_gap 51 = .ok (.isub, 1) := by decide +kernel
theorem dX7_gap_52 : decode cX7_gap 52 = .ok (.invokevirtual 59, 3) := by decide +kernel
theorem dX7_gap_55 : decode cX7_gap 55 = .ok (.sipush (-1005), 3) := by decide +kernel
theorem dX7_gap_58 : decode cX7_gap 58 = .ok (.if_icmp .eq 56, 3) := by decide +kernel
theorem dX7_gap_61 : decode cX7_gap 61 = .ok (.iload_n 3, 1) := by decide +kernel
theorem dX7_gap_62 : decode cX7_gap 62 = .ok (.ifCond .ne 49, 3) := by decide +kernel
theorem dX7_gap_65 : decode cX7_gap 65 = .ok (.iload 4, 2) := by decide +kernel
theorem dX7_gap_67 : decode cX7_gap 67 = .ok (.istore 5, 2) := by decide +kernel
theorem dX7_gap_69 : decode cX7_gap 69 = .ok (.iload 5, 2) := by decide +kernel
theorem dX7_gap_71 : decode cX7_gap 71 = .ok (.iconst 1, 1) := by decide +kernel
theorem dX7_gap_72 : decode cX7_gap 72 = .ok (.iadd, 1) := by decide +kernel
theorem dX7_gap_73 : decode cX7_gap 73 = .ok (.sipush 1000, 3) := by decide +kernel
theorem dX7_gap_76 : decode cX7_gap 76 = .ok (.if_icmp .ge 23, 3) := by decide +kernel
theorem dX7_gap_79 : decode cX7_gap 79 = .ok (.aload_n 0, 1) := by decide +kernel
theorem dX7_gap_80 : decode cX7_gap 80 = .ok (.iload 5, 2) := by decide +kernel
theorem dX7_gap_82 : decode cX7_gap 82 = .ok (.iconst 1, 1) := by decide +kernel
theorem dX7_gap_83 : decode cX7_gap 83 = .ok (.iadd, 1) := by decide +kernel
theorem dX7_gap_84 : decode cX7_gap 84 = .ok (.invokevirtual 59, 3) := by decide +kernel
theorem dX7_gap_87 : decode cX7_gap 87 = .ok (.sipush (-1005), 3) := by decide +kernel
theorem dX7_gap_90 : decode cX7_gap 90 = .ok (.if_icmp .ne 9, 3) := by decide +kernel
theorem dX7_gap_93 : decode cX7_gap 93 = .ok (.iinc 5 1, 3) := by decide +kernel
theorem dX7_gap_96 : decode cX7_gap 96 = .ok (.goto (-27), 3) := by decide +kernel
theorem dX7_gap_99 : decode cX7_gap 99 = .ok (.iload_n 2, 1) := by decide +kernel
theorem dX7_gap_100 : decode cX7_gap 100 = .ok (.ifCond .ne 8, 3) := by decide +kernel
theorem dX7_gap_103 : decode cX7_gap 103 = .ok (.iload 4, 2) := by decide +kernel
theorem dX7_gap_105 : decode cX7_gap 105 = .ok (.goto 5, 3) := by decide +kernel
theorem dX7_gap_108 : decode cX7_gap 108 = .ok (.iload 5, 2) := by decide +kernel
theorem dX7_gap_110 : decode cX7_gap 110 = .ok (.ireturn, 1) := by decide +kernel
theorem dX7_gap_111 : decode cX7_gap 111 = .ok (.iinc 3 (-1), 3) := by decide +kernel
theorem dX7_gap_114 : decode cX7_gap 114 = .ok (.iinc 4 1, 3) := by decide +kernel
theorem dX7_gap_117 : decode cX7_gap 117 = .ok (.goto (-95), 3) := by decide +kernel
theorem dX7_gap_120 : decode cX7_gap 120 = .ok (.sipush (-1005), 3) := by decide +kernel
theorem dX7_gap_123 : decode cX7_gap 123 = .ok (.ireturn, 1) := by decide +kernel
theorem dX7_gaps_0 : decode cX7_gaps 0 = .ok (.iconst 0, 1) := by decide +kernel
theorem dX7_gaps_1 : decode cX7_gaps 1 = .ok (.istore_n 1, 1) := by decide +kernel
theorem dX7_gaps_2 : decode cX7_gaps 2 = .ok (.iconst 0, 1) := by decide +kernel
theorem dX7_gaps_3 : decode cX7_gaps 3 = .ok (.istore_n 2, 1) := by decide +kernel
theorem dX7_gaps_4 : decode cX7_gaps 4 = .ok (.iload_n 2, 1) := by decide +kernel
theorem dX7_gaps_5 : decode cX7_gaps 5 = .ok (.sipush 1000, 3) := by decide +kernel
theorem dX7_gaps_8 : decode cX7_gaps 8 = .ok (.if_icmp .ge 45, 3) := by decide +kernel
theorem dX7_gaps_11 : decode cX7_gaps 11 = .ok (.iload_n 1, 1) := by decide +kernel
theorem dX7_gaps_12 : decode cX7_gaps 12 = .ok (.aload_n 0, 1) := by decide +kernel
theorem dX7_gaps_13 : decode cX7_gaps 13 = .ok (.iload_n 2, 1) := by decide +kernel
theorem dX7_gaps_14 : decode cX7_gaps 14 = .ok (.invokevirtual 59, 3) := by decide +kernel
theorem dX7_gaps_17 : decode cX7_gaps 17 = .ok (.sipush (-1005), 3) := by decide +kernel
theorem dX7_gaps_20 : decode cX7_gaps 20 = .ok (.if_icmp .ne 24, 3) := by decide +kernel
theorem dX7_gaps_23 : decode cX7_gaps 23 = .ok (.iload_n 2, 1) := by decide +kernel
theorem dX7_gaps_24 : decode cX7_gaps 24 = .ok (.ifCond .eq 16, 3) := by decide +kernel
theorem dX7_gaps_27 : decode cX7_gaps 27 = .ok (.aload_n 0, 1) := by decide +kernel
theorem dX7_gaps_28 : decode cX7_gaps 28 = .ok (.iload_n 2, 1) := by decide +kernel
theorem dX7_gaps_29 : decode cX7_gaps 29 = .ok (.iconst 1, 1) := by decide +kernel
theorem dX7_gaps_30 : decode cX7_gaps 30 = .ok (.isub, 1) := by decide +kernel
theorem dX7_gaps_31 : decode cX7_gaps 31 = .ok (.invokevirtual 59, 3) := by decide +kernel
theorem dX7_gaps_34 : decode cX7_gaps 34 = .ok (.sipush (-1005), 3) := by decide +kernel
theorem dX7_gaps_37 : decode cX7_gaps 37 = .ok (.if_icmp .eq 7, 3) := by decide +kernel
theorem dX7_gaps_40 : decode cX7_gaps 40 = .ok (.iconst 1, 1) := by decide +kernel
theorem dX7_gaps_41 : decode cX7_gaps 41 = .ok (.goto 4, 3) := by decide +kernel
theorem dX7_gaps_44 : decode cX7_gaps 44 = .ok (.iconst 0, 1) := by decide +kernel
theorem dX7_gaps_45 : decode cX7_gaps 45 = .ok (.iadd, 1) := by decide +kernel
theorem dX7_gaps_46 : decode cX7_gaps 46 = .ok (.istore_n 1, 1) := by decide +kernel
theorem dX7_gaps_47 : decode cX7_gaps 47 = .ok (.iinc 2 1, 3) := by decide +kernel
theorem dX7_gaps_50 : decode cX7_gaps 50 = .ok (.goto (-46), 3) := by decide +kernel
theorem dX7_gaps_53 : decode cX7_gaps 53 = .ok (.iload_n 1, 1) := by decide +kernel
theorem dX7_gaps_54 : decode cX7_gaps 54 = .ok (.ireturn, 1) := by decide +kernel
theorem dX7_stray_0 : decode cX7_stray 0 = .ok (.iload_n 1, 1) := by decide +kernel
theorem dX7_stray_1 : decode cX7_stray 1 = .ok (.ifCond .ge 7, 3) := by decide +kernel
theorem dX7_stray_4 : decode cX7_stray 4 = .ok (.sipush (-1002), 3) := by decide +kernel
theorem dX7_stray_7 : decode cX7_stray 7 = .ok (.ireturn, 1) := by decide +kernel
theorem dX7_stray_8 : decode cX7_stray 8 = .ok (.iload_n 1, 1) := by decide +kernel
theorem dX7_stray_9 : decode cX7_stray 9 = .ok (.istore_n 2, 1) := by decide +kernel
theorem dX7_stray_10 : decode cX7_stray 10 = .ok (.iconst 0, 1) := by decide +kernel
theorem dX7_stray_11 : decode cX7_stray 11 = .ok (.istore_n 3, 1) := by decide +kernel
theorem dX7_stray_12 : decode cX7_stray 12 = .ok (.iload_n 3, 1) := by decide +kernel
theorem dX7_stray_13 : decode cX7_stray 13 = .ok (.aload_n 0, 1) := by decide +kernel
theorem dX7_stray_14 : decode cX7_stray 14 = .ok (.getfield 7, 3) := by decide +kernel
theorem dX7_stray_17 : decode cX7_stray 17 = .ok (.iconst 0, 1) := by decide +kernel
theorem dX7_stray_18 : decode cX7_stray 18 = .ok (.iaload, 1) := by decide +kernel
theorem dX7_stray_19 : decode cX7_stray 19 = .ok (.if_icmp .ge 26, 3) := by decide +kernel
theorem dX7_stray_22 : decode cX7_stray 22 = .ok (.aload_n 0, 1) := by decide +kernel
theorem dX7_stray_23 : decode cX7_stray 23 = .ok (.iload_n 3, 1) := by decide +kernel
theorem dX7_stray_24 : decode cX7_stray 24 = .ok (.invokevirtual 107, 3) := by decide +kernel
theorem dX7_stray_27 : decode cX7_stray 27 = .ok (.ifCond .eq 12, 3) := by decide +kernel
theorem dX7_stray_30 : decode cX7_stray 30 = .ok (.iload_n 2, 1) := by decide +kernel
theorem dX7_stray_31 : decode cX7_stray 31 = .ok (.ifCond .ne 5, 3) := by decide +kernel
theorem dX7_stray_34 : decode cX7_stray 34 = .ok (.iload_n 3, 1) := by decide +kernel
theorem dX7_stray_35 : decode cX7_stray 35 = .ok (.ireturn, 1) := by decide +kernel
theorem dX7_stray_36 : decode cX7_stray 36 = .ok (.iinc 2 (-1), 3) := by decide +kernel
theorem dX7_stray_39 : decode cX7_stray 39 = .ok (.iinc 3 1, 3) := by decide +kernel
theorem dX7_stray_42 : decode cX7_stray 42 = .ok (.goto (-30), 3) := by decide +kernel
theorem dX7_stray_45 : decode cX7_stray 45 = .ok (.sipush (-1005), 3) := by decide +kernel
theorem dX7_stray_48 : decode cX7_stray 48 = .ok (.ireturn, 1) := by decide +kernel
theorem dX7_count_0 : decode cX7_count 0 = .ok (.iconst 0, 1) := by decide +kernel
theorem dX7_count_1 : decode cX7_count 1 = .ok (.istore_n 2, 1) := by decide +kernel
theorem dX7_count_2 : decode cX7_count 2 = .ok (.iconst 0, 1) := by decide +kernel
theorem dX7_count_3 : decode cX7_count 3 = .ok (.istore_n 3, 1) := by decide +kernel
theorem dX7_count_4 : decode cX7_count 4 = .ok (.iload_n 3, 1) := by decide +kernel
theorem dX7_count_5 : decode cX7_count 5 = .ok (.aload_n 0, 1) := by decide +kernel
theorem dX7_count_6 : decode cX7_count 6 = .ok (.getfield 7, 3) := by decide +kernel
theorem dX7_count_9 : decode cX7_count 9 = .ok (.iconst 0, 1) := by decide +kernel
theorem dX7_count_10 : decode cX7_count 10 = .ok (.iaload, 1) := by decide +kernel
theorem dX7_count_11 : decode cX7_count 11 = .ok (.if_icmp .ge 25, 3) := by decide +kernel
theorem dX7_count_14 : decode cX7_count 14 = .ok (.iload_n 2, 1) := by decide +kernel
theorem dX7_count_15 : decode cX7_count 15 = .ok (.aload_n 0, 1) := by decide +kernel
theorem dX7_count_16 : decode cX7_count 16 = .ok (.iload_n 3, 1) := by decide +kernel
theorem dX7_count_17 : decode cX7_count 17 = .ok (.invokevirtual 176, 3) := by decide +kernel
theorem dX7_count_20 : decode cX7_count 20 = .ok (.ifCond .eq 7, 3) := by decide +kernel
theorem dX7_count_23 : decode cX7_count 23 = .ok (.iconst 1, 1) := by decide +kernel
theorem dX7_count_24 : decode cX7_count 24 = .ok (.goto 4, 3) := by decide +kernel
theorem dX7_count_27 : decode cX7_count 27 = .ok (.iconst 0, 1) := by decide +kernel
theorem dX7_count_28 : decode cX7_count 28 = .ok (.iadd, 1) := by decide +kernel
theorem dX7_count_29 : decode cX7_count 29 = .ok (.istore_n 2, 1) := by decide +kernel
theorem dX7_count_30 : decode cX7_count 30 = .ok (.iinc 3 1, 3) := by decide +kernel
theorem dX7_count_33 : decode cX7_count 33 = .ok (.goto (-29), 3) := by decide +kernel
theorem dX7_count_36 : decode cX7_count 36 = .ok (.iload_n 1, 1) := by decide +kernel
theorem dX7_count_37 : decode cX7_count 37 = .ok (.tableswitch 139 0 12 #[67, 72, 79, 81, 88, 95, 100, 107, 112, 117, 117, 129, 134], 67) := by decide +kernel
theorem dX7_count_104 : decode cX7_count 104 = .ok (.aload_n 0, 1) := by decide +kernel
theorem dX7_count_105 : decode cX7_count 105 = .ok (.invokevirtual 66, 3) := by decide +kernel
theorem dX7_count_108 : decode cX7_count 108 = .ok (.ireturn, 1) := by decide +kernel
theorem dX7_count_109 : decode cX7_count 109 = .ok (.aload_n 0, 1) := by decide +kernel
theorem dX7_count_110 : decode cX7_count 110 = .ok (.getfield 7, 3) := by decide +kernel
theorem dX7_count_113 : decode cX7_count 113 = .ok (.iconst 1, 1) := by decide +kernel
theorem dX7_count_114 : decode cX7_count 114 = .ok (.iaload, 1) := by decide +kernel
theorem dX7_count_115 : decode cX7_count 115 = .ok (.ireturn, 1) := by decide +kernel
theorem dX7_count_116 : decode cX7_count 116 = .ok (.iload_n 2, 1) := by decide +kernel
theorem dX7_count_117 : decode cX7_count 117 = .ok (.ireturn, 1) := by decide +kernel
theorem dX7_count_118 : decode cX7_count 118 = .ok (.aload_n 0, 1) := by decide +kernel
theorem dX7_count_119 : decode cX7_count 119 = .ok (.bipush 61, 2) := by decide +kernel
theorem dX7_count_121 : decode cX7_count 121 = .ok (.invokevirtual 70, 3) := by decide +kernel
theorem dX7_count_124 : decode cX7_count 124 = .ok (.ireturn, 1) := by decide +kernel
theorem dX7_count_125 : decode cX7_count 125 = .ok (.aload_n 0, 1) := by decide +kernel
theorem dX7_count_126 : decode cX7_count 126 = .ok (.getfield 7, 3) := by decide +kernel
theorem dX7_count_129 : decode cX7_count 129 = .ok (.iconst 0, 1) := by decide +kernel
theorem dX7_count_130 : decode cX7_count 130 = .ok (.iaload, 1) := by decide +kernel
theorem dX7_count_131 : decode cX7_count 131 = .ok (.ireturn, 1) := by decide +kernel
theorem dX7_count_132 : decode cX7_count 132 = .ok (.aload_n 0, 1) := by decide +kernel
theorem dX7_count_133 : decode cX7_count 133 = .ok (.invokevirtual 110, 3) := by decide +kernel
theorem dX7_count_136 : decode cX7_count 136 = .ok (.ireturn, 1) := by decide +kernel
theorem dX7_count_137 : decode cX7_count 137 = .ok (.aload_n 0, 1) := by decide +kernel
theorem dX7_count_138 : decode cX7_count 138 = .ok (.getfield 7, 3) := by decide +kernel
theorem dX7_count_141 : decode cX7_count 141 = .ok (.iconst 2, 1) := by decide +kernel
theorem dX7_count_142 : decode cX7_count 142 = .ok (.iaload, 1) := by decide +kernel
theorem dX7_count_143 : decode cX7_count 143 = .ok (.ireturn, 1) := by decide +kernel
theorem dX7_count_144 : decode cX7_count 144 = .ok (.aload_n 0, 1) := by decide +kernel
theorem dX7_count_145 : decode cX7_count 145 = .ok (.invokevirtual 193, 3) := by decide +kernel
theorem dX7_count_148 : decode cX7_count 148 = .ok (.ireturn, 1) := by decide +kernel
theorem dX7_count_149 : decode cX7_count 149 = .ok (.aload_n 0, 1) := by decide +kernel
theorem dX7_count_150 : decode cX7_count 150 = .ok (.invokevirtual 104, 3) := by decide +kernel
theorem dX7_count_153 : decode cX7_count 153 = .ok (.ireturn, 1) := by decide +kernel
theorem dX7_count_154 : decode cX7_count 154 = .ok (.aload_n 0, 1) := by decide +kernel
theorem dX7_count_155 : decode cX7_count 155 = .ok (.getfield 7, 3) := by decide +kernel
theorem dX7_count_158 : decode cX7_count 158 = .ok (.iconst 3, 1) := by decide +kernel
theorem dX7_count_159 : decode cX7_count 159 = .ok (.iload_n 1, 1) := by decide +kernel
theorem dX7_count_160 : decode cX7_count 160 = .ok (.iadd, 1) := by decide +kernel
theorem dX7_count_161 : decode cX7_count 161 = .ok (.bipush 9, 2) := by decide +kernel
theorem dX7_count_163 : decode cX7_count 163 = .ok (.isub, 1) := by decide +kernel
theorem dX7_count_164 : decode cX7_count 164 = .ok (.iaload, 1) := by decide +kernel
theorem dX7_count_165 : decode cX7_count 165 = .ok (.ireturn, 1) := by decide +kernel
theorem dX7_count_166 : decode cX7_count 166 = .ok (.aload_n 0, 1) := by decide +kernel
theorem dX7_count_167 : decode cX7_count 167 = .ok (.getfield 43, 3) := by decide +kernel
theorem dX7_count_170 : decode cX7_count 170 = .ok (.ireturn, 1) := by decide +kernel
theorem dX7_count_171 : decode cX7_count 171 = .ok (.aload_n 0, 1) := by decide +kernel
theorem dX7_count_172 : decode cX7_count 172 = .ok (.getfield 113, 3) := by decide +kernel
theorem dX7_count_175 : decode cX7_count 175 = .ok (.ireturn, 1) := by decide +kernel
theorem dX7_count_176 : decode cX7_count 176 = .ok (.sipush (-1002), 3) := by decide +kernel
theorem dX7_count_179 : decode cX7_count 179 = .ok (.ireturn, 1) := by decide +kernel
theorem dX7_unfit_0 : decode cX7_unfit 0 = .ok (.aload_n 0, 1) := by decide +kernel
theorem dX7_unfit_1 : decode cX7_unfit 1 = .ok (.iload_n 1, 1) := by decide +kernel
theorem dX7_unfit_2 : decode cX7_unfit 2 = .ok (.invokevirtual 51, 3) := by decide +kernel
theorem dX7_unfit_5 : decode cX7_unfit 5 = .ok (.ifCond .eq 39, 3) := by decide +kernel
theorem dX7_unfit_8 : decode cX7_unfit 8 = .ok (.aload_n 0, 1) := by decide +kernel
theorem dX7_unfit_9 : decode cX7_unfit 9 = .ok (.bipush 61, 2) := by decide +kernel
theorem dX7_unfit_11 : decode cX7_unfit 11 = .ok (.invokevirtual 70, 3) := by decide +kernel
theorem dX7_unfit_14 : decode cX7_unfit 14 = .ok (.aload_n 0, 1) := by decide +kernel
theorem dX7_unfit_15 : decode cX7_unfit 15 = .ok (.bipush 61, 2) := by decide +kernel
theorem dX7_unfit_17 : decode cX7_unfit 17 = .ok (.aload_n 0, 1) := by decide +kernel
theorem dX7_unfit_18 : decode cX7_unfit 18 = .ok (.getfield 7, 3) := by decide +kernel
theorem dX7_unfit_21 : decode cX7_unfit 21 = .ok (.sipush 1265, 3) := by decide +kernel
theorem dX7_unfit_24 : decode cX7_unfit 24 = .ok (.iload_n 1, 1) := by decide +kernel
theorem dX7_unfit_25 : decode cX7_unfit 25 = .ok (.iadd, 1) := by decide +kernel
theorem dX7_unfit_26 : decode cX7_unfit 26 = .ok (.iaload, 1) := by decide +kernel
theorem dX7_unfit_27 : decode cX7_unfit 27 = .ok (.aload_n 0, 1) := by decide +kernel
theorem dX7_unfit_28 : decode cX7_unfit 28 = .ok (.getfield 7, 3) := by decide +kernel
theorem dX7_unfit_31 : decode cX7_unfit 31 = .ok (.sipush 1325, 3) := by decide +kernel
theorem dX7_unfit_34 : decode cX7_unfit 34 = .ok (.iload_n 1, 1) := by decide +kernel
theorem dX7_unfit_35 : decode cX7_unfit 35 = .ok (.iadd, 1) := by decide +kernel
theorem dX7_unfit_36 : decode cX7_unfit 36 = .ok (.iaload, 1) := by decide +kernel
theorem dX7_unfit_37 : decode cX7_unfit 37 = .ok (.invokevirtual 89, 3) := by decide +kernel
theorem dX7_unfit_40 : decode cX7_unfit 40 = .ok (.isub, 1) := by decide +kernel
theorem dX7_unfit_41 : decode cX7_unfit 41 = .ok (.goto 6, 3) := by decide +kernel
theorem dX7_unfit_44 : decode cX7_unfit 44 = .ok (.sipush (-1001), 3) := by decide +kernel
theorem dX7_unfit_47 : decode cX7_unfit 47 = .ok (.ireturn, 1) := by decide +kernel
theorem dX7_bestSplit_0 : decode cX7_bestSplit 0 = .ok (.aload_n 0, 1) := by decide +kernel
theorem dX7_bestSplit_1 : decode cX7_bestSplit 1 = .ok (.iload_n 1, 1) := by decide +kernel
theorem dX7_bestSplit_2 : decode cX7_bestSplit 2 = .ok (.invokevirtual 51, 3) := by decide +kernel
theorem dX7_bestSplit_5 : decode cX7_bestSplit 5 = .ok (.ifCond .ne 7, 3) := by decide +kernel
theorem dX7_bestSplit_8 : decode cX7_bestSplit 8 = .ok (.sipush (-1001), 3) := by decide +kernel
theorem dX7_bestSplit_11 : decode cX7_bestSplit 11 = .ok (.ireturn, 1) := by decide +kernel
theorem dX7_bestSplit_12 : decode cX7_bestSplit 12 = .ok (.sipush (-1005), 3) := by decide +kernel
theorem dX7_bestSplit_15 : decode cX7_bestSplit 15 = .ok (.istore_n 2, 1) := by decide +kernel
theorem dX7_bestSplit_16 : decode cX7_bestSplit 16 = .ok (.iconst 0, 1) := by decide +kernel
theorem dX7_bestSplit_17 : decode cX7_bestSplit 17 = .ok (.istore_n 3, 1) := by decide +kernel
theorem dX7_bestSplit_18 : decode cX7_bestSplit 18 = .ok (.aload_n 0, 1) := by decide +kernel
theorem dX7_bestSplit_19 : decode cX7_bestSplit 19 = .ok (.iload_n 1, 1) := by decide +kernel
theorem dX7_bestSplit_20 : decode cX7_bestSplit 20 = .ok (.invokevirtual 70, 3) := by decide +kernel
theorem dX7_bestSplit_23 : decode cX7_bestSplit 23 = .ok (.istore 4, 2) := by decide +kernel
theorem dX7_bestSplit_25 : decode cX7_bestSplit 25 = .ok (.aload_n 0, 1) := by decide +kernel
theorem dX7_bestSplit_26 : decode cX7_bestSplit 26 = .ok (.getfield 7, 3) := by decide +kernel
theorem dX7_bestSplit_29 : decode cX7_bestSplit 29 = .ok (.sipush 1265, 3) := by decide +kernel
theorem dX7_bestSplit_32 : decode cX7_bestSplit 32 = .ok (.iload_n 1, 1) := by decide +kernel
theorem dX7_bestSplit_33 : decode cX7_bestSplit 33 = .ok (.iadd, 1) := by decide +kernel
theorem dX7_bestSplit_34 : decode cX7_bestSplit 34 = .ok (.iaload, 1) := by decide +kernel
theorem dX7_bestSplit_35 : decode cX7_bestSplit 35 = .ok (.iconst 1, 1) := by decide +kernel
theorem dX7_bestSplit_36 : decode cX7_bestSplit 36 = .ok (.iadd, 1) := by decide +kernel
theorem dX7_bestSplit_37 : decode cX7_bestSplit 37 = .ok (.istore 5, 2) := by decide +kernel
theorem dX7_bestSplit_39 : decode cX7_bestSplit 39 = .ok (.iload 5, 2) := by decide +kernel
theorem dX7_bestSplit_41 : decode cX7_bestSplit 41 = .ok (.aload_n 0, 1) := by decide +kernel
theorem dX7_bestSplit_42 : decode cX7_bestSplit 42 = .ok (.getfield 7, 3) := by decide +kernel
theorem dX7_bestSplit_45 : decode cX7_bestSplit 45 = .ok (.sipush 1325, 3) := by decide +kernel
theorem dX7_bestSplit_48 : decode cX7_bestSplit 48 = .ok (.iload_n 1, 1) := by decide +kernel
theorem dX7_bestSplit_49 : decode cX7_bestSplit 49 = .ok (.iadd, 1) := by decide +kernel
theorem dX7_bestSplit_50 : decode cX7_bestSplit 50 = .ok (.iaload, 1) := by decide +kernel
theorem dX7_bestSplit_51 : decode cX7_bestSplit 51 = .ok (.if_icmp .ge 46, 3) := by decide +kernel
theorem dX7_bestSplit_54 : decode cX7_bestSplit 54 = .ok (.iload 4, 2) := by decide +kernel
theorem dX7_bestSplit_56 : decode cX7_bestSplit 56 = .ok (.iconst 2, 1) := by decide +kernel
theorem dX7_bestSplit_57 : decode cX7_bestSplit 57 = .ok (.aload_n 0, 1) := by decide +kernel
theorem dX7_bestSplit_58 : decode cX7_bestSplit 58 = .ok (.iload_n 1, 1) := by decide +kernel
theorem dX7_bestSplit_59 : decode cX7_bestSplit 59 = .ok (.iconst 0, 1) := by decide +kernel
theorem dX7_bestSplit_60 : decode cX7_bestSplit 60 = .ok (.iload 5, 2) := by decide +kernel
theorem dX7_bestSplit_62 : decode cX7_bestSplit 62 = .ok (.invokevirtual 89, 3) := by decide +kernel
theorem dX7_bestSplit_65 : decode cX7_bestSplit 65 = .ok (.imul, 1) := by decide +kernel
theorem dX7_bestSplit_66 : decode cX7_bestSplit 66 = .ok (.isub, 1) := by decide +kernel
theorem dX7_bestSplit_67 : decode cX7_bestSplit 67 = .ok (.invokestatic 196, 3) := by decide +kernel
theorem dX7_bestSplit_70 : decode cX7_bestSplit 70 = .ok (.istore 6, 2) := by decide +kernel
theorem dX7_bestSplit_72 : decode cX7_bestSplit 72 = .ok (.iload_n 2, 1) := by decide +kernel
theorem dX7_bestSplit_73 : decode cX7_bestSplit 73 = .ok (.sipush (-1005), 3) := by decide +kernel
theorem dX7_bestSplit_76 : decode cX7_bestSplit 76 = .ok (.if_icmp .eq 9, 3) := by decide +kernel
theorem dX7_bestSplit_79 : decode cX7_bestSplit 79 = .ok (.iload 6, 2) := by decide +kernel
theorem dX7_bestSplit_81 : decode cX7_bestSplit 81 = .ok (.iload_n 3, 1) := by decide +kernel
theorem dX7_bestSplit_82 : decode cX7_bestSplit 82 = .ok (.if_icmp .ge 9, 3) := by decide +kernel
theorem dX7_bestSplit_85 : decode cX7_bestSplit 85 = .ok (.iload 5, 2) := by decide +kernel
theorem dX7_bestSplit_87 : decode cX7_bestSplit 87 = .ok (.istore_n 2, 1) := by decide +kernel
theorem dX7_bestSplit_88 : decode cX7_bestSplit 88 = .ok (.iload 6, 2) := by decide +kernel
theorem dX7_bestSplit_90 : decode cX7_bestSplit 90 = .ok (.istore_n 3, 1) := by decide +kernel
theorem dX7_bestSplit_91 : decode cX7_bestSplit 91 = .ok (.iinc 5 1, 3) := by decide +kernel
theorem dX7_bestSplit_94 : decode cX7_bestSplit 94 = .ok (.goto (-55), 3) := by decide +kernel
theorem dX7_bestSplit_97 : decode cX7_bestSplit 97 = .ok (.iload_n 2, 1) := by decide +kernel
theorem dX7_bestSplit_98 : decode cX7_bestSplit 98 = .ok (.ireturn, 1) := by decide +kernel
theorem dX7_heaviest_0 : decode cX7_heaviest 0 = .ok (.sipush (-1005), 3) := by decide +kernel
theorem dX7_heaviest_3 : decode cX7_heaviest 3 = .ok (.istore_n 1, 1) := by decide +kernel
theorem dX7_heaviest_4 : decode cX7_heaviest 4 = .ok (.iconst 0, 1) := by decide +kernel
theorem dX7_heaviest_5 : decode cX7_heaviest 5 = .ok (.istore_n 2, 1) := by decide +kernel
theorem dX7_heaviest_6 : decode cX7_heaviest 6 = .ok (.iload_n 2, 1) := by decide +kernel
theorem dX7_heaviest_7 : decode cX7_heaviest 7 = .ok (.aload_n 0, 1) := by decide +kernel
theorem dX7_heaviest_8 : decode cX7_heaviest 8 = .ok (.getfield 7, 3) := by decide +kernel
theorem dX7_heaviest_11 : decode cX7_heaviest 11 = .ok (.iconst 1, 1) := by decide +kernel
theorem dX7_heaviest_12 : decode cX7_heaviest 12 = .ok (.iaload, 1) := by decide +kernel
theorem dX7_heaviest_13 : decode cX7_heaviest 13 = .ok (.if_icmp .ge 39, 3) := by decide +kernel
theorem dX7_heaviest_16 : decode cX7_heaviest 16 = .ok (.aload_n 0, 1) := by decide +kernel
theorem dX7_heaviest_17 : decode cX7_heaviest 17 = .ok (.iload_n 2, 1) := by decide +kernel
theorem dX7_heaviest_18 : decode cX7_heaviest 18 = .ok (.invokevirtual 51, 3) := by decide +kernel
theorem dX7_heaviest_21 : decode cX7_heaviest 21 = .ok (.ifCond .eq 25, 3) := by decide +kernel
theorem dX7_heaviest_24 : decode cX7_heaviest 24 = .ok (.iload_n 1, 1) := by decide +kernel
theorem dX7_heaviest_25 : decode cX7_heaviest 25 = .ok (.sipush (-1005), 3) := by decide +kernel
theorem dX7_heaviest_28 : decode cX7_heaviest 28 = .ok (.if_icmp .eq 16, 3) := by decide +kernel
theorem dX7_heaviest_31 : decode cX7_heaviest 31 = .ok (.aload_n 0, 1) := by decide +kernel
theorem dX7_heaviest_32 : decode cX7_heaviest 32 = .ok (.iload_n 2, 1) := by decide +kernel
theorem dX7_heaviest_33 : decode cX7_heaviest 33 = .ok (.invokevirtual 70, 3) := by decide +kernel
theorem dX7_heaviest_36 : decode cX7_heaviest 36 = .ok (.aload_n 0, 1) := by decide +kernel
theorem dX7_heaviest_37 : decode cX7_heaviest 37 = .ok (.iload_n 1, 1) := by decide +kernel
theorem dX7_heaviest_38 : decode cX7_heaviest 38 = .ok (.invokevirtual 70, 3) := by decide +kernel
theorem dX7_heaviest_41 : decode cX7_heaviest 41 = .ok (.if_icmp .le 5, 3) := by decide +kernel
theorem dX7_heaviest_44 : decode cX7_heaviest 44 = .ok (.iload_n 2, 1) := by decide +kernel
theorem dX7_heaviest_45 : decode cX7_heaviest 45 = .ok (.istore_n 1, 1) := by decide +kernel
theorem dX7_heaviest_46 : decode cX7_heaviest 46 = .ok (.iinc 2 1, 3) := by decide +kernel
theorem dX7_heaviest_49 : decode cX7_heaviest 49 = .ok (.goto (-43), 3) := by decide +kernel
theorem dX7_heaviest_52 : decode cX7_heaviest 52 = .ok (.iload_n 1, 1) := by decide +kernel
theorem dX7_heaviest_53 : decode cX7_heaviest 53 = .ok (.ireturn, 1) := by decide +kernel
